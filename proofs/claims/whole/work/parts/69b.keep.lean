/-! KEEP. -/
/-- what a DAWN does, in short -/
theorem dawn_facts {A : Int → Int} (hw : wf_A 24 A) (hd : A 169 < 999) : wf_A 24 (ab_dawn A).2.2.2 ∧ (∀ x, 168 ≤ x → x ≠ 169 → (ab_dawn A).2.2.2 x = A x) ∧ (ab_dawn A).2.2.2 169 = A 169 + 1 ∧ (∀ q j, 0 ≤ q → q < 24 → 0 ≤ j → j < 5 → (ab_dawn A).2.2.2 (7 * q + j) = A (7 * q + j)) ∧ ∀ q, 0 ≤ q → q < 24 → (A (7 * q + 5) ≠ 0 → (ab_dawn A).2.2.2 (7 * q + 5) = A (7 * q + 5)) ∧ ((ab_dawn A).2.2.2 (7 * q + 5) = 0 → A (7 * q + 5) = 0) := by
  obtain ⟨d1, d2, d3⟩ := ab_dawn_hi hw hd
  obtain ⟨w1, w2⟩ := ab_dawnR_wf (R := fun p => ab_fore A p (A 169 + 1)) hw (by omega) hd
  obtain ⟨-, hb⟩ := ab_hear_bits (R := fun p => ab_fore A p (A 169 + 1)) (A 360).toNat (0, 0, 0, wrA A 169 (A 169 + 1)) (ab_day_wf hw (by omega) hd) ⟨Int.le_refl _, by show (0 : Int) < 16777216; omega⟩
  refine ⟨d1, d2, d3, fun q j q0 q1 j0 j1 => ?_, fun q q0 q1 => ?_⟩
  · rw [show (ab_dawn A).2.2.2 (7 * q + j) = wrA A 169 (A 169 + 1) (7 * q + j) from w2.2 q j q0 j0 j1, wrA_ne _ (by omega)]
  · obtain ⟨-, h2, -⟩ := hb q q0 q1
    have h2' : (ab_dawn A).2.2.2 (7 * q + 5) ≠ wrA A 169 (A 169 + 1) (7 * q + 5) → wrA A 169 (A 169 + 1) (7 * q + 5) = 0 := h2
    rw [wrA_ne _ (by omega)] at h2'
    refine ⟨fun z => Classical.byContradiction fun y => z (h2' y), fun z => Classical.byContradiction fun y => y (h2' (by rw [z]; exact fun u => y u.symm))⟩
/-- so many DAWNS, as long as there are DAYS -/
def kd_D : Nat → (Int → Int) → Int → Int
  | 0, A => A
  | n + 1, A => if 999 ≤ A 169 then A else kd_D n (ab_dawn A).2.2.2
theorem kd_min : ∀ (k n : Nat) (A : Int → Int), wf_A 24 A → k ≤ n → (k = n ∨ A 169 + k = 999) → kd_D n A = kd_D k A := by
  intro k
  induction k with
  | zero =>
    intro n A hw h1 h2
    cases n with
    | zero => rfl
    | succ n =>
      show (if 999 ≤ A 169 then A else kd_D n (ab_dawn A).2.2.2) = A
      rw [if_pos (by omega)]
  | succ k ih =>
    intro n A hw h1 h2
    cases n with
    | zero => omega
    | succ n =>
      rw [kd_D, kd_D]
      by_cases c : 999 ≤ A 169
      · rw [if_pos c, if_pos c]
      · rw [if_neg c, if_neg c]
        obtain ⟨d1, d2, d3⟩ := ab_dawn_hi hw (show A 169 < 999 by omega)
        exact ih n _ d1 (by omega) (by rw [d3]; omega)
theorem kd_stay {p : Int} (h0 : 0 ≤ p ∧ p < 24) : ∀ (n : Nat) (A : Int → Int), wf_A 24 A → A (7 * p + 5) ≠ 0 → kd_D n A (7 * p + 5) = A (7 * p + 5) := by
  intro n
  induction n with
  | zero => intro A _ _; rfl
  | succ n ih =>
    intro A hw hz
    rw [kd_D]
    split
    · rfl
    · obtain ⟨d1, -, -, -, d5⟩ := dawn_facts hw (show A 169 < 999 by omega)
      have e := (d5 p h0.1 h0.2).1 hz
      rw [ih _ d1 (by rw [e]; exact hz), e]
def ks_S (a t l : Int) (A : Int → Int) : Nat → Int → Int
  | 0 => A
  | k + 1 => ab_say (ks_S a t l A k) a t l 1
section KEE
variable {m : am_M} {A : Int → Int} {a t l p : Int}
theorem ks_P (hw : wf_A 16 A) (ha : 0 ≤ a ∧ a < A 365) (ht : 0 ≤ t ∧ t ≤ 7) (hl : 1 ≤ l ∧ l ≤ 99) : ∀ k : Nat, k ≤ 8 → wf_A 24 (ks_S a t l A k) ∧ ks_S a t l A k 168 = A 168 + k ∧ ∀ x, (169 ≤ x ∨ x < 0) → ks_S a t l A k x = A x := by
  have h16 := hw.2.1.1
  intro k
  induction k with
  | zero => intro _; exact ⟨wf_mono hw (by omega), by show A 168 = A 168 + 0; omega, fun _ _ => rfl⟩
  | succ k ih =>
    intro hk
    obtain ⟨i1, i2, i3⟩ := ih (by omega)
    rw [ks_S]
    obtain ⟨s0, -⟩ := ab_say_n (A := ks_S a t l A k) (a := a) (t := t) (l := l) (w := 1) (by omega)
    refine ⟨wf_say i1 (by omega) (by omega) (by rw [i3 _ (by omega)]; exact ha) ht hl (by omega), by rw [s0]; omega, fun x hx => ?_⟩
    rw [ab_say_o (by omega) (by omega)]
    exact i3 x hx
theorem ks_le (hw : wf_A 16 A) (ha : 0 ≤ a ∧ a < A 365) (ht : 0 ≤ t ∧ t ≤ 7) (hl : 1 ≤ l ∧ l ≤ 99) (j : Nat) : ∀ d : Nat, j + d ≤ 8 → ∀ x, x < 7 * (A 168 + j) → ks_S a t l A (j + d) x = ks_S a t l A j x := by
  have h16 := hw.2.1.1
  intro d
  induction d with
  | zero => intro _ x _; rfl
  | succ d ih =>
    intro hd x hx
    obtain ⟨i1, i2, i3⟩ := ks_P hw ha ht hl (j + d) (by omega)
    rw [show j + (d + 1) = (j + d) + 1 by omega, ks_S, ab_say_o (by omega) (by omega)]
    exact ih (by omega) x hx
theorem cgranted {A1 : Int → Int} {n : Int} (hw : wf_A 24 A1) (hB : bk_P m 1 A1) (hv : vg_P m 142 A1) (h0 : 0 ≤ p ∧ p < A1 168) (hn : 0 ≤ n ∧ n ≤ 20) (hd : A1 169 + n ≤ 999) (h141 : ∀ i q, 1 ≤ i → i ≤ n → 0 ≤ q → q < A1 168 → A1 (7 * q + 5) = 0 → m 141 (i * 24 + q) = ab_fore A1 q (A1 169 + i)) {K : am_KK}
    (hK : ∀ m', fr_p m m' → (∀ k, m' 141 k = m 141 k) → K (if kd_D n.toNat A1 (7 * p + 5) ≠ 1 then 0 else 1) m') : M_X11_isGrantedWithin 0 p n K m := by
  have l6 := hw.2.2.1.1.2
  have h24 := hw.2.1.1
  have hf9 := hw.2.2.1.2.1
  unfold M_X11_isGrantedWithin M_X11_isGrantedWithin_L1
  refine ⟨fun j v m1 => ∃ i A, v = i + 1 ∧ 0 ≤ i ∧ i ≤ n ∧ j = (n - i).toNat ∧ fr_p m m1 ∧ (∀ k, m1 141 k = m 141 k) ∧ wf_A 24 A ∧ vg_P m1 142 A ∧ (∀ x, 168 ≤ x → x ≠ 169 → A x = A1 x) ∧ A 169 = A1 169 + i ∧ (∀ q j, 0 ≤ q → q < 24 → 0 ≤ j → j < 5 → A (7 * q + j) = A1 (7 * q + j)) ∧ (∀ q, 0 ≤ q → q < 24 → A (7 * q + 5) = 0 → A1 (7 * q + 5) = 0) ∧ kd_D (n - i).toNat A (7 * p + 5) = kd_D n.toNat A1 (7 * p + 5), ⟨_, 0, A1, by omega, by omega, by omega, rfl, fun _ _ _ => rfl, fun _ => rfl, hw, hv, fun _ _ _ => rfl, by omega, fun _ _ _ _ _ _ => rfl, fun _ _ _ z => z, by rw [Int.sub_zero]⟩, ?_⟩
  rintro j v m1 ⟨i, A, rfl, i0, i1, rfl, f1, t1, w1, v1, a1, a2, a3, a4, e⟩
  have a168 := a1 168 (by omega) (by omega)
  have hB1 : bk_P m1 1 A := bk_of hB (fun o k _ _ _ => f1 o k (by omega)) (fun x hx => a1 x (by omega) (by omega)) l6
  have fin : kd_D (n - i).toNat A (7 * p + 5) = A (7 * p + 5) → M_X11_isGrantedWithin_J1 0 p K m1 := by
    intro q
    have g5 : ∀ K : am_KK, M_X7_get 143 p 5 K m1 ↔ K (A (7 * p + 5)) m1 := fun K => vg_get v1 h0.1 (by omega) (by omega) K
    have hr := hK m1 f1 t1
    rw [← e, q] at hr
    unfold M_X11_isGrantedWithin_J1
    simp only [am_rf_all, g5]
    refine ⟨fun c => ?_, fun c => ?_⟩
    · rw [if_pos c] at hr; exact hr
    · rw [if_neg c] at hr; exact hr
  unfold M_X11_isGrantedWithin_L1B
  simp only [am_rf_all]
  refine ⟨fun q => fin (by rw [show (n - i).toNat = 0 by omega]; rfl), fun q => ?_⟩
  rw [vg_waits (Or.inr rfl) v1 h0.1 (by omega)]
  by_cases c : A (7 * p + 5) = 0
  case neg =>
    rw [if_neg c]
    exact ⟨fun _ => fin (kd_stay (by omega) _ _ w1 c), fun z => absurd rfl z⟩
  rw [if_pos c]
  refine ⟨fun z => absurd z (by decide), fun _ => ?_⟩
  have hday : A 169 < 999 := by omega
  have hc : ab_dawnR A (fun q => m1 141 ((i + 1) * 24 + q)) = ab_dawn A := ab_hear_congr _ _ (ab_day_wf w1 (by omega) hday) (fun q q0 q1 hz => by
    simp only [] at q1 hz
    have := w1.2.1.1
    rw [wrA_ne _ (by omega)] at q1
    rw [wrA_ne _ (by omega)] at hz
    show m1 141 ((i + 1) * 24 + q) = ab_fore A q (A 169 + 1)
    rw [t1, h141 (i + 1) q (by omega) (by omega) q0 (by omega) (a4 q q0 (by omega) hz), a2, show A1 169 + (i + 1) = A1 169 + i + 1 by omega]
    refine (fore_of (fun x hx => a1 x (by omega) (by omega)) (fun j j0 j1 => a3 q j q0 (by omega) j0 j1) ?_ (by omega)).2.2.2.symm
    rw [Int.add_zero]
    exact (hw.2.1.2.2 q q0 (by omega)).1.1)
  refine chear (Or.inr rfl) w1 hday hB1 v1 (by omega) ?_
  rw [hc]
  intro m2 f2 v2 _ _
  simp only [forall_eq]
  rw [w32_of (by omega) (by omega)]
  obtain ⟨d1, d2, d3, d4, d5⟩ := dawn_facts w1 hday
  refine ⟨_, ?_, i + 1, (ab_dawn A).2.2.2, rfl, by omega, by omega, rfl, fun o k ho => by rw [f2 o k (by omega)]; exact f1 o k ho, fun k => by rw [f2 _ _ (by omega)]; exact t1 k, d1, v2, fun x hx h9 => by rw [d2 x hx h9]; exact a1 x hx h9, by rw [d3]; omega, fun q j q0 q1 j0 j1 => by rw [d4 q j q0 q1 j0 j1]; exact a3 q j q0 q1 j0 j1, fun q q0 q1 z => a4 q q0 q1 ((d5 q q0 q1).2 z), ?_⟩
  · omega
  · rw [← e, show (n - i).toNat = (n - (i + 1)).toNat + 1 by omega, kd_D, if_neg (by omega)]
/-- the least number of small ones that keeps p from it -/
def kp_R (T : Int → Int) : Nat → Int → Int
  | 0, _ => -1
  | f + 1, k => if T k ≠ 1 then k else kp_R T f (k + 1)
def kp_T (A : Int → Int) (a t l p n : Int) : Int → Int := fun k => kd_D n.toNat (ks_S a t l A k.toNat) (7 * p + 5)
theorem kp_s {T : Int → Int} {k : Int} (h : 0 ≤ k ∧ k ≤ 8) : kp_R T (9 - k).toNat k = if T k ≠ 1 then k else kp_R T (9 - (k + 1)).toNat (k + 1) := by
  rw [show (9 - k).toNat = (9 - (k + 1)).toNat + 1 by omega, kp_R]
theorem ckeep {n : Int} (hw : wf_A 16 A) (hB : bk_P m 1 A) (hv : vg_P m 12 A) (h143 : m 143 1 = 7) (ha : 0 ≤ a ∧ a < A 365) (ht : 0 ≤ t ∧ t ≤ 7) (hl : 1 ≤ l ∧ l ≤ 99) (h0 : 0 ≤ p ∧ p < A 168) (hn : 0 ≤ n ∧ n ≤ 20) (hd : A 169 + n ≤ 999)
    (h141 : ∀ i q, 1 ≤ i → i ≤ n → 0 ≤ q → q < A 168 + 8 → ks_S a t l A 8 (7 * q + 5) = 0 → m 141 (i * 24 + q) = ab_fore (ks_S a t l A 8) q (A 169 + i)) {K : am_KK}
    (hK : ∀ m', fr_p m m' → K (kp_R (kp_T A a t l p n) 9 0) m') : M_X11_keep_L2 0 p a t l n 0 K m := by
  have l6 := hw.2.2.1.1.2
  have h16 := hw.2.1.1
  have hf9 := hw.2.2.1.2.1
  unfold M_X11_keep_L2
  refine ⟨fun j v m1 => 0 ≤ v ∧ v ≤ 9 ∧ j = (9 - v).toNat ∧ fr_p m m1 ∧ (∀ k, m1 141 k = m 141 k) ∧ kp_R (kp_T A a t l p n) (9 - v).toNat v = kp_R (kp_T A a t l p n) 9 0, ⟨_, by omega, by omega, rfl, fun _ _ _ => rfl, fun _ => rfl, rfl⟩, ?_⟩
  rintro j v m1 ⟨v0, v9, rfl, f1, t1, e⟩
  unfold M_X11_keep_L2B
  simp only [am_rf_all]
  refine ⟨fun q => ?_, fun q => ?_⟩
  · have hr := hK m1 f1
    rw [← e, show (9 - v).toNat = 0 by omega] at hr
    exact hr
  have es := kp_s (T := kp_T A a t l p n) (show 0 ≤ v ∧ v ≤ 8 by omega)
  refine vg_take (v := 142) (v2 := 12) rs_143 (by decide +kernel) (by decide +kernel) (show m1 143 1 = 7 by rw [f1 _ _ (by omega)]; exact h143) (vg_of hv (fun o k _ _ => f1 o k (by omega)) (fun _ _ => rfl)) (by omega) (by omega) (fun m2 v2 f2 => ?_)
  unfold M_X11_keep_L3
  refine ⟨fun j i m3 => 0 ≤ i ∧ i ≤ v ∧ j = (v - i).toNat ∧ fr_p m m3 ∧ (∀ k, m3 141 k = m 141 k) ∧ vg_P m3 142 (ks_S a t l A i.toNat), ⟨_, by omega, by omega, rfl, fun o k ho => by rw [f2 o k (by omega)]; exact f1 o k ho, fun k => by rw [f2 _ _ (by omega)]; exact t1 k, v2⟩, ?_⟩
  rintro j i m3 ⟨i0, i1, rfl, f3, t3, v3⟩
  obtain ⟨p1, p2, p3⟩ := ks_P hw ha ht hl i.toNat (by omega)
  unfold M_X11_keep_L3B
  simp only [am_rf_all]
  refine ⟨fun q2 => ?_, fun q2 => ?_⟩
  · have hi : i = v := by omega
    subst hi
    have hB3 : bk_P m3 1 (ks_S a t l A i.toNat) := bk_of hB (fun o k _ _ _ => f3 o k (by omega)) (fun x hx => p3 x (by omega)) l6
    have e9 := p3 169 (by omega)
    refine cgranted p1 hB3 v3 (by omega) hn (by omega) (fun d q d1 d2 q0 q1 hz => ?_) (fun m4 f4 t4 => ?_)
    · have hle := ks_le hw ha ht hl i.toNat (8 - i.toNat) (by omega)
      rw [show i.toNat + (8 - i.toNat) = 8 by omega] at hle
      obtain ⟨u1, u2, u3⟩ := ks_P hw ha ht hl 8 (by omega)
      rw [t3, h141 d q d1 d2 q0 (by omega) (by rw [hle _ (by omega)]; exact hz), e9]
      refine (fore_of (fun x hx => by rw [u3 x (by omega), p3 x (by omega)]) (fun j j0 j1 => hle _ (by omega)) ?_ (by rw [p3 _ (by omega)]; omega)).2.2.2
      rw [Int.add_zero]
      exact (p1.2.1.2.2 q q0 q1).1.1
    · have eT : kd_D n.toNat (ks_S a t l A i.toNat) (7 * p + 5) = kp_T A a t l p n i := rfl
      rw [eT]
      have g4 : fr_p m m4 := fun o k ho => by rw [f4 o k ho]; exact f3 o k ho
      by_cases c : kp_T A a t l p n i ≠ 1
      · rw [if_pos c] at es
        rw [if_pos c]
        have hr := hK m4 g4
        rw [← e, es] at hr
        exact ⟨fun z => absurd rfl z, fun _ => hr⟩
      · rw [if_neg c] at es
        rw [if_neg c]
        simp only [forall_eq]
        rw [w32_of (by omega) (by omega)]
        exact ⟨fun _ => ⟨_, by omega, by omega, by omega, rfl, g4, fun k => by rw [t4]; exact t3 k, by rw [← e, es]⟩, fun z => absurd (by decide) z⟩
  · refine cutter (Or.inr rfl) v3 (by omega) (fun m4 v4 f4 => ?_)
    simp only [forall_eq]
    rw [w32_of (by omega) (by omega)]
    refine ⟨_, by omega, by omega, by omega, rfl, fun o k ho => by rw [f4 o k (by omega)]; exact f3 o k ho, fun k => by rw [f4 _ _ (by omega)]; exact t3 k, ?_⟩
    rw [show (i + 1).toNat = i.toNat + 1 by omega, ks_S]
    exact v4
theorem ckeep8 {n : Int} (hw : wf_A 16 A) (hB : bk_P m 1 A) (hv : vg_P m 12 A) (hv2 : vg_P m 142 A) (ha : 0 ≤ a ∧ a < A 365) (ht : 0 ≤ t ∧ t ≤ 7) (hl : 1 ≤ l ∧ l ≤ 99) (h0 : 0 ≤ p ∧ p < A 168) (hn : 0 ≤ n ∧ n ≤ 20) (hd : A 169 + n ≤ 999) {K : am_KK}
    (hK : ∀ m', fr_p m m' → K (kp_R (kp_T A a t l p n) 9 0) m') : M_X11_keep_L1 0 p a t l n 0 K m := by
  have l6 := hw.2.2.1.1.2
  have h16 := hw.2.1.1
  unfold M_X11_keep_L1
  refine ⟨fun j i m3 => 0 ≤ i ∧ i ≤ 8 ∧ j = (8 - i).toNat ∧ (∀ o k, ¬ ((o = 143 ∧ k = 2) ∨ o = 144) → m3 o k = m o k) ∧ vg_P m3 142 (ks_S a t l A i.toNat), ⟨_, by omega, by omega, rfl, fun _ _ _ => rfl, hv2⟩, ?_⟩
  rintro j i m3 ⟨i0, i1, rfl, f3, v3⟩
  obtain ⟨p1, p2, p3⟩ := ks_P hw ha ht hl i.toNat (by omega)
  unfold M_X11_keep_L1B
  simp only [am_rf_all]
  refine ⟨fun q2 => ?_, fun q2 => ?_⟩
  · have hi : i = 8 := by omega
    subst hi
    have hB3 : bk_P m3 1 (ks_S a t l A 8) := bk_of hB (fun o k _ _ _ => f3 o k (by omega)) (fun x hx => p3 x (by omega)) l6
    refine cforeseeAll (Or.inr rfl) p1 hB3 v3 (by omega) (fun m4 f4 r4 => ?_)
    have g4 : ∀ o k, ¬ (o = 137 ∨ o = 139 ∨ o = 141 ∨ (o = 143 ∧ k = 2) ∨ o = 144) → m4 o k = m o k := fun o k ho => by rw [f4 o k (by omega)]; exact f3 o k (by omega)
    have e9 := p3 169 (by omega)
    have e8 : ks_S a t l A (8 : Int).toNat 168 = A 168 + 8 := p2
    refine ckeep hw (bk_of hB (fun o k _ _ _ => g4 o k (by omega)) (fun _ _ => rfl) l6) (vg_of hv (fun o k _ _ => g4 o k (by omega)) (fun _ _ => rfl)) (by rw [g4 _ _ (by omega)]; exact hv2.1.1.2.1) ha ht hl h0 hn hd (fun i q i0 i1 q0 q1 hz => ?_) (fun m5 f5 => hK m5 (fun o k ho => by rw [f5 o k ho]; exact g4 o k (by omega)))
    have := r4 i q i0 i1 q0 (by omega) hz
    rw [e9] at this
    exact this
  · refine cutter (Or.inr rfl) v3 (by omega) (fun m4 v4 f4 => ?_)
    simp only [forall_eq]
    rw [w32_of (by omega) (by omega)]
    refine ⟨_, by omega, by omega, by omega, rfl, fun o k ho => by rw [f4 o k (by omega)]; exact f3 o k (by omega), ?_⟩
    rw [show (i + 1).toNat = i.toNat + 1 by omega, ks_S]
    exact v4
end KEE
