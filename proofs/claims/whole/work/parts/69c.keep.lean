/-! KEEP, on the other side and both. -/
theorem kp_congr {T T' : Int → Int} : ∀ (f : Nat) (k : Int), (∀ x, k ≤ x → x < k + f → T' x = T x) → kp_R T' f k = kp_R T f k := by
  intro f
  induction f with
  | zero => intro k _; rfl
  | succ f ih =>
    intro k h
    rw [kp_R, kp_R, h k (by omega) (by omega), ih (k + 1) (fun x x0 x1 => h x (by omega) (by omega))]
section KEM
variable {m : am_M} {A : Int → Int} {a t l p : Int}
theorem mkeep {n : Int} (hw : wf_A 16 A) (hA : m 170 = A) (h173 : ∀ x, 0 ≤ x → x < 170 → m 173 x = A x) (ha : 0 ≤ a ∧ a < A 365) (ht : 0 ≤ t ∧ t ≤ 7) (hl : 1 ≤ l ∧ l ≤ 99) (h0 : 0 ≤ p ∧ p < A 168) (hn : 1 ≤ n ∧ n ≤ 20) {K : am_KK}
    (hK : ∀ m', fr_d m m' → m' 170 = A → K (kp_R (kp_T A a t l p n) 9 0) m') : M_X12_keep_L1 168 p n a t l (-1) 0 K m := by
  have h16 := hw.2.1.1
  unfold M_X12_keep_L1
  refine ⟨fun j r v m1 => fr_d m m1 ∧ m1 170 = A ∧ ((r = -1 ∧ 0 ≤ v ∧ v ≤ 9 ∧ kp_R (kp_T A a t l p n) (9 - v).toNat v = kp_R (kp_T A a t l p n) 9 0 ∧ j = (9 - v).toNat + 1) ∨ (r ≠ -1 ∧ r = kp_R (kp_T A a t l p n) 9 0 ∧ j = 0)), ⟨_, fr_d_refl _, hA, Or.inl ⟨rfl, by omega, by omega, rfl, rfl⟩⟩, ?_⟩
  rintro j r v m1 ⟨f1, e1, hh⟩
  unfold M_X12_keep_L1B
  rcases hh with ⟨rfl, v0, v9, e, rfl⟩ | ⟨hr, rfl, rfl⟩
  case inr => exact ⟨fun _ => hK m1 f1 e1, fun _ => ⟨fun _ => hK m1 f1 e1, fun z => absurd hr z⟩⟩
  refine ⟨fun q => ?_, fun q => ⟨fun z => absurd rfl z, fun _ => ?_⟩⟩
  · have hr := hK m1 f1 e1
    rw [← e, show (9 - v).toNat = 0 by omega] at hr
    exact hr
  have es := kp_s (T := kp_T A a t l p n) (show 0 ≤ v ∧ v ≤ 8 by omega)
  obtain ⟨p1, p2, p3⟩ := ks_P hw ha ht hl v.toNat (by omega)
  unfold M_X12_keep_L2
  refine ⟨fun j i m2 => 0 ≤ i ∧ i ≤ v ∧ j = (v - i).toNat ∧ fr_d m m2 ∧ m2 170 = ks_S a t l A i.toNat, ⟨_, by omega, by omega, rfl, f1, e1⟩, ?_⟩
  rintro j i m2 ⟨i0, i1, rfl, f2, e2⟩
  obtain ⟨q1, q2, q3⟩ := ks_P hw ha ht hl i.toNat (by omega)
  unfold M_X12_keep_L2B
  refine ⟨fun z => ?_, fun z => ?_⟩
  case refine_2 =>
    rw [msays (by rw [e2]; omega), e2]
    simp only [forall_eq]
    rw [w32_of (by omega) (by omega)]
    refine ⟨_, by omega, by omega, by omega, rfl, fun o k ho => by rw [row_ne _ _ _ (by omega)]; exact f2 o k ho, ?_⟩
    rw [show (i + 1).toNat = i.toNat + 1 by omega, ks_S]
    funext x
    exact row_eq _ _ _ _
  have hi : i = v := by omega
  subst hi
  unfold M_X12_keep_L3
  refine ⟨fun j d m3 => 0 ≤ d ∧ d ≤ n ∧ j = (n - d).toNat ∧ fr_d m m3 ∧ wf_A 24 (m3 170) ∧ m3 170 168 = A 168 + i ∧ (∀ x, ¬ (0 ≤ x ∧ x < 170) → m3 170 x = A x) ∧ kd_D (n - d).toNat (m3 170) (7 * p + 5) = kp_T A a t l p n i, ⟨_, by omega, by omega, rfl, f2, by rw [e2]; exact q1, by rw [e2, q2]; omega, fun x hx => by rw [e2]; exact q3 x (by omega), by rw [Int.sub_zero, e2]; rfl⟩, ?_⟩
  rintro j d m3 ⟨d0, d1, rfl, f3, w3, g8, g3, e3⟩
  have fin : kd_D (n - d).toNat (m3 170) (7 * p + 5) = m3 170 (7 * p + 5) → M_X12_keep_J1 168 p n a t l i (fun r' v' m' => ∃ j', j' < (9 - i).toNat + 1 ∧ fr_d m m' ∧ m' 170 = A ∧ ((r' = -1 ∧ 0 ≤ v' ∧ v' ≤ 9 ∧ kp_R (kp_T A a t l p n) (9 - v').toNat v' = kp_R (kp_T A a t l p n) 9 0 ∧ j' = (9 - v').toNat + 1) ∨ (r' ≠ -1 ∧ r' = kp_R (kp_T A a t l p n) 9 0 ∧ j' = 0))) K m3 := by
    intro y
    rw [y] at e3
    unfold M_X12_keep_J1
    rw [fact_eq (by omega) (by omega), e3]
    have h3 : ∀ x, 0 ≤ x → x < 170 → m3 173 x = A x := fun x x0 x1 => by rw [f3 _ _ (by omega)]; exact h173 x x0 x1
    refine ⟨fun c => ?_, fun c => ?_⟩
    · rw [if_pos c] at es
      unfold M_X12_keep_J2
      refine mtakes g3 h3 (fun m4 f4 r4 => ?_)
      intro v3 hv3
      exact ⟨0, by omega, fun o k ho => by rw [f4 o k (by omega)]; exact f3 o k ho, r4, Or.inr ⟨by omega, by rw [← e, es], rfl⟩⟩
    · rw [if_neg c] at es
      unfold M_X12_keep_J2
      refine mtakes g3 h3 (fun m4 f4 r4 => ?_)
      intro v3 hv3
      rw [w32_of (by omega) (by omega)] at hv3
      subst hv3
      exact ⟨(9 - (i + 1)).toNat + 1, by omega, fun o k ho => by rw [f4 o k (by omega)]; exact f3 o k ho, r4, Or.inl ⟨rfl, by omega, by omega, by rw [← e, es], rfl⟩⟩
  unfold M_X12_keep_L3B
  simp only [am_rf_all, am_ln_all]
  refine ⟨fun y => fin (by rw [show (n - d).toNat = 0 by omega]; rfl), fun y => ⟨by omega, fun c => fin ?_, fun c => ?_⟩⟩
  · rw [show (n - d).toNat = (n - (d + 1)).toNat + 1 by omega, kd_D, if_pos c]
  · refine mdawns w3 (by omega) (fun m4 f4 r4 _ => ?_)
    obtain ⟨b1, b2, b3⟩ := ab_dawn_hi w3 (show m3 170 169 < 999 by omega)
    simp only [forall_eq]
    rw [w32_of (by omega) (by omega)]
    refine ⟨_, by omega, by omega, by omega, rfl, fr_d_t f3 f4, by rw [r4]; exact b1, by rw [r4, b2 _ (by omega) (by omega)]; exact g8, fun x hx => ?_, ?_⟩
    · rw [r4]
      by_cases cx : x < 0
      · rw [ab_dawn_neg cx]; exact g3 x hx
      · rw [b2 x (by omega) (by omega)]; exact g3 x hx
    · rw [r4, ← e3, show (n - d).toNat = (n - (d + 1)).toNat + 1 by omega, kd_D, if_neg c]
end KEM
theorem j_keep (p n a t l : Int) : Joint (M_X11_keep 0 p n a t l) (M_X12_keep 168 p n a t l) := by
  intro m h K hK
  have hb := h.1.1
  have hv := h.1.2.1
  have hf := h.1.2.2.1
  have hw := wf_mono hf (show (16 : Int) ≤ 24 by omega)
  have hn := hf.2.1.1
  have hd := hf.2.1.2.1
  have l6 := hf.2.2.1.1.2
  have hp := hf.1.2.2.1
  have hwd := h.2.2.2.2.2.2.2.1
  obtain ⟨-, -, R3, -⟩ := bk_rows hb
  unfold M_X11_keep M_X12_keep M_X12_isThing
  simp only [am_rf_all, am_ln_all, cwaits_eq (Or.inl rfl) hv, has_eq, isThing_eq, within_eq, lies_eq, b01, b01', R3.2.1, hv.2]
  have mw : ∀ (m1 : am_M), m1 170 = m 170 → ∀ K : am_KK, M_X12_isPerson 168 a K m1 ↔ K (if 0 ≤ a ∧ a < m 170 365 then 1 else 0) m1 := fun m1 e K => by
    rw [isPerson_eq _ _ _ (by rw [e]; omega), e]
  have mi : ∀ (m1 : am_M), m1 170 = m 170 → ∀ K : am_KK, M_X12_isWaiting 168 p K m1 ↔ K (if (0 ≤ p ∧ p < m 170 168) ∧ m 170 (7 * p + 5) = 0 then 1 else 0) m1 := fun m1 e K => by
    rw [isWaiting_eq _ _ _ (by rw [e]; omega), e]
  by_cases c0 : (0 ≤ p ∧ p < m 170 168) ∧ m 170 (7 * p + 5) = 0
  case neg =>
    refine ⟨fun _ => ?_, fun z => absurd c0 z⟩
    rw [mi m rfl, if_neg c0]
    exact ⟨fun _ => hK _ _ h, fun z => absurd rfl z⟩
  refine ⟨fun z => absurd c0 z, fun _ => ?_⟩
  by_cases c1 : 1 ≤ n ∧ n ≤ 20
  case neg =>
    refine ⟨fun _ => ?_, fun z => absurd c1 z⟩
    rw [mi m rfl, if_pos c0]
    exact ⟨fun z => absurd z (by decide), fun _ => ⟨fun _ => hK _ _ h, fun z => absurd c1 z⟩⟩
  refine ⟨fun z => absurd c1 z, fun _ => ?_⟩
  by_cases c2 : 0 ≤ a ∧ a < m 170 365
  case neg =>
    refine ⟨fun _ => ?_, fun z => absurd c2 z⟩
    rw [mi m rfl, if_pos c0]
    refine ⟨fun z => absurd z (by decide), fun _ => ⟨fun z => absurd c1 z, fun _ => ?_⟩⟩
    rw [mw m rfl, if_neg c2]
    exact ⟨fun _ => hK _ _ h, fun z => absurd rfl z⟩
  refine ⟨fun z => absurd c2 z, fun _ => ?_⟩
  by_cases c3 : 0 ≤ t ∧ t ≤ 7
  case neg =>
    refine ⟨fun _ => ?_, fun z => absurd c3 z⟩
    rw [mi m rfl, if_pos c0]
    refine ⟨fun z => absurd z (by decide), fun _ => ⟨fun z => absurd c1 z, fun _ => ?_⟩⟩
    rw [mw m rfl, if_pos c2]
    exact ⟨fun z => absurd z (by decide), fun _ => ⟨fun _ => hK _ _ h, fun z => absurd c3 z⟩⟩
  refine ⟨fun z => absurd c3 z, fun _ => ?_⟩
  refine cbreathOf hw hb c2.1 c2.2 (by omega) (fun m1 f1 => ?_)
  have hbr := breath_le (A := m 170) (q := a) (day := m 170 169)
  have e1 : m1 170 = m 170 := funext fun x => f1 _ _ (by omega)
  have hR1 : Rel m1 := Rel_of h (fun o k ho => f1 o k (by unfold rl_s at ho; omega))
  by_cases c4 : 1 ≤ l ∧ l ≤ ab_breath (m 170) a (m 170 169)
  case neg =>
    refine ⟨fun z => absurd z c4, fun _ => ?_⟩
    rw [mi m1 e1, if_pos c0]
    refine ⟨fun z => absurd z (by decide), fun _ => ⟨fun z => absurd c1 z, fun _ => ?_⟩⟩
    rw [mw m1 e1, if_pos c2]
    refine ⟨fun z => absurd z (by decide), fun _ => ⟨fun z => absurd c3 z, fun _ => ⟨fun _ => hK _ _ hR1, fun c5 => ?_⟩⟩⟩
    refine mbreathOf (by rw [e1]; exact hw.2.2.1) (by rw [e1]; exact hw.2.2.2) (by omega) (by rw [e1]; omega) (fun m2 f2 => ?_)
    rw [e1]
    refine ⟨fun z => absurd z (by omega), fun _ => hK _ _ (Rel_of hR1 (fun o k ho => f2 o k (by unfold rl_s at ho; omega)))⟩
  refine ⟨fun _ => ?_, fun z => absurd c4 z⟩
  have e12 : m1 12 1 = m 170 169 := by rw [f1 _ _ (by omega)]; exact hv.2
  simp only [forall_eq]
  rw [e12, w32_of (z := 999 - m 170 169) (by omega) (by omega)]
  obtain ⟨v6, hv6, g1, g2, g3⟩ : ∃ v6, v6 = am_min n (999 - m 170 169) ∧ (0 ≤ v6 ∧ v6 ≤ n) ∧ m 170 169 + v6 ≤ 999 ∧ (v6 = n ∨ m 170 169 + v6 = 999) := by
    refine ⟨_, rfl, ?_⟩
    unfold am_min
    split <;> omega
  rw [← hv6]
  refine vg_take (v := 142) (v2 := 12) rs_143 (by decide +kernel) (by decide +kernel) (show m1 143 1 = 7 by rw [f1 _ _ (by omega)]; exact hwd (143, 7) (by decide)) (vg_of hv (fun o k _ _ => f1 o k (by omega)) (fun _ _ => rfl)) (by omega) (by omega) (fun m2 v2 f2 => ?_)
  have k2 : ∀ o k, ¬ (o = 137 ∨ o = 139 ∨ (o = 142 ∧ k = 1) ∨ (o = 143 ∧ k = 2) ∨ o = 144) → m2 o k = m o k := fun o k ho => by rw [f2 o k (by omega)]; exact f1 o k (by omega)
  refine ckeep8 hf (bk_of hb (fun o k _ _ _ => k2 o k (by omega)) (fun _ _ => rfl) l6) (vg_of hv (fun o k _ _ => k2 o k (by omega)) (fun _ _ => rfl)) v2 c2 c3 (by omega) c0.1 (by omega) g2 (fun m3 f3 => ?_)
  have k3 : ∀ o k, ¬ (136 ≤ o ∧ o ≤ 144 ∧ ¬ (o = 143 ∧ k = 1)) → m3 o k = m o k := fun o k ho => by rw [f3 o k (by omega)]; exact k2 o k (by omega)
  have e170 : m3 170 = m 170 := funext fun x => k3 _ _ (by omega)
  have hT : kp_R (kp_T (m 170) a t l p v6) 9 0 = kp_R (kp_T (m 170) a t l p n) 9 0 := kp_congr 9 0 (fun x x0 x1 => by
    obtain ⟨q1, q2, q3⟩ := ks_P (A := m 170) (a := a) (t := t) (l := l) hf c2 c3 (by omega) x.toNat (by omega)
    show kd_D v6.toNat (ks_S a t l (m 170) x.toNat) (7 * p + 5) = kd_D n.toNat (ks_S a t l (m 170) x.toNat) (7 * p + 5)
    rw [kd_min v6.toNat n.toNat _ q1 (by omega) (by rw [q3 169 (by omega)]; omega)])
  rw [hT]
  rw [mi m3 e170, if_pos c0]
  refine ⟨fun z => absurd z (by decide), fun _ => ⟨fun z => absurd c1 z, fun _ => ?_⟩⟩
  rw [mw m3 e170, if_pos c2]
  refine ⟨fun z => absurd z (by decide), fun _ => ⟨fun z => absurd c3 z, fun _ => ⟨fun z => absurd (by omega) z, fun _ => ?_⟩⟩⟩
  refine mbreathOf (by rw [e170]; exact hw.2.2.1) (by rw [e170]; exact hw.2.2.2) (by omega) (by rw [e170]; omega) (fun m4 f4 => ?_)
  rw [e170]
  refine ⟨fun _ => ?_, fun z => absurd c4.2 z⟩
  refine mlays (fun m5 f5 s5 => ?_)
  have e4 : m4 170 = m 170 := by rw [fr_law_170 f4]; exact e170
  have e5 : m5 170 = m 170 := by rw [← e4]; exact funext fun x => f5 _ _ (by omega)
  rw [e4] at s5
  refine mkeep hf e5 s5 c2 c3 (by omega) c0.1 c1 (fun m6 f6 r6 => ?_)
  refine hK _ _ (Rel_of h (fun o k ho => ?_))
  by_cases q : o = 170
  · subst q; rw [r6]
  · unfold rl_s at ho
    rw [f6 o k (by omega), f5 o k (by omega), f4 o k (by omega)]
    exact k3 o k (by omega)
