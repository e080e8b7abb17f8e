/-! HIDDEN: all that could be. -/
def hh_R (E : Int → Int) (x : Int) : Nat → Int → Int → Int
  | 0, _, c => if x ≠ -1 then -1 else c
  | f + 1, v, c => if E v = 0 then hh_R E x f (v + 1) c else if c ≠ x then hh_R E x f (v + 1) (c + 1) else v
theorem hh_s {E : Int → Int} {x v c n : Int} (h : v < n) : hh_R E x (n - v).toNat v c = if E v = 0 then hh_R E x (n - (v + 1)).toNat (v + 1) c else if c ≠ x then hh_R E x (n - (v + 1)).toNat (v + 1) (c + 1) else v := by
  rw [show (n - v).toNat = (n - (v + 1)).toNat + 1 by omega, hh_R]
/-- what one that could be hidden comes to -/
def hh_P (A : Int → Int) (v : Int) : Prop := hd_S A (hl_M A (A 367).toNat).toNat 1 (ab_say A (v / 240) (v / 30 % 8) (v % 30 + 1) 1)
theorem hh_E (A : Int → Int) : ∃ E : Int → Int, ∀ v, E v ≠ 0 ↔ hh_P A v := by
  refine ⟨fun v => @ite Int (hh_P A v) (Classical.propDecidable _) 1 0, fun v => ?_⟩
  by_cases c : hh_P A v
  · simp [c]
  · simp [c]
theorem hdS_congr {A S : Int → Int} (h : ∀ x, 170 ≤ x → S x = A x) : ∀ (n : Nat) (d : Int) (X : Int → Int), hd_S S n d X ↔ hd_S A n d X := by
  intro n
  induction n with
  | zero => intro d X; exact Iff.rfl
  | succ n ih =>
    intro d X
    rw [hd_S, hd_S, ih]
    have hT : hd_T S d (hd_B X) ↔ hd_T A d (hd_B X) := by
      unfold hd_T
      rw [h 367 (by omega)]
      refine forall_congr' fun x => forall_congr' fun x0 => ?_
      rw [h (342 + 3 * x) (by omega), h (342 + 3 * x + 1) (by omega), h (342 + 3 * x + 2) (by omega)]
    rw [hT]
theorem hlM_congr {A S : Int → Int} (h : ∀ x, 170 ≤ x → S x = A x) : ∀ n : Nat, hl_M S n = hl_M A n := by
  intro n
  induction n with
  | zero => rfl
  | succ n ih => rw [hl_M, hl_M, ih, h _ (by omega)]
section HIF
variable {m : am_M} {A E : Int → Int}
theorem chidden {x n last : Int} (hw : wf_A 16 A) (hB : bk_P m 1 A) (hv : vg_P m 12 A) (h143 : m 143 1 = 7) (hlast : last = hl_M A (A 367).toNat) (hn : 0 ≤ n ∧ n ≤ last ∧ A 169 + n ≤ 999 ∧ (n = last ∨ A 169 + n = 999)) (h141 : ex_T m A n) (hE : ∀ v, E v ≠ 0 ↔ hh_P A v) {K : am_KK}
    (hK : ∀ m', fr_p m m' → K (hh_R E x (A 365 * 240).toNat 0 0) m') : M_X11_hidden_L1 0 x n 0 0 K m := by
  have l6 := hw.2.2.1.1.2
  have h5 := hw.1.2.2.1
  obtain ⟨-, -, R3, -⟩ := bk_rows hB
  unfold M_X11_hidden_L1
  refine ⟨fun j c v m1 => 0 ≤ v ∧ v ≤ A 365 * 240 ∧ 0 ≤ c ∧ c ≤ v ∧ j = (A 365 * 240 - v).toNat ∧ fr_p m m1 ∧ ex_T m1 A n ∧ hh_R E x (A 365 * 240 - v).toNat v c = hh_R E x (A 365 * 240).toNat 0 0, ⟨_, by omega, by omega, by omega, by omega, rfl, fun _ _ _ => rfl, h141, by rw [Int.sub_zero]⟩, ?_⟩
  rintro j c v m1 ⟨v0, vN, c0, cv, rfl, f1, t1, e⟩
  unfold M_X11_hidden_L1B
  have e6 : m1 6 2 = A 365 := by rw [f1 _ _ (by omega)]; exact R3.2.1
  simp only [am_rf_all, e6]
  rw [w32_of (z := A 365 * 8) (by omega) (by omega), w32_of (z := A 365 * 8 * 30) (by omega) (by omega)]
  refine ⟨fun q => ?_, fun q => ?_⟩
  · have hr := hK m1 f1
    rw [← e, show (A 365 * 240 - v).toNat = 0 by omega, hh_R] at hr
    refine ⟨fun y => ?_, fun y => ?_⟩
    · rw [if_pos y] at hr; exact hr
    · rw [if_neg y] at hr; exact hr
  rw [hh_s (by omega)] at e
  refine cexplains hw (bk_of hB (fun o k _ _ _ => f1 o k (by omega)) (fun _ _ => rfl) l6) (vg_of hv (fun o k _ _ => f1 o k (by omega)) (fun _ _ => rfl)) (by rw [f1 _ _ (by omega)]; exact h143) (by omega) hlast hn t1 (fun r m2 f2 t2 r01 hr => ?_)
  have g2 : fr_p m m2 := fun o k ho => by rw [f2 o k ho]; exact f1 o k ho
  have hrE : r ≠ 0 ↔ E v ≠ 0 := by
    rw [hE v, hr, hlast]
    exact Iff.rfl
  unfold M_X11_hidden_J1
  simp only [forall_eq]
  rw [w32_of (z := v + 1) (by omega) (by omega), w32_of (z := c + 1) (by omega) (by omega)]
  refine ⟨fun y => ?_, fun y => ⟨fun z => ?_, fun z => ?_⟩⟩
  · have : E v = 0 := Classical.byContradiction fun u => (hrE.mpr u) y
    rw [if_pos this] at e
    exact ⟨_, by omega, by omega, by omega, by omega, by omega, rfl, g2, t2, e⟩
  · rw [if_neg (hrE.mp y), if_pos z] at e
    exact ⟨_, by omega, by omega, by omega, by omega, by omega, rfl, g2, t2, e⟩
  · rw [if_neg (hrE.mp y), if_neg z] at e
    have hr := hK m2 g2
    rw [← e] at hr
    exact hr
theorem mhidden {x : Int} (hx : -1 ≤ x) (hw : wf_A 16 A) (hA : m 170 = A) (h173 : ∀ y, 0 ≤ y → y < 170 → m 173 y = A y) (hE : ∀ v, E v ≠ 0 ↔ hh_P A v) {K : am_KK}
    (hK : ∀ m', fr_d m m' → m' 170 = A → K (hh_R E x (A 365 * 240).toNat 0 0) m') : M_X12_hidden_L1 168 x 0 (-1) 0 K m := by
  have h16 := hw.2.1.1
  have h5 := hw.1.2.2.1
  unfold M_X12_hidden_L1
  refine ⟨fun j c r v m1 => fr_d m m1 ∧ m1 170 = A ∧ ((r = -1 ∧ 0 ≤ v ∧ v ≤ A 365 * 240 ∧ 0 ≤ c ∧ c ≤ v ∧ j = (A 365 * 240 - v).toNat + 1 ∧ hh_R E x (A 365 * 240 - v).toNat v c = hh_R E x (A 365 * 240).toNat 0 0) ∨ (r ≠ -1 ∧ x ≠ -1 ∧ r = hh_R E x (A 365 * 240).toNat 0 0 ∧ j = 0)), ⟨_, fr_d_refl _, hA, Or.inl ⟨rfl, by omega, by omega, by omega, by omega, rfl, by rw [Int.sub_zero]⟩⟩, ?_⟩
  rintro j c r v m1 ⟨f1, e1, hh⟩
  unfold M_X12_hidden_L1B M_X12_hidden_J3
  simp only [am_rf_all, am_ln_all, e1]
  rw [w32_of (z := A 365 * 8) (by omega) (by omega), w32_of (z := A 365 * 8 * 30) (by omega) (by omega)]
  refine ⟨by omega, ?_⟩
  rcases hh with ⟨rfl, v0, vN, c0, cv, rfl, e⟩ | ⟨hr, hxx, rfl, rfl⟩
  case inr => exact ⟨fun _ => ⟨fun _ => hK m1 f1 e1, fun z => absurd hxx z⟩, fun _ => ⟨fun _ => ⟨fun _ => hK m1 f1 e1, fun z => absurd hxx z⟩, fun z => absurd hr z⟩⟩
  refine ⟨fun q => ?_, fun q => ⟨fun z => absurd rfl z, fun _ => ?_⟩⟩
  · have hr := hK m1 f1 e1
    rw [← e, show (A 365 * 240 - v).toNat = 0 by omega, hh_R] at hr
    refine ⟨fun y => ?_, fun y => ?_⟩
    · rw [if_pos y] at hr; exact hr
    · rw [if_neg y] at hr; exact hr
  rw [hh_s (by omega)] at e
  rw [Int.tdiv_eq_ediv_of_nonneg (by omega), Int.tdiv_eq_ediv_of_nonneg (by omega), Int.tmod_eq_emod_of_nonneg (b := 30) (by omega)]
  rw [w32_of (z := v / 240) (by omega) (by omega), w32_of (z := v / 30) (by omega) (by omega), w32_of (z := v % 30) (by omega) (by omega), Int.tmod_eq_emod_of_nonneg (by omega), w32_of (z := v / 30 % 8) (by omega) (by omega), w32_of (z := 1 + v % 30) (by omega) (by omega), Int.add_comm 1 (v % 30)]
  rw [msays (by rw [e1]; omega), e1]
  have wS : wf_A 24 (ab_say A (v / 240) (v / 30 % 8) (v % 30 + 1) 1) := wf_say (wf_mono hw (by omega)) (by omega) (by omega) (by omega) (by omega) (by omega) (by omega)
  have hiS : ∀ x, (x < 0 ∨ 169 ≤ x) → ab_say A (v / 240) (v / 30 % 8) (v % 30 + 1) 1 x = A x := fun x hx => ab_say_o (by omega) (by omega)
  have hP : hh_P A v ↔ hd_S A (hl_M A (A 367).toNat).toNat 1 (ab_say A (v / 240) (v / 30 % 8) (v % 30 + 1) 1) := Iff.rfl
  generalize ab_say A (v / 240) (v / 30 % 8) (v % 30 + 1) 1 = S at *
  generalize hm2 : am_row m1 170 S = m2
  have r2 : m2 170 = S := by rw [← hm2]; funext x; exact row_eq _ _ _ _
  have f2 : ∀ o k, o ≠ 170 → m2 o k = m1 o k := fun o k ho => by rw [← hm2]; exact row_ne _ _ _ ho
  refine mareSo (A := S) (by rw [r2]; exact wS) r2 (fun r m3 f3 g3 r01 hr => ?_)
  rw [hiS 367 (by omega), hlM_congr (fun x hx => hiS x (by omega)), hdS_congr (fun x hx => hiS x (by omega)), ← hP, ← hE v] at hr
  have k3 : fr_d m m3 := fun o k ho => by rw [f3 o k ho, f2 o k (by omega)]; exact f1 o k ho
  refine mtakes (A := A) (fun y hy => by rw [g3 y hy]; exact hiS y (by omega)) (fun y y0 y1 => by rw [k3 _ _ (by omega)]; exact h173 y y0 y1) (fun m4 f4 r4 => ?_)
  have k4 : fr_d m m4 := fun o k ho => by rw [f4 o k (by omega)]; exact k3 o k ho
  unfold M_X12_hidden_J1 M_X12_hidden_J2
  simp only [forall_eq]
  rw [w32_of (z := v + 1) (by omega) (by omega), w32_of (z := c + 1) (by omega) (by omega)]
  refine ⟨fun y => ⟨fun z => ?_, fun z => ?_⟩, fun y => ?_⟩
  · rw [if_neg (hr.mp y), if_pos z] at e
    exact ⟨(A 365 * 240 - (v + 1)).toNat + 1, by omega, k4, r4, Or.inl ⟨by first | rfl | trivial, by omega, by omega, by omega, by omega, rfl, e⟩⟩
  · rw [if_neg (hr.mp y), if_neg z] at e
    exact ⟨0, by omega, k4, r4, Or.inr ⟨by omega, by omega, e, rfl⟩⟩
  · have : E v = 0 := Classical.byContradiction fun u => y (hr.mpr u)
    rw [if_pos this] at e
    exact ⟨(A 365 * 240 - (v + 1)).toNat + 1, by omega, k4, r4, Or.inl ⟨by first | rfl | trivial, by omega, by omega, by omega, by omega, rfl, e⟩⟩
end HIF
theorem j_hidden (x : Int) : Joint (M_X11_hidden 0 x) (M_X12_hidden 168 x) := by
  intro m h K hK
  have hb := h.1.1
  have hv := h.1.2.1
  have hf := h.1.2.2.1
  have hw := wf_mono hf (show (16 : Int) ≤ 24 by omega)
  have hd := hf.2.1.2.1
  have l6 := hf.2.2.1.1.2
  have h6 := hf.1.2.2.2.2.1
  have h09 := hl_09 (A := m 170) (m 170 367).toNat (fun i i0 i1 => (h6.2.2 i i0 (by omega)).1)
  have hwd := h.2.2.2.2.2.2.2.1
  obtain ⟨E, hE⟩ := hh_E (m 170)
  unfold M_X11_hidden M_X12_hidden
  simp only [am_rf_all]
  by_cases c : -1 ≤ x
  case neg =>
    refine ⟨fun z => absurd z c, fun _ => ⟨fun z => absurd z c, fun _ => hK _ _ h⟩⟩
  refine ⟨fun _ => ?_, fun z => absurd c z⟩
  refine cfarthest hf.1 hb ?_
  rw [hv.2, w32_of (by omega) (by omega)]
  simp only [forall_eq]
  obtain ⟨n, hn, g1, g2, g3⟩ : ∃ n, n = am_min (hl_M (m 170) (m 170 367).toNat) (999 - m 170 169) ∧ (0 ≤ n ∧ n ≤ hl_M (m 170) (m 170 367).toNat) ∧ m 170 169 + n ≤ 999 ∧ (n = hl_M (m 170) (m 170 367).toNat ∨ m 170 169 + n = 999) := by
    refine ⟨_, rfl, ?_⟩
    unfold am_min
    split <;> omega
  rw [← hn]
  refine cforeseeAll (Or.inl rfl) hw hb hv (by omega) (fun m1 f1 r1 => ?_)
  refine chidden hf (bk_of hb (fun o k _ _ _ => f1 o k (by omega)) (fun _ _ => rfl) l6) (vg_of hv (fun o k _ _ => f1 o k (by omega)) (fun _ _ => rfl)) (by rw [f1 _ _ (by omega)]; exact hwd (143, 7) (by decide)) rfl ⟨g1.1, g1.2, g2, g3⟩ (fun d q d1 d2 q0 q1 q2 => r1 d q d1 d2 q0 q1 q2) hE (fun m2 f2 => ?_)
  have k2 : ∀ o k, ¬ (136 ≤ o ∧ o ≤ 144 ∧ ¬ (o = 143 ∧ k = 1)) → m2 o k = m o k := fun o k ho => by rw [f2 o k (by omega)]; exact f1 o k (by omega)
  have e170 : m2 170 = m 170 := funext fun x => k2 _ _ (by omega)
  refine ⟨fun _ => ?_, fun z => absurd c z⟩
  refine mlays (fun m3 f3 s3 => ?_)
  have e3 : m3 170 = m 170 := by rw [← e170]; exact funext fun x => f3 _ _ (by omega)
  rw [e170] at s3
  refine mhidden c hf e3 s3 hE (fun m4 f4 r4 => ?_)
  refine hK _ _ (Rel_of h (fun o k ho => ?_))
  by_cases q : o = 170
  · subst q; rw [r4]
  · unfold rl_s at ho
    rw [f4 o k (by omega), f3 o k (by omega)]
    exact k2 o k (by omega)
