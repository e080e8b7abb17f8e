/-! A PRAYER is said. -/
def ab_why (A : Int → Int) (a t l w day : Int) : Int := if ¬ ((0 ≤ t ∧ t ≤ 7) ∧ (1 ≤ l ∧ l ≤ 99) ∧ 1 ≤ w ∧ w ≤ 6) then -1 else if ¬ (0 ≤ a ∧ a < A 365) then -2 else if ab_breath A a day < l then -3 else if 16 ≤ A 168 then -5 else 0
def ab_say (A : Int → Int) (a t l w : Int) : Int → Int := wrA (wrA (wrA (wrA (wrA (wrA (wrA (wrA A (7 * A 168 + 0) a) (7 * A 168 + 1) t) (7 * A 168 + 2) l) (7 * A 168 + 3) w) (7 * A 168 + 4) (A 169)) (7 * A 168 + 5) 0) (7 * A 168 + 6) (-1)) 168 (A 168 + 1)
theorem ab_say_o {A : Int → Int} {a t l w x : Int} (h : ¬ (7 * A 168 ≤ x ∧ x < 7 * A 168 + 7)) (h2 : x ≠ 168) : ab_say A a t l w x = A x := by
  unfold ab_say
  rw [wrA_ne _ h2, wrA_ne _ (by omega), wrA_ne _ (by omega), wrA_ne _ (by omega), wrA_ne _ (by omega), wrA_ne _ (by omega), wrA_ne _ (by omega), wrA_ne _ (by omega)]
theorem ab_say_n {A : Int → Int} {a t l w : Int} (h : 0 ≤ A 168 ∧ A 168 < 24) : ab_say A a t l w 168 = A 168 + 1 ∧ ab_say A a t l w (7 * A 168) = a ∧ ab_say A a t l w (7 * A 168 + 1) = t ∧ ab_say A a t l w (7 * A 168 + 2) = l ∧ ab_say A a t l w (7 * A 168 + 3) = w ∧ ab_say A a t l w (7 * A 168 + 4) = A 169 ∧ ab_say A a t l w (7 * A 168 + 5) = 0 ∧ ab_say A a t l w (7 * A 168 + 6) = -1 := by
  unfold ab_say
  refine ⟨wrA_same _ _ _, ?_, ?_, ?_, ?_, ?_, ?_, ?_⟩
  · rw [wrA_ne _ (by omega), wrA_ne _ (by omega), wrA_ne _ (by omega), wrA_ne _ (by omega), wrA_ne _ (by omega), wrA_ne _ (by omega), wrA_ne _ (by omega), Int.add_zero, wrA_same]
  · simp (disch := omega) only [wrA_ne, wrA_same]
  · simp (disch := omega) only [wrA_ne, wrA_same]
  · simp (disch := omega) only [wrA_ne, wrA_same]
  · simp (disch := omega) only [wrA_ne, wrA_same]
  · simp (disch := omega) only [wrA_ne, wrA_same]
  · simp (disch := omega) only [wrA_ne, wrA_same]
theorem wf_say {n : Int} {A : Int → Int} {a t l w : Int} (hw : wf_A n A) (hn : n ≤ 24) (hlt : A 168 < n) (ha : 0 ≤ a ∧ a < A 365) (ht : 0 ≤ t ∧ t ≤ 7) (hl : 1 ≤ l ∧ l ≤ 99) (hv : 1 ≤ w ∧ w ≤ 6) : wf_A n (ab_say A a t l w) := by
  have h24 := hw.2.1.1
  have hd := hw.2.1.2.1
  have hp := hw.1.2.2.1
  obtain ⟨s0, s1, s2, s3, s4, s5, s6, s7⟩ := ab_say_n (A := A) (a := a) (t := t) (l := l) (w := w) (by omega)
  refine wf_of hw (fun x hx => ab_say_o (by omega) (by omega)) ⟨by rw [s0]; omega, by rw [ab_say_o (by omega) (by omega)]; exact hd, fun i i0 i1 => ?_⟩ (fun x x0 x1 => ?_)
  · rw [s0] at i1
    by_cases c : i = A 168
    · subst c
      rw [s1, s2, s3, s4, s5, s6, s7]
      omega
    · rw [ab_say_o (show ¬ (7 * A 168 ≤ 7 * i ∧ 7 * i < 7 * A 168 + 7) by omega) (by omega), ab_say_o (show ¬ (7 * A 168 ≤ 7 * i + 1 ∧ 7 * i + 1 < 7 * A 168 + 7) by omega) (by omega), ab_say_o (show ¬ (7 * A 168 ≤ 7 * i + 2 ∧ 7 * i + 2 < 7 * A 168 + 7) by omega) (by omega), ab_say_o (show ¬ (7 * A 168 ≤ 7 * i + 3 ∧ 7 * i + 3 < 7 * A 168 + 7) by omega) (by omega), ab_say_o (show ¬ (7 * A 168 ≤ 7 * i + 4 ∧ 7 * i + 4 < 7 * A 168 + 7) by omega) (by omega), ab_say_o (show ¬ (7 * A 168 ≤ 7 * i + 5 ∧ 7 * i + 5 < 7 * A 168 + 7) by omega) (by omega), ab_say_o (show ¬ (7 * A 168 ≤ 7 * i + 6 ∧ 7 * i + 6 < 7 * A 168 + 7) by omega) (by omega)]
      exact hw.2.1.2.2 i i0 (by omega)
  · have := hw.2.2.2 x x0 x1
    unfold ab_say wrA
    repeat' split
    all_goals omega
theorem wH_say {A : Int → Int} {a t l w : Int} (hH : wf_H A) (h : 0 ≤ A 168 ∧ A 168 < 24) : wf_H (ab_say A a t l w) := by
  obtain ⟨s0, s1, s2, s3, s4, s5, s6, s7⟩ := ab_say_n (A := A) (a := a) (t := t) (l := l) (w := w) h
  intro p p0 p1 p2
  rw [s0] at p1
  by_cases c : p = A 168
  · subst c; exact s7
  · rw [ab_say_o (show ¬ (7 * A 168 ≤ 7 * p + 5 ∧ 7 * p + 5 < 7 * A 168 + 7) by omega) (by omega)] at p2
    rw [ab_say_o (show ¬ (7 * A 168 ≤ 7 * p + 6 ∧ 7 * p + 6 < 7 * A 168 + 7) by omega) (by omega)]
    exact hH p p0 (by omega) p2
section SAY
variable {m : am_M} {A : Int → Int} {v a t l w : Int}
theorem cutter (hvv : vg_v v) (hv : vg_P m v A) (h : 0 ≤ A 168 ∧ A 168 < 24) {K : am_KK}
    (hK : ∀ m', vg_P m' v (ab_say A a t l w) → (∀ o k, ¬ ((o = v + 1 ∧ k = 2) ∨ o = v + 2) → m' o k = m o k) → K (A 168) m') : M_X9_utter v a t l w K m := by
  obtain ⟨s0, s1, s2, s3, s4, s5, s6, s7⟩ := ab_say_n (A := A) (a := a) (t := t) (l := l) (w := w) h
  have q0 : rk (am_st m (v + 1) 2 (A 168 + 1)) (v + 1) 7 168 := rk_opened hv.1.1 hv.1.2.1 (by omega)
  have e0 : am_st m (v + 1) 2 (A 168 + 1) (v + 1) 2 = A 168 + 1 := am_st_same _ _ _ _
  unfold M_X9_utter
  simp only [vg_rf hvv]
  rw [open_eq hv.1.1, hv.1.2.1, if_pos (by omega)]
  have stp : ∀ (mm : am_M) (j z : Int) (K : am_KK), rk mm (v + 1) 7 168 → mm (v + 1) 2 = A 168 + 1 → 0 ≤ j → j < 7 → (M_X7_set (v + 1) (A 168) j z K mm ↔ K 0 (am_st mm (v + 1 + 1) (A 168 * 7 + j) z)) := fun mm j z K hq he j0 j7 => set_eq' hq he h.1 ⟨j0, j7⟩ K
  have nq : ∀ (mm : am_M) (k z : Int), rk mm (v + 1) 7 168 → rk (am_st mm (v + 1 + 1) k z) (v + 1) 7 168 := fun mm k z hq => rk_st hq (by omega)
  have ne : ∀ (mm : am_M) (k z : Int), mm (v + 1) 2 = A 168 + 1 → am_st mm (v + 1 + 1) k z (v + 1) 2 = A 168 + 1 := fun mm k z he => by rw [am_st_ne _ (by omega)]; exact he
  have nd : ∀ (mm : am_M) (k z : Int), am_st mm (v + 1 + 1) k z v 1 = mm v 1 := fun mm k z => am_st_ne _ (by omega)
  have q1 := nq _ (A 168 * 7 + 0) a q0
  have q2 := nq _ (A 168 * 7 + 1) t q1
  have q3 := nq _ (A 168 * 7 + 2) l q2
  have q4 := nq _ (A 168 * 7 + 3) w q3
  have q5 := nq _ (A 168 * 7 + 4) (A 169) q4
  have q6 := nq _ (A 168 * 7 + 5) 0 q5
  have e1 := ne _ (A 168 * 7 + 0) a e0
  have e2 := ne _ (A 168 * 7 + 1) t e1
  have e3 := ne _ (A 168 * 7 + 2) l e2
  have e4 := ne _ (A 168 * 7 + 3) w e3
  have e5 := ne _ (A 168 * 7 + 4) (A 169) e4
  have e6 := ne _ (A 168 * 7 + 5) 0 e5
  rw [stp _ _ _ _ q0 e0 (by omega) (by omega), stp _ _ _ _ q1 e1 (by omega) (by omega), stp _ _ _ _ q2 e2 (by omega) (by omega), stp _ _ _ _ q3 e3 (by omega) (by omega)]
  rw [nd, nd, nd, nd, am_st_ne (o' := v) (k' := 1) _ (by omega), hv.2]
  rw [stp _ _ _ _ q4 e4 (by omega) (by omega), stp _ _ _ _ q5 e5 (by omega) (by omega), stp _ _ _ _ q6 e6 (by omega) (by omega)]
  refine hK _ ⟨⟨nq _ _ _ q6, ?_, fun x x0 x1 => ?_⟩, ?_⟩ (fun o k ho => ?_)
  · rw [s0]; exact ne _ _ _ e6
  · rw [s0] at x1
    rw [Int.zero_add]
    by_cases c : x < 7 * A 168
    · rw [ab_say_o (by omega) (by omega), am_st_ne _ (by omega), am_st_ne _ (by omega), am_st_ne _ (by omega), am_st_ne _ (by omega), am_st_ne _ (by omega), am_st_ne _ (by omega), am_st_ne _ (by omega), am_st_ne _ (by omega)]
      have := hv.1.2.2 x x0 (by omega)
      rw [Int.zero_add] at this
      exact this
    · have cx : x = 7 * A 168 ∨ x = 7 * A 168 + 1 ∨ x = 7 * A 168 + 2 ∨ x = 7 * A 168 + 3 ∨ x = 7 * A 168 + 4 ∨ x = 7 * A 168 + 5 ∨ x = 7 * A 168 + 6 := by omega
      rcases cx with rfl | rfl | rfl | rfl | rfl | rfl | rfl
      · rw [s1, show A 168 * 7 + 0 = 7 * A 168 by omega]; simp (disch := omega) only [am_st_ne, am_st_same]
      · rw [s2, show A 168 * 7 + 1 = 7 * A 168 + 1 by omega]; simp (disch := omega) only [am_st_ne, am_st_same]
      · rw [s3, show A 168 * 7 + 2 = 7 * A 168 + 2 by omega]; simp (disch := omega) only [am_st_ne, am_st_same]
      · rw [s4, show A 168 * 7 + 3 = 7 * A 168 + 3 by omega]; simp (disch := omega) only [am_st_ne, am_st_same]
      · rw [s5, show A 168 * 7 + 4 = 7 * A 168 + 4 by omega]; simp (disch := omega) only [am_st_ne, am_st_same]
      · rw [s6, show A 168 * 7 + 5 = 7 * A 168 + 5 by omega]; simp (disch := omega) only [am_st_ne, am_st_same]
      · rw [s7, show A 168 * 7 + 6 = 7 * A 168 + 6 by omega]; simp (disch := omega) only [am_st_ne, am_st_same]
  · rw [ab_say_o (by omega) (by omega), nd, nd, nd, nd, nd, nd, nd, am_st_ne _ (by omega)]; exact hv.2
  · rw [am_st_ne _ (by omega), am_st_ne _ (by omega), am_st_ne _ (by omega), am_st_ne _ (by omega), am_st_ne _ (by omega), am_st_ne _ (by omega), am_st_ne _ (by omega), am_st_ne _ (by omega)]
theorem ctry (hvv : vg_v v) (hw : wf_A 24 A) (hB : bk_P m 1 A) (hv : vg_P m v A) {K : am_KK}
    (k1 : ab_why A a t l w (A 169) ≠ 0 → ∀ m', fr_j m m' → K (ab_why A a t l w (A 169)) m')
    (k0 : ab_why A a t l w (A 169) = 0 → ∀ m', vg_P m' v (ab_say A a t l w) → (∀ o k, ¬ (o = 137 ∨ o = 139 ∨ (o = v + 1 ∧ k = 2) ∨ o = v + 2) → m' o k = m o k) → K 0 m') : M_X11_tryPrayer 0 v a t l w K m := by
  have hd := hw.2.1.2.1
  have hn := hw.2.1.1
  obtain ⟨-, -, R3, -⟩ := bk_rows hB
  unfold M_X11_tryPrayer
  simp only [isThing_eq, within_eq, has_eq, am_rf_all, b01, b01']
  unfold ab_why at k1 k0
  by_cases c1 : 0 ≤ t ∧ t ≤ 7
  case neg =>
    rw [if_pos (by omega)] at k1
    simp only [c1, not_false_eq_true, true_imp_iff, not_true_eq_false, false_imp_iff, and_true]
    exact k1 (by omega) m (fun _ _ _ => rfl)
  by_cases c2 : 1 ≤ l ∧ l ≤ 99
  case neg =>
    rw [if_pos (by omega)] at k1
    simp only [c1, c2, not_false_eq_true, true_imp_iff, not_true_eq_false, false_imp_iff, and_true, true_and]
    exact k1 (by omega) m (fun _ _ _ => rfl)
  by_cases c3 : 1 ≤ w ∧ w ≤ 6
  case neg =>
    rw [if_pos (by omega)] at k1
    simp only [c1, c2, c3, not_false_eq_true, true_imp_iff, not_true_eq_false, false_imp_iff, and_true, true_and]
    exact k1 (by omega) m (fun _ _ _ => rfl)
  rw [if_neg (by simp [c1, c2, c3])] at k1 k0
  have e6 : m 6 2 = A 365 := R3.2.1
  rw [e6]
  by_cases c4 : 0 ≤ a ∧ a < A 365
  case neg =>
    rw [if_pos c4] at k1
    simp only [c1, c2, c3, c4, not_false_eq_true, true_imp_iff, not_true_eq_false, false_imp_iff, and_true, true_and]
    exact k1 (by omega) m (fun _ _ _ => rfl)
  rw [if_neg (by simp [c4])] at k1 k0
  simp only [c1, c2, c3, c4, not_false_eq_true, true_imp_iff, not_true_eq_false, false_imp_iff, and_true, true_and, and_self]
  rw [hv.2]
  refine cbreathOf hw hB c4.1 c4.2 (by omega) (fun m1 f1 => ?_)
  by_cases c5 : ab_breath A a (A 169) < l
  · rw [if_pos c5] at k1
    refine ⟨fun q => by omega, fun _ => k1 (by omega) m1 f1⟩
  · rw [if_neg c5] at k1 k0
    refine ⟨fun _ => ?_, fun q => by omega⟩
    have hv1 : vg_P m1 v A := vg_of hv (fun o k _ _ => f1 o k (by rcases hvv with rfl | rfl <;> omega)) (fun _ _ => rfl)
    rw [vg_rf hvv, hv1.1.2.1]
    by_cases c6 : 16 ≤ A 168
    · rw [if_pos c6] at k1
      refine ⟨fun q => by omega, fun _ => k1 (by omega) m1 f1⟩
    · rw [if_neg c6] at k0
      refine ⟨fun _ => cutter hvv hv1 (by omega) (fun m2 v2 f2 => k0 rfl m2 v2 (fun o k ho => by rw [f2 o k (by omega), f1 o k (by omega)])), fun q => by omega⟩
theorem mwhy {m : am_M} {a t l w : Int} (hw : wf_A 24 (m 170)) {K : am_KK} (hK : ∀ m', fr_law m m' → K (ab_why (m 170) a t l w (m 170 169)) m') : M_X12_whyNot 168 a t l w K m := by
  have hd := hw.2.1.2.1
  have hn := hw.2.1.1
  have hp := hw.1.2.2.1
  unfold M_X12_whyNot M_X12_isThing
  simp only [lies_eq, b01, b01']
  unfold ab_why at hK
  by_cases c1 : 0 ≤ t ∧ t ≤ 7
  case neg =>
    rw [if_pos (by omega)] at hK
    simp only [c1, not_false_eq_true, true_imp_iff, not_true_eq_false, false_imp_iff, and_true]
    exact hK m (fun _ _ _ => rfl)
  by_cases c2 : 1 ≤ l ∧ l ≤ 99
  case neg =>
    rw [if_pos (by omega)] at hK
    simp only [c1, c2, not_false_eq_true, true_imp_iff, not_true_eq_false, false_imp_iff, and_true, true_and]
    exact hK m (fun _ _ _ => rfl)
  by_cases c3 : 1 ≤ w ∧ w ≤ 6
  case neg =>
    rw [if_pos (by omega)] at hK
    simp only [c1, c2, c3, not_false_eq_true, true_imp_iff, not_true_eq_false, false_imp_iff, and_true, true_and]
    exact hK m (fun _ _ _ => rfl)
  rw [if_neg (by simp [c1, c2, c3])] at hK
  simp only [c1, c2, c3, not_false_eq_true, true_imp_iff, not_true_eq_false, false_imp_iff, and_true, true_and]
  rw [isPerson_eq _ _ _ (by omega)]
  simp only [b01']
  by_cases c4 : 0 ≤ a ∧ a < m 170 365
  case neg =>
    rw [if_pos c4] at hK
    simp only [c4, not_false_eq_true, true_imp_iff, not_true_eq_false, false_imp_iff, and_true, true_and]
    exact hK m (fun _ _ _ => rfl)
  rw [if_neg (by simp [c4])] at hK
  simp only [c4, not_false_eq_true, true_imp_iff, not_true_eq_false, false_imp_iff, and_true, true_and, and_self]
  refine mbreathOf hw.2.2.1 hw.2.2.2 (by omega) (by omega) (fun m1 f1 => ?_)
  have e1 := fr_law_170 f1
  by_cases c5 : ab_breath (m 170) a (m 170 169) < l
  · rw [if_pos c5] at hK
    refine ⟨fun q => by omega, fun _ => hK m1 f1⟩
  · rw [if_neg c5] at hK
    refine ⟨fun _ => ?_, fun q => by omega⟩
    rw [prayers_eq, e1]
    by_cases c6 : 16 ≤ m 170 168
    · rw [if_pos c6] at hK
      refine ⟨fun q => by omega, fun _ => hK m1 f1⟩
    · rw [if_neg c6] at hK
      exact ⟨fun _ => hK m1 f1, fun q => by omega⟩
theorem msays {m : am_M} {a t l w : Int} (h : 0 ≤ m 170 168 ∧ m 170 168 < 24) (K : am_KK) : M_X12_says 168 a t l w K m ↔ K 0 (am_row m 170 (ab_say (m 170) a t l w)) := by
  have e1 : w32 (7 * m 170 168) = 7 * m 170 168 := w32_of (by omega) (by omega)
  have e2 : w32 (0 + 7 * m 170 168) = 7 * m 170 168 := by rw [w32_of (by omega) (by omega)]; omega
  have f0 : w32 (7 * m 170 168 + 0) = 7 * m 170 168 + 0 := w32_of (by omega) (by omega)
  have f1 : w32 (7 * m 170 168 + 1) = 7 * m 170 168 + 1 := w32_of (by omega) (by omega)
  have f2 : w32 (7 * m 170 168 + 2) = 7 * m 170 168 + 2 := w32_of (by omega) (by omega)
  have f3 : w32 (7 * m 170 168 + 3) = 7 * m 170 168 + 3 := w32_of (by omega) (by omega)
  have f4 : w32 (7 * m 170 168 + 4) = 7 * m 170 168 + 4 := w32_of (by omega) (by omega)
  have f5 : w32 (7 * m 170 168 + 5) = 7 * m 170 168 + 5 := w32_of (by omega) (by omega)
  have f6 : w32 (7 * m 170 168 + 6) = 7 * m 170 168 + 6 := w32_of (by omega) (by omega)
  have g : w32 (m 170 168 + 1) = m 170 168 + 1 := w32_of (by omega) (by omega)
  unfold M_X12_says
  rw [prayers_eq]
  simp only [am_rf_all, am_ln_all, forall_eq, e1, e2, f0, f1, f2, f3, f4, f5, f6]
  have c0 : 0 ≤ 7 * m 170 168 + 0 ∧ 7 * m 170 168 + 0 < 5977 := by omega
  have c1 : 0 ≤ 7 * m 170 168 + 1 ∧ 7 * m 170 168 + 1 < 5977 := by omega
  have c2 : 0 ≤ 7 * m 170 168 + 2 ∧ 7 * m 170 168 + 2 < 5977 := by omega
  have c3 : 0 ≤ 7 * m 170 168 + 3 ∧ 7 * m 170 168 + 3 < 5977 := by omega
  have c4 : 0 ≤ 7 * m 170 168 + 4 ∧ 7 * m 170 168 + 4 < 5977 := by omega
  have c5 : 0 ≤ 7 * m 170 168 + 5 ∧ 7 * m 170 168 + 5 < 5977 := by omega
  have c6 : 0 ≤ 7 * m 170 168 + 6 ∧ 7 * m 170 168 + 6 < 5977 := by omega
  simp only [c0, c1, c2, c3, c4, c5, c6, true_and, and_self]
  simp only [show ((0 : Int) ≤ 168 ∧ (168 : Int) < 5977) ↔ True by decide, show ((0 : Int) ≤ 169 ∧ (169 : Int) < 5977) ↔ True by decide, true_and]
  rw [← row_self m 170]
  simp only [row_st, row_eq]
  have d1 : ∀ z0 z1 z2 z3, wrA (wrA (wrA (wrA (m 170) (7 * m 170 168 + 0) z0) (7 * m 170 168 + 1) z1) (7 * m 170 168 + 2) z2) (7 * m 170 168 + 3) z3 169 = m 170 169 := fun z0 z1 z2 z3 => by rw [wrA_ne _ (by omega), wrA_ne _ (by omega), wrA_ne _ (by omega), wrA_ne _ (by omega)]
  have d2 : ∀ z0 z1 z2 z3 z4 z5 z6, wrA (wrA (wrA (wrA (wrA (wrA (wrA (m 170) (7 * m 170 168 + 0) z0) (7 * m 170 168 + 1) z1) (7 * m 170 168 + 2) z2) (7 * m 170 168 + 3) z3) (7 * m 170 168 + 4) z4) (7 * m 170 168 + 5) z5) (7 * m 170 168 + 6) z6 168 = m 170 168 := fun z0 z1 z2 z3 z4 z5 z6 => by rw [wrA_ne _ (by omega), wrA_ne _ (by omega), wrA_ne _ (by omega), wrA_ne _ (by omega), wrA_ne _ (by omega), wrA_ne _ (by omega), wrA_ne _ (by omega)]
  simp only [d1, d2, g, row_self]
  rfl
end SAY
