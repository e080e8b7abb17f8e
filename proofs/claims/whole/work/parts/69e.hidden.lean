/-! HIDDEN: one PRAYER tried, on the one side. -/
section HIE
variable {m : am_M} {A : Int → Int}
/-- the foreseen ranks of those that wait -/
def ex_T (m : am_M) (A : Int → Int) (n : Int) : Prop := ∀ d q, 1 ≤ d → d ≤ n → 0 ≤ q → q < A 168 → A (7 * q + 5) = 0 → m 141 (d * 24 + q) = ab_fore A q (A 169 + d)
theorem cexplains {v1 n last : Int} (hw : wf_A 16 A) (hB : bk_P m 1 A) (hv : vg_P m 12 A) (h143 : m 143 1 = 7) (h1 : 0 ≤ v1 ∧ v1 < A 365 * 240) (hlast : last = hl_M A (A 367).toNat) (hn : 0 ≤ n ∧ n ≤ last ∧ A 169 + n ≤ 999 ∧ (n = last ∨ A 169 + n = 999)) (h141 : ex_T m A n) {K : am_KK}
    (hK : ∀ r m', fr_p m m' → ex_T m' A n → (r = 0 ∨ r = 1) → (r ≠ 0 ↔ hd_S A last.toNat 1 (ab_say A (v1 / 240) (v1 / 30 % 8) (v1 % 30 + 1) 1)) → K r m') : M_X11_explainsAnswers 0 v1 n K m := by
  have l6 := hw.2.2.1.1.2
  have h16 := hw.2.1.1
  have h5 := hw.1.2.2.1
  have h6 := hw.1.2.2.2.2.1
  have hf9 := hw.2.2.1.2.1
  have h09 := hl_09 (A := A) (A 367).toNat (fun i i0 i1 => (h6.2.2 i i0 (by omega)).1)
  have hle := hl_le A (A 367).toNat
  rw [← hlast] at h09 hle
  clear hlast
  unfold M_X11_explainsAnswers
  simp only [am_rf_all]
  rw [Int.tdiv_eq_ediv_of_nonneg (by omega), Int.tdiv_eq_ediv_of_nonneg (by omega), Int.tmod_eq_emod_of_nonneg (b := 30) (by omega)]
  rw [w32_of (z := v1 / 240) (by omega) (by omega), w32_of (z := v1 / 30) (by omega) (by omega), w32_of (z := v1 % 30) (by omega) (by omega), Int.tmod_eq_emod_of_nonneg (by omega), w32_of (z := v1 / 30 % 8) (by omega) (by omega), w32_of (z := v1 % 30 + 1) (by omega) (by omega)]
  have ha : 0 ≤ v1 / 240 ∧ v1 / 240 < A 365 := by omega
  have ht : 0 ≤ v1 / 30 % 8 ∧ v1 / 30 % 8 ≤ 7 := by omega
  have hl : 1 ≤ v1 % 30 + 1 ∧ v1 % 30 + 1 ≤ 99 := by omega
  clear h1
  generalize v1 / 240 = a at *
  generalize v1 / 30 % 8 = t at *
  generalize v1 % 30 + 1 = l at *
  refine vg_take (v := 142) (v2 := 12) rs_143 (by decide +kernel) (by decide +kernel) h143 hv (by omega) (by omega) (fun m2 v2 f2 => ?_)
  refine cutter (Or.inr rfl) v2 (by omega) (fun m3 v3 f3 => ?_)
  obtain ⟨s0, s1, s2, s3, s4, s5, s6, s7⟩ := ab_say_n (A := A) (a := a) (t := t) (l := l) (w := 1) (by omega)
  have wS : wf_A 24 (ab_say A a t l 1) := wf_say (wf_mono hw (by omega)) (by omega) (by omega) ha ht hl (by omega)
  have hiS : ∀ x, 169 ≤ x → ab_say A a t l 1 x = A x := fun x hx => ab_say_o (by omega) (by omega)
  have loS : ∀ x, x < 7 * A 168 → ab_say A a t l 1 x = A x := fun x hx => ab_say_o (by omega) (by omega)
  generalize ab_say A a t l 1 = S at *
  unfold M_X11_explainsAnswers_L1
  refine ⟨fun j v m1 => ∃ i X, v = i + 1 ∧ 0 ≤ i ∧ i ≤ 9 ∧ j = (9 - i).toNat ∧ fr_p m m1 ∧ ex_T m1 A n ∧ wf_A 24 X ∧ vg_P m1 142 X ∧ (∀ x, 168 ≤ x → x ≠ 169 → X x = S x) ∧ ((i ≤ n → X 169 = A 169 + i) ∧ (n ≤ i → X 169 = A 169 + n)) ∧ (∀ q j, 0 ≤ q → q < 24 → 0 ≤ j → j < 5 → X (7 * q + j) = S (7 * q + j)) ∧ (∀ q, 0 ≤ q → q < 24 → X (7 * q + 5) = 0 → S (7 * q + 5) = 0) ∧ (hd_S A last.toNat 1 S ↔ hd_S A (last - i).toNat (i + 1) X), ⟨_, 0, S, by omega, by omega, by omega, rfl, fun o k ho => by rw [f3 o k (by omega)]; exact f2 o k (by omega), fun d q d1 d2 q0 q1 q2 => by rw [f3 _ _ (by omega), f2 _ _ (by omega)]; exact h141 d q d1 d2 q0 q1 q2, wS, v3, fun _ _ _ => rfl, ⟨fun _ => by rw [hiS _ (by omega)]; omega, fun _ => by rw [hiS _ (by omega)]; omega⟩, fun _ _ _ _ _ _ => rfl, fun _ _ _ z => z, by rw [Int.sub_zero, Int.zero_add]⟩, ?_⟩
  rintro j v m1 ⟨i, X, rfl, i0, i9, rfl, f1, t1, w1, v1', a1, a2, a3, a4, e⟩
  have hB1 : bk_P m1 1 A := bk_of hB (fun o k _ _ _ => f1 o k (by omega)) (fun _ _ => rfl) l6
  have hBX : bk_P m1 1 X := bk_of hB1 (fun _ _ _ _ _ => rfl) (fun x hx => by rw [a1 x (by omega) (by omega), hiS x (by omega)]) l6
  have x8 : X 168 = A 168 + 1 := by rw [a1 _ (by omega) (by omega)]; exact s0
  unfold M_X11_explainsAnswers_L1B
  simp only [am_rf_all]
  refine ⟨fun q => ?_, fun q => ⟨fun c => ?_, fun c => ?_⟩⟩
  · rw [show (last - i).toNat = 0 by omega] at e
    exact hK 1 m1 f1 t1 (Or.inr rfl) ⟨fun _ => e.mpr trivial, fun _ => by omega⟩
  · -- no DAWN more
    have hgo : (hd_S A last.toNat 1 S ↔ hd_T A (i + 1) 0 ∧ hd_S A (last - (i + 1)).toNat (i + 1 + 1) X) := by
      by_cases cl : i < last
      · rw [e, show (last - i).toNat = (last - (i + 1)).toNat + 1 by omega, hd_S]
        have x9 : 999 ≤ X 169 := by have := a2.2 (by omega); omega
        unfold hd_B hd_N
        rw [if_pos x9, if_pos x9]
      · rw [e, show (last - i).toNat = 0 by omega, show (last - (i + 1)).toNat = 0 by omega]
        exact ⟨fun _ => ⟨fun x x0 x1 hx => by have := hle x x0 (by omega); omega, trivial⟩, fun _ => trivial⟩
    unfold M_X11_explainsAnswers_J2
    simp only [am_rf_all]
    refine canswers hw.1 hB1 (fun hT => ⟨fun _ => ?_, fun z => absurd (by decide) z⟩) (fun hT => ⟨fun z => absurd rfl z, fun _ => hK 0 m1 f1 t1 (Or.inl rfl) ⟨fun z => absurd rfl z, fun z => absurd (hgo.mp z).1 hT⟩⟩)
    intro v hv
    rw [w32_of (by omega) (by omega)] at hv
    refine ⟨_, ?_, i + 1, X, hv, by omega, by omega, rfl, f1, t1, w1, v1', a1, ⟨fun z => absurd z (by omega), fun _ => a2.2 (by omega)⟩, a3, a4, hgo.trans ⟨fun z => z.2, fun z => ⟨hT, z⟩⟩⟩
    omega
  · -- a DAWN
    have x9 : X 169 = A 169 + i := a2.1 (by omega)
    have hday : X 169 < 999 := by omega
    have xd := w1.2.1.2.1
    rw [show (last - i).toNat = (last - (i + 1)).toNat + 1 by omega, hd_S] at e
    unfold hd_B hd_N at e
    rw [if_neg (by omega), if_neg (by omega)] at e
    have hear : ∀ m4 : am_M, fr_p m m4 → ex_T m4 A n → vg_P m4 142 X → (X (7 * A 168 + 5) = 0 → m4 141 ((i + 1) * 24 + A 168) = ab_fore X (A 168) (X 169 + 1)) → M_X11_explainsAnswers_J1 0 n (A 168) (i + 1) (fun v' m' => ∃ j', j' < (9 - i).toNat ∧ ∃ i X, v' = i + 1 ∧ 0 ≤ i ∧ i ≤ 9 ∧ j' = (9 - i).toNat ∧ fr_p m m' ∧ ex_T m' A n ∧ wf_A 24 X ∧ vg_P m' 142 X ∧ (∀ x, 168 ≤ x → x ≠ 169 → X x = S x) ∧ ((i ≤ n → X 169 = A 169 + i) ∧ (n ≤ i → X 169 = A 169 + n)) ∧ (∀ q j, 0 ≤ q → q < 24 → 0 ≤ j → j < 5 → X (7 * q + j) = S (7 * q + j)) ∧ (∀ q, 0 ≤ q → q < 24 → X (7 * q + 5) = 0 → S (7 * q + 5) = 0) ∧ (hd_S A last.toNat 1 S ↔ hd_S A (last - i).toNat (i + 1) X)) K m4 := by
      intro m4 f4 t4 v4 r4
      have hB4 : bk_P m4 1 X := bk_of hB (fun o k _ _ _ => f4 o k (by omega)) (fun x hx => by rw [a1 x (by omega) (by omega), hiS x (by omega)]) l6
      have hc : ab_dawnR X (fun q => m4 141 ((i + 1) * 24 + q)) = ab_dawn X := ab_hear_congr _ _ (ab_day_wf w1 (by omega) hday) (fun q q0 q1 hz => by
        simp only [] at q1 hz
        rw [wrA_ne _ (by omega), x8] at q1
        rw [wrA_ne _ (by omega)] at hz
        show m4 141 ((i + 1) * 24 + q) = ab_fore X q (X 169 + 1)
        by_cases cq : q = A 168
        · subst cq; exact r4 hz
        · have hzS := a4 q q0 (by omega) hz
          rw [loS _ (by omega)] at hzS
          rw [t4 (i + 1) q (by omega) (by omega) q0 (by omega) hzS, x9, show A 169 + (i + 1) = A 169 + i + 1 by omega]
          refine (fore_of (fun x hx => by rw [a1 x (by omega) (by omega), hiS x (by omega)]) (fun j j0 j1 => by rw [a3 q j q0 (by omega) j0 j1]; exact loS _ (by omega)) ?_ (by omega)).2.2.2.symm
          rw [Int.add_zero]
          exact (hw.2.1.2.2 q q0 (by omega)).1.1)
      unfold M_X11_explainsAnswers_J1
      simp only [am_rf_all]
      refine chear (Or.inr rfl) w1 hday hB4 v4 (by omega) ?_
      rw [hc]
      intro m5 f5 v5 _ b5
      obtain ⟨d1, d2, d3, d4, d5⟩ := dawn_facts w1 hday
      have g5 : fr_p m m5 := fun o k ho => by rw [f5 o k (by omega)]; exact f4 o k ho
      have t5 : ex_T m5 A n := fun d q d1 d2 q0 q1 q2 => by rw [f5 _ _ (by omega)]; exact t4 d q d1 d2 q0 q1 q2
      simp only [forall_eq, b5]
      unfold M_X11_explainsAnswers_J2
      simp only [am_rf_all]
      refine canswers hw.1 (bk_of hB (fun o k _ _ _ => g5 o k (by omega)) (fun _ _ => rfl) l6) (fun hT => ⟨fun _ => ?_, fun z => absurd (by decide) z⟩) (fun hT => ⟨fun z => absurd rfl z, fun _ => hK 0 m5 g5 t5 (Or.inl rfl) ⟨fun z => absurd rfl z, fun z => absurd (e.mp z).1 hT⟩⟩)
      intro v hv
      rw [w32_of (by omega) (by omega)] at hv
      refine ⟨_, ?_, i + 1, (ab_dawn X).2.2.2, hv, by omega, by omega, rfl, g5, t5, d1, v5, fun x hx h9 => by rw [d2 x hx h9]; exact a1 x hx h9, ⟨fun _ => by rw [d3]; omega, fun _ => by rw [d3]; omega⟩, fun q j q0 q1 j0 j1 => by rw [d4 q j q0 q1 j0 j1]; exact a3 q j q0 q1 j0 j1, fun q q0 q1 z => a4 q q0 q1 ((d5 q q0 q1).2 z), e.trans ⟨fun z => z.2, fun z => ⟨hT, z⟩⟩⟩
      omega
    rw [vg_waits (Or.inr rfl) v1' (by omega) (by omega)]
    by_cases cw : X (7 * A 168 + 5) = 0
    · rw [if_pos cw]
      refine ⟨fun z => absurd z (by decide), fun _ => ?_⟩
      rw [v1'.2, w32_of (by omega) (by omega)]
      refine cforesee (Or.inr rfl) w1 hBX v1' (by omega) (by omega) (by omega) (by omega) (fun m4 f4 => ?_)
      refine hear m4 (fun o k ho => by rw [f4 o k (by omega), am_st_ne _ (by omega)]; exact f1 o k ho) (fun d q d1 d2 q0 q1 q2 => by rw [f4 _ _ (by omega), am_st_ne _ (by omega)]; exact t1 d q d1 d2 q0 q1 q2) (vg_of v1' (fun o k _ _ => by rw [f4 _ _ (by omega), am_st_ne _ (by omega)]) (fun _ _ => rfl)) (fun _ => by rw [f4 _ _ (by omega), am_st_same])
    · rw [if_neg cw]
      exact ⟨fun _ => hear m1 f1 t1 v1' (fun z => absurd z cw), fun z => absurd rfl z⟩
end HIE
