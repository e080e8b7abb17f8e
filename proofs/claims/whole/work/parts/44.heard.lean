/-! A DAWN keeps the row sound; the Vigil's way through it. -/
theorem am_WA_of {A A' : Int → Int} (h : am_WA A) (e : ∀ x, 170 ≤ x → A' x = A x) : am_WA A' := by
  obtain ⟨⟨a1, a2, a3⟩, ⟨b1, b2, b3⟩, ⟨c1, c2, c3⟩, ⟨d1, d2, d3⟩, ⟨f1, f2, f3⟩, g, k, l1, l2, l3, l4, l5⟩ := h
  refine ⟨⟨?_, ?_, fun i i0 i1 => ?_⟩, ⟨?_, ?_, fun i i0 i1 => ?_⟩, ⟨?_, ?_, fun i i0 i1 => ?_⟩, ⟨?_, ?_, fun i i0 i1 => ?_⟩, ⟨?_, ?_, fun i i0 i1 => ?_⟩, fun i j i0 i1 j0 j1 => ?_, fun i i0 i1 => ?_, ?_, ?_, ?_, ?_, ?_⟩
  · rw [e _ (by omega)]; exact a1
  · rw [e _ (by omega)]; exact a2
  · rw [e 363 (by omega)] at i1
    rw [e _ (by omega)]; exact a3 i i0 i1
  · rw [e _ (by omega)]; exact b1
  · rw [e _ (by omega)]; exact b2
  · rw [e 364 (by omega)] at i1
    simp (disch := omega) only [e]
    exact b3 i i0 i1
  · rw [e _ (by omega)]; exact c1
  · rw [e _ (by omega)]; exact c2
  · rw [e 365 (by omega)] at i1
    rw [e _ (by omega)]; exact c3 i i0 i1
  · rw [e _ (by omega)]; exact d1
  · rw [e _ (by omega)]; exact d2
  · rw [e 366 (by omega)] at i1
    simp (disch := omega) only [e]
    exact d3 i i0 i1
  · rw [e _ (by omega)]; exact f1
  · rw [e _ (by omega)]; exact f2
  · rw [e 367 (by omega)] at i1
    simp (disch := omega) only [e]
    exact f3 i i0 i1
  · simp (disch := omega) only [e]
    exact g i j i0 i1 j0 j1
  · rw [e _ (by omega)]; exact k i i0 i1
  · rw [e _ (by omega)]; exact l1
  · rw [e _ (by omega)]; exact l2
  · rw [e _ (by omega)]; exact l3
  · rw [e _ (by omega)]; exact l4
  · rw [e _ (by omega), e _ (by omega)]; exact l5
theorem lw_W_of {A A' : Int → Int} (h : lw_W A) (e : ∀ x, 170 ≤ x → A' x = A x) : lw_W A' := by
  obtain ⟨h1, h2, h3⟩ := h
  refine ⟨by rw [e _ (by omega)]; exact h1, by rw [e _ (by omega), e _ (by omega)]; exact h2, fun t t0 t1 => ?_⟩
  rw [e _ (by omega)] at t1
  obtain ⟨g1, g2, cs, g3⟩ := h3 t t0 t1
  rw [e _ (by omega)]
  exact ⟨g1, fun x x0 x1 => by rw [e _ (by omega)]; exact g2 x x0 x1, cs, by rw [lw_cs_of e t0]; exact g3⟩
theorem wf_of {n : Int} {A A' : Int → Int} (h : wf_A n A) (e : ∀ x, 170 ≤ x → A' x = A x) (hv : am_WV n (A 365) A') (hs : ab_sm A') : wf_A n A' := ⟨am_WA_of h.1 e, by rw [e 365 (by omega)]; exact hv, lw_W_of h.2.2.1 e, hs⟩
/-- as a DAWN leaves the row: what lies behind, what was asked for of PRAYERS -/
def ab_in (A A' : Int → Int) : Prop := (∀ x, 168 ≤ x → A' x = A x) ∧ ∀ p j, 0 ≤ p → 0 ≤ j → j < 5 → A' (7 * p + j) = A (7 * p + j)
theorem ab_in_refl (A : Int → Int) : ab_in A A := ⟨fun _ _ => rfl, fun _ _ _ _ _ => rfl⟩
theorem ab_in_t {A B C : Int → Int} (h : ab_in A B) (g : ab_in B C) : ab_in A C := ⟨fun x hx => by rw [g.1 x hx, h.1 x hx], fun p j h0 h1 h2 => by rw [g.2 p j h0 h1 h2, h.2 p j h0 h1 h2]⟩
theorem ab_one_in {A : Int → Int} {p : Int} (h0 : 0 ≤ p) (h1 : p < 24) : ab_in A (ab_one A p) := by
  refine ⟨fun x hx => ?_, fun q j q0 j0 j1 => ?_⟩
  · unfold ab_one; rw [wrA_ne _ (by omega), wrA_ne _ (by omega)]
  · unfold ab_one; rw [wrA_ne _ (by omega), wrA_ne _ (by omega)]
theorem ab_one_wf {n : Int} {A : Int → Int} {p : Int} (hn : n ≤ 24) (hw : wf_A n A) (h0 : 0 ≤ p) (h1 : p < A 168) : wf_A n (ab_one A p) := by
  have h24 := hw.2.1.1
  have hday := hw.2.1.2.1
  have hi := ab_one_in (A := A) h0 (show p < 24 by omega)
  have hval : ∀ x, ab_one A p x = if x = 7 * p + 6 then A 169 else if x = 7 * p + 5 then (if ab_denied A p = true then 2 else 1) else A x := fun x => rfl
  refine wf_of hw (fun x hx => hi.1 x (by omega)) ⟨by rw [hi.1 _ (by omega)]; exact hw.2.1.1, by rw [hi.1 _ (by omega)]; exact hday, fun i i0 i1 => ?_⟩ (fun x x0 x1 => ?_)
  · rw [hi.1 _ (by omega)] at i1
    obtain ⟨q0, q1, q2, q3, q4, q5, q6⟩ := hw.2.1.2.2 i i0 i1
    have e0 := hi.2 i 0 i0 (by omega) (by omega)
    rw [Int.add_zero] at e0
    rw [e0, hi.2 i 1 i0 (by omega) (by omega), hi.2 i 2 i0 (by omega) (by omega), hi.2 i 3 i0 (by omega) (by omega), hi.2 i 4 i0 (by omega) (by omega), hval (7 * i + 5), hval (7 * i + 6)]
    refine ⟨q0, q1, q2, q3, q4, ?_, ?_⟩
    · rw [if_neg (by omega)]
      split
      · split <;> omega
      · exact q5
    · split
      · omega
      · rw [if_neg (by omega)]; exact q6
  · have := hw.2.2.2 x x0 x1
    rw [hval]
    split
    · omega
    · split
      · split <;> omega
      · exact this
theorem ab_hear_wf {n : Int} (hn : n ≤ 24) {R : Int → Int} : ∀ (e : Nat) (s : ab_H), wf_A n s.2.2.2 → wf_A n (ab_hear R e s).2.2.2 ∧ ab_in s.2.2.2 (ab_hear R e s).2.2.2 := by
  intro e
  induction e with
  | zero => intro s hw; exact ⟨hw, ab_in_refl _⟩
  | succ e ih =>
    intro s hw
    unfold ab_hear
    by_cases c : (ab_low s.2.2.2 R (s.2.2.2 168).toNat).1 = -1
    · rw [if_pos c]; exact ⟨hw, ab_in_refl _⟩
    · rw [if_neg c]
      have hl := ab_low_ge (A := s.2.2.2) (R := R) (s.2.2.2 168).toNat
      have h24 := hw.2.1.1
      have hp : 0 ≤ (ab_low s.2.2.2 R (s.2.2.2 168).toNat).1 ∧ (ab_low s.2.2.2 R (s.2.2.2 168).toNat).1 < s.2.2.2 168 := by omega
      obtain ⟨g1, g2⟩ := ih (_, _, _, ab_one s.2.2.2 (ab_low s.2.2.2 R (s.2.2.2 168).toNat).1) (ab_one_wf hn hw hp.1 hp.2)
      exact ⟨g1, ab_in_t (ab_one_in hp.1 (by omega)) g2⟩
/-- the row on the next DAY -/
theorem ab_day_wf {n : Int} {A : Int → Int} (hw : wf_A n A) (hn : n ≤ 24) (hd : A 169 < 999) : wf_A n (wrA A 169 (A 169 + 1)) := by
  have h24 := hw.2.1.1
  have hday := hw.2.1.2.1
  refine wf_of hw (fun x hx => wrA_ne _ (by omega)) ⟨by rw [wrA_ne _ (by omega)]; exact hw.2.1.1, by rw [wrA_same]; omega, fun i i0 i1 => ?_⟩ (fun x x0 x1 => ?_)
  · rw [wrA_ne _ (by omega)] at i1
    rw [wrA_ne _ (by omega), wrA_ne _ (by omega), wrA_ne _ (by omega), wrA_ne _ (by omega), wrA_ne _ (by omega), wrA_ne _ (by omega), wrA_ne _ (by omega)]
    exact hw.2.1.2.2 i i0 i1
  · by_cases c : x = 169
    · subst c; rw [wrA_same]; omega
    · rw [wrA_ne _ c]; exact hw.2.2.2 x x0 x1
theorem ab_dawnR_wf {n : Int} {A R : Int → Int} (hw : wf_A n A) (hn : n ≤ 24) (hd : A 169 < 999) : wf_A n (ab_dawnR A R).2.2.2 ∧ ab_in (wrA A 169 (A 169 + 1)) (ab_dawnR A R).2.2.2 := ab_hear_wf hn _ (_, _, _, wrA A 169 (A 169 + 1)) (ab_day_wf hw hn hd)
section HRD
variable {m : am_M} {A : Int → Int} {v dawn : Int}
theorem chear (hvv : vg_v v) (hw : wf_A 24 A) (hd : A 169 < 999) (hB : bk_P m 1 A) (hv : vg_P m v A) (hdn : 0 ≤ dawn ∧ dawn ≤ 20) {K : am_KK}
    (hK : ∀ m', (∀ o k, ¬ (o = v + 2 ∨ (o = v ∧ k = 1) ∨ (o = 140 ∧ (k = 2 ∨ k = 3))) → m' o k = m o k) → vg_P m' v (ab_dawnR A fun q => m 141 (dawn * 24 + q)).2.2.2 → m' 140 2 = (ab_dawnR A fun q => m 141 (dawn * 24 + q)).2.2.1 → m' 140 3 = (ab_dawnR A fun q => m 141 (dawn * 24 + q)).2.1 → K (ab_dawnR A fun q => m 141 (dawn * 24 + q)).1 m') : M_X2_hear 140 1 v dawn K m := by
  have h6 := hw.2.2.1.1.2
  have h24 := hw.2.1.1
  have hday := hw.2.1.2.1
  have hears := hw.1.2.2.2.2.2.2.2.1
  have hvx : v = 12 ∨ v = 142 := hvv
  unfold M_X2_hear
  simp only [forall_eq]
  rw [am_st_ne (k' := 1) (o' := v) _ (by omega), am_st_ne (k' := 1) (o' := v) _ (by omega), hv.2, w32_of (z := A 169 + 1) (by omega) (by omega)]
  have hw1 := ab_day_wf hw (by omega) hd
  have hv1 : vg_P (am_st (am_st (am_st m 140 2 0) 140 3 0) v 1 (A 169 + 1)) v (wrA A 169 (A 169 + 1)) := by
    refine ⟨rf_of' hv.1 (fun o k ho => ?_) (fun x hx => wrA_ne _ (by omega)), by rw [am_st_same, wrA_same]⟩
    rw [am_st_ne _ (by omega), am_st_ne _ (by omega), am_st_ne _ (by omega)]
  unfold M_X2_hear_L1
  refine ⟨fun j g i m1 => 0 ≤ i ∧ i ≤ A 360 ∧ j = (A 360 - i).toNat ∧ ∃ s : ab_H, ab_hear (fun q => m 141 (dawn * 24 + q)) (A 360 - i).toNat s = ab_dawnR A (fun q => m 141 (dawn * 24 + q)) ∧ wf_A 24 s.2.2.2 ∧ ab_in (wrA A 169 (A 169 + 1)) s.2.2.2 ∧ vg_P m1 v s.2.2.2 ∧ m1 140 2 = s.2.2.1 ∧ m1 140 3 = s.2.1 ∧ g = s.1 ∧ (0 ≤ g ∧ g ≤ i) ∧ ∀ o k, ¬ (o = v + 2 ∨ (o = v ∧ k = 1) ∨ (o = 140 ∧ (k = 2 ∨ k = 3))) → m1 o k = m o k, ⟨_, by omega, by omega, rfl, (0, 0, 0, wrA A 169 (A 169 + 1)), by rw [Int.sub_zero]; rfl, hw1, ab_in_refl _, hv1, ?_, ?_, rfl, by omega, fun o k h => ?_⟩, ?_⟩
  · rw [am_st_ne _ (by omega), am_st_ne _ (by omega), am_st_same]
  · rw [am_st_ne _ (by omega), am_st_same]
  · rw [am_st_ne _ (by omega), am_st_ne _ (by omega), am_st_ne _ (by omega)]
  rintro j g i m1 ⟨i0, i1, rfl, s, hs, hsw, hsi, hvs, hs2, hs3, rfl, hgb, hf⟩
  have hB1 : bk_P m1 1 s.2.2.2 := bk_of hB (fun o k b1 b2 b3 => hf o k (by omega)) (fun x hx => by rw [hsi.1 x (by omega), wrA_ne _ (by omega)]) h6
  have h360 : s.2.2.2 360 = A 360 := by rw [hsi.1 _ (by omega), wrA_ne _ (by omega)]
  have h168 : s.2.2.2 168 = A 168 := by rw [hsi.1 _ (by omega), wrA_ne _ (by omega)]
  unfold M_X2_hear_L1B
  rw [term_1 hB1, h360]
  refine ⟨fun hi => ?_, fun hi => ?_⟩
  · have : i = A 360 := by omega
    subst this
    rw [Int.sub_self] at hs
    have hs' : s = ab_dawnR A (fun q => m 141 (dawn * 24 + q)) := hs
    rw [hs'] at hvs hs2 hs3 ⊢
    exact hK m1 hf hvs hs2 hs3
  · have hR : ∀ q, m1 141 (dawn * 24 + q) = m 141 (dawn * 24 + q) := fun q => hf _ _ (by omega)
    refine clowest hvv hsw hvs hdn ?_
    simp only [hR]
    rw [show (A 360 - i).toNat = (A 360 - (i + 1)).toNat + 1 by omega, ab_hear] at hs
    have hl := ab_low_ge (A := s.2.2.2) (R := fun q => m 141 (dawn * 24 + q)) (s.2.2.2 168).toNat
    generalize hp : (ab_low s.2.2.2 (fun q => m 141 (dawn * 24 + q)) (s.2.2.2 168).toNat).1 = p at hs hl ⊢
    by_cases c : p = -1
    · rw [if_pos c] at hs
      subst hs
      refine ⟨fun h => absurd c h, fun _ => hK m1 hf hvs hs2 hs3⟩
    · rw [if_neg c] at hs
      refine ⟨fun _ => ?_, fun h => absurd (by omega) h⟩
      have hp0 : 0 ≤ p ∧ p < s.2.2.2 168 := by omega
      refine ckeptOff hvv hsw hB1 hvs hp0.1 hp0.2 ?_
      have hgo : ∀ st, st = (if ab_denied s.2.2.2 p = true then 2 else 1) → M_X2_hear_J1 140 1 v dawn s.1 i p (if ab_denied s.2.2.2 p = true then 1 else 0) (am_rfv v 0) p 5 st (fun v4' v5' m' => ∃ j', j' < (A 360 - i).toNat ∧ 0 ≤ v5' ∧ v5' ≤ A 360 ∧ j' = (A 360 - v5').toNat ∧ ∃ s : ab_H, ab_hear (fun q => m 141 (dawn * 24 + q)) (A 360 - v5').toNat s = ab_dawnR A (fun q => m 141 (dawn * 24 + q)) ∧ wf_A 24 s.2.2.2 ∧ ab_in (wrA A 169 (A 169 + 1)) s.2.2.2 ∧ vg_P m' v s.2.2.2 ∧ m' 140 2 = s.2.2.1 ∧ m' 140 3 = s.2.1 ∧ v4' = s.1 ∧ (0 ≤ v4' ∧ v4' ≤ v5') ∧ ∀ o k, ¬ (o = v + 2 ∨ (o = v ∧ k = 1) ∨ (o = 140 ∧ (k = 2 ∨ k = 3))) → m' o k = m o k) K m1 := by
        intro st hst
        have hrk := hvs.1.1
        unfold M_X2_hear_J1 M_X2_hear_J2
        rw [vg_rf hvv, set_eq hrk, hvs.1.2.1, if_pos (by omega)]
        have hrk2 : rk (am_st m1 (v + 1 + 1) (p * 7 + 5) st) (v + 1) 7 168 := rk_of hrk (am_st_ne _ (by omega)) (am_st_ne _ (by omega))
        rw [set_eq hrk2, am_st_ne (o' := v + 1) (k' := 2) _ (by omega), hvs.1.2.1, if_pos (by omega), am_st_ne (o' := v) (k' := 1) _ (by omega), hvs.2]
        simp only [forall_eq]
        rw [am_st_ne (o' := 140) (k' := 2) _ (by omega), am_st_ne (o' := 140) (k' := 2) _ (by omega), hs2]
        generalize hm2 : am_st (am_st (am_st m1 (v + 1 + 1) (p * 7 + 5) st) (v + 1 + 1) (p * 7 + 6) (s.2.2.2 169)) 140 2 (am_or s.2.2.1 (am_shl 1 p)) = m2
        have hf2 : ∀ o k, ¬ (o = v + 2 ∨ (o = v ∧ k = 1) ∨ (o = 140 ∧ (k = 2 ∨ k = 3))) → m2 o k = m o k := fun o k h => by
          rw [← hm2, am_st_ne _ (by omega), am_st_ne _ (by omega), am_st_ne _ (by omega)]; exact hf o k h
        have hv2 : vg_P m2 v (ab_one s.2.2.2 p) := by
          have hin := ab_one_in (A := s.2.2.2) hp0.1 (show p < 24 by omega)
          refine ⟨⟨rk_of hrk ?_ ?_, ?_, fun x x0 x1 => ?_⟩, ?_⟩
          · rw [← hm2, am_st_ne _ (by omega), am_st_ne _ (by omega), am_st_ne _ (by omega)]
          · rw [← hm2, am_st_ne _ (by omega), am_st_ne _ (by omega), am_st_ne _ (by omega)]
          · rw [← hm2, am_st_ne _ (by omega), am_st_ne _ (by omega), am_st_ne _ (by omega), hin.1 _ (by omega)]; exact hvs.1.2.1
          · rw [hin.1 _ (by omega)] at x1
            have hx := hvs.1.2.2 x x0 x1
            rw [← hm2, am_st_ne _ (by omega), Int.zero_add]
            rw [Int.zero_add] at hx
            unfold ab_one
            by_cases c6 : x = 7 * p + 6
            · rw [c6, show p * 7 + 6 = 7 * p + 6 by omega, am_st_same, wrA_same]
            · rw [wrA_ne _ c6, am_st_ne _ (by omega)]
              by_cases c5 : x = 7 * p + 5
              · rw [c5, show p * 7 + 5 = 7 * p + 5 by omega, am_st_same, wrA_same, hst]
              · rw [wrA_ne _ c5, am_st_ne _ (by omega)]; exact hx
          · rw [← hm2, am_st_ne _ (by omega), am_st_ne _ (by omega), am_st_ne _ (by omega), hin.1 _ (by omega)]; exact hvs.2
        have hw2 := ab_one_wf (by omega) hsw hp0.1 hp0.2
        have hi2 := ab_in_t hsi (ab_one_in (A := s.2.2.2) hp0.1 (show p < 24 by omega))
        have m22 : m2 140 2 = am_or s.2.2.1 (am_shl 1 p) := by rw [← hm2, am_st_same]
        have m23 : m2 140 3 = s.2.1 := by rw [← hm2, am_st_ne _ (by omega), am_st_ne _ (by omega), am_st_ne _ (by omega)]; exact hs3
        rw [w32_of (z := i + 1) (by omega) (by omega)]
        by_cases cd : ab_denied s.2.2.2 p = true
        · rw [if_pos cd] at hs
          simp only [if_pos cd] at hs ⊢
          refine ⟨fun _ => ⟨_, by omega, by omega, by omega, rfl, _, hs, hw2, hi2, hv2, m22, m23, rfl, by omega, hf2⟩, fun h => absurd (by decide) h⟩
        · simp only [if_neg cd] at hs ⊢
          refine ⟨fun h => absurd rfl h, fun _ => ?_⟩
          have hth : A 168 ≤ 24 := h24.2
          rw [vg_get hv2 hp0.1 (by rw [(ab_one_in (A := s.2.2.2) hp0.1 (show p < 24 by omega)).1 _ (by omega)]; omega) (by omega), (ab_one_in (A := s.2.2.2) hp0.1 (show p < 24 by omega)).2 p 1 hp0.1 (by omega) (by omega), m23, w32_of (z := s.1 + 1) (by omega) (by omega)]
          refine ⟨_, by omega, by omega, by omega, rfl, _, hs, hw2, hi2, ?_, ?_, by rw [am_st_same], rfl, by omega, fun o k h => ?_⟩
          · exact vg_of hv2 (fun o k b1 b2 => am_st_ne _ (by omega)) (fun _ _ => rfl)
          · rw [am_st_ne _ (by omega)]; exact m22
          · rw [am_st_ne _ (by omega)]; exact hf2 o k h
      generalize (fun (v4' v5' : Int) (m' : am_M) => ∃ j', j' < (A 360 - i).toNat ∧ 0 ≤ v5' ∧ v5' ≤ A 360 ∧ j' = (A 360 - v5').toNat ∧ ∃ s : ab_H, ab_hear (fun q => m 141 (dawn * 24 + q)) (A 360 - v5').toNat s = ab_dawnR A (fun q => m 141 (dawn * 24 + q)) ∧ wf_A 24 s.2.2.2 ∧ ab_in (wrA A 169 (A 169 + 1)) s.2.2.2 ∧ vg_P m' v s.2.2.2 ∧ m' 140 2 = s.2.2.1 ∧ m' 140 3 = s.2.1 ∧ v4' = s.1 ∧ (0 ≤ v4' ∧ v4' ≤ v5') ∧ ∀ o k, ¬ (o = v + 2 ∨ (o = v ∧ k = 1) ∨ (o = 140 ∧ (k = 2 ∨ k = 3))) → m' o k = m o k) = C at hgo ⊢
      by_cases cd : ab_denied s.2.2.2 p = true
      · simp only [if_pos cd] at hgo ⊢
        exact ⟨fun h => absurd h (by decide), fun _ => hgo 2 rfl⟩
      · simp only [if_neg cd] at hgo ⊢
        exact ⟨fun _ => hgo 1 rfl, fun h => absurd trivial h⟩
end HRD
