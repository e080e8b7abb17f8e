/-! CLASHES. -/
theorem j_clash (a b v : Int) : Joint (M_X11_clash 0 a b v) (M_X12_clash 168 a b v) := by
  intro m h K hK
  have hb := h.1.1
  have hf := h.1.2.2.1
  have hB6 : ∀ i j, 0 ≤ i → i < 8 → 0 ≤ j → j < 8 → (bitI (m 15 i) j ↔ m 170 (244 + 8 * i + j) = 1) := hb.2.2.2.2.2.1
  have hB7 : ∀ i, 0 ≤ i → i < 8 → 0 ≤ m 15 i ∧ m 15 i < 256 ∧ m 16 i = m 170 (308 + i) := hb.2.2.2.2.2.2.1
  have hcl := hf.1.2.2.2.2.2.1
  unfold M_X11_clash M_X12_clash M_X11_clash_J1 M_X12_clash_J1 M_X12_isThing M_X0_setClash
  simp only [isThing_eq, within_eq, lies_eq, am_rf_all, am_ln_all, b01, b01', refuse_eq (Or.inl rfl), refuses_eq (Or.inl rfl), fine_eq, good_eq, forall_eq]
  by_cases c1 : 0 ≤ a ∧ a ≤ 7
  case neg =>
    simp [c1]
    exact refuses_end (Or.inl rfl) h hK
  by_cases c2 : 0 ≤ b ∧ b ≤ 7
  case neg =>
    simp [c1, c2]
    exact refuses_end (Or.inl rfl) h hK
  by_cases c3 : a = b
  case pos =>
    subst c3
    simp [c1]
    exact refuses_end (Or.inl rfl) h hK
  by_cases c4 : 0 ≤ v ∧ v ≤ 1
  case neg =>
    simp [c1, c2, c3, c4]
    exact refuses_end (Or.inl rfl) h hK
  have ka := hB7 a (by omega) (by omega)
  have kb := hB7 b (by omega) (by omega)
  have ga := hcl a b (by omega) (by omega) (by omega) (by omega)
  haveI : Decidable (bitI (m 15 a) b) := decidable_of_iff _ (hB6 a b (by omega) (by omega) (by omega) (by omega)).symm
  have bt : am_and (am_shr (m 15 a) b) 1 = m 170 (244 + 8 * a + b) := by
    rw [bit_test (by omega) (by omega)]
    by_cases q : bitI (m 15 a) b
    · rw [if_pos q]; exact ((hB6 a b (by omega) (by omega) (by omega) (by omega)).mp q).symm
    · rw [if_neg q]
      have : m 170 (244 + 8 * a + b) ≠ 1 := fun z => q ((hB6 a b (by omega) (by omega) (by omega) (by omega)).mpr z)
      omega
  have w1 : w32 (8 * a) = 8 * a := w32_of (by omega) (by omega)
  have w2 : w32 (8 * b) = 8 * b := w32_of (by omega) (by omega)
  have w3 : w32 (244 + 8 * a) = 244 + 8 * a := w32_of (by omega) (by omega)
  have w4 : w32 (244 + 8 * b) = 244 + 8 * b := w32_of (by omega) (by omega)
  have w5 : w32 (244 + 8 * a + b) = 244 + 8 * a + b := w32_of (by omega) (by omega)
  have w6 : w32 (244 + 8 * b + a) = 244 + 8 * b + a := w32_of (by omega) (by omega)
  have u1 : 0 ≤ 244 + 8 * a + b ∧ 244 + 8 * a + b < 5977 := by omega
  have u2 : 0 ≤ 244 + 8 * b + a ∧ 244 + 8 * b + a < 5977 := by omega
  have u3 : 0 ≤ a ∧ a < 8 := by omega
  have u4 : 0 ≤ b ∧ b < 8 := by omega
  -- what both sides leave
  have key : ∀ m1 : am_M, (∀ o k, ¬ (o = 15 ∧ (k = a ∨ k = b)) → m1 o k = m o k) → (∀ i j, 0 ≤ i → i < 8 → 0 ≤ j → j < 8 → (bitI (m1 15 i) j ↔ (wrA (wrA (m 170) (244 + 8 * a + b) v) (244 + 8 * b + a) v) (244 + 8 * i + j) = 1)) → (∀ i, 0 ≤ i → i < 8 → 0 ≤ m1 15 i ∧ m1 15 i < 256) → K (m 170 (244 + 8 * a + b)) (m 170 (244 + 8 * a + b)) (am_st (am_st (am_st (am_st m1 0 17 0) 170 (244 + 8 * a + b) v) 170 (244 + 8 * b + a) v) 168 0 0) := by
    intro m1 hm1 hbit hbd
    refine hK _ _ (rel_intro (fun m' hm => ?_))
    have e170 : m1 170 = m 170 := funext fun x => hm1 _ _ (by omega)
    have er : m' 170 = wrA (wrA (m 170) (244 + 8 * a + b) v) (244 + 8 * b + a) v := by rw [hm]; simp (disch := omega) only [st_row, st_rne, e170]
    have e : ∀ o k, ¬ ((o = 15 ∧ (k = a ∨ k = b)) ∨ (o = 0 ∧ k = 17) ∨ o = 170 ∨ (o = 168 ∧ k = 0)) → m' o k = m o k := fun o k ho => by rw [hm, am_st_ne _ (by omega), am_st_ne _ (by omega), am_st_ne _ (by omega), am_st_ne _ (by omega), hm1 _ _ (by omega)]
    have e15 : ∀ k, m' 15 k = m1 15 k := fun k => by rw [hm, am_st_ne _ (by omega), am_st_ne _ (by omega), am_st_ne _ (by omega), am_st_ne _ (by omega)]
    have hval : ∀ x, x ≠ 244 + 8 * a + b ∧ x ≠ 244 + 8 * b + a → m' 170 x = m 170 x := fun x hx => by rw [er, wrA_ne _ hx.2, wrA_ne _ hx.1]
    refine Rel_book h (fun o k h1 h2 h3 h4 h5 => e o k (by omega)) (by rw [hm]; simp [am_st_eq]) (fun q hq => by have := wd_ne q hq; exact e _ _ (by omega)) ?_ ?_ (fun x hx => hval x (by omega)) (by rw [hval _ (by omega)]; exact Int.le_refl _)
    · -- the Book
      obtain ⟨b1, b2, b3, b4, b5, b6, b7', b8, b9, b10⟩ := hb
      have l6 := hf.2.2.1.1.2
      refine ⟨(rf_of' b1 (fun o k ho => e o k (by omega)) (fun x hx => hval x (by omega))), (rf_of' b2 (fun o k ho => e o k (by omega)) (fun x hx => hval x (by omega))), (rf_of' b3 (fun o k ho => e o k (by omega)) (fun x hx => hval x (by omega))), (rf_of' b4 (fun o k ho => e o k (by omega)) (fun x hx => hval x (by omega))), (rf_of' b5 (fun o k ho => e o k (by omega)) (fun x hx => hval x (by omega))), fun i j i0 i1 j0 j1 => ?_, fun i i0 i1 => ?_, ?_, ?_, fun s cs s0 s1 hc => ?_⟩
      · rw [show (1 : Int) + 14 = 15 by omega, e15, er]; exact hbit i j i0 i1 j0 j1
      · have g := b7' i i0 i1
        rw [show (1 : Int) + 14 = 15 by omega, e15, e (1 + 15) _ (by omega), hval _ (by omega)]; exact ⟨(hbd i i0 i1).1, (hbd i i0 i1).2, g.2.2⟩
      · rw [e (1 + 16) 1 (by omega), e (1 + 16) 2 (by omega), e (1 + 16) 3 (by omega), hval 360 (by omega), hval 361 (by omega), hval 362 (by omega)]; exact b8
      · rw [e 1 10 (by omega), e 1 11 (by omega), hval 368 (by omega), hval 369 (by omega)]; exact b9
      · rw [hval _ (by omega)] at s1
        rw [lw_cs_lo (fun x hx => hval x (by omega)) s0] at hc
        exact pz_PG_of (b10 s cs s0 s1 hc) (fun o k ho => e o k (by omega))
    · refine wf_of_sm hf ?_ (fun x hx => hval x (by omega)) (by rw [hval _ (by omega)]; exact Int.le_refl _) (lw_W_lo hf.2.2.1 (fun x hx => hval x (by omega))) (fun x x0 x1 hx => ?_) (by omega)
      · -- the bounds
        obtain ⟨⟨a1, a2, a3⟩, ⟨b1, b2, b3⟩, ⟨c1', c2', c3⟩, ⟨d1, d2, d3⟩, ⟨f1, f2, f3⟩, g, k, l1, l2, l3, l4, l5⟩ := hf.1
        refine ⟨⟨?_, ?_, fun i i0 i1 => ?_⟩, ⟨?_, ?_, fun i i0 i1 => ?_⟩, ⟨?_, ?_, fun i i0 i1 => ?_⟩, ⟨?_, ?_, fun i i0 i1 => ?_⟩, ⟨?_, ?_, fun i i0 i1 => ?_⟩, fun i j i0 i1 j0 j1 => ?_, fun i i0 i1 => ?_, ?_, ?_, ?_, ?_, ?_⟩
        · simp (disch := omega) only [hval]; exact a1
        · simp (disch := omega) only [hval]; exact a2
        · simp (disch := omega) only [hval] at i1; simp (disch := omega) only [hval]; exact a3 i i0 i1
        · simp (disch := omega) only [hval]; exact b1
        · simp (disch := omega) only [hval]; exact b2
        · simp (disch := omega) only [hval] at i1; simp (disch := omega) only [hval]; exact b3 i i0 i1
        · simp (disch := omega) only [hval]; exact c1'
        · simp (disch := omega) only [hval]; exact c2'
        · simp (disch := omega) only [hval] at i1; simp (disch := omega) only [hval]; exact c3 i i0 i1
        · simp (disch := omega) only [hval]; exact d1
        · simp (disch := omega) only [hval]; exact d2
        · simp (disch := omega) only [hval] at i1; simp (disch := omega) only [hval]; exact d3 i i0 i1
        · simp (disch := omega) only [hval]; exact f1
        · simp (disch := omega) only [hval]; exact f2
        · simp (disch := omega) only [hval] at i1; simp (disch := omega) only [hval]; exact f3 i i0 i1
        · have gij := g i j i0 i1 j0 j1
          have gi := g j i j0 j1 i0 i1
          have v1 : ∀ p q : Int, 0 ≤ p → p < 8 → 0 ≤ q → q < 8 → m' 170 (244 + 8 * p + q) = if (p = a ∧ q = b) ∨ (p = b ∧ q = a) then v else m 170 (244 + 8 * p + q) := by
            intro p q p0 p1 q0 q1
            rw [er]
            by_cases z : (p = a ∧ q = b) ∨ (p = b ∧ q = a)
            · rw [if_pos z]
              rcases z with ⟨rfl, rfl⟩ | ⟨rfl, rfl⟩
              · rw [wrA_ne _ (by omega), wrA_same]
              · rw [wrA_same]
            · rw [if_neg z, wrA_ne _ (by omega), wrA_ne _ (by omega)]
          rw [v1 i j i0 i1 j0 j1, v1 j i j0 j1 i0 i1]
          refine ⟨?_, ?_, fun e => ?_⟩
          · split <;> omega
          · by_cases z : (i = a ∧ j = b) ∨ (i = b ∧ j = a)
            · rw [if_pos z, if_pos (by omega)]
            · rw [if_neg z, if_neg (by omega)]; exact gij.2.1
          · rw [if_neg (by omega)]; exact gij.2.2 e
        · simp (disch := omega) only [hval]; exact k i i0 i1
        · simp (disch := omega) only [hval]; exact l1
        · simp (disch := omega) only [hval]; exact l2
        · simp (disch := omega) only [hval]; exact l3
        · simp (disch := omega) only [hval]; exact l4
        · simp (disch := omega) only [hval]; exact l5
      · by_cases ex : x ≠ 244 + 8 * a + b ∧ x ≠ 244 + 8 * b + a
        · exact absurd (hval x ex) hx
        · rw [er]; unfold wrA
          repeat' split
          all_goals first | omega | (have := hf.2.2.2 x (by omega) x1; omega)
  by_cases c5 : m 170 (244 + 8 * a + b) = v
  · simp [c1, c2, c3, c4, bt, w1, w2, w3, w4, w5, w6, u1, u2, u3, u4, c5]
    have e4 : am_st m 0 17 0 170 = m 170 := by simp (disch := omega) only [st_rne]
    rw [e4, c5]
    have := key m (fun _ _ _ => rfl) (fun i j i0 i1 j0 j1 => by
      rw [hB6 i j i0 i1 j0 j1]
      by_cases z : 244 + 8 * i + j = 244 + 8 * b + a
      · rw [z, wrA_same, ← ga.2.1, c5]
      · rw [wrA_ne _ z]
        by_cases z2 : 244 + 8 * i + j = 244 + 8 * a + b
        · rw [z2, wrA_same, c5]
        · rw [wrA_ne _ z2]) (fun i i0 i1 => ⟨(hB7 i i0 i1).1, (hB7 i i0 i1).2.1⟩)
    rw [c5] at this
    exact this
  · have hsa := bit_shl_le (i := a) (n := 8) (by omega) (by omega)
    have hsb := bit_shl_le (i := b) (n := 8) (by omega) (by omega)
    have xa := bit_xor_le (x := m 15 a) (y := am_shl 1 b) (n := 8) (by omega) (by omega) (by omega)
    have xb := bit_xor_le (x := m 15 b) (y := am_shl 1 a) (n := 8) (by omega) (by omega) (by omega)
    have eb : am_st m 15 a (am_xor (m 15 a) (am_shl 1 b)) 15 b = m 15 b := am_st_ne _ (by omega)
    simp [c1, c2, c3, c4, bt, w1, w2, w3, w4, w5, w6, u1, u2, u3, u4, c5, eb]
    have e4 : am_st (am_st (am_st m 15 a (am_xor (m 15 a) (am_shl 1 b))) 15 b (am_xor (m 15 b) (am_shl 1 a))) 0 17 0 170 = m 170 := by simp (disch := omega) only [st_rne]
    rw [e4]
    refine key (am_st (am_st m 15 a (am_xor (m 15 a) (am_shl 1 b))) 15 b (am_xor (m 15 b) (am_shl 1 a))) (fun o k ho => by rw [am_st_ne _ (by omega), am_st_ne _ (by omega)]) (fun i j i0 i1 j0 j1 => ?_) (fun i i0 i1 => ?_)
    · have hij := hB6 i j i0 i1 j0 j1
      by_cases zb : i = b
      · subst zb
        rw [am_st_same, bit_xor (by omega) (by omega), bit_shl (by omega) j0, hij]
        by_cases zj : j = a
        · subst zj
          rw [wrA_same]
          have := ga.2.1
          constructor
          · intro q; by_cases z : m 170 (244 + 8 * i + j) = 1
            · exact absurd (by simp [z]) q
            · omega
          · intro q z
            have := z.mpr rfl
            omega
        · rw [wrA_ne _ (by omega), wrA_ne _ (by omega)]
          constructor
          · intro q; by_cases z : m 170 (244 + 8 * i + j) = 1
            · exact z
            · exact absurd ⟨fun y => absurd y z, fun y => absurd y.symm zj⟩ q
          · intro q z; exact zj (z.mp q).symm
      · by_cases za : i = a
        · subst za
          rw [am_st_ne _ (by omega), am_st_same, bit_xor (by omega) (by omega), bit_shl (by omega) j0, hij]
          by_cases zj : j = b
          · subst zj
            rw [wrA_ne _ (by omega), wrA_same]
            constructor
            · intro q; by_cases z : m 170 (244 + 8 * i + j) = 1
              · exact absurd (by simp [z]) q
              · omega
            · intro q z
              have := z.mpr rfl
              omega
          · rw [wrA_ne _ (by omega), wrA_ne _ (by omega)]
            constructor
            · intro q; by_cases z : m 170 (244 + 8 * i + j) = 1
              · exact z
              · exact absurd ⟨fun y => absurd y z, fun y => absurd y.symm zj⟩ q
            · intro q z; exact zj (z.mp q).symm
        · rw [am_st_ne _ (by omega), am_st_ne _ (by omega), hij, wrA_ne _ (by omega), wrA_ne _ (by omega)]
    · by_cases zb : i = b
      · subst zb; rw [am_st_same]; exact ⟨xb.1, by have := xb.2; omega⟩
      · by_cases za : i = a
        · subst za; rw [am_st_ne _ (by omega), am_st_same]; exact ⟨xa.1, by have := xa.2; omega⟩
        · rw [am_st_ne _ (by omega), am_st_ne _ (by omega)]; exact ⟨(hB7 i i0 i1).1, (hB7 i i0 i1).2.1⟩
