/-! CALLS that add a row, on both sides. -/
theorem lacks_eq (x : Int) (K : am_KK) (m : am_M) : M_X11_lacksWord 0 x K m ↔ K (if (0 ≤ x ∧ x ≤ 9) ∧ ¬ (0 ≤ x ∧ x < m 2 2) then 1 else 0) m := by
  unfold M_X11_lacksWord
  simp only [within_eq, has_eq, am_rf_all, b01, b01']
  by_cases c1 : 0 ≤ x ∧ x ≤ 9
  · by_cases c2 : 0 ≤ x ∧ x < m 2 2
    · simp [c1, c2]
    · rw [if_pos ⟨c1, c2⟩]
      refine ⟨fun h => (h.2 (by simp [c1])).2 (by simp [c2]), fun h => ⟨fun q => absurd c1 (by simpa using q), fun _ => ⟨fun q => absurd q c2, fun _ => h⟩⟩⟩
  · simp [c1]
theorem there_eq (x : Int) (K : am_KK) (m : am_M) (hw : 0 ≤ m 170 363 ∧ m 170 363 ≤ 10) : M_X12_isThere 168 x K m ↔ K (if x = -1 ∨ 9 < x ∨ (0 ≤ x ∧ x < m 170 363) then 1 else 0) m := by
  unfold M_X12_isThere M_X12_isWord
  simp only [lies_eq, am_rf_all, am_ln_all, b01]
  rw [w32_of (by omega) (by omega)]
  by_cases c1 : x = -1
  · simp [c1]
  · by_cases c2 : 9 < x
    · simp [c1, c2]
    · by_cases c3 : 0 ≤ x ∧ x < m 170 363
      · have : 0 ≤ x ∧ x ≤ m 170 363 - 1 := by omega
        simp [c1, c2, c3, this]
      · have : ¬ (0 ≤ x ∧ x ≤ m 170 363 - 1) := by omega
        rw [if_neg (by omega)]
        simp [c1, c2, this]
theorem wa_word {A : Int → Int} {a : Int} (h : am_WA A) (h10 : A 363 < 10) (ha : 1 ≤ a ∧ a ≤ 9) : am_WA (wrA (wrA A (170 + A 363) a) 363 (A 363 + 1)) := by
  obtain ⟨⟨a1, a2, a3⟩, ⟨b1, b2, b3⟩, ⟨c1, c2, c3⟩, ⟨d1, d2, d3⟩, ⟨f1, f2, f3⟩, g, k, l1, l2, l3, l4, l5⟩ := h
  refine ⟨⟨?_, ?_, fun i i0 i1 => ?_⟩, ⟨?_, ?_, fun i i0 i1 => ?_⟩, ⟨?_, ?_, fun i i0 i1 => ?_⟩, ⟨?_, ?_, fun i i0 i1 => ?_⟩, ⟨?_, ?_, fun i i0 i1 => ?_⟩, fun i j i0 i1 j0 j1 => ?_, fun i i0 i1 => ?_, ?_, ?_, ?_, ?_, ?_⟩
  · rw [wrA_same]; omega
  · rw [wrA_same]; omega
  · rw [wrA_same] at i1
    by_cases c : i = A 363
    · subst c; rw [wrA_ne _ (by omega), wrA_same]; exact ha
    · rw [wrA_ne _ (by omega), wrA_ne _ (by omega)]; exact a3 i i0 (by omega)
  · simp (disch := omega) only [wrA_ne]; exact b1
  · simp (disch := omega) only [wrA_ne]; exact b2
  · simp (disch := omega) only [wrA_ne] at i1
    have := b3 i i0 i1
    rw [wrA_same]
    simp (disch := omega) only [wrA_ne]
    exact ⟨this.1, ⟨this.2.1.1, this.2.1.2.1, fun q => by have := this.2.1.2.2 q; omega⟩, ⟨this.2.2.1.1, this.2.2.1.2.1, fun q => by have := this.2.2.1.2.2 q; omega⟩, ⟨this.2.2.2.1, this.2.2.2.2.1, fun q => by have := this.2.2.2.2.2 q; omega⟩⟩
  · simp (disch := omega) only [wrA_ne]; exact c1
  · simp (disch := omega) only [wrA_ne]; exact c2
  · simp (disch := omega) only [wrA_ne] at i1; simp (disch := omega) only [wrA_ne]; exact c3 i i0 i1
  · simp (disch := omega) only [wrA_ne]; exact d1
  · simp (disch := omega) only [wrA_ne]; exact d2
  · simp (disch := omega) only [wrA_ne] at i1; simp (disch := omega) only [wrA_ne]; exact d3 i i0 i1
  · simp (disch := omega) only [wrA_ne]; exact f1
  · simp (disch := omega) only [wrA_ne]; exact f2
  · simp (disch := omega) only [wrA_ne] at i1; simp (disch := omega) only [wrA_ne]; exact f3 i i0 i1
  · simp (disch := omega) only [wrA_ne]; exact g i j i0 i1 j0 j1
  · simp (disch := omega) only [wrA_ne]; exact k i i0 i1
  · simp (disch := omega) only [wrA_ne]; exact l1
  · simp (disch := omega) only [wrA_ne]; exact l2
  · simp (disch := omega) only [wrA_ne]; exact l3
  · simp (disch := omega) only [wrA_ne]; exact l4
  · simp (disch := omega) only [wrA_ne]; exact l5
theorem c_word {m : am_M} {a : Int} {K : am_KK} (h : am_RF m 2 1 10 (m 170) 363 170) (hn : 0 ≤ m 170 363 ∧ m 170 363 ≤ 10)
    (k0 : (1 ≤ a ∧ a ≤ 9) → m 170 363 < 10 → K (m 170 363) (am_st (am_st (am_st m 2 2 (m 170 363 + 1)) 3 (m 170 363 * 1 + 0) a) 0 17 0)) (k5 : (1 ≤ a ∧ a ≤ 9) → ¬ m 170 363 < 10 → K (-5) (am_st (am_st m 0 17 (-5)) 167 5 (w32 (m 167 5 + 1)))) (k1 : ¬ (1 ≤ a ∧ a ≤ 9) → K (-1) (am_st (am_st m 0 17 (-1)) 167 1 (w32 (m 167 1 + 1)))) : M_X11_word 0 a K m := by
  have q0 : rk (am_st m 2 2 (m 170 363 + 1)) 2 1 10 ∨ ¬ m 170 363 < 10 := by
    by_cases c : m 170 363 < 10
    · exact Or.inl (rk_opened h.1 h.2.1 (by omega))
    · exact Or.inr c
  unfold M_X11_word
  simp only [isThing_eq, within_eq, has_eq, am_rf_all, b01, b01', refuse_eq (Or.inl rfl), refuse_eq (Or.inr (Or.inl rfl)), refuse_eq (Or.inr (Or.inr (Or.inr (Or.inl rfl)))), fine_eq, open_eq h.1, h.2.1, ite_br, ite_not, if_true, if_false, ne_eq, not_true_eq_false, not_false_eq_true, true_imp_iff, false_imp_iff, true_and, and_true, show ¬ ((1 : Int) = 0) by decide]
  repeat' split
  all_goals first
    | (exfalso; omega)
    | exact k1 (by omega)
    | exact k5 (by omega) (by omega)
    | (have q0 := q0.resolve_right (by omega)
       have e0 : am_st m 2 2 (m 170 363 + 1) 2 2 = m 170 363 + 1 := am_st_same _ _ _ _
       rw [set_eq' q0 e0 (by omega) (by omega)]
       exact k0 (by omega) (by omega))
theorem d_word {m : am_M} {a : Int} {K : am_KK} (hn : 0 ≤ m 170 363 ∧ m 170 363 ≤ 10)
    (k0 : (1 ≤ a ∧ a ≤ 9) → m 170 363 < 10 → K (m 170 363) (am_st (am_st (am_st (m) 170 (170 + m 170 363) a) 170 363 (m 170 363 + 1)) 168 0 0)) (k5 : (1 ≤ a ∧ a ≤ 9) → ¬ m 170 363 < 10 → K (-5) (am_st (am_st m 168 0 (-5)) 169 5 (w32 (m 169 5 + 1)))) (k1 : ¬ (1 ≤ a ∧ a ≤ 9) → K (-1) (am_st (am_st m 168 0 (-1)) 169 1 (w32 (m 169 1 + 1)))) : M_X12_word 168 a K m := by
  unfold M_X12_word
  have wx : w32 (170 + m 170 363) = 170 + m 170 363 := w32_of (by omega) (by omega)
  have wn : w32 (m 170 363 + 1) = m 170 363 + 1 := w32_of (by omega) (by omega)
  have wm : (am_st m 170 (170 + m 170 363) a) 170 363 = m 170 363 := by
    rw [am_st_ne _ (by omega)]
  have u0 : (0 ≤ 170 + m 170 363 ∧ 170 + m 170 363 < 5977) := by omega
  have un : ((0 : Int) ≤ 363 ∧ (363 : Int) < 5977) := by omega
  simp only [isThing_eq, M_X12_isThing, lies_eq, am_rf_all, am_ln_all, b01, b01', refuses_eq (Or.inl rfl), refuses_eq (Or.inr (Or.inl rfl)), refuses_eq (Or.inr (Or.inr (Or.inr (Or.inl rfl)))), good_eq, forall_eq, ite_br, ite_not, if_true, if_false, ne_eq, not_true_eq_false, not_false_eq_true, true_imp_iff, false_imp_iff, and_true, show ¬ ((1 : Int) = 0) by decide, wx, wn, wm, u0, un, true_and]
  repeat' split
  all_goals first
    | (exfalso; omega)
    | exact k1 (by omega)
    | exact k5 (by omega) (by omega)
    | exact k0 (by omega) (by omega)
theorem j_word (a : Int) : Joint (M_X11_word 0 a) (M_X12_word 168 a) := by
  intro m h K hK
  have hb := h.1.1
  have hf := h.1.2.2.1
  obtain ⟨R1, R2, R3, R4, R5⟩ := bk_rows hb
  have bw := hf.1.1
  have br := hf.1.2.1
  have bp := hf.1.2.2.1
  have bb := hf.1.2.2.2.1
  have ba := hf.1.2.2.2.2.1
  refine c_word (R1) (by omega) (fun hv hn => ?_) (fun hv hn => ?_) (fun hv => ?_)
  · have e170 : (am_st (am_st (am_st m 2 2 (m 170 363 + 1)) 3 (m 170 363 * 1 + 0) a) 0 17 0) 170 = m 170 := by simp (disch := omega) only [st_rne]
    refine d_word (by rw [e170]; omega) ?_ ?_ ?_
    · intro _ _
      simp only [e170]
      refine hK _ _ (rel_intro (fun m' hm => ?_))
      have er : m' 170 = (wrA (wrA (m 170) (170 + m 170 363) a) 363 (m 170 363 + 1)) := by rw [hm]; simp (disch := omega) only [st_row, st_rne]
      have e : ∀ o k, ¬ ((o = 2 ∧ k = 2) ∨ o = 3 ∨ (o = 0 ∧ k = 17) ∨ o = 170 ∨ (o = 168 ∧ k = 0)) → m' o k = m o k := fun o k ho => by rw [hm, am_st_ne _ (by omega), am_st_ne _ (by omega), am_st_ne _ (by omega), am_st_ne _ (by omega), am_st_ne _ (by omega), am_st_ne _ (by omega)]
      have hA := wa_word (A := m 170) (a := a) hf.1 hn hv
      rw [← er] at hA
      have hval : ∀ x, x ≠ 363 → x ≠ 170 + m 170 363 → m' 170 x = m 170 x := fun x y x0 => by rw [er, wrA_ne _ y, wrA_ne _ x0]
      refine Rel_book h (fun o k h1 h2 h3 h4 h5 => e o k (by omega)) (by rw [hm]; simp [am_st_eq]) (fun q hq => by have := wd_ne q hq; exact e _ _ (by omega)) ?_ ?_ (fun x hx => (hval x (by omega) (by omega))) (by rw [hval _ (by omega) (by omega)]; exact Int.le_refl _)
      · refine bk_put hb ?_ (rf_of' R2 (fun o k ho => e o k (by omega)) (fun x hx => (hval x (by omega) (by omega)))) (rf_of' R3 (fun o k ho => e o k (by omega)) (fun x hx => (hval x (by omega) (by omega)))) (rf_of' R4 (fun o k ho => e o k (by omega)) (fun x hx => (hval x (by omega) (by omega)))) (rf_of' R5 (fun o k ho => e o k (by omega)) (fun x hx => (hval x (by omega) (by omega)))) hf.2.2.1.1.2 (fun o k ho => e o k (by omega)) (fun x hx => (hval x (by omega) (by omega)))
        refine rf_push R1 (e _ _ (by omega)) (by rw [hm]; simp [am_st_eq]) (by rw [er]; simp (disch := omega) only [wrA_same]) (by omega) (fun x x0 x1 => ⟨?_, ?_⟩) (fun j j0 j1 => ?_)
        · rw [hm, am_st_ne _ (by omega), am_st_ne _ (by omega), am_st_ne _ (by omega), am_st_ne _ (by omega), am_st_ne _ (by omega), am_st_ne _ (by omega)]
        · exact hval _ (by omega) (by omega)
        · have ej : j = 0 := by omega
          rcases ej with rfl
          · rw [er, hm, show 170 + (m 170 363 * 1 + 0) = 170 + m 170 363 by omega, show (2 : Int) + 1 = 3 by omega]; simp (disch := omega) only [am_st_ne, am_st_same, wrA_ne, wrA_same]
      · refine wf_of_sm hf hA (fun x hx => (hval x (by omega) (by omega))) (by rw [hval _ (by omega) (by omega)]; exact Int.le_refl _) (lw_W_lo hf.2.2.1 (fun x hx => (hval x (by omega) (by omega)))) (fun x x0 x1 hx => ?_) (by omega)
        rw [er]
        unfold wrA
        repeat' split
        all_goals first | omega | (have := hf.2.2.2 x (by omega) x1; omega)
    · intro _ h2; rw [e170] at h2; exact absurd hn h2
    · intro h2; exact absurd hv h2
  · have e170 : (am_st (am_st m 0 17 (-5)) 167 5 (w32 (m 167 5 + 1))) 170 = m 170 := by simp (disch := omega) only [st_rne]
    refine d_word (by rw [e170]; omega) ?_ ?_ ?_
    · intro _ h2; rw [e170] at h2; exact absurd h2 hn
    · intro _ _; exact refuses_end (Or.inr (Or.inr (Or.inr (Or.inl rfl)))) h hK
    · intro h2; exact absurd hv h2
  · have e170 : (am_st (am_st m 0 17 (-1)) 167 1 (w32 (m 167 1 + 1))) 170 = m 170 := by simp (disch := omega) only [st_rne]
    refine d_word (by rw [e170]; omega) ?_ ?_ ?_
    · intro h2; exact absurd h2 hv
    · intro h2; exact absurd h2 hv
    · intro _; exact refuses_end (Or.inl rfl) h hK
theorem c_person {m : am_M} {a : Int} {K : am_KK} (h : am_RF m 6 1 6 (m 170) 365 316) (hn : 0 ≤ m 170 365 ∧ m 170 365 ≤ 6)
    (k0 : (0 ≤ a ∧ a ≤ 99) → m 170 365 < 6 → K (m 170 365) (am_st (am_st (am_st m 6 2 (m 170 365 + 1)) 7 (m 170 365 * 1 + 0) a) 0 17 0)) (k5 : (0 ≤ a ∧ a ≤ 99) → ¬ m 170 365 < 6 → K (-5) (am_st (am_st m 0 17 (-5)) 167 5 (w32 (m 167 5 + 1)))) (k1 : ¬ (0 ≤ a ∧ a ≤ 99) → K (-1) (am_st (am_st m 0 17 (-1)) 167 1 (w32 (m 167 1 + 1)))) : M_X11_person 0 a K m := by
  have q0 : rk (am_st m 6 2 (m 170 365 + 1)) 6 1 6 ∨ ¬ m 170 365 < 6 := by
    by_cases c : m 170 365 < 6
    · exact Or.inl (rk_opened h.1 h.2.1 (by omega))
    · exact Or.inr c
  unfold M_X11_person
  simp only [isThing_eq, within_eq, has_eq, am_rf_all, b01, b01', refuse_eq (Or.inl rfl), refuse_eq (Or.inr (Or.inl rfl)), refuse_eq (Or.inr (Or.inr (Or.inr (Or.inl rfl)))), fine_eq, open_eq h.1, h.2.1, ite_br, ite_not, if_true, if_false, ne_eq, not_true_eq_false, not_false_eq_true, true_imp_iff, false_imp_iff, true_and, and_true, show ¬ ((1 : Int) = 0) by decide]
  repeat' split
  all_goals first
    | (exfalso; omega)
    | exact k1 (by omega)
    | exact k5 (by omega) (by omega)
    | (have q0 := q0.resolve_right (by omega)
       have e0 : am_st m 6 2 (m 170 365 + 1) 6 2 = m 170 365 + 1 := am_st_same _ _ _ _
       rw [set_eq' q0 e0 (by omega) (by omega)]
       exact k0 (by omega) (by omega))
theorem d_person {m : am_M} {a : Int} {K : am_KK} (hn : 0 ≤ m 170 365 ∧ m 170 365 ≤ 6)
    (k0 : (0 ≤ a ∧ a ≤ 99) → m 170 365 < 6 → K (m 170 365) (am_st (am_st (am_st (m) 170 (316 + m 170 365) a) 170 365 (m 170 365 + 1)) 168 0 0)) (k5 : (0 ≤ a ∧ a ≤ 99) → ¬ m 170 365 < 6 → K (-5) (am_st (am_st m 168 0 (-5)) 169 5 (w32 (m 169 5 + 1)))) (k1 : ¬ (0 ≤ a ∧ a ≤ 99) → K (-1) (am_st (am_st m 168 0 (-1)) 169 1 (w32 (m 169 1 + 1)))) : M_X12_person 168 a K m := by
  unfold M_X12_person
  have wx : w32 (316 + m 170 365) = 316 + m 170 365 := w32_of (by omega) (by omega)
  have wn : w32 (m 170 365 + 1) = m 170 365 + 1 := w32_of (by omega) (by omega)
  have wm : (am_st m 170 (316 + m 170 365) a) 170 365 = m 170 365 := by
    rw [am_st_ne _ (by omega)]
  have u0 : (0 ≤ 316 + m 170 365 ∧ 316 + m 170 365 < 5977) := by omega
  have un : ((0 : Int) ≤ 365 ∧ (365 : Int) < 5977) := by omega
  simp only [isThing_eq, M_X12_isThing, lies_eq, am_rf_all, am_ln_all, b01, b01', refuses_eq (Or.inl rfl), refuses_eq (Or.inr (Or.inl rfl)), refuses_eq (Or.inr (Or.inr (Or.inr (Or.inl rfl)))), good_eq, forall_eq, ite_br, ite_not, if_true, if_false, ne_eq, not_true_eq_false, not_false_eq_true, true_imp_iff, false_imp_iff, and_true, show ¬ ((1 : Int) = 0) by decide, wx, wn, wm, u0, un, true_and]
  repeat' split
  all_goals first
    | (exfalso; omega)
    | exact k1 (by omega)
    | exact k5 (by omega) (by omega)
    | exact k0 (by omega) (by omega)
theorem j_person (a : Int) : Joint (M_X11_person 0 a) (M_X12_person 168 a) := by
  intro m h K hK
  have hb := h.1.1
  have hf := h.1.2.2.1
  obtain ⟨R1, R2, R3, R4, R5⟩ := bk_rows hb
  have bw := hf.1.1
  have br := hf.1.2.1
  have bp := hf.1.2.2.1
  have bb := hf.1.2.2.2.1
  have ba := hf.1.2.2.2.2.1
  refine c_person (R3) (by omega) (fun hv hn => ?_) (fun hv hn => ?_) (fun hv => ?_)
  · have e170 : (am_st (am_st (am_st m 6 2 (m 170 365 + 1)) 7 (m 170 365 * 1 + 0) a) 0 17 0) 170 = m 170 := by simp (disch := omega) only [st_rne]
    refine d_person (by rw [e170]; omega) ?_ ?_ ?_
    · intro _ _
      simp only [e170]
      refine hK _ _ (rel_intro (fun m' hm => ?_))
      have er : m' 170 = (wrA (wrA (m 170) (316 + m 170 365) a) 365 (m 170 365 + 1)) := by rw [hm]; simp (disch := omega) only [st_row, st_rne]
      have e : ∀ o k, ¬ ((o = 6 ∧ k = 2) ∨ o = 7 ∨ (o = 0 ∧ k = 17) ∨ o = 170 ∨ (o = 168 ∧ k = 0)) → m' o k = m o k := fun o k ho => by rw [hm, am_st_ne _ (by omega), am_st_ne _ (by omega), am_st_ne _ (by omega), am_st_ne _ (by omega), am_st_ne _ (by omega), am_st_ne _ (by omega)]
      have hA := wa_person (A := m 170) (a := a) hf.1 hn hv
      rw [← er] at hA
      have hval : ∀ x, x ≠ 365 → x ≠ 316 + m 170 365 → m' 170 x = m 170 x := fun x y x0 => by rw [er, wrA_ne _ y, wrA_ne _ x0]
      refine Rel_book h (fun o k h1 h2 h3 h4 h5 => e o k (by omega)) (by rw [hm]; simp [am_st_eq]) (fun q hq => by have := wd_ne q hq; exact e _ _ (by omega)) ?_ ?_ (fun x hx => (hval x (by omega) (by omega))) (by rw [er]; simp (disch := omega) only [wrA_ne, wrA_same]; omega)
      · refine bk_put hb (rf_of' R1 (fun o k ho => e o k (by omega)) (fun x hx => (hval x (by omega) (by omega)))) (rf_of' R2 (fun o k ho => e o k (by omega)) (fun x hx => (hval x (by omega) (by omega)))) ?_ (rf_of' R4 (fun o k ho => e o k (by omega)) (fun x hx => (hval x (by omega) (by omega)))) (rf_of' R5 (fun o k ho => e o k (by omega)) (fun x hx => (hval x (by omega) (by omega)))) hf.2.2.1.1.2 (fun o k ho => e o k (by omega)) (fun x hx => (hval x (by omega) (by omega)))
        refine rf_push R3 (e _ _ (by omega)) (by rw [hm]; simp [am_st_eq]) (by rw [er]; simp (disch := omega) only [wrA_same]) (by omega) (fun x x0 x1 => ⟨?_, ?_⟩) (fun j j0 j1 => ?_)
        · rw [hm, am_st_ne _ (by omega), am_st_ne _ (by omega), am_st_ne _ (by omega), am_st_ne _ (by omega), am_st_ne _ (by omega), am_st_ne _ (by omega)]
        · exact hval _ (by omega) (by omega)
        · have ej : j = 0 := by omega
          rcases ej with rfl
          · rw [er, hm, show 316 + (m 170 365 * 1 + 0) = 316 + m 170 365 by omega, show (6 : Int) + 1 = 7 by omega]; simp (disch := omega) only [am_st_ne, am_st_same, wrA_ne, wrA_same]
      · refine wf_of_sm hf hA (fun x hx => (hval x (by omega) (by omega))) (by rw [er]; simp (disch := omega) only [wrA_ne, wrA_same]; omega) (lw_W_lo hf.2.2.1 (fun x hx => (hval x (by omega) (by omega)))) (fun x x0 x1 hx => ?_) (by omega)
        rw [er]
        unfold wrA
        repeat' split
        all_goals first | omega | (have := hf.2.2.2 x (by omega) x1; omega)
    · intro _ h2; rw [e170] at h2; exact absurd hn h2
    · intro h2; exact absurd hv h2
  · have e170 : (am_st (am_st m 0 17 (-5)) 167 5 (w32 (m 167 5 + 1))) 170 = m 170 := by simp (disch := omega) only [st_rne]
    refine d_person (by rw [e170]; omega) ?_ ?_ ?_
    · intro _ h2; rw [e170] at h2; exact absurd h2 hn
    · intro _ _; exact refuses_end (Or.inr (Or.inr (Or.inr (Or.inl rfl)))) h hK
    · intro h2; exact absurd hv h2
  · have e170 : (am_st (am_st m 0 17 (-1)) 167 1 (w32 (m 167 1 + 1))) 170 = m 170 := by simp (disch := omega) only [st_rne]
    refine d_person (by rw [e170]; omega) ?_ ?_ ?_
    · intro h2; exact absurd h2 hv
    · intro h2; exact absurd h2 hv
    · intro _; exact refuses_end (Or.inl rfl) h hK
theorem c_bundle {m : am_M} {a b : Int} {K : am_KK} (h : am_RF m 8 2 20 (m 170) 366 322) (hn : 0 ≤ m 170 366 ∧ m 170 366 ≤ 10)
    (k0 : ((1 ≤ a ∧ a ≤ 255) ∧ 1 ≤ b ∧ b ≤ 99) → m 170 366 < 10 → K (m 170 366) (am_st (am_st (am_st (am_st m 8 2 (m 170 366 + 1)) 9 (m 170 366 * 2 + 0) a) 9 (m 170 366 * 2 + 1) b) 0 17 0)) (k5 : ((1 ≤ a ∧ a ≤ 255) ∧ 1 ≤ b ∧ b ≤ 99) → ¬ m 170 366 < 10 → K (-5) (am_st (am_st m 0 17 (-5)) 167 5 (w32 (m 167 5 + 1)))) (k1 : ¬ ((1 ≤ a ∧ a ≤ 255) ∧ 1 ≤ b ∧ b ≤ 99) → K (-1) (am_st (am_st m 0 17 (-1)) 167 1 (w32 (m 167 1 + 1)))) : M_X11_bundle 0 a b K m := by
  have q0 : rk (am_st m 8 2 (m 170 366 + 1)) 8 2 20 ∨ ¬ m 170 366 < 10 := by
    by_cases c : m 170 366 < 10
    · exact Or.inl (rk_opened h.1 h.2.1 (by omega))
    · exact Or.inr c
  unfold M_X11_bundle M_X11_bundle_J1
  simp only [isThing_eq, within_eq, has_eq, am_rf_all, b01, b01', refuse_eq (Or.inl rfl), refuse_eq (Or.inr (Or.inl rfl)), refuse_eq (Or.inr (Or.inr (Or.inr (Or.inl rfl)))), fine_eq, open_eq h.1, h.2.1, ite_br, ite_not, if_true, if_false, ne_eq, not_true_eq_false, not_false_eq_true, true_imp_iff, false_imp_iff, true_and, and_true, show ¬ ((1 : Int) = 0) by decide]
  repeat' split
  all_goals first
    | (exfalso; omega)
    | exact k1 (by omega)
    | exact k5 (by omega) (by omega)
    | (have q0 := q0.resolve_right (by omega)
       have e0 : am_st m 8 2 (m 170 366 + 1) 8 2 = m 170 366 + 1 := am_st_same _ _ _ _
       rw [set_eq' q0 e0 (by omega) (by omega)]
       have q1 : rk (am_st (am_st m 8 2 (m 170 366 + 1)) (8 + 1) (m 170 366 * 2 + 0) a) 8 2 20 := rk_st q0 (by omega)
       have e1 : (am_st (am_st m 8 2 (m 170 366 + 1)) (8 + 1) (m 170 366 * 2 + 0) a) 8 2 = m 170 366 + 1 := by rw [am_st_ne _ (by omega)]; exact e0
       rw [set_eq' q1 e1 (by omega) (by omega)]
       exact k0 (by omega) (by omega))
theorem d_bundle {m : am_M} {a b : Int} {K : am_KK} (hn : 0 ≤ m 170 366 ∧ m 170 366 ≤ 10)
    (k0 : ((1 ≤ a ∧ a ≤ 255) ∧ 1 ≤ b ∧ b ≤ 99) → m 170 366 < 10 → K (m 170 366) (am_st (am_st (am_st (am_st (m) 170 (322 + 2 * m 170 366) a) 170 (322 + 2 * m 170 366 + 1) b) 170 366 (m 170 366 + 1)) 168 0 0)) (k5 : ((1 ≤ a ∧ a ≤ 255) ∧ 1 ≤ b ∧ b ≤ 99) → ¬ m 170 366 < 10 → K (-5) (am_st (am_st m 168 0 (-5)) 169 5 (w32 (m 169 5 + 1)))) (k1 : ¬ ((1 ≤ a ∧ a ≤ 255) ∧ 1 ≤ b ∧ b ≤ 99) → K (-1) (am_st (am_st m 168 0 (-1)) 169 1 (w32 (m 169 1 + 1)))) : M_X12_bundle 168 a b K m := by
  unfold M_X12_bundle M_X12_bundle_J1
  have wy : w32 (2 * m 170 366) = 2 * m 170 366 := w32_of (by omega) (by omega)
  have wx : w32 (322 + 2 * m 170 366) = 322 + 2 * m 170 366 := w32_of (by omega) (by omega)
  have w1 : w32 (322 + 2 * m 170 366 + 1) = 322 + 2 * m 170 366 + 1 := w32_of (by omega) (by omega)
  have wn : w32 (m 170 366 + 1) = m 170 366 + 1 := w32_of (by omega) (by omega)
  have wm : (am_st (am_st m 170 (322 + 2 * m 170 366) a) 170 (322 + 2 * m 170 366 + 1) b) 170 366 = m 170 366 := by
    rw [am_st_ne _ (by omega)]; rw [am_st_ne _ (by omega)]
  have u0 : (0 ≤ 322 + 2 * m 170 366 ∧ 322 + 2 * m 170 366 < 5977) := by omega
  have u1 : (0 ≤ 322 + 2 * m 170 366 + 1 ∧ 322 + 2 * m 170 366 + 1 < 5977) := by omega
  have un : ((0 : Int) ≤ 366 ∧ (366 : Int) < 5977) := by omega
  simp only [isThing_eq, M_X12_isThing, lies_eq, am_rf_all, am_ln_all, b01, b01', refuses_eq (Or.inl rfl), refuses_eq (Or.inr (Or.inl rfl)), refuses_eq (Or.inr (Or.inr (Or.inr (Or.inl rfl)))), good_eq, forall_eq, ite_br, ite_not, if_true, if_false, ne_eq, not_true_eq_false, not_false_eq_true, true_imp_iff, false_imp_iff, and_true, show ¬ ((1 : Int) = 0) by decide, wx, wy, w1, wn, wm, u0, u1, un, true_and]
  repeat' split
  all_goals first
    | (exfalso; omega)
    | exact k1 (by omega)
    | exact k5 (by omega) (by omega)
    | exact k0 (by omega) (by omega)
theorem j_bundle (a b : Int) : Joint (M_X11_bundle 0 a b) (M_X12_bundle 168 a b) := by
  intro m h K hK
  have hb := h.1.1
  have hf := h.1.2.2.1
  obtain ⟨R1, R2, R3, R4, R5⟩ := bk_rows hb
  have bw := hf.1.1
  have br := hf.1.2.1
  have bp := hf.1.2.2.1
  have bb := hf.1.2.2.2.1
  have ba := hf.1.2.2.2.2.1
  refine c_bundle (R4) (by omega) (fun hv hn => ?_) (fun hv hn => ?_) (fun hv => ?_)
  · have e170 : (am_st (am_st (am_st (am_st m 8 2 (m 170 366 + 1)) 9 (m 170 366 * 2 + 0) a) 9 (m 170 366 * 2 + 1) b) 0 17 0) 170 = m 170 := by simp (disch := omega) only [st_rne]
    refine d_bundle (by rw [e170]; omega) ?_ ?_ ?_
    · intro _ _
      simp only [e170]
      refine hK _ _ (rel_intro (fun m' hm => ?_))
      have er : m' 170 = (wrA (wrA (wrA (m 170) (322 + 2 * m 170 366) a) (322 + 2 * m 170 366 + 1) b) 366 (m 170 366 + 1)) := by rw [hm]; simp (disch := omega) only [st_row, st_rne]
      have e : ∀ o k, ¬ ((o = 8 ∧ k = 2) ∨ o = 9 ∨ (o = 0 ∧ k = 17) ∨ o = 170 ∨ (o = 168 ∧ k = 0)) → m' o k = m o k := fun o k ho => by rw [hm, am_st_ne _ (by omega), am_st_ne _ (by omega), am_st_ne _ (by omega), am_st_ne _ (by omega), am_st_ne _ (by omega), am_st_ne _ (by omega), am_st_ne _ (by omega), am_st_ne _ (by omega)]
      have hA := wa_bundle (A := m 170) (a := a) (b := b) hf.1 hn hv.1 hv.2
      rw [← er] at hA
      have hval : ∀ x, x ≠ 366 → x ≠ 322 + 2 * m 170 366 → x ≠ 322 + 2 * m 170 366 + 1 → m' 170 x = m 170 x := fun x y x0 x1 => by rw [er, wrA_ne _ y, wrA_ne _ x1, wrA_ne _ x0]
      refine Rel_book h (fun o k h1 h2 h3 h4 h5 => e o k (by omega)) (by rw [hm]; simp [am_st_eq]) (fun q hq => by have := wd_ne q hq; exact e _ _ (by omega)) ?_ ?_ (fun x hx => (hval x (by omega) (by omega) (by omega))) (by rw [hval _ (by omega) (by omega) (by omega)]; exact Int.le_refl _)
      · refine bk_put hb (rf_of' R1 (fun o k ho => e o k (by omega)) (fun x hx => (hval x (by omega) (by omega) (by omega)))) (rf_of' R2 (fun o k ho => e o k (by omega)) (fun x hx => (hval x (by omega) (by omega) (by omega)))) (rf_of' R3 (fun o k ho => e o k (by omega)) (fun x hx => (hval x (by omega) (by omega) (by omega)))) ?_ (rf_of' R5 (fun o k ho => e o k (by omega)) (fun x hx => (hval x (by omega) (by omega) (by omega)))) hf.2.2.1.1.2 (fun o k ho => e o k (by omega)) (fun x hx => (hval x (by omega) (by omega) (by omega)))
        refine rf_push R4 (e _ _ (by omega)) (by rw [hm]; simp [am_st_eq]) (by rw [er]; simp (disch := omega) only [wrA_same]) (by omega) (fun x x0 x1 => ⟨?_, ?_⟩) (fun j j0 j1 => ?_)
        · rw [hm, am_st_ne _ (by omega), am_st_ne _ (by omega), am_st_ne _ (by omega), am_st_ne _ (by omega), am_st_ne _ (by omega), am_st_ne _ (by omega), am_st_ne _ (by omega), am_st_ne _ (by omega)]
        · exact hval _ (by omega) (by omega) (by omega)
        · have ej : j = 0 ∨ j = 1 := by omega
          rcases ej with rfl | rfl
          · rw [er, hm, show 322 + (m 170 366 * 2 + 0) = 322 + 2 * m 170 366 by omega, show (8 : Int) + 1 = 9 by omega]; simp (disch := omega) only [am_st_ne, am_st_same, wrA_ne, wrA_same]
          · rw [er, hm, show 322 + (m 170 366 * 2 + 1) = 322 + 2 * m 170 366 + 1 by omega, show (8 : Int) + 1 = 9 by omega]; simp (disch := omega) only [am_st_ne, am_st_same, wrA_ne, wrA_same]
      · refine wf_of_sm hf hA (fun x hx => (hval x (by omega) (by omega) (by omega))) (by rw [hval _ (by omega) (by omega) (by omega)]; exact Int.le_refl _) (lw_W_lo hf.2.2.1 (fun x hx => (hval x (by omega) (by omega) (by omega)))) (fun x x0 x1 hx => ?_) (by omega)
        rw [er]
        unfold wrA
        repeat' split
        all_goals first | omega | (have := hf.2.2.2 x (by omega) x1; omega)
    · intro _ h2; rw [e170] at h2; exact absurd hn h2
    · intro h2; exact absurd hv h2
  · have e170 : (am_st (am_st m 0 17 (-5)) 167 5 (w32 (m 167 5 + 1))) 170 = m 170 := by simp (disch := omega) only [st_rne]
    refine d_bundle (by rw [e170]; omega) ?_ ?_ ?_
    · intro _ h2; rw [e170] at h2; exact absurd h2 hn
    · intro _ _; exact refuses_end (Or.inr (Or.inr (Or.inr (Or.inl rfl)))) h hK
    · intro h2; exact absurd hv h2
  · have e170 : (am_st (am_st m 0 17 (-1)) 167 1 (w32 (m 167 1 + 1))) 170 = m 170 := by simp (disch := omega) only [st_rne]
    refine d_bundle (by rw [e170]; omega) ?_ ?_ ?_
    · intro h2; exact absurd h2 hv
    · intro h2; exact absurd h2 hv
    · intro _; exact refuses_end (Or.inl rfl) h hK
theorem c_answer {m : am_M} {a b c : Int} {K : am_KK} (h : am_RF m 10 3 18 (m 170) 367 342) (hn : 0 ≤ m 170 367 ∧ m 170 367 ≤ 6)
    (k0 : ((1 ≤ a ∧ a ≤ 9) ∧ (0 ≤ b ∧ b ≤ 7) ∧ 0 ≤ c ∧ c ≤ 1) → m 170 367 < 6 → K (m 170 367 + 1) (am_st (am_st (am_st (am_st (am_st m 10 2 (m 170 367 + 1)) 11 (m 170 367 * 3 + 0) a) 11 (m 170 367 * 3 + 1) b) 11 (m 170 367 * 3 + 2) c) 0 17 0)) (k5 : ((1 ≤ a ∧ a ≤ 9) ∧ (0 ≤ b ∧ b ≤ 7) ∧ 0 ≤ c ∧ c ≤ 1) → ¬ m 170 367 < 6 → K (-5) (am_st (am_st m 0 17 (-5)) 167 5 (w32 (m 167 5 + 1)))) (k1 : ¬ ((1 ≤ a ∧ a ≤ 9) ∧ (0 ≤ b ∧ b ≤ 7) ∧ 0 ≤ c ∧ c ≤ 1) → K (-1) (am_st (am_st m 0 17 (-1)) 167 1 (w32 (m 167 1 + 1)))) : M_X11_answer 0 a b c K m := by
  have q0 : rk (am_st m 10 2 (m 170 367 + 1)) 10 3 18 ∨ ¬ m 170 367 < 6 := by
    by_cases c : m 170 367 < 6
    · exact Or.inl (rk_opened h.1 h.2.1 (by omega))
    · exact Or.inr c
  unfold M_X11_answer M_X11_answer_J1
  simp only [isThing_eq, within_eq, has_eq, am_rf_all, b01, b01', refuse_eq (Or.inl rfl), refuse_eq (Or.inr (Or.inl rfl)), refuse_eq (Or.inr (Or.inr (Or.inr (Or.inl rfl)))), fine_eq, open_eq h.1, h.2.1, ite_br, ite_not, if_true, if_false, ne_eq, not_true_eq_false, not_false_eq_true, true_imp_iff, false_imp_iff, true_and, and_true, show ¬ ((1 : Int) = 0) by decide]
  repeat' split
  all_goals first
    | (exfalso; omega)
    | exact k1 (by omega)
    | exact k5 (by omega) (by omega)
    | (have q0 := q0.resolve_right (by omega)
       have e0 : am_st m 10 2 (m 170 367 + 1) 10 2 = m 170 367 + 1 := am_st_same _ _ _ _
       rw [set_eq' q0 e0 (by omega) (by omega)]
       have q1 : rk (am_st (am_st m 10 2 (m 170 367 + 1)) (10 + 1) (m 170 367 * 3 + 0) a) 10 3 18 := rk_st q0 (by omega)
       have e1 : (am_st (am_st m 10 2 (m 170 367 + 1)) (10 + 1) (m 170 367 * 3 + 0) a) 10 2 = m 170 367 + 1 := by rw [am_st_ne _ (by omega)]; exact e0
       rw [set_eq' q1 e1 (by omega) (by omega)]
       have q2 : rk (am_st (am_st (am_st m 10 2 (m 170 367 + 1)) (10 + 1) (m 170 367 * 3 + 0) a) (10 + 1) (m 170 367 * 3 + 1) b) 10 3 18 := rk_st q1 (by omega)
       have e2 : (am_st (am_st (am_st m 10 2 (m 170 367 + 1)) (10 + 1) (m 170 367 * 3 + 0) a) (10 + 1) (m 170 367 * 3 + 1) b) 10 2 = m 170 367 + 1 := by rw [am_st_ne _ (by omega)]; exact e1
       rw [set_eq' q2 e2 (by omega) (by omega)]
       have q3 : rk (am_st (am_st (am_st (am_st m 10 2 (m 170 367 + 1)) (10 + 1) (m 170 367 * 3 + 0) a) (10 + 1) (m 170 367 * 3 + 1) b) (10 + 1) (m 170 367 * 3 + 2) c) 10 3 18 := rk_st q2 (by omega)
       have e3 : (am_st (am_st (am_st (am_st m 10 2 (m 170 367 + 1)) (10 + 1) (m 170 367 * 3 + 0) a) (10 + 1) (m 170 367 * 3 + 1) b) (10 + 1) (m 170 367 * 3 + 2) c) 10 2 = m 170 367 + 1 := by rw [am_st_ne _ (by omega)]; exact e2
       rw [e3]
       exact k0 (by omega) (by omega))
theorem d_answer {m : am_M} {a b c : Int} {K : am_KK} (hn : 0 ≤ m 170 367 ∧ m 170 367 ≤ 6)
    (k0 : ((1 ≤ a ∧ a ≤ 9) ∧ (0 ≤ b ∧ b ≤ 7) ∧ 0 ≤ c ∧ c ≤ 1) → m 170 367 < 6 → K (m 170 367 + 1) (am_st (am_st (am_st (am_st (am_st (m) 170 (342 + 3 * m 170 367) a) 170 (342 + 3 * m 170 367 + 1) b) 170 (342 + 3 * m 170 367 + 2) c) 170 367 (m 170 367 + 1)) 168 0 0)) (k5 : ((1 ≤ a ∧ a ≤ 9) ∧ (0 ≤ b ∧ b ≤ 7) ∧ 0 ≤ c ∧ c ≤ 1) → ¬ m 170 367 < 6 → K (-5) (am_st (am_st m 168 0 (-5)) 169 5 (w32 (m 169 5 + 1)))) (k1 : ¬ ((1 ≤ a ∧ a ≤ 9) ∧ (0 ≤ b ∧ b ≤ 7) ∧ 0 ≤ c ∧ c ≤ 1) → K (-1) (am_st (am_st m 168 0 (-1)) 169 1 (w32 (m 169 1 + 1)))) : M_X12_answer 168 a b c K m := by
  unfold M_X12_answer M_X12_answer_J1
  have wy : w32 (3 * m 170 367) = 3 * m 170 367 := w32_of (by omega) (by omega)
  have wx : w32 (342 + 3 * m 170 367) = 342 + 3 * m 170 367 := w32_of (by omega) (by omega)
  have w1 : w32 (342 + 3 * m 170 367 + 1) = 342 + 3 * m 170 367 + 1 := w32_of (by omega) (by omega)
  have w2 : w32 (342 + 3 * m 170 367 + 2) = 342 + 3 * m 170 367 + 2 := w32_of (by omega) (by omega)
  have wn : w32 (m 170 367 + 1) = m 170 367 + 1 := w32_of (by omega) (by omega)
  have wm : (am_st (am_st (am_st m 170 (342 + 3 * m 170 367) a) 170 (342 + 3 * m 170 367 + 1) b) 170 (342 + 3 * m 170 367 + 2) c) 170 367 = m 170 367 := by
    rw [am_st_ne _ (by omega)]; rw [am_st_ne _ (by omega)]; rw [am_st_ne _ (by omega)]
  have u0 : (0 ≤ 342 + 3 * m 170 367 ∧ 342 + 3 * m 170 367 < 5977) := by omega
  have u1 : (0 ≤ 342 + 3 * m 170 367 + 1 ∧ 342 + 3 * m 170 367 + 1 < 5977) := by omega
  have u2 : (0 ≤ 342 + 3 * m 170 367 + 2 ∧ 342 + 3 * m 170 367 + 2 < 5977) := by omega
  have un : ((0 : Int) ≤ 367 ∧ (367 : Int) < 5977) := by omega
  simp only [isThing_eq, M_X12_isThing, lies_eq, am_rf_all, am_ln_all, b01, b01', refuses_eq (Or.inl rfl), refuses_eq (Or.inr (Or.inl rfl)), refuses_eq (Or.inr (Or.inr (Or.inr (Or.inl rfl)))), good_eq, forall_eq, ite_br, ite_not, if_true, if_false, ne_eq, not_true_eq_false, not_false_eq_true, true_imp_iff, false_imp_iff, and_true, show ¬ ((1 : Int) = 0) by decide, wx, wy, w1, w2, wn, wm, u0, u1, u2, un, true_and]
  repeat' split
  all_goals first
    | (exfalso; omega)
    | exact k1 (by omega)
    | exact k5 (by omega) (by omega)
    | exact k0 (by omega) (by omega)
theorem j_answer (a b c : Int) : Joint (M_X11_answer 0 a b c) (M_X12_answer 168 a b c) := by
  intro m h K hK
  have hb := h.1.1
  have hf := h.1.2.2.1
  obtain ⟨R1, R2, R3, R4, R5⟩ := bk_rows hb
  have bw := hf.1.1
  have br := hf.1.2.1
  have bp := hf.1.2.2.1
  have bb := hf.1.2.2.2.1
  have ba := hf.1.2.2.2.2.1
  refine c_answer (R5) (by omega) (fun hv hn => ?_) (fun hv hn => ?_) (fun hv => ?_)
  · have e170 : (am_st (am_st (am_st (am_st (am_st m 10 2 (m 170 367 + 1)) 11 (m 170 367 * 3 + 0) a) 11 (m 170 367 * 3 + 1) b) 11 (m 170 367 * 3 + 2) c) 0 17 0) 170 = m 170 := by simp (disch := omega) only [st_rne]
    refine d_answer (by rw [e170]; omega) ?_ ?_ ?_
    · intro _ _
      simp only [e170]
      refine hK _ _ (rel_intro (fun m' hm => ?_))
      have er : m' 170 = (wrA (wrA (wrA (wrA (m 170) (342 + 3 * m 170 367) a) (342 + 3 * m 170 367 + 1) b) (342 + 3 * m 170 367 + 2) c) 367 (m 170 367 + 1)) := by rw [hm]; simp (disch := omega) only [st_row, st_rne]
      have e : ∀ o k, ¬ ((o = 10 ∧ k = 2) ∨ o = 11 ∨ (o = 0 ∧ k = 17) ∨ o = 170 ∨ (o = 168 ∧ k = 0)) → m' o k = m o k := fun o k ho => by rw [hm, am_st_ne _ (by omega), am_st_ne _ (by omega), am_st_ne _ (by omega), am_st_ne _ (by omega), am_st_ne _ (by omega), am_st_ne _ (by omega), am_st_ne _ (by omega), am_st_ne _ (by omega), am_st_ne _ (by omega), am_st_ne _ (by omega)]
      have hA := wa_answer (A := m 170) (a := a) (b := b) (c := c) hf.1 hn hv.1 hv.2.1 hv.2.2
      rw [← er] at hA
      have hval : ∀ x, x ≠ 367 → x ≠ 342 + 3 * m 170 367 → x ≠ 342 + 3 * m 170 367 + 1 → x ≠ 342 + 3 * m 170 367 + 2 → m' 170 x = m 170 x := fun x y x0 x1 x2 => by rw [er, wrA_ne _ y, wrA_ne _ x2, wrA_ne _ x1, wrA_ne _ x0]
      refine Rel_book h (fun o k h1 h2 h3 h4 h5 => e o k (by omega)) (by rw [hm]; simp [am_st_eq]) (fun q hq => by have := wd_ne q hq; exact e _ _ (by omega)) ?_ ?_ (fun x hx => (hval x (by omega) (by omega) (by omega) (by omega))) (by rw [hval _ (by omega) (by omega) (by omega) (by omega)]; exact Int.le_refl _)
      · refine bk_put hb (rf_of' R1 (fun o k ho => e o k (by omega)) (fun x hx => (hval x (by omega) (by omega) (by omega) (by omega)))) (rf_of' R2 (fun o k ho => e o k (by omega)) (fun x hx => (hval x (by omega) (by omega) (by omega) (by omega)))) (rf_of' R3 (fun o k ho => e o k (by omega)) (fun x hx => (hval x (by omega) (by omega) (by omega) (by omega)))) (rf_of' R4 (fun o k ho => e o k (by omega)) (fun x hx => (hval x (by omega) (by omega) (by omega) (by omega)))) ?_ hf.2.2.1.1.2 (fun o k ho => e o k (by omega)) (fun x hx => (hval x (by omega) (by omega) (by omega) (by omega)))
        refine rf_push R5 (e _ _ (by omega)) (by rw [hm]; simp [am_st_eq]) (by rw [er]; simp (disch := omega) only [wrA_same]) (by omega) (fun x x0 x1 => ⟨?_, ?_⟩) (fun j j0 j1 => ?_)
        · rw [hm, am_st_ne _ (by omega), am_st_ne _ (by omega), am_st_ne _ (by omega), am_st_ne _ (by omega), am_st_ne _ (by omega), am_st_ne _ (by omega), am_st_ne _ (by omega), am_st_ne _ (by omega), am_st_ne _ (by omega), am_st_ne _ (by omega)]
        · exact hval _ (by omega) (by omega) (by omega) (by omega)
        · have ej : j = 0 ∨ j = 1 ∨ j = 2 := by omega
          rcases ej with rfl | rfl | rfl
          · rw [er, hm, show 342 + (m 170 367 * 3 + 0) = 342 + 3 * m 170 367 by omega, show (10 : Int) + 1 = 11 by omega]; simp (disch := omega) only [am_st_ne, am_st_same, wrA_ne, wrA_same]
          · rw [er, hm, show 342 + (m 170 367 * 3 + 1) = 342 + 3 * m 170 367 + 1 by omega, show (10 : Int) + 1 = 11 by omega]; simp (disch := omega) only [am_st_ne, am_st_same, wrA_ne, wrA_same]
          · rw [er, hm, show 342 + (m 170 367 * 3 + 2) = 342 + 3 * m 170 367 + 2 by omega, show (10 : Int) + 1 = 11 by omega]; simp (disch := omega) only [am_st_ne, am_st_same, wrA_ne, wrA_same]
      · refine wf_of_sm hf hA (fun x hx => (hval x (by omega) (by omega) (by omega) (by omega))) (by rw [hval _ (by omega) (by omega) (by omega) (by omega)]; exact Int.le_refl _) (lw_W_lo hf.2.2.1 (fun x hx => (hval x (by omega) (by omega) (by omega) (by omega)))) (fun x x0 x1 hx => ?_) (by omega)
        rw [er]
        unfold wrA
        repeat' split
        all_goals first | omega | (have := hf.2.2.2 x (by omega) x1; omega)
    · intro _ h2; rw [e170] at h2; exact absurd hn h2
    · intro h2; exact absurd hv h2
  · have e170 : (am_st (am_st m 0 17 (-5)) 167 5 (w32 (m 167 5 + 1))) 170 = m 170 := by simp (disch := omega) only [st_rne]
    refine d_answer (by rw [e170]; omega) ?_ ?_ ?_
    · intro _ h2; rw [e170] at h2; exact absurd h2 hn
    · intro _ _; exact refuses_end (Or.inr (Or.inr (Or.inr (Or.inl rfl)))) h hK
    · intro h2; exact absurd hv h2
  · have e170 : (am_st (am_st m 0 17 (-1)) 167 1 (w32 (m 167 1 + 1))) 170 = m 170 := by simp (disch := omega) only [st_rne]
    refine d_answer (by rw [e170]; omega) ?_ ?_ ?_
    · intro h2; exact absurd h2 hv
    · intro h2; exact absurd h2 hv
    · intro _; exact refuses_end (Or.inl rfl) h hK
theorem c_ruleJ {m : am_M} {t a b c : Int} {K : am_KK} (h : am_RF m 4 4 64 (m 170) 364 180) (hn : 0 ≤ m 170 364 ∧ m 170 364 ≤ 16) (hw : m 2 2 = m 170 363) (hw0 : 0 ≤ m 170 363)
    (vv : (0 ≤ t ∧ t ≤ 7) ∧ (0 ≤ a ∧ a ≤ 17) ∧ (-1 ≤ b ∧ b ≤ 17) ∧ (-1 ≤ c ∧ c ≤ 17) ∧ (b = -1 → c = -1)) (k0 : ((a ≤ 9 → a < m 170 363) ∧ (b ≤ 9 → b < m 170 363) ∧ (c ≤ 9 → c < m 170 363)) → m 170 364 < 16 → K (m 170 364) (am_st (am_st (am_st (am_st (am_st (am_st m 4 2 (m 170 364 + 1)) 5 (m 170 364 * 4 + 0) t) 5 (m 170 364 * 4 + 1) a) 5 (m 170 364 * 4 + 2) b) 5 (m 170 364 * 4 + 3) c) 0 17 0)) (k5 : ((a ≤ 9 → a < m 170 363) ∧ (b ≤ 9 → b < m 170 363) ∧ (c ≤ 9 → c < m 170 363)) → ¬ m 170 364 < 16 → K (-5) (am_st (am_st m 0 17 (-5)) 167 5 (w32 (m 167 5 + 1)))) (k2 : ¬ ((a ≤ 9 → a < m 170 363) ∧ (b ≤ 9 → b < m 170 363) ∧ (c ≤ 9 → c < m 170 363)) → K (-2) (am_st (am_st m 0 17 (-2)) 167 2 (w32 (m 167 2 + 1)))) : M_X11_rule_J2 0 t a b c K m := by
  have q0 : rk (am_st m 4 2 (m 170 364 + 1)) 4 4 64 ∨ ¬ m 170 364 < 16 := by
    by_cases c : m 170 364 < 16
    · exact Or.inl (rk_opened h.1 h.2.1 (by omega))
    · exact Or.inr c
  unfold M_X11_rule_J2 M_X11_rule_J3
  simp only [isThing_eq, within_eq, has_eq, am_rf_all, b01, b01', refuse_eq (Or.inl rfl), refuse_eq (Or.inr (Or.inl rfl)), refuse_eq (Or.inr (Or.inr (Or.inr (Or.inl rfl)))), fine_eq, open_eq h.1, h.2.1, ite_br, ite_not, if_true, if_false, ne_eq, not_true_eq_false, not_false_eq_true, true_imp_iff, false_imp_iff, true_and, and_true, show ¬ ((1 : Int) = 0) by decide, hw, lacks_eq]
  repeat' split
  all_goals first
    | (exfalso; omega)
    | exact k2 (by omega)
    | exact k5 (by omega) (by omega)
    | (have q0 := q0.resolve_right (by omega)
       have e0 : am_st m 4 2 (m 170 364 + 1) 4 2 = m 170 364 + 1 := am_st_same _ _ _ _
       rw [set_eq' q0 e0 (by omega) (by omega)]
       have q1 : rk (am_st (am_st m 4 2 (m 170 364 + 1)) (4 + 1) (m 170 364 * 4 + 0) t) 4 4 64 := rk_st q0 (by omega)
       have e1 : (am_st (am_st m 4 2 (m 170 364 + 1)) (4 + 1) (m 170 364 * 4 + 0) t) 4 2 = m 170 364 + 1 := by rw [am_st_ne _ (by omega)]; exact e0
       rw [set_eq' q1 e1 (by omega) (by omega)]
       have q2 : rk (am_st (am_st (am_st m 4 2 (m 170 364 + 1)) (4 + 1) (m 170 364 * 4 + 0) t) (4 + 1) (m 170 364 * 4 + 1) a) 4 4 64 := rk_st q1 (by omega)
       have e2 : (am_st (am_st (am_st m 4 2 (m 170 364 + 1)) (4 + 1) (m 170 364 * 4 + 0) t) (4 + 1) (m 170 364 * 4 + 1) a) 4 2 = m 170 364 + 1 := by rw [am_st_ne _ (by omega)]; exact e1
       rw [set_eq' q2 e2 (by omega) (by omega)]
       have q3 : rk (am_st (am_st (am_st (am_st m 4 2 (m 170 364 + 1)) (4 + 1) (m 170 364 * 4 + 0) t) (4 + 1) (m 170 364 * 4 + 1) a) (4 + 1) (m 170 364 * 4 + 2) b) 4 4 64 := rk_st q2 (by omega)
       have e3 : (am_st (am_st (am_st (am_st m 4 2 (m 170 364 + 1)) (4 + 1) (m 170 364 * 4 + 0) t) (4 + 1) (m 170 364 * 4 + 1) a) (4 + 1) (m 170 364 * 4 + 2) b) 4 2 = m 170 364 + 1 := by rw [am_st_ne _ (by omega)]; exact e2
       rw [set_eq' q3 e3 (by omega) (by omega)]
       exact k0 (by omega) (by omega))
theorem c_rule {m : am_M} {t a b c : Int} {K : am_KK} (h : am_RF m 4 4 64 (m 170) 364 180) (hn : 0 ≤ m 170 364 ∧ m 170 364 ≤ 16) (hw : m 2 2 = m 170 363) (hw0 : 0 ≤ m 170 363)
    (k0 : ((0 ≤ t ∧ t ≤ 7) ∧ (0 ≤ a ∧ a ≤ 17) ∧ (-1 ≤ b ∧ b ≤ 17) ∧ (-1 ≤ c ∧ c ≤ 17) ∧ (b = -1 → c = -1)) → ((a ≤ 9 → a < m 170 363) ∧ (b ≤ 9 → b < m 170 363) ∧ (c ≤ 9 → c < m 170 363)) → m 170 364 < 16 → K (m 170 364) (am_st (am_st (am_st (am_st (am_st (am_st m 4 2 (m 170 364 + 1)) 5 (m 170 364 * 4 + 0) t) 5 (m 170 364 * 4 + 1) a) 5 (m 170 364 * 4 + 2) b) 5 (m 170 364 * 4 + 3) c) 0 17 0)) (k5 : ((0 ≤ t ∧ t ≤ 7) ∧ (0 ≤ a ∧ a ≤ 17) ∧ (-1 ≤ b ∧ b ≤ 17) ∧ (-1 ≤ c ∧ c ≤ 17) ∧ (b = -1 → c = -1)) → ((a ≤ 9 → a < m 170 363) ∧ (b ≤ 9 → b < m 170 363) ∧ (c ≤ 9 → c < m 170 363)) → ¬ m 170 364 < 16 → K (-5) (am_st (am_st m 0 17 (-5)) 167 5 (w32 (m 167 5 + 1)))) (k2 : ((0 ≤ t ∧ t ≤ 7) ∧ (0 ≤ a ∧ a ≤ 17) ∧ (-1 ≤ b ∧ b ≤ 17) ∧ (-1 ≤ c ∧ c ≤ 17) ∧ (b = -1 → c = -1)) → ¬ ((a ≤ 9 → a < m 170 363) ∧ (b ≤ 9 → b < m 170 363) ∧ (c ≤ 9 → c < m 170 363)) → K (-2) (am_st (am_st m 0 17 (-2)) 167 2 (w32 (m 167 2 + 1)))) (k1 : ¬ ((0 ≤ t ∧ t ≤ 7) ∧ (0 ≤ a ∧ a ≤ 17) ∧ (-1 ≤ b ∧ b ≤ 17) ∧ (-1 ≤ c ∧ c ≤ 17) ∧ (b = -1 → c = -1)) → K (-1) (am_st (am_st m 0 17 (-1)) 167 1 (w32 (m 167 1 + 1)))) : M_X11_rule 0 t a b c K m := by
  have q0 : rk (am_st m 4 2 (m 170 364 + 1)) 4 4 64 ∨ ¬ m 170 364 < 16 := by
    by_cases c : m 170 364 < 16
    · exact Or.inl (rk_opened h.1 h.2.1 (by omega))
    · exact Or.inr c
  have kJ : ((0 ≤ t ∧ t ≤ 7) ∧ (0 ≤ a ∧ a ≤ 17) ∧ (-1 ≤ b ∧ b ≤ 17) ∧ (-1 ≤ c ∧ c ≤ 17) ∧ (b = -1 → c = -1)) → M_X11_rule_J2 0 t a b c K m := fun v => c_ruleJ h hn hw hw0 v (k0 v) (k5 v) (k2 v)
  unfold M_X11_rule M_X11_rule_J1
  simp only [isThing_eq, within_eq, b01, b01', refuse_eq (Or.inl rfl), ite_br, ite_not]
  repeat' split
  all_goals first
    | (exfalso; omega)
    | exact kJ (by omega)
    | exact k1 (by omega)
theorem d_ruleJ {m : am_M} {t a b c : Int} {K : am_KK} (hn : 0 ≤ m 170 364 ∧ m 170 364 ≤ 16) (hw : 0 ≤ m 170 363 ∧ m 170 363 ≤ 10)
    (vv : (0 ≤ t ∧ t ≤ 7) ∧ (0 ≤ a ∧ a ≤ 17) ∧ (-1 ≤ b ∧ b ≤ 17) ∧ (-1 ≤ c ∧ c ≤ 17) ∧ (b = -1 → c = -1)) (k0 : ((a ≤ 9 → a < m 170 363) ∧ (b ≤ 9 → b < m 170 363) ∧ (c ≤ 9 → c < m 170 363)) → m 170 364 < 16 → K (m 170 364) (am_st (am_st (am_st (am_st (am_st (am_st (m) 170 (180 + 4 * m 170 364) t) 170 (180 + 4 * m 170 364 + 1) a) 170 (180 + 4 * m 170 364 + 2) b) 170 (180 + 4 * m 170 364 + 3) c) 170 364 (m 170 364 + 1)) 168 0 0)) (k5 : ((a ≤ 9 → a < m 170 363) ∧ (b ≤ 9 → b < m 170 363) ∧ (c ≤ 9 → c < m 170 363)) → ¬ m 170 364 < 16 → K (-5) (am_st (am_st m 168 0 (-5)) 169 5 (w32 (m 169 5 + 1)))) (k2 : ¬ ((a ≤ 9 → a < m 170 363) ∧ (b ≤ 9 → b < m 170 363) ∧ (c ≤ 9 → c < m 170 363)) → K (-2) (am_st (am_st m 168 0 (-2)) 169 2 (w32 (m 169 2 + 1)))) : M_X12_rule_J3 168 t a b c K m := by
  have wy : w32 (4 * m 170 364) = 4 * m 170 364 := w32_of (by omega) (by omega)
  have wx : w32 (180 + 4 * m 170 364) = 180 + 4 * m 170 364 := w32_of (by omega) (by omega)
  have w1 : w32 (180 + 4 * m 170 364 + 1) = 180 + 4 * m 170 364 + 1 := w32_of (by omega) (by omega)
  have w2 : w32 (180 + 4 * m 170 364 + 2) = 180 + 4 * m 170 364 + 2 := w32_of (by omega) (by omega)
  have w3 : w32 (180 + 4 * m 170 364 + 3) = 180 + 4 * m 170 364 + 3 := w32_of (by omega) (by omega)
  have wn : w32 (m 170 364 + 1) = m 170 364 + 1 := w32_of (by omega) (by omega)
  have ww : w32 (m 170 363 - 1) = m 170 363 - 1 := w32_of (by omega) (by omega)
  have wm : (am_st (am_st (am_st (am_st m 170 (180 + 4 * m 170 364) t) 170 (180 + 4 * m 170 364 + 1) a) 170 (180 + 4 * m 170 364 + 2) b) 170 (180 + 4 * m 170 364 + 3) c) 170 364 = m 170 364 := by
    rw [am_st_ne _ (by omega)]; rw [am_st_ne _ (by omega)]; rw [am_st_ne _ (by omega)]; rw [am_st_ne _ (by omega)]
  have u0 : (0 ≤ 180 + 4 * m 170 364 ∧ 180 + 4 * m 170 364 < 5977) := by omega
  have u1 : (0 ≤ 180 + 4 * m 170 364 + 1 ∧ 180 + 4 * m 170 364 + 1 < 5977) := by omega
  have u2 : (0 ≤ 180 + 4 * m 170 364 + 2 ∧ 180 + 4 * m 170 364 + 2 < 5977) := by omega
  have u3 : (0 ≤ 180 + 4 * m 170 364 + 3 ∧ 180 + 4 * m 170 364 + 3 < 5977) := by omega
  have un : ((0 : Int) ≤ 364 ∧ (364 : Int) < 5977) := by omega
  have uw : ((0 : Int) ≤ 363 ∧ (363 : Int) < 5977) := by omega
  unfold M_X12_rule_J3 M_X12_rule_J4
  simp only [lies_eq, am_rf_all, am_ln_all, b01, b01', refuses_eq (Or.inl rfl), refuses_eq (Or.inr (Or.inl rfl)), refuses_eq (Or.inr (Or.inr (Or.inr (Or.inl rfl)))), good_eq, forall_eq, ite_br, ite_not, if_true, if_false, ne_eq, not_true_eq_false, not_false_eq_true, true_imp_iff, false_imp_iff, and_true, show ¬ ((1 : Int) = 0) by decide, wx, wy, w1, w2, w3, wn, ww, wm, u0, u1, u2, u3, un, true_and, uw, there_eq _ _ _ hw]
  repeat' split
  all_goals first
    | (exfalso; omega)
    | exact k2 (by omega)
    | exact k5 (by omega) (by omega)
    | exact k0 (by omega) (by omega)
theorem d_rule {m : am_M} {t a b c : Int} {K : am_KK} (hn : 0 ≤ m 170 364 ∧ m 170 364 ≤ 16) (hw : 0 ≤ m 170 363 ∧ m 170 363 ≤ 10)
    (k0 : ((0 ≤ t ∧ t ≤ 7) ∧ (0 ≤ a ∧ a ≤ 17) ∧ (-1 ≤ b ∧ b ≤ 17) ∧ (-1 ≤ c ∧ c ≤ 17) ∧ (b = -1 → c = -1)) → ((a ≤ 9 → a < m 170 363) ∧ (b ≤ 9 → b < m 170 363) ∧ (c ≤ 9 → c < m 170 363)) → m 170 364 < 16 → K (m 170 364) (am_st (am_st (am_st (am_st (am_st (am_st (m) 170 (180 + 4 * m 170 364) t) 170 (180 + 4 * m 170 364 + 1) a) 170 (180 + 4 * m 170 364 + 2) b) 170 (180 + 4 * m 170 364 + 3) c) 170 364 (m 170 364 + 1)) 168 0 0)) (k5 : ((0 ≤ t ∧ t ≤ 7) ∧ (0 ≤ a ∧ a ≤ 17) ∧ (-1 ≤ b ∧ b ≤ 17) ∧ (-1 ≤ c ∧ c ≤ 17) ∧ (b = -1 → c = -1)) → ((a ≤ 9 → a < m 170 363) ∧ (b ≤ 9 → b < m 170 363) ∧ (c ≤ 9 → c < m 170 363)) → ¬ m 170 364 < 16 → K (-5) (am_st (am_st m 168 0 (-5)) 169 5 (w32 (m 169 5 + 1)))) (k2 : ((0 ≤ t ∧ t ≤ 7) ∧ (0 ≤ a ∧ a ≤ 17) ∧ (-1 ≤ b ∧ b ≤ 17) ∧ (-1 ≤ c ∧ c ≤ 17) ∧ (b = -1 → c = -1)) → ¬ ((a ≤ 9 → a < m 170 363) ∧ (b ≤ 9 → b < m 170 363) ∧ (c ≤ 9 → c < m 170 363)) → K (-2) (am_st (am_st m 168 0 (-2)) 169 2 (w32 (m 169 2 + 1)))) (k1 : ¬ ((0 ≤ t ∧ t ≤ 7) ∧ (0 ≤ a ∧ a ≤ 17) ∧ (-1 ≤ b ∧ b ≤ 17) ∧ (-1 ≤ c ∧ c ≤ 17) ∧ (b = -1 → c = -1)) → K (-1) (am_st (am_st m 168 0 (-1)) 169 1 (w32 (m 169 1 + 1)))) : M_X12_rule 168 t a b c K m := by
  have kJ : ((0 ≤ t ∧ t ≤ 7) ∧ (0 ≤ a ∧ a ≤ 17) ∧ (-1 ≤ b ∧ b ≤ 17) ∧ (-1 ≤ c ∧ c ≤ 17) ∧ (b = -1 → c = -1)) → M_X12_rule_J3 168 t a b c K m := fun v => d_ruleJ hn hw v (k0 v) (k5 v) (k2 v)
  unfold M_X12_rule M_X12_rule_J1 M_X12_rule_J2 M_X12_isPart
  simp only [M_X12_isThing, lies_eq, b01, b01', refuses_eq (Or.inl rfl), ite_br, ite_not]
  repeat' split
  all_goals first
    | (exfalso; omega)
    | exact kJ (by omega)
    | exact k1 (by omega)
theorem j_rule (t a b c : Int) : Joint (M_X11_rule 0 t a b c) (M_X12_rule 168 t a b c) := by
  intro m h K hK
  have hb := h.1.1
  have hf := h.1.2.2.1
  obtain ⟨R1, R2, R3, R4, R5⟩ := bk_rows hb
  have bw := hf.1.1
  have br := hf.1.2.1
  have bp := hf.1.2.2.1
  have bb := hf.1.2.2.2.1
  have ba := hf.1.2.2.2.2.1
  refine c_rule (R2) (by omega) R1.2.1 bw.1 (fun hv hw hn => ?_) (fun hv hw hn => ?_) (fun hv hw => ?_) (fun hv => ?_)
  · have e170 : (am_st (am_st (am_st (am_st (am_st (am_st m 4 2 (m 170 364 + 1)) 5 (m 170 364 * 4 + 0) t) 5 (m 170 364 * 4 + 1) a) 5 (m 170 364 * 4 + 2) b) 5 (m 170 364 * 4 + 3) c) 0 17 0) 170 = m 170 := by simp (disch := omega) only [st_rne]
    refine d_rule (by rw [e170]; omega) (by rw [e170]; omega) ?_ ?_ ?_ ?_
    · intro _ _ _
      simp only [e170]
      refine hK _ _ (rel_intro (fun m' hm => ?_))
      have er : m' 170 = (wrA (wrA (wrA (wrA (wrA (m 170) (180 + 4 * m 170 364) t) (180 + 4 * m 170 364 + 1) a) (180 + 4 * m 170 364 + 2) b) (180 + 4 * m 170 364 + 3) c) 364 (m 170 364 + 1)) := by rw [hm]; simp (disch := omega) only [st_row, st_rne]
      have e : ∀ o k, ¬ ((o = 4 ∧ k = 2) ∨ o = 5 ∨ (o = 0 ∧ k = 17) ∨ o = 170 ∨ (o = 168 ∧ k = 0)) → m' o k = m o k := fun o k ho => by rw [hm, am_st_ne _ (by omega), am_st_ne _ (by omega), am_st_ne _ (by omega), am_st_ne _ (by omega), am_st_ne _ (by omega), am_st_ne _ (by omega), am_st_ne _ (by omega), am_st_ne _ (by omega), am_st_ne _ (by omega), am_st_ne _ (by omega), am_st_ne _ (by omega), am_st_ne _ (by omega)]
      have hA := wa_rule (A := m 170) (t := t) (a := a) (b := b) (c := c) hf.1 hn hv.1 ⟨by omega, by omega, by omega⟩ ⟨by omega, by omega, by omega⟩ ⟨by omega, by omega, by omega⟩
      rw [← er] at hA
      have hval : ∀ x, x ≠ 364 → x ≠ 180 + 4 * m 170 364 → x ≠ 180 + 4 * m 170 364 + 1 → x ≠ 180 + 4 * m 170 364 + 2 → x ≠ 180 + 4 * m 170 364 + 3 → m' 170 x = m 170 x := fun x y x0 x1 x2 x3 => by rw [er, wrA_ne _ y, wrA_ne _ x3, wrA_ne _ x2, wrA_ne _ x1, wrA_ne _ x0]
      refine Rel_book h (fun o k h1 h2 h3 h4 h5 => e o k (by omega)) (by rw [hm]; simp [am_st_eq]) (fun q hq => by have := wd_ne q hq; exact e _ _ (by omega)) ?_ ?_ (fun x hx => (hval x (by omega) (by omega) (by omega) (by omega) (by omega))) (by rw [hval _ (by omega) (by omega) (by omega) (by omega) (by omega)]; exact Int.le_refl _)
      · refine bk_put hb (rf_of' R1 (fun o k ho => e o k (by omega)) (fun x hx => (hval x (by omega) (by omega) (by omega) (by omega) (by omega)))) ?_ (rf_of' R3 (fun o k ho => e o k (by omega)) (fun x hx => (hval x (by omega) (by omega) (by omega) (by omega) (by omega)))) (rf_of' R4 (fun o k ho => e o k (by omega)) (fun x hx => (hval x (by omega) (by omega) (by omega) (by omega) (by omega)))) (rf_of' R5 (fun o k ho => e o k (by omega)) (fun x hx => (hval x (by omega) (by omega) (by omega) (by omega) (by omega)))) hf.2.2.1.1.2 (fun o k ho => e o k (by omega)) (fun x hx => (hval x (by omega) (by omega) (by omega) (by omega) (by omega)))
        refine rf_push R2 (e _ _ (by omega)) (by rw [hm]; simp [am_st_eq]) (by rw [er]; simp (disch := omega) only [wrA_same]) (by omega) (fun x x0 x1 => ⟨?_, ?_⟩) (fun j j0 j1 => ?_)
        · rw [hm, am_st_ne _ (by omega), am_st_ne _ (by omega), am_st_ne _ (by omega), am_st_ne _ (by omega), am_st_ne _ (by omega), am_st_ne _ (by omega), am_st_ne _ (by omega), am_st_ne _ (by omega), am_st_ne _ (by omega), am_st_ne _ (by omega), am_st_ne _ (by omega), am_st_ne _ (by omega)]
        · exact hval _ (by omega) (by omega) (by omega) (by omega) (by omega)
        · have ej : j = 0 ∨ j = 1 ∨ j = 2 ∨ j = 3 := by omega
          rcases ej with rfl | rfl | rfl | rfl
          · rw [er, hm, show 180 + (m 170 364 * 4 + 0) = 180 + 4 * m 170 364 by omega, show (4 : Int) + 1 = 5 by omega]; simp (disch := omega) only [am_st_ne, am_st_same, wrA_ne, wrA_same]
          · rw [er, hm, show 180 + (m 170 364 * 4 + 1) = 180 + 4 * m 170 364 + 1 by omega, show (4 : Int) + 1 = 5 by omega]; simp (disch := omega) only [am_st_ne, am_st_same, wrA_ne, wrA_same]
          · rw [er, hm, show 180 + (m 170 364 * 4 + 2) = 180 + 4 * m 170 364 + 2 by omega, show (4 : Int) + 1 = 5 by omega]; simp (disch := omega) only [am_st_ne, am_st_same, wrA_ne, wrA_same]
          · rw [er, hm, show 180 + (m 170 364 * 4 + 3) = 180 + 4 * m 170 364 + 3 by omega, show (4 : Int) + 1 = 5 by omega]; simp (disch := omega) only [am_st_ne, am_st_same, wrA_ne, wrA_same]
      · refine wf_of_sm hf hA (fun x hx => (hval x (by omega) (by omega) (by omega) (by omega) (by omega))) (by rw [hval _ (by omega) (by omega) (by omega) (by omega) (by omega)]; exact Int.le_refl _) (lw_W_lo hf.2.2.1 (fun x hx => (hval x (by omega) (by omega) (by omega) (by omega) (by omega)))) (fun x x0 x1 hx => ?_) (by omega)
        rw [er]
        unfold wrA
        repeat' split
        all_goals first | omega | (have := hf.2.2.2 x (by omega) x1; omega)
    · intro _ _ h2; rw [e170] at h2; exact absurd hn h2
    · intro _ h2; rw [e170] at h2; exact absurd hw h2
    · intro h2; exact absurd hv h2
  · have e170 : (am_st (am_st m 0 17 (-5)) 167 5 (w32 (m 167 5 + 1))) 170 = m 170 := by simp (disch := omega) only [st_rne]
    refine d_rule (by rw [e170]; omega) (by rw [e170]; omega) ?_ ?_ ?_ ?_
    · intro _ _ h2; rw [e170] at h2; exact absurd h2 hn
    · intro _ _ _; exact refuses_end (Or.inr (Or.inr (Or.inr (Or.inl rfl)))) h hK
    · intro _ h2; rw [e170] at h2; exact absurd hw h2
    · intro h2; exact absurd hv h2
  · have e170 : (am_st (am_st m 0 17 (-2)) 167 2 (w32 (m 167 2 + 1))) 170 = m 170 := by simp (disch := omega) only [st_rne]
    refine d_rule (by rw [e170]; omega) (by rw [e170]; omega) ?_ ?_ ?_ ?_
    · intro _ h2; rw [e170] at h2; exact absurd h2 hw
    · intro _ h2; rw [e170] at h2; exact absurd h2 hw
    · intro _ _; exact refuses_end (Or.inr (Or.inl rfl)) h hK
    · intro h2; exact absurd hv h2
  · have e170 : (am_st (am_st m 0 17 (-1)) 167 1 (w32 (m 167 1 + 1))) 170 = m 170 := by simp (disch := omega) only [st_rne]
    refine d_rule (by rw [e170]; omega) (by rw [e170]; omega) ?_ ?_ ?_ ?_
    · intro h2; exact absurd h2 hv
    · intro h2; exact absurd h2 hv
    · intro h2; exact absurd h2 hv
    · intro _; exact refuses_end (Or.inl rfl) h hK
