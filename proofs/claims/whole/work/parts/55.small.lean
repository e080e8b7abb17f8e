/-! FORCE, OFTEN, CLASH, FORGET, TERMS, END. -/
section SMA
variable {m m' : am_M}
theorem Rel_mk (h : Rel m) (e : ∀ o k, (o = 128 ∨ (44 ≤ o ∧ o < 128) ∨ o = 171 ∨ o = 172 ∨ o = 167 ∨ o = 169 ∨ o = 164 ∨ o = 165 ∨ o = 198 ∨ o = 199 ∨ (o = 168 ∧ k = 58)) → m' o k = m o k) (hb : bk_P m' 1 (m' 170)) (hv : vg_P m' 12 (m' 170)) (hf : wf_A 16 (m' 170)) (hH : wf_H (m' 170)) (ht : tp_P m') (hs : sc_P m') (hd : ud_P m') (hw : ∀ q ∈ wd_L, m' q.1 1 = m q.1 1) (h13 : ww_P m') : Rel m' := by
  obtain ⟨-, ⟨h5, h6⟩, -, -, h9, -, h11, h12, -⟩ := h
  exact ⟨⟨hb, hv, hf, hH⟩, ⟨im_of (Or.inl rfl) h5 (fun o x ho => e _ _ (by omega)), im_of (Or.inr rfl) h6 (fun o x ho => e _ _ (by omega))⟩, ht, hs, re_of h9 (fun o x ho => e _ _ (by omega)), hd, se_of h11 (fun o x ho => e _ _ (by omega)), wd_of h12 hw, h13⟩
theorem ud_clear (h : rk m' 148 1 16) (h1 : m' 148 2 = 0) (h2 : m' 168 38 = 0) : ud_P m' := ⟨h, by rw [h1, h2], by omega, fun j j0 j1 => by omega⟩
theorem wH_of {A A' : Int → Int} (h : wf_H A) (e : ∀ x, x < 169 → A' x = A x) (h16 : A 168 ≤ 23) : wf_H A' := fun p p0 p1 p2 => by
  rw [e _ (by omega)] at p1
  rw [e _ (by omega)] at p2
  rw [e _ (by omega)]
  exact h p p0 p1 p2
end SMA
theorem j_often (t v : Int) : Joint (M_X11_often 0 t v) (M_X12_often 168 t v) := by
  intro m h K hK
  have hb := h.1.1
  have hf := h.1.2.2.1
  unfold M_X11_often M_X12_often M_X11_often_J1 M_X12_often_J1 M_X12_isThing
  simp only [isThing_eq, within_eq, lies_eq, am_rf_all, am_ln_all, b01, b01', refuse_eq (Or.inl rfl), refuses_eq (Or.inl rfl), fine_eq, good_eq, forall_eq]
  by_cases c : (0 ≤ t ∧ t ≤ 7) ∧ 0 ≤ v ∧ v ≤ 99
  · obtain ⟨c1, c2⟩ := c
    have b7 := hb.2.2.2.2.2.2.1 t (by omega) (by omega)
    rw [show (1 : Int) + 15 = 16 by omega, show (1 : Int) + 14 = 15 by omega] at b7
    have e1 : w32 (308 + t) = 308 + t := w32_of (by omega) (by omega)
    have e2 : 0 ≤ 308 + t ∧ 308 + t < 5977 := by omega
    have e3 : t < 8 := by omega
    have e4 : am_st (am_st m 16 t v) 0 17 0 170 = m 170 := by simp (disch := omega) only [st_rne]
    simp [c1, c2, e1, e2, e3, e4, b7.2.2]
    refine hK _ _ (rel_intro (fun m' hm => ?_))
    have er : m' 170 = wrA (m 170) (308 + t) v := by rw [hm]; simp (disch := omega) only [st_row, st_rne]
    have e : ∀ o k, ¬ ((o = 16 ∧ k = t) ∨ (o = 0 ∧ k = 17) ∨ o = 170 ∨ (o = 168 ∧ k = 0)) → m' o k = m o k := fun o k ho => by rw [hm, am_st_ne _ (by omega), am_st_ne _ (by omega), am_st_ne _ (by omega), am_st_ne _ (by omega)]
    have hval : ∀ x, x ≠ 308 + t → m' 170 x = m 170 x := fun x hx => by rw [er, wrA_ne _ hx]
    obtain ⟨b1, b2, b3, b4, b5, b6, b7', b8, b9, b10⟩ := hb
    have l6 := hf.2.2.1.1.2
    refine Rel_book h (fun o k h1 h2 h3 h4 h5 => e o k (by omega)) (by rw [hm]; simp [am_st_eq]) (fun q hq => by have := wd_ne q hq; exact e _ _ (by omega)) ?_ ?_ (fun x hx => hval x (by omega)) (by rw [hval _ (by omega)]; exact Int.le_refl _)
    · refine ⟨rf_of' b1 (fun o k ho => e o k (by omega)) (fun x hx => hval x (by omega)), rf_of' b2 (fun o k ho => e o k (by omega)) (fun x hx => hval x (by omega)), rf_of' b3 (fun o k ho => e o k (by omega)) (fun x hx => hval x (by omega)), rf_of' b4 (fun o k ho => e o k (by omega)) (fun x hx => hval x (by omega)), rf_of' b5 (fun o k ho => e o k (by omega)) (fun x hx => hval x (by omega)), fun i j i0 i1 j0 j1 => ?_, fun i i0 i1 => ?_, ?_, ?_, fun s cs s0 s1 hc => ?_⟩
      · rw [e (1 + 14) _ (by omega), hval _ (by omega)]; exact b6 i j i0 i1 j0 j1
      · rw [e (1 + 14) _ (by omega)]
        have := b7' i i0 i1
        refine ⟨this.1, this.2.1, ?_⟩
        by_cases ei : i = t
        · subst ei; rw [er, wrA_same, hm]; simp [am_st_eq]
        · rw [e (1 + 15) _ (by omega), hval _ (by omega)]; exact this.2.2
      · rw [e (1 + 16) 1 (by omega), e (1 + 16) 2 (by omega), e (1 + 16) 3 (by omega), hval 360 (by omega), hval 361 (by omega), hval 362 (by omega)]; exact b8
      · rw [e 1 10 (by omega), e 1 11 (by omega), hval 368 (by omega), hval 369 (by omega)]; exact b9
      · rw [hval _ (by omega)] at s1
        rw [lw_cs_lo (fun x hx => hval x (by omega)) s0] at hc
        exact pz_PG_of (b10 s cs s0 s1 hc) (fun o k ho => e o k (by omega))
    · refine wf_of_sm hf ?_ (fun x hx => hval x (by omega)) (by rw [hval _ (by omega)]; exact Int.le_refl _) (lw_W_lo hf.2.2.1 (fun x hx => hval x (by omega))) (fun x x0 x1 hx => ?_) (by omega)
      · obtain ⟨⟨a1, a2, a3⟩, ⟨b1, b2, b3⟩, ⟨c1', c2', c3⟩, ⟨d1, d2, d3⟩, ⟨f1, f2, f3⟩, g, k, l1, l2, l3, l4, l5⟩ := hf.1
        refine ⟨⟨?_, ?_, fun i i0 i1 => ?_⟩, ⟨?_, ?_, fun i i0 i1 => ?_⟩, ⟨?_, ?_, fun i i0 i1 => ?_⟩, ⟨?_, ?_, fun i i0 i1 => ?_⟩, ⟨?_, ?_, fun i i0 i1 => ?_⟩, fun i j i0 i1 j0 j1 => ?_, fun i i0 i1 => ?_, ?_, ?_, ?_, ?_, ?_⟩
        · simp (disch := omega) only [hval]; exact a1
        · simp (disch := omega) only [hval]; exact a2
        · simp (disch := omega) only [hval] at i1; simp (disch := omega) only [hval]; exact a3 i i0 i1
        · simp (disch := omega) only [hval]; exact b1
        · simp (disch := omega) only [hval]; exact b2
        · simp (disch := omega) only [hval] at i1; simp (disch := omega) only [hval]; exact b3 i i0 i1
        · simp (disch := omega) only [hval]; exact c1'
        · simp (disch := omega) only [hval]; exact c2'
        · simp (disch := omega) only [hval] at i1; simp (disch := omega) only [hval]; exact c3 i i0 i1
        · simp (disch := omega) only [hval]; exact d1
        · simp (disch := omega) only [hval]; exact d2
        · simp (disch := omega) only [hval] at i1; simp (disch := omega) only [hval]; exact d3 i i0 i1
        · simp (disch := omega) only [hval]; exact f1
        · simp (disch := omega) only [hval]; exact f2
        · simp (disch := omega) only [hval] at i1; simp (disch := omega) only [hval]; exact f3 i i0 i1
        · simp (disch := omega) only [hval]; exact g i j i0 i1 j0 j1
        · by_cases ei : i = t
          · subst ei; rw [er, wrA_same]; exact c2
          · simp (disch := omega) only [hval]; exact k i i0 i1
        · simp (disch := omega) only [hval]; exact l1
        · simp (disch := omega) only [hval]; exact l2
        · simp (disch := omega) only [hval]; exact l3
        · simp (disch := omega) only [hval]; exact l4
        · simp (disch := omega) only [hval]; exact l5
      · by_cases ex : x = 308 + t
        · subst ex; rw [er, wrA_same]; omega
        · exact absurd (hval x ex) hx
  · by_cases c1 : 0 ≤ t ∧ t ≤ 7
    · have c2 : ¬ (0 ≤ v ∧ v ≤ 99) := by omega
      simp [c1, c2]
      exact refuses_end (Or.inl rfl) h hK
    · simp [c1]
      exact refuses_end (Or.inl rfl) h hK
theorem j_forget : Joint (M_X11_forget 0) (M_X12_forget 168) := by
  intro m h K hK
  have hb := h.1.1
  have hf := h.1.2.2.1
  obtain ⟨R1, R2, R3, R4, R5⟩ := bk_rows hb
  have bn := hf.1.2.2.2.2.1
  unfold M_X11_forget M_X12_forget
  simp only [am_rf_all, am_ln_all, cut_eq, forall_eq, R5.2.1]
  have key : ∀ m1 : am_M, (∀ o k, ¬ (o = 10 ∧ k = 2) → m1 o k = m o k) → m1 10 2 = 0 → Rel (am_st m1 170 367 0) := by
    intro m1 hm1 hm2
    refine rel_intro (fun m' hm => ?_)
    have er : m' 170 = wrA (m 170) 367 0 := by rw [hm]; simp only [st_row]; congr 1; funext x; exact hm1 _ _ (by omega)
    have e : ∀ o k, ¬ ((o = 10 ∧ k = 2) ∨ o = 170) → m' o k = m o k := fun o k ho => by rw [hm, am_st_ne _ (by omega), hm1 _ _ (by omega)]
    have hval : ∀ x, x ≠ 367 → m' 170 x = m 170 x := fun x hx => by rw [er, wrA_ne _ hx]
    refine Rel_book h (fun o k h1 h2 h3 h4 h5 => e o k (by omega)) (by rw [e _ _ (by omega), e _ _ (by omega)]; exact h.2.2.2.1.1) (fun q hq => by have := wd_ne q hq; exact e _ _ (by omega)) ?_ ?_ (fun x hx => hval x (by omega)) (by rw [hval _ (by omega)]; exact Int.le_refl _)
    · have e10 : m' 10 2 = 0 := by rw [hm, am_st_ne _ (by omega)]; exact hm2
      obtain ⟨b1, b2, b3, b4, b5, b6, b7', b8, b9, b10⟩ := hb
      have l6 := hf.2.2.1.1.2
      refine ⟨(rf_of' b1 (fun o k ho => e o k (by omega)) (fun x hx => hval x (by omega))), (rf_of' b2 (fun o k ho => e o k (by omega)) (fun x hx => hval x (by omega))), (rf_of' b3 (fun o k ho => e o k (by omega)) (fun x hx => hval x (by omega))), (rf_of' b4 (fun o k ho => e o k (by omega)) (fun x hx => hval x (by omega))), ?_, fun i j i0 i1 j0 j1 => ?_, fun i i0 i1 => ?_, ?_, ?_, fun s cs s0 s1 hc => ?_⟩
      · refine ⟨rk_to R5.1 (e _ _ (by omega)) (by rw [show (1 : Int) + 9 = 10 by omega, e10]; omega), by rw [show (1 : Int) + 9 = 10 by omega, e10, er, wrA_same], fun x x0 x1 => ?_⟩
        rw [er, wrA_same] at x1; omega
      · rw [e (1 + 14) _ (by omega), hval _ (by omega)]; exact b6 i j i0 i1 j0 j1
      · rw [e (1 + 14) _ (by omega), e (1 + 15) _ (by omega), hval _ (by omega)]; exact b7' i i0 i1
      · rw [e (1 + 16) 1 (by omega), e (1 + 16) 2 (by omega), e (1 + 16) 3 (by omega), hval 360 (by omega), hval 361 (by omega), hval 362 (by omega)]; exact b8
      · rw [e 1 10 (by omega), e 1 11 (by omega), hval 368 (by omega), hval 369 (by omega)]; exact b9
      · rw [hval _ (by omega)] at s1
        rw [lw_cs_lo (fun x hx => hval x (by omega)) s0] at hc
        exact pz_PG_of (b10 s cs s0 s1 hc) (fun o k ho => e o k (by omega))
    · refine wf_of_sm hf ?_ (fun x hx => hval x (by omega)) (by rw [hval _ (by omega)]; exact Int.le_refl _) (lw_W_lo hf.2.2.1 (fun x hx => hval x (by omega))) (fun x x0 x1 hx => ?_) (by omega)
      · -- the bounds
        obtain ⟨⟨a1, a2, a3⟩, ⟨b1, b2, b3⟩, ⟨c1', c2', c3⟩, ⟨d1, d2, d3⟩, ⟨f1, f2, f3⟩, g, k, l1, l2, l3, l4, l5⟩ := hf.1
        refine ⟨⟨?_, ?_, fun i i0 i1 => ?_⟩, ⟨?_, ?_, fun i i0 i1 => ?_⟩, ⟨?_, ?_, fun i i0 i1 => ?_⟩, ⟨?_, ?_, fun i i0 i1 => ?_⟩, ⟨?_, ?_, fun i i0 i1 => ?_⟩, fun i j i0 i1 j0 j1 => ?_, fun i i0 i1 => ?_, ?_, ?_, ?_, ?_, ?_⟩
        · simp (disch := omega) only [hval]; exact a1
        · simp (disch := omega) only [hval]; exact a2
        · simp (disch := omega) only [hval] at i1; simp (disch := omega) only [hval]; exact a3 i i0 i1
        · simp (disch := omega) only [hval]; exact b1
        · simp (disch := omega) only [hval]; exact b2
        · simp (disch := omega) only [hval] at i1; simp (disch := omega) only [hval]; exact b3 i i0 i1
        · simp (disch := omega) only [hval]; exact c1'
        · simp (disch := omega) only [hval]; exact c2'
        · simp (disch := omega) only [hval] at i1; simp (disch := omega) only [hval]; exact c3 i i0 i1
        · simp (disch := omega) only [hval]; exact d1
        · simp (disch := omega) only [hval]; exact d2
        · simp (disch := omega) only [hval] at i1; simp (disch := omega) only [hval]; exact d3 i i0 i1
        · rw [er, wrA_same]; omega
        · rw [er, wrA_same]; omega
        · rw [er, wrA_same] at i1; omega
        · simp (disch := omega) only [hval]; exact g i j i0 i1 j0 j1
        · simp (disch := omega) only [hval]; exact k i i0 i1
        · simp (disch := omega) only [hval]; exact l1
        · simp (disch := omega) only [hval]; exact l2
        · simp (disch := omega) only [hval]; exact l3
        · simp (disch := omega) only [hval]; exact l4
        · simp (disch := omega) only [hval]; exact l5
      · by_cases ex : x = 367
        · subst ex; rw [er, wrA_same]; omega
        · exact absurd (hval x ex) hx
  have e1 : ∀ m1 : am_M, (∀ o k, ¬ (o = 10 ∧ k = 2) → m1 o k = m o k) → m1 170 367 = m 170 367 := fun m1 h1 => h1 _ _ (by omega)
  by_cases c : 0 ≤ (0 : Int) ∧ 0 < m 170 367
  · simp only [if_pos c]
    rw [e1 _ (fun o k ho => am_st_ne _ ho)]
    exact ⟨by omega, by omega, hK _ _ (key _ (fun o k ho => am_st_ne _ ho) (am_st_same _ _ _ _))⟩
  · simp only [if_neg c]
    exact ⟨by omega, by omega, hK _ _ (key m (fun o k ho => rfl) (by rw [R5.2.1]; omega))⟩
theorem j_force (v : Int) : Joint (M_X11_force 0 v) (M_X12_force 168 v) := by
  intro m h K hK
  have hb := h.1.1
  have hf := h.1.2.2.1
  obtain ⟨q10, q11⟩ := hb.2.2.2.2.2.2.2.2.1
  have l6 := hf.2.2.1.1
  have f6 := hf.2.2.1.2.1
  unfold M_X11_force M_X12_force
  simp only [within_eq, lies_eq, am_rf_all, am_ln_all, b01, b01', refuse_eq (Or.inr (Or.inl rfl)), refuses_eq (Or.inr (Or.inl rfl)), fine_eq, good_eq, forall_eq, q10, q11]
  rw [w32_of (z := m 170 368 - 1) (by omega) (by omega)]
  by_cases c : -1 ≤ v ∧ v ≤ m 170 368 - 1
  · have e4 : am_st (am_st m 1 11 v) 0 17 0 170 = m 170 := by simp (disch := omega) only [st_rne]
    simp [c, e4]
    rw [w32_of (z := m 170 368 - 1) (by omega) (by omega)]
    refine ⟨fun _ => hK _ _ (rel_intro (fun m' hm => ?_)), fun q => by omega⟩
    have er : m' 170 = wrA (m 170) 369 v := by rw [hm]; simp (disch := omega) only [st_row, st_rne]
    have e : ∀ o k, ¬ ((o = 1 ∧ k = 11) ∨ (o = 0 ∧ k = 17) ∨ o = 170 ∨ (o = 168 ∧ k = 0)) → m' o k = m o k := fun o k ho => by rw [hm, am_st_ne _ (by omega), am_st_ne _ (by omega), am_st_ne _ (by omega), am_st_ne _ (by omega)]
    have hval : ∀ x, x ≠ 369 → m' 170 x = m 170 x := fun x hx => by rw [er, wrA_ne _ hx]
    have e11 : m' 1 11 = v := by rw [hm, am_st_ne _ (by omega), am_st_ne _ (by omega), am_st_ne _ (by omega), am_st_same]
    refine Rel_book h (fun o k h1 h2 h3 h4 h5 => e o k (by omega)) (by rw [hm]; simp [am_st_eq]) (fun q hq => by have := wd_ne q hq; exact e _ _ (by omega)) ?_ ?_ (fun x hx => hval x (by omega)) (by rw [hval _ (by omega)]; exact Int.le_refl _)
    · -- the Book
      obtain ⟨b1, b2, b3, b4, b5, b6, b7', b8, b9, b10⟩ := hb
      have l6 := hf.2.2.1.1.2
      refine ⟨(rf_of' b1 (fun o k ho => e o k (by omega)) (fun x hx => hval x (by omega))), (rf_of' b2 (fun o k ho => e o k (by omega)) (fun x hx => hval x (by omega))), (rf_of' b3 (fun o k ho => e o k (by omega)) (fun x hx => hval x (by omega))), (rf_of' b4 (fun o k ho => e o k (by omega)) (fun x hx => hval x (by omega))), (rf_of' b5 (fun o k ho => e o k (by omega)) (fun x hx => hval x (by omega))), fun i j i0 i1 j0 j1 => ?_, fun i i0 i1 => ?_, ?_, ?_, fun s cs s0 s1 hc => ?_⟩
      · rw [e (1 + 14) _ (by omega), hval _ (by omega)]; exact b6 i j i0 i1 j0 j1
      · rw [e (1 + 14) _ (by omega), e (1 + 15) _ (by omega), hval _ (by omega)]; exact b7' i i0 i1
      · rw [e (1 + 16) 1 (by omega), e (1 + 16) 2 (by omega), e (1 + 16) 3 (by omega), hval 360 (by omega), hval 361 (by omega), hval 362 (by omega)]; exact b8
      · rw [e 1 10 (by omega), e11, hval 368 (by omega), er, wrA_same]; exact ⟨q10, rfl⟩
      · rw [hval _ (by omega)] at s1
        rw [lw_cs_lo (fun x hx => hval x (by omega)) s0] at hc
        exact pz_PG_of (b10 s cs s0 s1 hc) (fun o k ho => e o k (by omega))
    · refine wf_of_sm hf ?_ (fun x hx => hval x (by omega)) (by rw [hval _ (by omega)]; exact Int.le_refl _) ?_ (fun x x0 x1 hx => ?_) (by omega)
      · -- the bounds
        obtain ⟨⟨a1, a2, a3⟩, ⟨b1, b2, b3⟩, ⟨c1', c2', c3⟩, ⟨d1, d2, d3⟩, ⟨f1, f2, f3⟩, g, k, l1, l2, l3, l4, l5⟩ := hf.1
        refine ⟨⟨?_, ?_, fun i i0 i1 => ?_⟩, ⟨?_, ?_, fun i i0 i1 => ?_⟩, ⟨?_, ?_, fun i i0 i1 => ?_⟩, ⟨?_, ?_, fun i i0 i1 => ?_⟩, ⟨?_, ?_, fun i i0 i1 => ?_⟩, fun i j i0 i1 j0 j1 => ?_, fun i i0 i1 => ?_, ?_, ?_, ?_, ?_, ?_⟩
        · simp (disch := omega) only [hval]; exact a1
        · simp (disch := omega) only [hval]; exact a2
        · simp (disch := omega) only [hval] at i1; simp (disch := omega) only [hval]; exact a3 i i0 i1
        · simp (disch := omega) only [hval]; exact b1
        · simp (disch := omega) only [hval]; exact b2
        · simp (disch := omega) only [hval] at i1; simp (disch := omega) only [hval]; exact b3 i i0 i1
        · simp (disch := omega) only [hval]; exact c1'
        · simp (disch := omega) only [hval]; exact c2'
        · simp (disch := omega) only [hval] at i1; simp (disch := omega) only [hval]; exact c3 i i0 i1
        · simp (disch := omega) only [hval]; exact d1
        · simp (disch := omega) only [hval]; exact d2
        · simp (disch := omega) only [hval] at i1; simp (disch := omega) only [hval]; exact d3 i i0 i1
        · simp (disch := omega) only [hval]; exact f1
        · simp (disch := omega) only [hval]; exact f2
        · simp (disch := omega) only [hval] at i1; simp (disch := omega) only [hval]; exact f3 i i0 i1
        · simp (disch := omega) only [hval]; exact g i j i0 i1 j0 j1
        · simp (disch := omega) only [hval]; exact k i i0 i1
        · simp (disch := omega) only [hval]; exact l1
        · simp (disch := omega) only [hval]; exact l2
        · simp (disch := omega) only [hval]; exact l3
        · simp (disch := omega) only [hval]; exact l4
        · rw [hval 368 (by omega), er, wrA_same]; omega
      · refine ⟨by rw [hval 368 (by omega)]; exact l6, by rw [hval 368 (by omega), er, wrA_same]; omega, fun t t0 t1 => ?_⟩
        rw [hval _ (by omega)] at t1
        obtain ⟨g1, g2, cs, g3⟩ := hf.2.2.1.2.2 t t0 t1
        rw [hval _ (by omega)]
        exact ⟨g1, fun x x0 x1 => by rw [hval _ (by omega)]; exact g2 x x0 x1, cs, by rw [lw_cs_lo (fun x hx => hval x (by omega)) t0]; exact g3⟩
      · by_cases ex : x = 369
        · subst ex; rw [er, wrA_same]; omega
        · exact absurd (hval x ex) hx
  · have c2 : ¬ (-1 ≤ v ∧ v ≤ m 170 368 - 1) := c
    have e4 : am_st (am_st m 0 17 (-2)) 167 2 (w32 (m 167 2 + 1)) 170 = m 170 := by simp (disch := omega) only [st_rne]
    simp [c2, e4]
    rw [w32_of (z := m 170 368 - 1) (by omega) (by omega)]
    refine ⟨fun q r => by omega, fun q => ?_⟩
    exact refuses_end (Or.inr (Or.inl rfl)) h hK
