/-! TERMS, END. -/
theorem deeds_cut {m : am_M} (h : ud_P m) (K : am_KK) (m1 : am_M) (e : ∀ k, m1 148 k = m 148 k) : M_X7_cut 148 0 K m1 ↔ K 0 (if 0 < m 168 38 then am_st m1 148 2 0 else m1) := by
  rw [cut_eq, e, h.2.1]
  by_cases c : 0 < m 168 38
  · rw [if_pos (by omega), if_pos c]
  · rw [if_neg (by omega), if_neg c]
/-- TERMS have changed, on both sides -/
theorem terms_end {m m' : am_M} {t v : Int} (h : Rel m) (ht : (t = 0 ∧ 0 ≤ v ∧ v ≤ 999) ∨ (t = 1 ∧ 1 ≤ v ∧ v ≤ 4) ∨ (t = 2 ∧ 0 ≤ v ∧ v ≤ 30) ∨ (t = 3 ∧ 0 ≤ v ∧ v ≤ 9))
    (e : ∀ o k, ¬ ((t = 0 ∧ o = 12 ∧ k = 1) ∨ (1 ≤ t ∧ o = 17 ∧ k = t) ∨ (o = 148 ∧ k = 2) ∨ (o = 0 ∧ k = 17) ∨ o = 170 ∨ (o = 168 ∧ (k = 0 ∨ k = 38))) → m' o k = m o k) (e1 : t = 0 → m' 12 1 = v) (e2 : 1 ≤ t → m' 17 t = v) (e3 : m' 148 2 = 0) (e4 : m' 0 17 = 0) (e5 : m' 168 0 = 0) (e6 : m' 168 38 = 0) (er : m' 170 = wrA (m 170) (if t = 0 then 169 else 359 + t) v) : Rel m' := by
  have hb := h.1.1
  have hv := h.1.2.1
  have hf := h.1.2.2.1
  have hud := h.2.2.2.2.2.1
  have hn := hf.2.1.1
  have hval : ∀ x, x ≠ (if t = 0 then 169 else 359 + t) → m' 170 x = m 170 x := fun x hx => by rw [er, wrA_ne _ hx]
  have hva : ∀ x, ¬ (t = 0 ∧ x = 169) → ¬ (1 ≤ t ∧ x = 359 + t) → m' 170 x = m 170 x := fun x h1 h2 => hval x (by split <;> omega)
  have hat : 1 ≤ t → m' 170 (359 + t) = v := fun q => by rw [er, if_neg (by omega), wrA_same]
  have hday : t = 0 → m' 170 169 = v := fun q => by rw [er, if_pos q, wrA_same]
  refine Rel_mk h (fun o k ho => e o k (by omega)) ?_ ?_ ?_ ?_ (tp_of h.2.2.1 (fun o k ho => e o k (by omega))) ⟨by rw [e4, e5], by rw [e _ _ (by omega), e _ _ (by omega)]; exact h.2.2.2.1.2.1, by rw [e _ _ (by omega), e _ _ (by omega)]; exact h.2.2.2.1.2.2.1, by rw [e _ _ (by omega), e _ _ (by omega)]; exact h.2.2.2.1.2.2.2⟩ (ud_clear (rk_to hud.1 (e _ _ (by omega)) (by rw [e3]; omega)) e3 e6) (fun q hq => by have := wd_ne q hq; exact e _ _ (by omega)) (ww_of h.2.2.2.2.2.2.2.2 (e _ _ (by omega)) (e _ _ (by omega)) (fun _ => e _ _ (by omega)) (fun _ _ _ => e _ _ (by omega)))
  · -- the Book
    obtain ⟨b1, b2, b3, b4, b5, b6, b7', b8, b9, b10⟩ := hb
    have l6 := hf.2.2.1.1.2
    refine ⟨(rf_of' b1 (fun o k ho => e o k (by omega)) (fun x hx => hva x (by omega) (by omega))), (rf_of' b2 (fun o k ho => e o k (by omega)) (fun x hx => hva x (by omega) (by omega))), (rf_of' b3 (fun o k ho => e o k (by omega)) (fun x hx => hva x (by omega) (by omega))), (rf_of' b4 (fun o k ho => e o k (by omega)) (fun x hx => hva x (by omega) (by omega))), (rf_of' b5 (fun o k ho => e o k (by omega)) (fun x hx => hva x (by omega) (by omega))), fun i j i0 i1 j0 j1 => ?_, fun i i0 i1 => ?_, ?_, ?_, fun s cs s0 s1 hc => ?_⟩
    · rw [e (1 + 14) _ (by omega), hva _ (by omega) (by omega)]; exact b6 i j i0 i1 j0 j1
    · rw [e (1 + 14) _ (by omega), e (1 + 15) _ (by omega), hva _ (by omega) (by omega)]; exact b7' i i0 i1
    · have g1 := e2
      have g2 : t = 1 ∨ t = 2 ∨ t = 3 ∨ t = 0 := by omega
      rcases g2 with rfl | rfl | rfl | rfl
      · rw [show (1 : Int) + 16 = 17 by omega, e2 (by omega), e 17 2 (by omega), e 17 3 (by omega), ← hat (by omega), hva 361 (by omega) (by omega), hva 362 (by omega) (by omega)]; exact ⟨rfl, b8.2⟩
      · rw [show (1 : Int) + 16 = 17 by omega, e2 (by omega), e 17 1 (by omega), e 17 3 (by omega), ← hat (by omega), hva 360 (by omega) (by omega), hva 362 (by omega) (by omega)]; exact ⟨b8.1, rfl, b8.2.2⟩
      · rw [show (1 : Int) + 16 = 17 by omega, e2 (by omega), e 17 1 (by omega), e 17 2 (by omega), ← hat (by omega), hva 360 (by omega) (by omega), hva 361 (by omega) (by omega)]; exact ⟨b8.1, b8.2.1, rfl⟩
      · rw [show (1 : Int) + 16 = 17 by omega, e 17 1 (by omega), e 17 2 (by omega), e 17 3 (by omega), hva 360 (by omega) (by omega), hva 361 (by omega) (by omega), hva 362 (by omega) (by omega)]; exact b8
    · rw [e 1 10 (by omega), e 1 11 (by omega), hva 368 (by omega) (by omega), hva 369 (by omega) (by omega)]; exact b9
    · rw [hva _ (by omega) (by omega)] at s1
      rw [lw_cs_lo (fun x hx => hva x (by omega) (by omega)) s0] at hc
      exact pz_PG_of (b10 s cs s0 s1 hc) (fun o k ho => e o k (by omega))
  · refine ⟨rf_of' hv.1 (fun o k ho => e o k (by omega)) (fun x hx => hva x (by omega) (by omega)), ?_⟩
    by_cases q : t = 0
    · rw [e1 q, hday q]
    · rw [e _ _ (by omega), hva _ (by omega) (by omega)]; exact hv.2
  · refine ⟨?_, ⟨?_, ?_, fun i i0 i1 => ?_⟩, lw_W_lo hf.2.2.1 (fun x hx => hva x (by omega) (by omega)), fun x x0 x1 => ?_⟩
    · -- the bounds
      obtain ⟨⟨a1, a2, a3⟩, ⟨b1, b2, b3⟩, ⟨c1', c2', c3⟩, ⟨d1, d2, d3⟩, ⟨f1, f2, f3⟩, g, k, l1, l2, l3, l4, l5⟩ := hf.1
      refine ⟨⟨?_, ?_, fun i i0 i1 => ?_⟩, ⟨?_, ?_, fun i i0 i1 => ?_⟩, ⟨?_, ?_, fun i i0 i1 => ?_⟩, ⟨?_, ?_, fun i i0 i1 => ?_⟩, ⟨?_, ?_, fun i i0 i1 => ?_⟩, fun i j i0 i1 j0 j1 => ?_, fun i i0 i1 => ?_, ?_, ?_, ?_, ?_, ?_⟩
      · simp (disch := omega) only [hva]; exact a1
      · simp (disch := omega) only [hva]; exact a2
      · simp (disch := omega) only [hva] at i1; simp (disch := omega) only [hva]; exact a3 i i0 i1
      · simp (disch := omega) only [hva]; exact b1
      · simp (disch := omega) only [hva]; exact b2
      · simp (disch := omega) only [hva] at i1; simp (disch := omega) only [hva]; exact b3 i i0 i1
      · simp (disch := omega) only [hva]; exact c1'
      · simp (disch := omega) only [hva]; exact c2'
      · simp (disch := omega) only [hva] at i1; simp (disch := omega) only [hva]; exact c3 i i0 i1
      · simp (disch := omega) only [hva]; exact d1
      · simp (disch := omega) only [hva]; exact d2
      · simp (disch := omega) only [hva] at i1; simp (disch := omega) only [hva]; exact d3 i i0 i1
      · simp (disch := omega) only [hva]; exact f1
      · simp (disch := omega) only [hva]; exact f2
      · simp (disch := omega) only [hva] at i1; simp (disch := omega) only [hva]; exact f3 i i0 i1
      · simp (disch := omega) only [hva]; exact g i j i0 i1 j0 j1
      · simp (disch := omega) only [hva]; exact k i i0 i1
      · by_cases q : t = 1
        · subst q; have := hat (by omega); rw [show (359 : Int) + 1 = 360 by omega] at this; rw [this]; omega
        · rw [hva _ (by omega) (by omega)]; exact l1
      · by_cases q : t = 2
        · subst q; have := hat (by omega); rw [show (359 : Int) + 2 = 361 by omega] at this; rw [this]; omega
        · rw [hva _ (by omega) (by omega)]; exact l2
      · by_cases q : t = 3
        · subst q; have := hat (by omega); rw [show (359 : Int) + 3 = 362 by omega] at this; rw [this]; omega
        · rw [hva _ (by omega) (by omega)]; exact l3
      · simp (disch := omega) only [hva]; exact l4
      · simp (disch := omega) only [hva]; exact l5
    · rw [hva _ (by omega) (by omega)]; exact hn
    · by_cases q : t = 0
      · rw [hday q]; omega
      · rw [hva _ (by omega) (by omega)]; exact hf.2.1.2.1
    · rw [hva _ (by omega) (by omega)] at i1
      have := hf.2.1.2.2 i i0 i1
      simp (disch := omega) only [hva]
      exact this
    · by_cases q : m' 170 x = m 170 x
      · rw [q]; exact hf.2.2.2 x x0 x1
      · by_cases z : t = 0
        · have : x = 169 := Classical.byContradiction fun y => q (hva x (by omega) (by omega))
          subst this; rw [hday z]; omega
        · have : x = 359 + t := Classical.byContradiction fun y => q (hva x (by omega) (by omega))
          subst this; rw [hat (by omega)]; omega
  · exact wH_of h.1.2.2.2 (fun x hx => hva x (by omega) (by omega)) (by omega)
theorem j_terms (t v : Int) : Joint (M_X11_terms 0 t v) (M_X12_terms 168 t v) := by
  intro m h K hK
  have hb := h.1.1
  have hv := h.1.2.1
  have hf := h.1.2.2.1
  have hud := h.2.2.2.2.2.1
  have u1 := hud.2.1
  have u2 := hud.2.2.1
  have t8 := hb.2.2.2.2.2.2.2.1
  rw [show (1 : Int) + 16 = 17 by omega] at t8
  have v2 : m 12 1 = m 170 169 := hv.2
  unfold M_X11_terms M_X12_terms M_X11_terms_J1 M_X12_terms_J1 M_X12_isTerm M_X11_lowestTerm M_X11_highestTerm M_X0_term M_X0_setTerm
  have ew : t = 0 ∨ t = 1 ∨ t = 2 ∨ t = 3 ∨ (t < 0 ∨ 3 < t) := by omega
  rcases ew with rfl | rfl | rfl | rfl | ew
  · simp only [within_eq, lies_eq, am_rf_all, am_ln_all, b01, b01', refuse_eq (Or.inl rfl), refuses_eq (Or.inl rfl), fine_eq, settled_eq, forall_eq]
    by_cases c : 0 ≤ v ∧ v ≤ 999
    · have a1 : am_st m 12 1 v 148 2 = m 168 38 := by rw [am_st_ne _ (by omega), u1]
      simp [c, cut_eq, v2, a1]
      by_cases c2 : 0 < m 168 38
      · rw [if_pos c2]
        have e4 : am_st (am_st (am_st m 12 1 v) 148 2 0) 0 17 0 170 = m 170 := by simp (disch := omega) only [st_rne]
        rw [e4]
        exact hK _ _ (terms_end (t := 0) (v := v) h (by omega) (fun o k ho => by rw [am_st_ne _ (by omega), am_st_ne _ (by omega), am_st_ne _ (by omega), am_st_ne _ (by omega), am_st_ne _ (by omega), am_st_ne _ (by omega)]) (fun _ => by simp [am_st_eq]) (fun q => by omega) (by simp [am_st_eq]) (by simp [am_st_eq]) (by simp [am_st_eq]) (by simp [am_st_eq]) (by rw [if_pos rfl]; simp (disch := omega) only [st_row, st_rne]))
      · rw [if_neg c2]
        have e4 : am_st (am_st m 12 1 v) 0 17 0 170 = m 170 := by simp (disch := omega) only [st_rne]
        rw [e4]
        exact hK _ _ (terms_end (t := 0) (v := v) h (by omega) (fun o k ho => by rw [am_st_ne _ (by omega), am_st_ne _ (by omega), am_st_ne _ (by omega), am_st_ne _ (by omega), am_st_ne _ (by omega)]) (fun _ => by simp [am_st_eq]) (fun q => by omega) (by simp [am_st_eq]; omega) (by simp [am_st_eq]) (by simp [am_st_eq]) (by simp [am_st_eq]) (by rw [if_pos rfl]; simp (disch := omega) only [st_row, st_rne]))
    · simp [c]
      exact refuses_end (Or.inl rfl) h hK
  · simp only [within_eq, lies_eq, am_rf_all, am_ln_all, b01, b01', refuse_eq (Or.inl rfl), refuses_eq (Or.inl rfl), fine_eq, settled_eq, forall_eq]
    have wx : w32 (w32 361 - 1) = 360 := by decide
    have a1 : am_st m 17 1 v 148 2 = m 168 38 := by rw [am_st_ne _ (by omega), u1]
    by_cases c : 1 ≤ v ∧ v ≤ 4
    · simp [c, cut_eq, t8.1, wx, a1]
      by_cases c2 : 0 < m 168 38
      · rw [if_pos c2]
        have e4 : am_st (am_st (am_st m 17 1 v) 148 2 0) 0 17 0 170 = m 170 := by simp (disch := omega) only [st_rne]
        rw [e4]
        exact hK _ _ (terms_end (t := 1) (v := v) h (by omega) (fun o k ho => by rw [am_st_ne _ (by omega), am_st_ne _ (by omega), am_st_ne _ (by omega), am_st_ne _ (by omega), am_st_ne _ (by omega), am_st_ne _ (by omega)]) (fun q => by omega) (fun q => by simp [am_st_eq]) (by simp [am_st_eq]) (by simp [am_st_eq]) (by simp [am_st_eq]) (by simp [am_st_eq]) (by rw [if_neg (by omega)]; simp (disch := omega) only [st_row, st_rne]; rfl))
      · rw [if_neg c2]
        have e4 : am_st (am_st m 17 1 v) 0 17 0 170 = m 170 := by simp (disch := omega) only [st_rne]
        rw [e4]
        exact hK _ _ (terms_end (t := 1) (v := v) h (by omega) (fun o k ho => by rw [am_st_ne _ (by omega), am_st_ne _ (by omega), am_st_ne _ (by omega), am_st_ne _ (by omega), am_st_ne _ (by omega)]) (fun q => by omega) (fun q => by simp [am_st_eq]) (by simp [am_st_eq]; omega) (by simp [am_st_eq]) (by simp [am_st_eq]) (by simp [am_st_eq]) (by rw [if_neg (by omega)]; simp (disch := omega) only [st_row, st_rne]; rfl))
    · simp [c]
      exact refuses_end (Or.inl rfl) h hK
  · simp only [within_eq, lies_eq, am_rf_all, am_ln_all, b01, b01', refuse_eq (Or.inl rfl), refuses_eq (Or.inl rfl), fine_eq, settled_eq, forall_eq]
    have wx : w32 (w32 362 - 1) = 361 := by decide
    have a1 : am_st m 17 2 v 148 2 = m 168 38 := by rw [am_st_ne _ (by omega), u1]
    by_cases c : 0 ≤ v ∧ v ≤ 30
    · simp [c, cut_eq, t8.2.1, wx, a1]
      by_cases c2 : 0 < m 168 38
      · rw [if_pos c2]
        have e4 : am_st (am_st (am_st m 17 2 v) 148 2 0) 0 17 0 170 = m 170 := by simp (disch := omega) only [st_rne]
        rw [e4]
        exact hK _ _ (terms_end (t := 2) (v := v) h (by omega) (fun o k ho => by rw [am_st_ne _ (by omega), am_st_ne _ (by omega), am_st_ne _ (by omega), am_st_ne _ (by omega), am_st_ne _ (by omega), am_st_ne _ (by omega)]) (fun q => by omega) (fun q => by simp [am_st_eq]) (by simp [am_st_eq]) (by simp [am_st_eq]) (by simp [am_st_eq]) (by simp [am_st_eq]) (by rw [if_neg (by omega)]; simp (disch := omega) only [st_row, st_rne]; rfl))
      · rw [if_neg c2]
        have e4 : am_st (am_st m 17 2 v) 0 17 0 170 = m 170 := by simp (disch := omega) only [st_rne]
        rw [e4]
        exact hK _ _ (terms_end (t := 2) (v := v) h (by omega) (fun o k ho => by rw [am_st_ne _ (by omega), am_st_ne _ (by omega), am_st_ne _ (by omega), am_st_ne _ (by omega), am_st_ne _ (by omega)]) (fun q => by omega) (fun q => by simp [am_st_eq]) (by simp [am_st_eq]; omega) (by simp [am_st_eq]) (by simp [am_st_eq]) (by simp [am_st_eq]) (by rw [if_neg (by omega)]; simp (disch := omega) only [st_row, st_rne]; rfl))
    · simp [c]
      exact refuses_end (Or.inl rfl) h hK
  · simp only [within_eq, lies_eq, am_rf_all, am_ln_all, b01, b01', refuse_eq (Or.inl rfl), refuses_eq (Or.inl rfl), fine_eq, settled_eq, forall_eq]
    have wx : w32 (w32 363 - 1) = 362 := by decide
    have a1 : am_st m 17 3 v 148 2 = m 168 38 := by rw [am_st_ne _ (by omega), u1]
    by_cases c : 0 ≤ v ∧ v ≤ 9
    · simp [c, cut_eq, t8.2.2, wx, a1]
      by_cases c2 : 0 < m 168 38
      · rw [if_pos c2]
        have e4 : am_st (am_st (am_st m 17 3 v) 148 2 0) 0 17 0 170 = m 170 := by simp (disch := omega) only [st_rne]
        rw [e4]
        exact hK _ _ (terms_end (t := 3) (v := v) h (by omega) (fun o k ho => by rw [am_st_ne _ (by omega), am_st_ne _ (by omega), am_st_ne _ (by omega), am_st_ne _ (by omega), am_st_ne _ (by omega), am_st_ne _ (by omega)]) (fun q => by omega) (fun q => by simp [am_st_eq]) (by simp [am_st_eq]) (by simp [am_st_eq]) (by simp [am_st_eq]) (by simp [am_st_eq]) (by rw [if_neg (by omega)]; simp (disch := omega) only [st_row, st_rne]; rfl))
      · rw [if_neg c2]
        have e4 : am_st (am_st m 17 3 v) 0 17 0 170 = m 170 := by simp (disch := omega) only [st_rne]
        rw [e4]
        exact hK _ _ (terms_end (t := 3) (v := v) h (by omega) (fun o k ho => by rw [am_st_ne _ (by omega), am_st_ne _ (by omega), am_st_ne _ (by omega), am_st_ne _ (by omega), am_st_ne _ (by omega)]) (fun q => by omega) (fun q => by simp [am_st_eq]) (by simp [am_st_eq]; omega) (by simp [am_st_eq]) (by simp [am_st_eq]) (by simp [am_st_eq]) (by rw [if_neg (by omega)]; simp (disch := omega) only [st_row, st_rne]; rfl))
    · simp [c]
      exact refuses_end (Or.inl rfl) h hK
  · have n0 : ¬ (0 ≤ t ∧ t ≤ 3) := by omega
    have n1 : ¬ t = 0 := by omega
    have n2 : ¬ t = 1 := by omega
    have n3 : ¬ t = 2 := by omega
    have n4 : ¬ t = 3 := by omega
    simp only [within_eq, b01, n0, not_false_eq_true, true_imp_iff, not_true_eq_false, false_imp_iff, and_true, refuse_eq (Or.inl rfl), n1, n2, n3, n4, true_and, ew, ne_eq, refuses_eq (Or.inl rfl)]
    exact refuses_end (Or.inl rfl) h hK
theorem j_end (n : Int) : Joint (M_X11_end 0 n) (M_X12_end 168 n) := by
  intro m h K hK
  obtain ⟨t1, t2, t3, t4⟩ := h.2.2.1
  unfold M_X11_end M_X12_end
  simp only [within_eq, lies_eq, am_rf_all, b01, b01', cut_eq, t2]
  by_cases c : 0 ≤ n ∧ n ≤ m 168 13
  · have key : ∀ m1 : am_M, (∀ o k, ¬ (o = 129 ∧ k = 2) → m1 o k = m o k) → m1 129 2 = n → Rel (am_st m1 168 13 n) := by
      intro m1 h1 h2
      refine rel_intro (fun m' hm => ?_)
      have e : ∀ o k, ¬ ((o = 129 ∧ k = 2) ∨ (o = 168 ∧ k = 13)) → m' o k = m o k := fun o k ho => by rw [hm, am_st_ne _ (by omega), h1 _ _ (by omega)]
      have er : m' 170 = m 170 := funext fun x => e _ _ (by omega)
      have e2 : m' 129 2 = n := by rw [hm, am_st_ne _ (by omega)]; exact h2
      have e3 : m' 168 13 = n := by rw [hm, am_st_same]
      refine Rel_mk h (fun o k ho => e o k (by omega)) (by rw [er]; exact bk_of h.1.1 (fun o k _ _ _ => e o k (by omega)) (fun _ _ => rfl) h.1.2.2.1.2.2.1.1.2) (by rw [er]; exact vg_of h.1.2.1 (fun o k _ _ => e o k (by omega)) (fun _ _ => rfl)) (by rw [er]; exact h.1.2.2.1) (by rw [er]; exact h.1.2.2.2) ⟨rk_to t1 (e _ _ (by omega)) (by rw [e2]; omega), by rw [e2, e3], by rw [e3]; omega, fun x x0 x1 => ?_⟩ (sc_of h.2.2.2.1 (fun o k ho => e o k (by omega))) (ud_of h.2.2.2.2.2.1 (fun o k ho => e o k (by omega)) (by rw [er]; exact Int.le_refl _)) (fun q hq => by have := wd_ne q hq; exact e _ _ (by omega)) (ww_of h.2.2.2.2.2.2.2.2 (e _ _ (by omega)) (e _ _ (by omega)) (fun _ => e _ _ (by omega)) (fun _ _ _ => e _ _ (by omega)))
      rw [e3] at x1
      rw [e _ _ (by omega), e 175 _ (by omega)]
      exact t4 x x0 (by omega)
    by_cases c2 : n < m 168 13
    · rw [if_pos (show 0 ≤ n ∧ n < m 168 13 by omega)]
      have e13 : am_st m 129 2 n 168 13 = m 168 13 := am_st_ne _ (by omega)
      simp [c, e13]
      exact hK _ _ (key _ (fun o k ho => am_st_ne _ ho) (am_st_same _ _ _ _))
    · rw [if_neg (show ¬ (0 ≤ n ∧ n < m 168 13) by omega)]
      simp [c]
      exact hK _ _ (key m (fun _ _ _ => rfl) (by omega))
  · simp [c]
    exact hK _ _ h
