/-! PRAY, DAWN. -/
theorem Rel_ref2 {m m' : am_M} {by_ : Int} (hb : by_ = -1 ∨ by_ = -2 ∨ by_ = -3 ∨ by_ = -5 ∨ by_ = -6) (h : Rel m) (e : ∀ o k, ¬ rl_s o k → ¬ ((o = 0 ∧ k = 17) ∨ o = 167 ∨ (o = 168 ∧ k = 0) ∨ o = 169) → m' o k = m o k) (e1 : m' 0 17 = by_) (e2 : m' 168 0 = by_) (e3 : ∀ k, m' 167 k = if k = -by_ then w32 (m 167 (-by_) + 1) else m 167 k) (e4 : ∀ k, m' 169 k = if k = -by_ then w32 (m 169 (-by_) + 1) else m 169 k) : Rel m' := by
  have h1 := Rel_refuse hb h
  refine Rel_of h1 (fun o k ho => ?_)
  by_cases c : (o = 0 ∧ k = 17) ∨ o = 167 ∨ (o = 168 ∧ k = 0) ∨ o = 169
  · rcases c with ⟨rfl, rfl⟩ | rfl | ⟨rfl, rfl⟩ | rfl
    · rw [e1, am_st_ne _ (by omega), am_st_ne _ (by omega), am_st_ne _ (by omega), am_st_same]
    · rw [e3, am_st_ne _ (by omega), am_st_ne _ (by omega)]
      by_cases ck : k = -by_
      · subst ck; rw [if_pos rfl, am_st_same]
      · rw [if_neg ck, am_st_ne _ (by omega), am_st_ne _ (by omega)]
    · rw [e2, am_st_ne _ (by omega), am_st_same]
    · rw [e4]
      by_cases ck : k = -by_
      · subst ck; rw [if_pos rfl, am_st_same]
      · rw [if_neg ck, am_st_ne _ (by omega), am_st_ne _ (by omega), am_st_ne _ (by omega), am_st_ne _ (by omega)]
  · rw [e o k ho c, am_st_ne _ (by omega), am_st_ne _ (by omega), am_st_ne _ (by omega), am_st_ne _ (by omega)]
theorem why_cases (A : Int → Int) (a t l w day : Int) : ab_why A a t l w day = -1 ∨ ab_why A a t l w day = -2 ∨ ab_why A a t l w day = -3 ∨ ab_why A a t l w day = -5 ∨ ab_why A a t l w day = 0 := by
  unfold ab_why
  repeat' split
  all_goals omega
theorem why_0 {A : Int → Int} {a t l w day : Int} (h : ab_why A a t l w day = 0) : ((0 ≤ t ∧ t ≤ 7) ∧ (1 ≤ l ∧ l ≤ 99) ∧ 1 ≤ w ∧ w ≤ 6) ∧ (0 ≤ a ∧ a < A 365) ∧ l ≤ ab_breath A a day ∧ A 168 < 16 := by
  unfold ab_why at h
  repeat' split at h
  all_goals first | omega | cases h
theorem tp_same {m m' : am_M} (h : tp_P m) (e : ∀ o k, (o = 129 ∨ o = 130 ∨ o = 175 ∨ (o = 168 ∧ k = 13)) → m' o k = m o k) : tp_P m' := tp_of h e
theorem j_pray (a t l w : Int) : Joint (M_X11_pray 0 a t l w) (M_X12_pray 168 a t l w) := by
  intro m h K hK
  have hb := h.1.1
  have hv := h.1.2.1
  have hf := h.1.2.2.1
  have hH := h.1.2.2.2
  have hw := wf_mono hf (show (16 : Int) ≤ 24 by omega)
  have hn := hf.2.1.1
  have hd := hf.2.1.2.1
  have l6 := hf.2.2.1.1.2
  have hud := h.2.2.2.2.2.1
  unfold M_X11_pray M_X12_pray M_X12_praysKept
  simp only [am_rf_all]
  refine ctry (Or.inl rfl) hw hb hv (fun hy m1 f1 => ?_) (fun hy m1 v1 f1 => ?_)
  · -- refused
    refine ⟨fun q => absurd q hy, fun _ => ?_⟩
    have hby : ab_why (m 170) a t l w (m 170 169) = -1 ∨ ab_why (m 170) a t l w (m 170 169) = -2 ∨ ab_why (m 170) a t l w (m 170 169) = -3 ∨ ab_why (m 170) a t l w (m 170 169) = -5 ∨ ab_why (m 170) a t l w (m 170 169) = -6 := by
      have := why_cases (m 170) a t l w (m 170 169); omega
    rw [refuse_eq hby]
    generalize hm2 : am_st (am_st m1 0 17 (ab_why (m 170) a t l w (m 170 169))) 167 (-ab_why (m 170) a t l w (m 170 169)) (w32 (m1 167 (-ab_why (m 170) a t l w (m 170 169)) + 1)) = m2
    have f2 : ∀ o k, ¬ (o = 137 ∨ o = 139 ∨ (o = 0 ∧ k = 17) ∨ o = 167) → m2 o k = m o k := fun o k ho => by rw [← hm2, am_st_ne _ (by omega), am_st_ne _ (by omega)]; exact f1 o k (by omega)
    have e170 : m2 170 = m 170 := funext fun x => f2 _ _ (by omega)
    refine mwhy (by rw [e170]; exact hw) (fun m3 f3 => ?_)
    rw [e170]
    refine ⟨fun q => by omega, fun _ => ?_⟩
    unfold M_X12_goodOr
    refine ⟨fun q => by omega, fun _ => ?_⟩
    rw [refuses_eq hby]
    refine hK _ _ (Rel_ref2 hby h (fun o k h1 h2 => ?_) ?_ ?_ (fun k => ?_) (fun k => ?_))
    · unfold rl_s at h1
      rw [am_st_ne _ (by omega), am_st_ne _ (by omega), f3 _ _ (by omega)]
      exact f2 o k (by omega)
    · rw [am_st_ne _ (by omega), am_st_ne _ (by omega), f3 _ _ (by omega), ← hm2, am_st_ne _ (by omega), am_st_same]
    · rw [am_st_ne _ (by omega), am_st_same]
    · rw [am_st_ne _ (by omega), am_st_ne _ (by omega), f3 _ _ (by omega), ← hm2]
      by_cases ck : k = -ab_why (m 170) a t l w (m 170 169)
      · subst ck; rw [am_st_same, if_pos rfl, f1 _ _ (by omega)]
      · rw [am_st_ne _ (by omega), am_st_ne _ (by omega), if_neg ck, f1 _ _ (by omega)]
    · by_cases ck : k = -ab_why (m 170) a t l w (m 170 169)
      · subst ck; rw [am_st_same, if_pos rfl, f3 _ _ (by omega), f2 _ _ (by omega)]
      · rw [am_st_ne _ (by omega), am_st_ne _ (by omega), if_neg ck, f3 _ _ (by omega), f2 _ _ (by omega)]
  · -- said
    obtain ⟨y1, y2, y3, y4⟩ := why_0 hy
    refine ⟨fun _ => ?_, fun q => absurd rfl q⟩
    refine cnote (u := m 168 38) (rk_of hud.1 (f1 _ _ (by omega)) (f1 _ _ (by omega))) (by rw [f1 _ _ (by omega)]; exact hud.2.1) hud.2.2.1.2 (fun m2 f2 d1 d2 => ?_)
    have v2 : vg_P m2 12 (ab_say (m 170) a t l w) := vg_of v1 (fun o k _ _ => f2 o k (by omega)) (fun _ _ => rfl)
    obtain ⟨s0, -⟩ := ab_say_n (A := m 170) (a := a) (t := t) (l := l) (w := w) (by omega)
    rw [fine_eq, show m2 13 2 = m 170 168 + 1 by rw [← s0]; exact v2.1.2.1, w32_of (by omega) (by omega), show m 170 168 + 1 - 1 = m 170 168 by omega]
    generalize hm3 : am_st m2 0 17 0 = m3
    have f3 : ∀ o k, ¬ (o = 137 ∨ o = 139 ∨ (o = 13 ∧ k = 2) ∨ o = 14 ∨ (o = 148 ∧ k = 2) ∨ o = 149 ∨ (o = 0 ∧ k = 17)) → m3 o k = m o k := fun o k ho => by rw [← hm3, am_st_ne _ (by omega), f2 _ _ (by omega)]; exact f1 o k (by omega)
    have e170 : m3 170 = m 170 := funext fun x => f3 _ _ (by omega)
    refine mwhy (by rw [e170]; exact hw) (fun m4 f4 => ?_)
    have g4 : m4 170 = m 170 := by rw [fr_law_170 f4, e170]
    rw [e170, hy]
    refine ⟨fun _ => ?_, fun q => absurd (Int.le_refl 0) q⟩
    have u38 : m4 168 38 = m 168 38 := by rw [f4 _ _ (by omega)]; exact f3 _ _ (by omega)
    refine mkeeps (by rw [u38]; exact hud.2.2.1) (fun m5 f5 k1 k2 => ?_)
    have g5 : m5 170 = m 170 := by rw [← g4]; exact funext fun x => f5 _ _ (by omega)
    rw [msays (by rw [g5]; omega), prayers_eq, row_eq, g5, s0]
    unfold M_X12_goodOr
    rw [w32_of (by omega) (by omega), show m 170 168 + 1 - 1 = m 170 168 by omega]
    refine ⟨fun _ => ?_, fun q => by omega⟩
    rw [good_eq]
    refine hK _ _ (rel_intro (fun m' hm => ?_))
    have er : m' 170 = ab_say (m 170) a t l w := by rw [hm, st_rne _ _ _ (by omega)]; funext x; exact row_eq _ _ _ _
    have e : ∀ o k, ¬ (o = 137 ∨ o = 139 ∨ (o = 13 ∧ k = 2) ∨ o = 14 ∨ (o = 148 ∧ k = 2) ∨ o = 149 ∨ (o = 0 ∧ k = 17) ∨ o = 170 ∨ o = 180 ∨ o = 189 ∨ (o = 168 ∧ (k = 0 ∨ k = 8 ∨ k = 22 ∨ k = 23 ∨ k = 24 ∨ k = 38))) → m' o k = m o k := fun o k ho => by
      rw [hm, am_st_ne _ (by omega), row_ne _ _ _ (by omega), f5 _ _ (by omega), f4 _ _ (by omega)]; exact f3 o k (by omega)
    have ec : ∀ o k, o < 168 → m' o k = m3 o k := fun o k ho => by rw [hm, am_st_ne _ (by omega), row_ne _ _ _ (by omega), f5 _ _ (by omega), f4 _ _ (by omega)]
    have ec2 : ∀ o k, o < 168 → ¬ (o = 0 ∧ k = 17) → m' o k = m2 o k := fun o k ho hq => by rw [ec o k ho, ← hm3, am_st_ne _ hq]
    have er2 : ∀ o k, o ≠ 170 → ¬ (o = 168 ∧ k = 0) → m' o k = m5 o k := fun o k h1 h2 => by rw [hm, am_st_ne _ h2, row_ne _ _ _ h1]
    have hfs := wf_say (n := 16) hf (by omega) (by omega) y2 y1.1 y1.2.1 y1.2.2
    refine Rel_mk h (fun o k ho => e o k (by omega)) ?_ ?_ (by rw [er]; exact hfs) (by rw [er]; exact wH_say hH (by omega)) (tp_of h.2.2.1 (fun o k ho => e o k (by omega))) ⟨?_, by rw [e _ _ (by omega), e _ _ (by omega)]; exact h.2.2.2.1.2.1, by rw [e _ _ (by omega), e _ _ (by omega)]; exact h.2.2.2.1.2.2.1, by rw [e _ _ (by omega), e _ _ (by omega)]; exact h.2.2.2.1.2.2.2⟩ (ud_push (d := 0) (what := 0) hud (e _ _ (by omega)) (fun q => ?_) (fun q => ?_) ?_ ?_ ?_) (fun q hq => by have := wd_ne q hq; exact e _ _ (by omega)) (ww_of h.2.2.2.2.2.2.2.2 (e _ _ (by omega)) (e _ _ (by omega)) (fun _ => e _ _ (by omega)) (fun _ _ _ => e _ _ (by omega)))
    · rw [er]; exact bk_of hb (fun o k _ _ _ => e o k (by omega)) (fun x hx => ab_say_o (by omega) (by omega)) l6
    · rw [er]; exact vg_of v2 (fun o k _ _ => ec2 o k (by omega) (by omega)) (fun _ _ => rfl)
    · rw [ec _ _ (by omega), ← hm3, am_st_same, hm, am_st_same]
    · obtain ⟨p1, p2, p3⟩ := d1 q
      obtain ⟨q1, q2, q3, q4⟩ := k1 (by rw [u38]; exact q)
      rw [u38, g4] at q2
      rw [u38] at q1 q3 q4
      refine ⟨by rw [ec2 _ _ (by omega) (by omega), p1], by rw [er2 _ _ (by omega) (by omega), q1], by rw [ec2 _ _ (by omega) (by omega), p2], fun j j0 j1 => by rw [ec2 _ _ (by omega) (by omega), p3 j j0 j1, f1 _ _ (by omega)], fun x x0 x1 => by rw [er2 _ _ (by omega) (by omega), q2 x x0 x1], by rw [er2 _ _ (by omega) (by omega), q3], fun y y0 y1 => by rw [er2 _ _ (by omega) (by omega), q4 y y0 y1, f4 _ _ (by omega), f3 _ _ (by omega)]⟩
    · obtain ⟨p1, p2, p3⟩ := d2 q
      obtain ⟨q1, q2, q3, q4⟩ := k2 (by rw [u38]; exact q)
      rw [g4] at q2
      refine ⟨by rw [ec2 _ _ (by omega) (by omega), p1], by rw [er2 _ _ (by omega) (by omega), q1], by rw [ec2 _ _ (by omega) (by omega), p2], fun j j0 j1 => by rw [ec2 _ _ (by omega) (by omega), p3 j j0 j1, f1 _ _ (by omega)], fun x x0 x1 => by rw [er2 _ _ (by omega) (by omega), q2 x x0 x1], by rw [er2 _ _ (by omega) (by omega), q3], fun y y0 y1 => by rw [er2 _ _ (by omega) (by omega), q4 y y0 y1, f4 _ _ (by omega), f3 _ _ (by omega)]⟩
    · rw [er]
      refine Or.inl ⟨rfl, rfl, s0, ab_say_o (by omega) (by omega), fun x x0 x1 => ab_say_o (by omega) (by omega)⟩
    · rw [er, ab_say_o (by omega) (by omega)]; exact ud_W_of hf hH
    · rw [er, ab_say_o (by omega) (by omega)]; exact Int.le_refl _
