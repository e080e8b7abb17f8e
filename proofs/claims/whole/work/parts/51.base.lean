/-! CALLS of a few writes: what all of them need. -/
theorem st_rne (m : am_M) {o o' : Int} (k v : Int) (h : o' ≠ o) : am_st m o k v o' = m o' := by
  funext x
  exact am_st_ne m (fun q => h q.1)
theorem mlies (x lo hi : Int) (K : am_KK) (m : am_M) : M_X12_lies x lo hi K m ↔ K (if lo ≤ x ∧ x ≤ hi then 1 else 0) m := lies_eq x lo hi K m
section BAS
variable {m m' : am_M}
theorem Rel_refuse {by_ : Int} (hb : by_ = -1 ∨ by_ = -2 ∨ by_ = -3 ∨ by_ = -5 ∨ by_ = -6) (h : Rel m) : Rel (am_st (am_st (am_st (am_st m 0 17 by_) 167 (-by_) (w32 (m 167 (-by_) + 1))) 168 0 by_) 169 (-by_) (w32 (m 169 (-by_) + 1))) := by
  obtain ⟨⟨h1, h2, h3, h4⟩, ⟨h5, h6⟩, h7, h8, h9, h10, h11, h12, h13⟩ := h
  generalize hm : (am_st (am_st (am_st (am_st m 0 17 by_) 167 (-by_) (w32 (m 167 (-by_) + 1))) 168 0 by_) 169 (-by_) (w32 (m 169 (-by_) + 1))) = m'
  have e : ∀ o k, ¬ ((o = 0 ∧ k = 17) ∨ o = 167 ∨ (o = 168 ∧ k = 0) ∨ o = 169) → m' o k = m o k := fun o k h => by rw [← hm, am_st_ne _ (by omega), am_st_ne _ (by omega), am_st_ne _ (by omega), am_st_ne _ (by omega)]
  have er : m' 170 = m 170 := funext fun k => e _ _ (by omega)
  refine ⟨⟨?_, ?_, by rw [er]; exact h3, by rw [er]; exact h4⟩, ⟨im_of (Or.inl rfl) h5 (fun o x ho => e _ _ (by omega)), im_of (Or.inr rfl) h6 (fun o x ho => e _ _ (by omega))⟩, tp_of h7 (fun o x ho => e _ _ (by omega)), ⟨?_, ?_, ?_, ?_⟩, fun j hj => ?_, ud_of h10 (fun o x ho => e _ _ (by omega)) (by rw [er]; exact Int.le_refl _), se_of h11 (fun o x ho => e _ _ (by omega)), wd_of h12 (fun q hq => ?_), ww_of h13 (e _ _ (by omega)) (e _ _ (by omega)) (fun _ => e _ _ (by omega)) (fun _ _ _ => e _ _ (by omega))⟩
  · rw [er]; exact bk_of h1 (fun o x _ _ _ => e _ _ (by omega)) (fun _ _ => rfl) h3.2.2.1.1.2
  · rw [er]; exact vg_of h2 (fun o x _ _ => e _ _ (by omega)) (fun _ _ => rfl)
  · rw [← hm, am_st_ne _ (by omega), am_st_ne _ (by omega), am_st_ne _ (by omega), am_st_same, am_st_ne _ (by omega), am_st_same]
  · rw [e _ _ (by omega), e _ _ (by omega)]; exact h8.2.1
  · rw [e _ _ (by omega), e _ _ (by omega)]; exact h8.2.2.1
  · rw [e _ _ (by omega), e _ _ (by omega)]; exact h8.2.2.2
  · by_cases c : j = -by_
    · subst c
      rw [← hm, am_st_ne _ (by omega), am_st_ne _ (by omega), am_st_same, am_st_same, h9 (-by_) hj]
    · rw [← hm, am_st_ne _ (by omega), am_st_ne _ (by omega), am_st_ne _ (by omega), am_st_ne _ (by omega), am_st_ne _ (by omega), am_st_ne _ (by omega), am_st_ne _ (by omega), am_st_ne _ (by omega)]
      exact h9 j hj
  · have := wd_ne q hq
    exact e _ _ (by omega)
/-- the two refusals, one behind the other -/
theorem refuses_end {by_ : Int} (hb : by_ = -1 ∨ by_ = -2 ∨ by_ = -3 ∨ by_ = -5 ∨ by_ = -6) (h : Rel m) {K : Int → Int → am_M → Prop} (hK : ∀ r m', Rel m' → K r r m') : K by_ by_ (am_st (am_st (am_st (am_st m 0 17 by_) 167 (-by_) (w32 (m 167 (-by_) + 1))) 168 0 by_) 169 (-by_) (w32 (am_st (am_st m 0 17 by_) 167 (-by_) (w32 (m 167 (-by_) + 1)) 169 (-by_) + 1))) := by
  rw [am_st_ne (o' := 169) _ (by omega), am_st_ne (o' := 169) _ (by omega)]
  exact hK _ _ (Rel_refuse hb h)
/-- what stands between calls, but for the Book and the latest REFUSAL -/
theorem Rel_book (h : Rel m) (e : ∀ o k, ¬ rl_s o k → ¬ (1 ≤ o ∧ o ≤ 42 ∧ ¬ (12 ≤ o ∧ o ≤ 14)) → o ≠ 170 → ¬ (o = 0 ∧ k = 17) → ¬ (o = 168 ∧ k = 0) → m' o k = m o k) (hs : m' 0 17 = m' 168 0) (hw : ∀ q ∈ wd_L, m' q.1 1 = m q.1 1) (hb : bk_P m' 1 (m' 170)) (hf : wf_A 16 (m' 170)) (hv : ∀ x, x < 170 → m' 170 x = m 170 x) (hp : m 170 365 ≤ m' 170 365) : Rel m' := by
  obtain ⟨⟨h1, h2, h3, h4⟩, ⟨h5, h6⟩, h7, h8, h9, h10, h11, h12, h13⟩ := h
  have h168 := h3.2.1.1
  refine ⟨⟨hb, vg_of h2 (fun o x _ _ => e _ _ (by unfold rl_s; omega) (by omega) (by omega) (by omega) (by omega)) hv, hf, fun p p0 p1 p2 => ?_⟩, ⟨im_of (Or.inl rfl) h5 (fun o x ho => e _ _ (by unfold rl_s; omega) (by omega) (by omega) (by omega) (by omega)), im_of (Or.inr rfl) h6 (fun o x ho => e _ _ (by unfold rl_s; omega) (by omega) (by omega) (by omega) (by omega))⟩, tp_of h7 (fun o x ho => e _ _ (by unfold rl_s; omega) (by omega) (by omega) (by omega) (by omega)), ⟨hs, ?_, ?_, ?_⟩, re_of h9 (fun o x ho => e _ _ (by unfold rl_s; omega) (by omega) (by omega) (by omega) (by omega)), ud_of h10 (fun o x ho => ?_) hp, se_of h11 (fun o x ho => e _ _ (by unfold rl_s; omega) (by omega) (by omega) (by omega) (by omega)), wd_of h12 hw, ww_of h13 (e _ _ (by unfold rl_s; omega) (by omega) (by omega) (by omega) (by omega)) (e _ _ (by unfold rl_s; omega) (by omega) (by omega) (by omega) (by omega)) (fun _ => e _ _ (by unfold rl_s; omega) (by omega) (by omega) (by omega) (by omega)) (fun _ _ _ => e _ _ (by unfold rl_s; omega) (by omega) (by omega) (by omega) (by omega))⟩
  · rw [hv _ (by omega)] at p1
    rw [hv _ (by omega)] at p2
    rw [hv _ (by omega)]
    exact h4 p p0 p1 p2
  · rw [e _ _ (by unfold rl_s; omega) (by omega) (by omega) (by omega) (by omega), e _ _ (by unfold rl_s; omega) (by omega) (by omega) (by omega) (by omega)]; exact h8.2.1
  · rw [e _ _ (by unfold rl_s; omega) (by omega) (by omega) (by omega) (by omega), e _ _ (by unfold rl_s; omega) (by omega) (by omega) (by omega) (by omega)]; exact h8.2.2.1
  · rw [e _ _ (by unfold rl_s; omega) (by omega) (by omega) (by omega) (by omega), e _ _ (by unfold rl_s; omega) (by omega) (by omega) (by omega) (by omega)]; exact h8.2.2.2
  · by_cases c : o = 170
    · subst c; exact hv _ (by omega)
    · exact e _ _ (by unfold rl_s; omega) (by omega) c (by omega) (by omega)
theorem Rel_fine (h : Rel m) : Rel (am_st (am_st m 0 17 0) 168 0 0) := by
  have er : am_st (am_st m 0 17 0) 168 0 0 170 = m 170 := by rw [st_rne _ _ _ (by omega), st_rne _ _ _ (by omega)]
  refine Rel_book h (fun o k _ _ _ h1 h2 => by rw [am_st_ne _ h2, am_st_ne _ h1]) ?_ (fun q hq => ?_) ?_ (by rw [er]; exact h.1.2.2.1) (fun x _ => by rw [er]) (by rw [er]; exact Int.le_refl _)
  · rw [am_st_ne _ (by omega), am_st_same, am_st_same]
  · have := wd_ne q hq
    rw [am_st_ne _ (by omega), am_st_ne _ (by omega)]
  · rw [er]
    exact bk_of h.1.1 (fun o k _ _ _ => by rw [am_st_ne _ (by omega), am_st_ne _ (by omega)]) (fun _ _ => rfl) h.1.2.2.1.2.2.1.1.2
/-- writes of Rows, one behind the other -/
theorem rk_st {r w cap o k v : Int} (h : rk m r w cap) (hne : ¬ (o = r ∧ (k = 1 ∨ k = 2))) : rk (am_st m o k v) r w cap := rk_of h (am_st_ne _ (by omega)) (am_st_ne _ (by omega))
end BAS
theorem wf_of_sm {n : Int} {A A' : Int → Int} (hw : wf_A n A) (hA : am_WA A') (hv : ∀ x, x < 170 → A' x = A x) (h365 : A 365 ≤ A' 365) (hl : lw_W A') (hs : ∀ x, 170 ≤ x → x < 370 → A' x ≠ A x → -1000000 ≤ A' x ∧ A' x ≤ 1000000) (hn : n ≤ 24) : wf_A n A' := by
  obtain ⟨h1, ⟨h2, h3, h4⟩, h5, h6⟩ := hw
  refine ⟨hA, ⟨by rw [hv _ (by omega)]; exact h2, by rw [hv _ (by omega)]; exact h3, fun i i0 i1 => ?_⟩, hl, fun x x0 x1 => ?_⟩
  · rw [hv _ (by omega)] at i1
    rw [hv (7 * i) (by omega), hv (7 * i + 1) (by omega), hv (7 * i + 2) (by omega), hv (7 * i + 3) (by omega), hv (7 * i + 4) (by omega), hv (7 * i + 5) (by omega), hv (7 * i + 6) (by omega)]
    obtain ⟨g1, g2⟩ := h4 i i0 i1
    exact ⟨by omega, g2⟩
  · by_cases c : A' x = A x
    · rw [c]; exact h6 x x0 x1
    · rcases Int.lt_or_le x 170 with q | q
      · exact absurd (hv x q) c
      · exact hs x q x1 c
theorem lw_W_lo {A A' : Int → Int} (h : lw_W A) (e : ∀ x, 368 ≤ x → A' x = A x) : lw_W A' := by
  obtain ⟨h1, h2, h3⟩ := h
  have ec : ∀ t, 0 ≤ t → lw_cs A' t = lw_cs A t := by
    intro t ht
    unfold lw_cs
    have e1 : lw_c A' t = lw_c A t := by
      funext x
      unfold lw_c
      rw [e (370 + t) (by omega)]
      split
      · exact e _ (by omega)
      · rfl
    have e2 : lw_v A' t = lw_v A t := by
      funext x
      unfold lw_v
      rw [e (370 + t) (by omega)]
      split
      · exact e _ (by omega)
      · rfl
    rw [e1, e2, e (370 + t) (by omega)]
  refine ⟨by rw [e _ (by omega)]; exact h1, by rw [e _ (by omega), e _ (by omega)]; exact h2, fun t t0 t1 => ?_⟩
  rw [e _ (by omega)] at t1
  obtain ⟨g1, g2, cs, g3⟩ := h3 t t0 t1
  rw [e _ (by omega)]
  exact ⟨g1, fun x x0 x1 => by rw [e _ (by omega)]; exact g2 x x0 x1, cs, by rw [ec t t0]; exact g3⟩
theorem lw_cs_lo {A A' : Int → Int} (e : ∀ x, 370 ≤ x → A' x = A x) {t : Int} (ht : 0 ≤ t) : lw_cs A' t = lw_cs A t := by
  unfold lw_cs
  have e1 : lw_c A' t = lw_c A t := by
    funext x
    unfold lw_c
    rw [e (370 + t) (by omega)]
    split
    · exact e _ (by omega)
    · rfl
  have e2 : lw_v A' t = lw_v A t := by
    funext x
    unfold lw_v
    rw [e (370 + t) (by omega)]
    split
    · exact e _ (by omega)
    · rfl
  rw [e1, e2, e (370 + t) (by omega)]
theorem rk_opened {m : am_M} {r w cap n : Int} (h : rk m r w cap) (hn : m r 2 = n) (hc : (n + 1) * w ≤ cap) : rk (am_st m r 2 (n + 1)) r w cap := by
  refine rk_to h (by rw [am_st_ne m (by omega)]) ?_
  rw [am_st_same]
  exact ⟨by have := h.2.2.1; omega, hc⟩
