/-! DEEDS that can be undone are noted on both sides. -/
theorem ud_W_of {A : Int → Int} (hw : wf_A 16 A) (hH : wf_H A) : ud_W (A 365) A := ⟨hw.2.1, hH, fun x x0 x1 => hw.2.2.2 x x0 (by omega)⟩
theorem ud_1_ofL {d what : Int} {V L L' : Int → Int} (h : ud_1 d what V L) (hL : 0 ≤ L 168 ∧ L 168 ≤ 23) (e : ∀ x, 0 ≤ x → x < 170 → L' x = L x) : ud_1 d what V L' := by
  rcases h with ⟨h1, h2, h3, h4, h5⟩ | ⟨h1, h2, h3, hh, h4, h5, h6, h7⟩
  · refine Or.inl ⟨h1, h2, by rw [e _ (by omega) (by omega)]; exact h3, by rw [e _ (by omega) (by omega)]; exact h4, fun x x0 x1 => ?_⟩
    rw [e 168 (by omega) (by omega)] at x1
    rw [e _ (by omega) (by omega)]; exact h5 x x0 x1
  · refine Or.inr ⟨h1, by rw [e _ (by omega) (by omega)]; exact h2, by rw [e _ (by omega) (by omega)]; exact h3, hh, h4, h5, h6, fun p p0 p1 => ?_⟩
    rw [e 168 (by omega) (by omega)] at p1
    obtain ⟨g1, g2, g3⟩ := h7 p p0 p1
    exact ⟨fun j j0 j1 => by rw [e _ (by omega) (by omega)]; exact g1 j j0 j1, fun hb => by rw [e _ (by omega) (by omega), e _ (by omega) (by omega)]; exact g2 hb, fun hb => by rw [e (7 * p + 5) (by omega) (by omega), e (7 * p + 6) (by omega) (by omega)]; exact g3 hb⟩
theorem ud_W_ofL {ppl : Int} {L L' : Int → Int} (h : ud_W ppl L) (e : ∀ x, 0 ≤ x → x < 170 → L' x = L x) : ud_W ppl L' := by
  obtain ⟨⟨h1, h2, h3⟩, h4, h5⟩ := h
  refine ⟨⟨by rw [e _ (by omega) (by omega)]; exact h1, by rw [e _ (by omega) (by omega)]; exact h2, fun i i0 i1 => ?_⟩, fun p p0 p1 p2 => ?_, fun x x0 x1 => by rw [e x x0 x1]; exact h5 x x0 x1⟩
  · rw [e 168 (by omega) (by omega)] at i1
    rw [e (7 * i) (by omega) (by omega), e (7 * i + 1) (by omega) (by omega), e (7 * i + 2) (by omega) (by omega), e (7 * i + 3) (by omega) (by omega), e (7 * i + 4) (by omega) (by omega), e (7 * i + 5) (by omega) (by omega), e (7 * i + 6) (by omega) (by omega)]
    exact h3 i i0 i1
  · rw [e 168 (by omega) (by omega)] at p1
    rw [e (7 * p + 5) (by omega) (by omega)] at p2
    rw [e (7 * p + 6) (by omega) (by omega)]
    exact h4 p p0 p1 p2
/-- a deed more -/
theorem ud_push {m m' : am_M} {d what : Int} (h : ud_P m) (hk : m' 148 1 = m 148 1)
    (h1 : m 168 38 < 16 → m' 148 2 = m 168 38 + 1 ∧ m' 168 38 = m 168 38 + 1 ∧ m' 149 (m 168 38) = d ∧ (∀ j, 0 ≤ j → j < m 168 38 → m' 149 j = m 149 j) ∧ (∀ x, 0 ≤ x → x < 170 → m' 189 (171 * m 168 38 + x) = m 170 x) ∧ m' 189 (171 * m 168 38 + 170) = what ∧ ∀ y, 0 ≤ y → y < 171 * m 168 38 → m' 189 y = m 189 y)
    (h2 : m 168 38 = 16 → m' 148 2 = 16 ∧ m' 168 38 = 16 ∧ m' 149 15 = d ∧ (∀ j, 0 ≤ j → j < 15 → m' 149 j = m 149 (j + 1)) ∧ (∀ x, 0 ≤ x → x < 170 → m' 189 (171 * 15 + x) = m 170 x) ∧ m' 189 (171 * 15 + 170) = what ∧ ∀ y, 0 ≤ y → y < 171 * 15 → m' 189 y = m 189 (y + 171))
    (hd : ud_1 d what (m' 170) (m 170)) (hW : ud_W (m' 170 365) (m 170)) (hp : m 170 365 ≤ m' 170 365) : ud_P m' := by
  obtain ⟨g1, g2, g3, g4⟩ := h
  have hL := hW.1.1
  by_cases c : m 168 38 < 16
  · obtain ⟨a1, a2, a3, a4, a5, a6, a7⟩ := h1 c
    refine ⟨rk_to g1 hk (by rw [a1]; omega), by rw [a1, a2], by rw [a2]; omega, fun j j0 j1 => ?_⟩
    rw [a2] at j1 ⊢
    by_cases cj : j = m 168 38
    · subst cj
      rw [a3, a6, if_neg (by omega)]
      have e : ∀ x, 0 ≤ x → x < 170 → ud_L m' (m 168 38) x = m 170 x := a5
      exact ⟨ud_1_ofL hd (by omega) e, ud_W_ofL hW e⟩
    · obtain ⟨b1, b2⟩ := g4 j j0 (by omega)
      have e : ∀ x, 0 ≤ x → x < 170 → ud_L m' j x = ud_L m j x := fun x x0 x1 => a7 _ (by omega) (by omega)
      have b168 := b2.1.1
      rw [a4 j j0 (by omega), a7 _ (by omega) (by omega), if_pos (by omega)]
      refine ⟨ud_1_ofL (ud_1_of b1 (by omega) (fun x x0 x1 => ?_)) (by omega) e, ud_W_ofL (ud_W_mono b2 hp) e⟩
      by_cases cj2 : j + 1 < m 168 38
      · rw [if_pos cj2]; exact a7 _ (by omega) (by omega)
      · rw [if_neg cj2, show j + 1 = m 168 38 by omega]; exact a5 x x0 x1
  · obtain ⟨a1, a2, a3, a4, a5, a6, a7⟩ := h2 (by omega)
    refine ⟨rk_to g1 hk (by rw [a1]; omega), by rw [a1, a2], by rw [a2]; omega, fun j j0 j1 => ?_⟩
    rw [a2] at j1 ⊢
    by_cases cj : j = 15
    · subst cj
      rw [a3, a6, if_neg (by omega)]
      have e : ∀ x, 0 ≤ x → x < 170 → ud_L m' 15 x = m 170 x := a5
      exact ⟨ud_1_ofL hd (by omega) e, ud_W_ofL hW e⟩
    · obtain ⟨b1, b2⟩ := g4 (j + 1) (by omega) (by omega)
      have e : ∀ x, 0 ≤ x → x < 170 → ud_L m' j x = ud_L m (j + 1) x := fun x x0 x1 => by
        have := a7 (171 * j + x) (by omega) (by omega)
        rw [show 171 * j + x + 171 = 171 * (j + 1) + x by omega] at this
        exact this
      have b168 := b2.1.1
      have ew := a7 (171 * j + 170) (by omega) (by omega)
      rw [show 171 * j + 170 + 171 = 171 * (j + 1) + 170 by omega] at ew
      rw [a4 j j0 (by omega), ew, if_pos (by omega)]
      refine ⟨ud_1_ofL (ud_1_of b1 (by omega) (fun x x0 x1 => ?_)) (by omega) e, ud_W_ofL (ud_W_mono b2 hp) e⟩
      by_cases cj2 : j + 1 + 1 < m 168 38
      · rw [if_pos cj2]
        have := a7 (171 * (j + 1) + x) (by omega) (by omega)
        rw [show 171 * (j + 1) + x + 171 = 171 * (j + 1 + 1) + x by omega] at this
        exact this
      · rw [if_neg cj2, show j + 1 = 15 by omega]; exact a5 x x0 x1
/-- on the one side -/
theorem cnote {m : am_M} {d u : Int} (hk : rk m 148 1 16) (hu : m 148 2 = u) (h16 : u ≤ 16) {K : am_KK}
    (hK : ∀ m', (∀ o k, ¬ ((o = 148 ∧ k = 2) ∨ o = 149) → m' o k = m o k) → (u < 16 → m' 148 2 = u + 1 ∧ m' 149 u = d ∧ ∀ j, 0 ≤ j → j < u → m' 149 j = m 149 j) → (u = 16 → m' 148 2 = 16 ∧ m' 149 15 = d ∧ ∀ j, 0 ≤ j → j < 15 → m' 149 j = m 149 (j + 1)) → K 0 m') : M_X11_noteDeed 0 d K m := by
  have h0 := hk.2.2.1
  rw [hu] at h0
  unfold M_X11_noteDeed M_X11_noteDeed_J1
  simp only [am_rf_all, hu]
  refine ⟨fun c => ?_, fun c => ?_⟩
  · rw [open_eq hk, hu, if_pos (by omega), set_eq' (rk_opened hk hu (by omega)) (am_st_same _ _ _ _) h0 (by omega)]
    refine hK _ (fun o k ho => by rw [am_st_ne _ (by omega), am_st_ne _ (by omega)]) (fun _ => ⟨by rw [am_st_ne _ (by omega), am_st_same], ?_, fun j j0 j1 => ?_⟩) (fun q => by omega)
    · rw [show u * 1 + 0 = u by omega]; exact am_st_same _ _ _ _
    · rw [am_st_ne _ (by omega), am_st_ne _ (by omega)]
  · have hu16 : u = 16 := by omega
    subst hu16
    rw [dropFirst_eq hk, hu, if_pos (by omega)]
    have k1 : rk (am_cp (am_st m 148 2 (16 - 1)) (148 + 1) 1 (148 + 1) 0 ((16 - 1) * 1)) 148 1 16 := by
      refine rk_to hk ?_ ?_
      · rw [am_cp_eq, if_neg (by omega), am_st_ne _ (by omega)]
      · rw [am_cp_eq, if_neg (by omega), am_st_same]; omega
    have k2 : am_cp (am_st m 148 2 (16 - 1)) (148 + 1) 1 (148 + 1) 0 ((16 - 1) * 1) 148 2 = 15 := by rw [am_cp_eq, if_neg (by omega), am_st_same]; rfl
    rw [open_eq k1, k2, if_pos (by omega), set_eq' (rk_opened k1 k2 (by omega)) (am_st_same _ _ _ _) (by omega) (by omega)]
    refine hK _ (fun o k ho => by rw [am_st_ne _ (by omega), am_st_ne _ (by omega), am_cp_eq, if_neg (by omega), am_st_ne _ (by omega)]) (fun q => by omega) (fun _ => ⟨by rw [am_st_ne _ (by omega), am_st_same]; rfl, ?_, fun j j0 j1 => ?_⟩)
    · exact am_st_same _ _ _ _
    · rw [am_st_ne _ (by omega), am_st_ne _ (by omega), am_cp_eq, if_pos (by omega), am_st_ne _ (by omega)]
      congr 1; omega
/-- on the other side -/
theorem mkeeps {m : am_M} {what : Int} (hu : 0 ≤ m 168 38 ∧ m 168 38 ≤ 16) {K : am_KK}
    (hK : ∀ m', (∀ o k, ¬ ((o = 168 ∧ k = 38) ∨ o = 189) → m' o k = m o k) → (m 168 38 < 16 → m' 168 38 = m 168 38 + 1 ∧ (∀ x, 0 ≤ x → x < 170 → m' 189 (171 * m 168 38 + x) = m 170 x) ∧ m' 189 (171 * m 168 38 + 170) = what ∧ ∀ y, 0 ≤ y → y < 171 * m 168 38 → m' 189 y = m 189 y) → (m 168 38 = 16 → m' 168 38 = 16 ∧ (∀ x, 0 ≤ x → x < 170 → m' 189 (171 * 15 + x) = m 170 x) ∧ m' 189 (171 * 15 + 170) = what ∧ ∀ y, 0 ≤ y → y < 171 * 15 → m' 189 y = m 189 (y + 171)) → K 0 m') : M_X12_keeps 168 what K m := by
  -- the snapshot's copy, with u laid aside
  have cp : ∀ (m1 : am_M) (u : Int), 0 ≤ u → u < 16 → m1 168 38 = u → (∀ o k, ¬ ((o = 168 ∧ k = 38) ∨ o = 189) → m1 o k = m o k) → (∀ m', (∀ o k, ¬ ((o = 168 ∧ k = 38) ∨ o = 189) → m' o k = m o k) → m' 168 38 = u + 1 → (∀ x, 0 ≤ x → x < 170 → m' 189 (171 * u + x) = m 170 x) → m' 189 (171 * u + 170) = what → (∀ y, 0 ≤ y → y < 171 * u → m' 189 y = m1 189 y) → K 0 m') → M_X12_keeps_J1 168 what 171 K m1 := by
    intro m1 u u0 u16 hu1 f1 hK1
    unfold M_X12_keeps_J1 M_X12_keeps_L2
    refine ⟨fun j i m2 => 0 ≤ i ∧ i ≤ 170 ∧ j = (170 - i).toNat ∧ m2 168 38 = u ∧ (∀ o k, ¬ ((o = 168 ∧ k = 38) ∨ o = 189) → m2 o k = m o k) ∧ (∀ x, 0 ≤ x → x < i → m2 189 (171 * u + x) = m 170 x) ∧ ∀ y, 0 ≤ y → y < 171 * u → m2 189 y = m1 189 y, ⟨_, by omega, by omega, rfl, hu1, f1, fun x x0 x1 => by omega, fun y _ _ => rfl⟩, ?_⟩
    rintro j i m2 ⟨i0, i1, rfl, c1, c2, c3, c4⟩
    unfold M_X12_keeps_L2B
    simp only [am_rf_all, am_ln_all, c1, forall_eq]
    rw [w32_of (z := 171 * u) (by omega) (by omega), w32_of (z := 171 * u + 170) (by omega) (by omega)]
    refine ⟨fun q => ⟨by omega, ?_⟩, fun q => ⟨by omega, ?_, ?_⟩⟩
    · rw [am_st_ne (o' := 168) (k' := 38) _ (by omega), c1, w32_of (by omega) (by omega)]
      have : i = 170 := by omega
      subst this
      refine hK1 _ (fun o k ho => by rw [am_st_ne _ (by omega), am_st_ne _ (by omega)]; exact c2 o k ho) (am_st_same _ _ _ _) (fun x x0 x1 => by rw [am_st_ne _ (by omega), am_st_ne _ (by omega)]; exact c3 x x0 x1) (by rw [am_st_ne _ (by omega), am_st_same]) (fun y y0 y1 => by rw [am_st_ne _ (by omega), am_st_ne _ (by omega)]; exact c4 y y0 y1)
    · rw [w32_of (by omega) (by omega)]; omega
    · rw [w32_of (z := 171 * u + i) (by omega) (by omega), w32_of (z := i + 1) (by omega) (by omega)]
      refine ⟨_, by omega, by omega, by omega, rfl, by rw [am_st_ne _ (by omega)]; exact c1, fun o k ho => by rw [am_st_ne _ (by omega)]; exact c2 o k ho, fun x x0 x1 => ?_, fun y y0 y1 => by rw [am_st_ne _ (by omega)]; exact c4 y y0 y1⟩
      by_cases e : x = i
      · subst e; rw [am_st_same, c2 _ _ (by omega)]
      · rw [am_st_ne _ (by omega)]; exact c3 x x0 (by omega)
  unfold M_X12_keeps
  refine ⟨fun c => ?_, fun c => ?_⟩
  · exact cp m (m 168 38) hu.1 (by omega) rfl (fun _ _ _ => rfl) (fun m' a1 a2 a3 a4 a5 => hK m' a1 (fun _ => ⟨a2, a3, a4, a5⟩) (fun q => absurd q c))
  · have h16 : m 168 38 = 16 := by omega
    unfold M_X12_keeps_L1
    refine ⟨fun j i m1 => 0 ≤ i ∧ i ≤ 2565 ∧ j = (2565 - i).toNat ∧ (∀ o k, o ≠ 189 → m1 o k = m o k) ∧ (∀ y, 0 ≤ y → y < i → m1 189 y = m 189 (y + 171)) ∧ ∀ y, i ≤ y → m1 189 y = m 189 y, ⟨_, by omega, by omega, rfl, fun _ _ _ => rfl, fun y _ _ => by omega, fun _ _ => rfl⟩, ?_⟩
    rintro j i m1 ⟨i0, i1, rfl, c1, c2, c3⟩
    unfold M_X12_keeps_L1B
    simp only [am_rf_all, am_ln_all, forall_eq]
    rw [show w32 (15 * 171) = 2565 by decide, c1 _ _ (by omega), h16]
    refine ⟨fun q => ?_, fun q => ⟨?_, by omega, ?_⟩⟩
    · have : i = 2565 := by omega
      subst this
      refine cp _ 15 (by omega) (by omega) (by rw [am_st_same]; decide) (fun o k ho => by rw [am_st_ne _ (by omega), c1 _ _ (by omega)]) (fun m' a1 a2 a3 a4 a5 => hK m' a1 (fun q => by omega) (fun _ => ⟨by rw [a2]; rfl, a3, a4, fun y y0 y1 => ?_⟩))
      rw [a5 y y0 (by omega), am_st_ne _ (by omega)]
      exact c2 y y0 (by omega)
    · rw [w32_of (by omega) (by omega)]; omega
    · rw [w32_of (z := i + 171) (by omega) (by omega), w32_of (z := i + 1) (by omega) (by omega)]
      refine ⟨_, by omega, by omega, by omega, rfl, fun o k ho => by rw [am_st_ne _ (by omega)]; exact c1 o k ho, fun y y0 y1 => ?_, fun y y0 => by rw [am_st_ne _ (by omega)]; exact c3 y (by omega)⟩
      by_cases e : y = i
      · subst e; rw [am_st_same, c3 _ (by omega)]
      · rw [am_st_ne _ (by omega)]; exact c2 y y0 (by omega)
