/-! BREATH, RANK, ORDER. -/
theorem takeFrom_w {r r2 w cap cap2 : Int} {m : am_M} (hs : rs r w cap) (hw : m r 1 = w) (h2 : rk m r2 w cap2) (hc : m r2 2 * w ≤ cap) (hne : r2 ≠ r + 1) (K : am_KK) : M_X7_takeFrom r r2 K m ↔ K 0 (am_st (am_cp m (r2 + 1) 0 (r + 1) 0 (m r2 2 * w)) r 2 (m r2 2)) := by
  unfold M_X7_takeFrom
  obtain ⟨g5, g6, g1, g2, g3, g4⟩ := hs
  obtain ⟨⟨f5, f6, -, -, f3, f4⟩, fw, e6, e7⟩ := id h2
  have a0 : 0 ≤ m r2 2 * w := Int.mul_nonneg e6 (by omega)
  rw [hw, fw, g5, g6, f5, f6, w32_of (z := m r2 2 * w) (by omega) (by omega)]
  have e : am_cp m (r2 + 1) 0 (r + 1) 0 (m r2 2 * w) r2 2 = m r2 2 := by rw [am_cp_eq, if_neg (by rintro ⟨q, -⟩; exact hne q)]
  have n1 : ¬ cap < m r2 2 * w := by omega
  simp [n1, a0, e7, hc, e]
theorem rf_take {m m' : am_M} {r r2 w cap cap2 : Int} {A A' : Int → Int} {n0 base : Int} (h2 : am_RF m r2 w cap2 A n0 base) (hs : rs r w cap) (hw : m' r 1 = w) (h1 : m' r 2 = m r2 2) (hc : A n0 * w ≤ cap) (h3 : ∀ x, 0 ≤ x → x < A n0 * w → m' (r + 1) x = m (r2 + 1) x) (ha : ∀ x, (x = n0 ∨ (base ≤ x ∧ x < base + cap)) → A' x = A x) : am_RF m' r w cap A' n0 base := by
  have e0 := h2.1.2.2.1
  refine ⟨⟨hs, hw, by rw [h1]; exact e0, by rw [h1, h2.2.1]; exact hc⟩, by rw [h1, h2.2.1, ha _ (by omega)], fun x x0 x1 => ?_⟩
  rw [ha n0 (by omega)] at x1
  rw [h3 x x0 x1, h2.2.2 x x0 x1, ha _ (by omega)]
theorem vg_take {m : am_M} {A : Int → Int} {v v2 : Int} (s1 : rs (v + 1) 7 168) (f1 : am_rfv v 0 = v + 1) (f2 : am_rfv v2 0 = v2 + 1) (hw : m (v + 1) 1 = 7) (h : vg_P m v2 A) (hd : v + 3 ≤ v2 ∨ v2 + 3 ≤ v) (h0 : A 168 ≤ 24) {K : am_KK}
    (hK : ∀ m', vg_P m' v A → (∀ o k, ¬ ((o = v ∧ k = 1) ∨ (o = v + 1 ∧ k = 2) ∨ o = v + 2) → m' o k = m o k) → K 0 m') : M_X9_takeFrom v v2 K m := by
  have hn := h.1.1.2.2.1
  unfold M_X9_takeFrom
  rw [f1, f2, takeFrom_w s1 hw h.1.1 (by rw [h.1.2.1]; omega) (by omega)]
  simp only [forall_eq]
  have e1 : am_st (am_cp m (v2 + 1 + 1) 0 (v + 1 + 1) 0 (m (v2 + 1) 2 * 7)) (v + 1) 2 (m (v2 + 1) 2) v2 1 = m v2 1 := by rw [am_st_ne _ (by omega), am_cp_eq, if_neg (by omega)]
  rw [e1]
  refine hK _ ⟨rf_take (A := A) h.1 s1 ?_ ?_ (by omega) (fun x x0 x1 => ?_) (fun _ _ => rfl), ?_⟩ (fun o k ho => ?_)
  · rw [am_st_ne _ (by omega), am_st_ne _ (by omega), am_cp_eq, if_neg (by omega)]; exact hw
  · rw [am_st_ne _ (by omega), am_st_same]
  · rw [am_st_ne _ (by omega), am_st_ne _ (by omega), am_cp_eq, if_pos (by rw [h.1.2.1]; omega)]
    congr 1; omega
  · rw [am_st_same]; exact h.2
  · rw [am_st_ne _ (by omega), am_st_ne _ (by omega), am_cp_eq, if_neg (by omega)]
theorem rs_143 : rs 143 7 168 := ⟨by decide +kernel, by decide +kernel, by decide, by decide, by decide, by decide⟩
theorem rs_13 : rs 13 7 168 := ⟨by decide +kernel, by decide +kernel, by decide, by decide, by decide, by decide⟩
theorem rs_146 : rs 146 7 168 := ⟨by decide +kernel, by decide +kernel, by decide, by decide, by decide, by decide⟩
theorem paper_take {m : am_M} {A : Int → Int} (hwd : wd_P m) (h : vg_P m 12 A) (h0 : A 168 ≤ 24) {K : am_KK} (hK : ∀ m', vg_P m' 142 A → (∀ o k, ¬ ((o = 142 ∧ k = 1) ∨ (o = 143 ∧ k = 2) ∨ o = 144) → m' o k = m o k) → K 0 m') : M_X9_takeFrom 142 12 K m :=
  vg_take (v := 142) (v2 := 12) rs_143 (by decide +kernel) (by decide +kernel) (hwd (143, 7) (by decide)) h (by omega) h0 hK
theorem breath_le {A : Int → Int} {q day : Int} : 0 ≤ ab_breath A q day ∧ ab_breath A q day ≤ 99 := by
  have key : ∀ (env : Int → Int) (cs : List pz_C) (w : Int), 0 ≤ w → w ≤ 99 → 0 ≤ pz_tell 1 0 99 env cs w ∧ pz_tell 1 0 99 env cs w ≤ 99 := by
    intro env cs
    induction cs with
    | nil => intro w h1 h2; exact ⟨h1, h2⟩
    | cons q cs ih =>
      intro w h1 h2
      unfold pz_tell
      split
      · unfold pz_clamp
        refine ih _ ?_ ?_ <;> (repeat' split) <;> omega
      · exact ih _ h1 h2
  unfold ab_breath lw_tell
  split
  · omega
  · split
    · exact key _ _ _ (by omega) (by omega)
    · omega
theorem bar_01 {A : Int → Int} {p day : Int} : ab_bar A p day = 0 ∨ ab_bar A p day = 1 := by
  have key : ∀ (env : Int → Int) (cs : List pz_C) (w : Int), (w = 0 ∨ w = 1) → pz_tell 2 0 1 env cs w = 0 ∨ pz_tell 2 0 1 env cs w = 1 := by
    intro env cs
    induction cs with
    | nil => intro w h1; exact h1
    | cons q cs ih =>
      intro w h1
      unfold pz_tell
      split
      · unfold pz_clamp
        refine ih _ ?_
        (repeat' split) <;> omega
      · exact ih _ h1
  unfold ab_bar lw_tell
  split
  · omega
  · split
    · exact key _ _ _ (by omega)
    · omega
theorem isPerson_eq (p : Int) (K : am_KK) (m : am_M) (h : 0 ≤ m 170 365 ∧ m 170 365 ≤ 6) : M_X12_isPerson 168 p K m ↔ K (if 0 ≤ p ∧ p < m 170 365 then 1 else 0) m := by
  unfold M_X12_isPerson
  simp only [am_rf_all, am_ln_all, lies_eq]
  rw [w32_of (by omega) (by omega)]
  have : (0 ≤ p ∧ p ≤ m 170 365 - 1) = (0 ≤ p ∧ p < m 170 365) := propext (by omega)
  simp [this]
theorem fr_j_s {m m' : am_M} (h : fr_j m m') : ∀ o k, ¬ rl_s o k → m' o k = m o k := fun o k q => h o k (by unfold rl_s at q; omega)
theorem fr_law_s {m m' : am_M} (h : fr_law m m') : ∀ o k, ¬ rl_s o k → m' o k = m o k := fun o k q => h o k (by unfold rl_s at q; omega)
theorem fr_q_s {m m' : am_M} (h : fr_q m m') : ∀ o k, ¬ rl_s o k → m' o k = m o k := fun o k q => h o k (by unfold rl_s at q; omega)
theorem j_breath (p what : Int) : Joint (M_X11_breath 0 p what) (M_X12_breath 168 p what) := by
  intro m h K hK
  have hb := h.1.1
  have hv := h.1.2.1
  have hf := h.1.2.2.1
  have hp := hf.1.2.2.1
  have hd := hf.2.1.2.1
  obtain ⟨-, -, R3, -⟩ := bk_rows hb
  unfold M_X11_breath M_X12_breath M_X11_breath_J1
  simp only [am_rf_all, am_ln_all, get_eq R3.1, rf_get R3, has_eq, b01, R3.2.1]
  by_cases c : what = 1
  · subst c
    by_cases c2 : 0 ≤ p ∧ p < m 170 365
    · simp only [ne_eq, not_true_eq_false, false_imp_iff, true_and, not_false_eq_true, true_imp_iff, c2, and_true]
      rw [hv.2]
      refine cbreathOf (wf_mono hf (by omega)) hb c2.1 c2.2 (by omega) (fun m1 f1 => ?_)
      have e170 : m1 170 = m 170 := funext fun x => f1 _ _ (by omega)
      rw [isPerson_eq _ _ _ (by rw [e170]; omega), e170]
      simp only [lies_eq, b01, c2, b01']
      simp
      refine mbreathOf (by rw [e170]; exact hf.2.2.1) (by rw [e170]; exact hf.2.2.2) (by omega) (by rw [e170]; omega) (fun m2 f2 => ?_)
      rw [e170]
      exact hK _ _ (Rel_of (Rel_of h (fr_j_s f1)) (fr_law_s f2))
    · simp only [ne_eq, not_true_eq_false, false_imp_iff, true_and, not_false_eq_true, true_imp_iff, c2, and_true]
      rw [if_neg (by omega), isPerson_eq _ _ _ (by omega)]
      simp [c2]
      exact hK _ _ h
  · by_cases c2 : (0 ≤ p ∧ p < m 170 365) ∧ what = 0
    · obtain ⟨c2, rfl⟩ := c2
      rw [isPerson_eq _ _ _ (by omega)]
      simp only [lies_eq, b01, b01']
      rw [w32_of (z := 316 + p) (by omega) (by omega), if_pos (by omega)]
      have : 0 ≤ 316 + p ∧ 316 + p < 5977 := by omega
      simp [c2, this]
      exact hK _ _ h
    · rw [if_neg (show ¬ ((0 ≤ p ∧ p < m 170 365) ∧ 0 ≤ what ∧ what < 1) by omega), isPerson_eq _ _ _ (by omega)]
      simp only [lies_eq, b01, b01']
      by_cases c3 : 0 ≤ p ∧ p < m 170 365
      · have : ¬ (0 ≤ what ∧ what ≤ 1) := by omega
        simp [c, c3, this]
        exact hK _ _ h
      · simp [c, c3]
        exact hK _ _ h
theorem j_rank (p what : Int) : Joint (M_X11_rank 0 p what) (M_X12_rank 168 p what) := by
  intro m h K hK
  have hb := h.1.1
  have hv := h.1.2.1
  have hf := h.1.2.2.1
  have hw := wf_mono hf (show (16 : Int) ≤ 24 by omega)
  have hn := hf.2.1.1
  have hd := hf.2.1.2.1
  have l6 := hf.2.2.1.1.2
  unfold M_X11_rank M_X12_rank M_X11_rank_J1 M_X12_rank_J1
  simp only [am_rf_all, am_ln_all, cwaits_eq (Or.inl rfl) hv, b01, b01', within_eq]
  by_cases c : (0 ≤ p ∧ p < m 170 168) ∧ m 170 (7 * p + 5) = 0
  case neg =>
    rw [isWaiting_eq _ _ _ (by omega)]
    simp only [c, not_false_eq_true, true_imp_iff, not_true_eq_false, false_imp_iff, and_true, b01]
    exact hK _ _ h
  by_cases c2 : 0 ≤ what ∧ what ≤ 1
  case neg =>
    rw [isWaiting_eq _ _ _ (by omega)]
    simp only [lies_eq, c, c2, not_false_eq_true, true_imp_iff, not_true_eq_false, false_imp_iff, true_and, and_true, b01, b01']
    exact hK _ _ h
  simp only [c, c2, not_false_eq_true, true_imp_iff, not_true_eq_false, false_imp_iff, and_true, true_and]
  rw [hv.2, w32_of (z := m 170 169 + 1) (by omega) (by omega)]
  refine clook (Or.inl rfl) hw hb hv c.1.1 c.1.2 (by omega) (fun m1 f1 f2 => ?_)
  have e1 : m1 170 = m 170 := funext fun x => f1 _ _ (by omega)
  have hb1 : bk_P m1 1 (m 170) := bk_of hb (fun o k _ _ _ => f1 o k (by omega)) (fun _ _ => rfl) l6
  have hR1 := Rel_of h (fr_j_s f1)
  have hok := wf_ok hw c.1.1 c.1.2
  have hE := fa_p_le (day := m 170 169 + 1) hf.2.2.2 hok (by omega)
  by_cases c3 : what = 0
  · subst c3
    simp only [ne_eq, not_true_eq_false, false_imp_iff, true_and, not_false_eq_true, true_imp_iff]
    unfold M_X3_rankTold
    have r0 : am_rfv 136 0 = 137 := by decide +kernel
    have l0 : am_len 137 = 8 := by decide +kernel
    rw [r0, l0, f2 0 (by omega) (by omega)]
    refine ⟨by omega, ctells (env := fa_p (m 170) p (m 170 169 + 1)) hb1 hf.2.2.1 (by omega) f2 hE (fun m2 f3 => ?_)⟩
    have hj2 : fr_j m m2 := fun o k q => by rw [f3 o k (by omega)]; exact f1 o k q
    have e2 : m2 170 = m 170 := funext fun x => hj2 _ _ (by omega)
    try dsimp only
    rw [isWaiting_eq _ _ _ (by rw [e2]; omega), e2]
    simp only [lies_eq, c, b01, b01']
    simp [e2]
    rw [w32_of (z := m 170 169 + 1) (by omega) (by omega)]
    refine mrankOf (by rw [e2]; exact hf.2.2.1) (by rw [e2]; exact hf.2.2.2) (by rw [e2]; exact hok) (by omega) (fun m3 f4 => ?_)
    rw [e2]
    have := hK (ab_rank (m 170) p (m 170 169 + 1)) m3 (Rel_of (Rel_of h (fr_j_s hj2)) (fr_law_s f4))
    have e3 : fa_p (m 170) p (m 170 169 + 1) 0 = m 170 (7 * p + 2) := rfl
    rw [e3]
    exact this
  · have c4 : what = 1 := by omega
    subst c4
    simp only [ne_eq, show ¬ ((1 : Int) = 0) by decide, not_true_eq_false, false_imp_iff, and_true, not_false_eq_true, true_imp_iff]
    refine ctells (env := fa_p (m 170) p (m 170 169 + 1)) hb1 hf.2.2.1 (by omega) f2 hE (fun m2 f3 => ?_)
    have hj2 : fr_j m m2 := fun o k q => by rw [f3 o k (by omega)]; exact f1 o k q
    have e2 : m2 170 = m 170 := funext fun x => hj2 _ _ (by omega)
    try dsimp only
    rw [isWaiting_eq _ _ _ (by rw [e2]; omega), e2]
    simp only [lies_eq, c, b01, b01']
    simp [e2]
    rw [w32_of (z := m 170 169 + 1) (by omega) (by omega)]
    refine misBarred (by rw [e2]; exact hf.2.2.1) (by rw [e2]; exact hf.2.2.2) (by rw [e2]; exact hok) (by omega) (fun m3 f4 => ?_)
    rw [e2]
    have hR := Rel_of (Rel_of h (fr_j_s hj2)) (fr_law_s f4)
    have e3 : lw_tell (m 170) 2 0 1 (fa_p (m 170) p (m 170 169 + 1)) 0 = ab_bar (m 170) p (m 170 169 + 1) := rfl
    rw [e3]
    rcases bar_01 (A := m 170) (p := p) (day := m 170 169 + 1) with hb0 | hb0
    · rw [hb0]; simp; exact hK _ _ hR
    · rw [hb0]; simp; exact hK _ _ hR
