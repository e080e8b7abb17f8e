/-! WORDINGS on the other side. -/
section MWD
variable {m : am_M} {A w : Int → Int}
def mw_S (m : am_M) (w : Int → Int) : Prop := ∀ t, 0 ≤ t → t < 8 → m 183 t = (if w t = wg_I then 1000000000 else w t / 10000) ∧ m 184 t = (if w t = wg_I then 0 else w t % 10000)
/-- a part's LENGTH, its RULES -/
def wl_p (A w : Int → Int) (p : Int) : Int := if p = -1 then 0 else if p < 10 then A (170 + p) else if w (p - 10) = wg_I then 1000000000 else w (p - 10) / 10000
def wt_p (w : Int → Int) (p : Int) : Int := if p < 10 then 0 else if w (p - 10) = wg_I then 0 else w (p - 10) % 10000
theorem wl_b (hA : wg_A A) (h : wg_ok A w) {r k : Int} (hr : 0 ≤ r ∧ r < A 364) (hk : k = 1 ∨ k = 2 ∨ k = 3) : (wl_p A w (A (180 + 4 * r + k)) = 1000000000 ∧ wg_p A w (A (180 + 4 * r + k)) = wg_I) ∨ ((0 ≤ wl_p A w (A (180 + 4 * r + k)) ∧ wl_p A w (A (180 + 4 * r + k)) ≤ 59049) ∧ (0 ≤ wt_p w (A (180 + 4 * r + k)) ∧ wt_p w (A (180 + 4 * r + k)) ≤ 3280) ∧ wg_p A w (A (180 + 4 * r + k)) = 10000 * wl_p A w (A (180 + 4 * r + k)) + wt_p w (A (180 + 4 * r + k))) := by
  obtain ⟨g1, g2, g3⟩ := (hA.2 r hr.1 hr.2).2.2 k hk
  unfold wl_p wt_p wg_p
  by_cases p1 : A (180 + 4 * r + k) = -1
  · rw [if_pos p1, if_pos p1, if_pos (by omega)]; right; omega
  · rw [if_neg p1, if_neg p1]
    by_cases p2 : A (180 + 4 * r + k) < 10
    · rw [if_pos p2, if_pos p2, if_pos p2]; have := g3 (by omega) p2; right; omega
    · rw [if_neg p2, if_neg p2, if_neg p2]
      by_cases c : w (A (180 + 4 * r + k) - 10) = wg_I
      · rw [if_pos c]; exact Or.inl ⟨rfl, c⟩
      · rw [if_neg c, if_neg c]
        right
        rcases h.2 (A (180 + 4 * r + k) - 10) (by omega) (by omega) with hi | ⟨f1, f2, -⟩
        · exact absurd hi c
        · have := tl_7 (wg_k_7 (w := w) (t := A (180 + 4 * r + k) - 10) ⟨by omega, by omega⟩)
          omega
theorem row_at {r k : Int} (hr : 0 ≤ r ∧ r < 16) (hk : 0 ≤ k ∧ k ≤ 3) : w32 (w32 (180 + w32 (4 * r)) + k) = 180 + 4 * r + k := by
  rw [w32_of (z := 4 * r) (by omega) (by omega), w32_of (z := 180 + 4 * r) (by omega) (by omega), w32_of (by omega) (by omega)]
theorem mlongOf (hs : mw_S m w) (hA : m 170 = A) {p : Int} (hp : -1 ≤ p ∧ p ≤ 17) (K : am_KK) : M_X12_longOf 168 p K m ↔ K (wl_p A w p) m := by
  unfold M_X12_longOf wl_p
  simp only [am_rf_all, am_ln_all, hA]
  by_cases c1 : p = -1
  · rw [if_pos c1]; simp [c1]
  · rw [if_neg c1]
    by_cases c2 : p < 10
    · rw [if_pos c2, w32_of (z := 170 + p) (by omega) (by omega)]
      have q1 : ¬ 10 ≤ p := by omega
      have q2 : 0 ≤ 170 + p := by omega
      have q3 : 170 + p < 5977 := by omega
      simp [c1, q1, q2, q3]
    · rw [if_neg c2, w32_of (z := p - 10) (by omega) (by omega), (hs _ (by omega) (by omega)).1]
      have q1 : 10 ≤ p := by omega
      have q2 : 0 ≤ p - 10 := by omega
      have q3 : p - 10 < 8 := by omega
      simp [c1, q1, q2, q3]
theorem mtakesOf (hs : mw_S m w) {p : Int} (hp : -1 ≤ p ∧ p ≤ 17) (K : am_KK) : M_X12_takesOf 168 p K m ↔ K (wt_p w p) m := by
  unfold M_X12_takesOf wt_p
  simp only [am_rf_all, am_ln_all]
  by_cases c2 : p < 10
  · rw [if_pos c2]
    have q1 : ¬ 10 ≤ p := by omega
    simp [q1]
  · rw [if_neg c2, w32_of (z := p - 10) (by omega) (by omega), (hs _ (by omega) (by omega)).2]
    have q1 : 10 ≤ p := by omega
    have q2 : 0 ≤ p - 10 := by omega
    have q3 : p - 10 < 8 := by omega
    simp [q1, q2, q3]
theorem mwordsOf {v : Int → Int} (hv : ∀ t, 0 ≤ t → t < 8 → m 186 t = v t) {p : Int} (hp : -1 ≤ p ∧ p ≤ 17) (K : am_KK) : M_X12_wordsOf 168 p K m ↔ K (wv_p v p) m := by
  unfold M_X12_wordsOf wv_p
  simp only [am_rf_all, am_ln_all]
  by_cases c1 : p = -1
  · rw [if_pos c1]; simp [c1]
  · rw [if_neg c1]
    by_cases c2 : p < 10
    · rw [if_pos c2]
      have q1 : ¬ 10 ≤ p := by omega
      simp [c1, q1]
    · rw [if_neg c2, w32_of (z := p - 10) (by omega) (by omega), hv _ (by omega) (by omega)]
      have q1 : 10 ≤ p := by omega
      have q2 : 0 ≤ p - 10 := by omega
      have q3 : p - 10 < 8 := by omega
      simp [c1, q1, q2, q3]
/-- LENGTH and RULES of a rule -/
def wl_c (A w : Int → Int) (r : Int) : Int := if wg_c A w r < wg_T then wg_c A w r / 10000 else 1000000000
theorem wl_sum (hA : wg_A A) (h : wg_ok A w) {r : Int} (hr : 0 ≤ r ∧ r < A 364) : (wg_c A w r < wg_T ∧ (wl_p A w (A (180 + 4 * r + 1)) ≤ 59049 ∧ wl_p A w (A (180 + 4 * r + 2)) ≤ 59049 ∧ wl_p A w (A (180 + 4 * r + 3)) ≤ 59049) ∧ wg_c A w r / 10000 = wl_p A w (A (180 + 4 * r + 1)) + wl_p A w (A (180 + 4 * r + 2)) + wl_p A w (A (180 + 4 * r + 3)) ∧ wg_c A w r % 10000 = 1 + wt_p w (A (180 + 4 * r + 1)) + wt_p w (A (180 + 4 * r + 2)) + wt_p w (A (180 + 4 * r + 3)) ∧ wg_c A w r ≤ 1800000001) ∨ (¬ wg_c A w r < wg_T ∧ (wl_p A w (A (180 + 4 * r + 1)) = 1000000000 ∨ wl_p A w (A (180 + 4 * r + 2)) = 1000000000 ∨ wl_p A w (A (180 + 4 * r + 3)) = 1000000000)) := by
  have eT : wg_T = 1000000000000 := rfl
  rcases wl_b hA h hr (Or.inl rfl) with ⟨a1, a2⟩ | ⟨a1, a2, a3⟩
  · exact Or.inr ⟨wg_inf hA h hr (Or.inl rfl) a2, Or.inl a1⟩
  rcases wl_b hA h hr (Or.inr (Or.inl rfl)) with ⟨b1, b2⟩ | ⟨b1, b2, b3⟩
  · exact Or.inr ⟨wg_inf hA h hr (Or.inr (Or.inl rfl)) b2, Or.inr (Or.inl b1)⟩
  rcases wl_b hA h hr (Or.inr (Or.inr rfl)) with ⟨c1, c2⟩ | ⟨c1, c2, c3⟩
  · exact Or.inr ⟨wg_inf hA h hr (Or.inr (Or.inr rfl)) c2, Or.inr (Or.inr c1)⟩
  left
  have hq : wg_c A w r = 10000 * (wl_p A w (A (180 + 4 * r + 1)) + wl_p A w (A (180 + 4 * r + 2)) + wl_p A w (A (180 + 4 * r + 3))) + (1 + wt_p w (A (180 + 4 * r + 1)) + wt_p w (A (180 + 4 * r + 2)) + wt_p w (A (180 + 4 * r + 3))) := by unfold wg_c; rw [a3, b3, c3]; omega
  have hR : 0 ≤ 1 + wt_p w (A (180 + 4 * r + 1)) + wt_p w (A (180 + 4 * r + 2)) + wt_p w (A (180 + 4 * r + 3)) ∧ 1 + wt_p w (A (180 + 4 * r + 1)) + wt_p w (A (180 + 4 * r + 2)) + wt_p w (A (180 + 4 * r + 3)) < 10000 := by omega
  have hS : 0 ≤ wl_p A w (A (180 + 4 * r + 1)) + wl_p A w (A (180 + 4 * r + 2)) + wl_p A w (A (180 + 4 * r + 3)) ∧ wl_p A w (A (180 + 4 * r + 1)) + wl_p A w (A (180 + 4 * r + 2)) + wl_p A w (A (180 + 4 * r + 3)) ≤ 177147 := by omega
  refine ⟨?_, ⟨a1.2, b1.2, c1.2⟩, ?_⟩
  · omega
  generalize wl_p A w (A (180 + 4 * r + 1)) + wl_p A w (A (180 + 4 * r + 2)) + wl_p A w (A (180 + 4 * r + 3)) = S at *
  generalize 1 + wt_p w (A (180 + 4 * r + 1)) + wt_p w (A (180 + 4 * r + 2)) + wt_p w (A (180 + 4 * r + 3)) = Q at *
  omega
theorem msum (hWA : wg_A A) (h : wg_ok A w) (hs : mw_S m w) (hA : m 170 = A) {r : Int} (hr : 0 ≤ r ∧ r < A 364) {K : am_KK} (hK : K (wl_c A w r) m) : M_X12_sum 168 r K m := by
  have hN := hWA.1
  have g := (hWA.2 r hr.1 hr.2).2.2
  have b1 := wl_b hWA h hr (Or.inl rfl)
  have b2 := wl_b hWA h hr (Or.inr (Or.inl rfl))
  have b3 := wl_b hWA h hr (Or.inr (Or.inr rfl))
  have hsum := wl_sum hWA h hr
  unfold wl_c at hK
  unfold M_X12_sum M_X12_sum_L1
  refine ⟨fun j n x m1 => m1 = m ∧ ((x = 1 ∧ n = 0 ∧ j = 3) ∨ (x = 2 ∧ n = wl_p A w (A (180 + 4 * r + 1)) ∧ j = 2) ∨ (x = 3 ∧ n = (if 1000000000 ≤ wl_p A w (A (180 + 4 * r + 1)) ∨ 1000000000 ≤ wl_p A w (A (180 + 4 * r + 2)) then 1000000000 else wl_p A w (A (180 + 4 * r + 1)) + wl_p A w (A (180 + 4 * r + 2))) ∧ j = 1) ∨ (x = 4 ∧ n = (if wg_c A w r < wg_T then wg_c A w r / 10000 else 1000000000) ∧ j = 0)), ⟨3, rfl, Or.inl ⟨rfl, rfl, rfl⟩⟩, ?_⟩
  rintro j n x m1 ⟨rfl, ⟨rfl, rfl, rfl⟩ | ⟨rfl, rfl, rfl⟩ | ⟨rfl, rfl, rfl⟩ | ⟨rfl, rfl, rfl⟩⟩
  · unfold M_X12_sum_L1B M_X12_sum_J1 M_X12_sum_J2
    simp only [am_rf_all, am_ln_all]
    refine ⟨fun c => absurd c (by decide), fun _ => ?_⟩
    rw [row_at ⟨hr.1, by omega⟩ (by omega), hA, mlongOf hs hA ⟨(g 1 (Or.inl rfl)).1, (g 1 (Or.inl rfl)).2.1⟩]
    refine ⟨by omega, fun c => ?_, fun c => ⟨fun _ => ?_, fun c2 => absurd (by decide) c2⟩⟩
    · intro y hy
      rw [w32_of (by omega) (by omega)] at hy
      exact ⟨2, by omega, rfl, Or.inr (Or.inl ⟨hy, by omega, rfl⟩)⟩
    · intro y hy
      rw [w32_of (by omega) (by omega)] at hy
      rw [w32_of (by omega) (by omega)]
      exact ⟨2, by omega, rfl, Or.inr (Or.inl ⟨hy, by omega, rfl⟩)⟩
  · unfold M_X12_sum_L1B M_X12_sum_J1 M_X12_sum_J2
    simp only [am_rf_all, am_ln_all]
    refine ⟨fun c => absurd c (by decide), fun _ => ?_⟩
    rw [row_at ⟨hr.1, by omega⟩ (by omega), hA, mlongOf hs hA ⟨(g 2 (Or.inr (Or.inl rfl))).1, (g 2 (Or.inr (Or.inl rfl))).2.1⟩]
    refine ⟨by omega, fun c => ?_, fun c => ⟨fun c2 => ?_, fun c2 => ?_⟩⟩
    · intro y hy
      rw [w32_of (by omega) (by omega)] at hy
      exact ⟨1, by omega, rfl, Or.inr (Or.inr (Or.inl ⟨hy, by rw [if_pos (Or.inr c)], rfl⟩))⟩
    · intro y hy
      rw [w32_of (by omega) (by omega)] at hy
      rw [w32_of (by omega) (by omega)]
      exact ⟨1, by omega, rfl, Or.inr (Or.inr (Or.inl ⟨hy, by rw [if_neg (by omega)], rfl⟩))⟩
    · intro y hy
      rw [w32_of (by omega) (by omega)] at hy
      exact ⟨1, by omega, rfl, Or.inr (Or.inr (Or.inl ⟨hy, by rw [if_pos (Or.inl (by omega))], rfl⟩))⟩
  · unfold M_X12_sum_L1B M_X12_sum_J1 M_X12_sum_J2
    simp only [am_rf_all, am_ln_all]
    refine ⟨fun c => absurd c (by decide), fun _ => ?_⟩
    rw [row_at ⟨hr.1, by omega⟩ (by omega), hA, mlongOf hs hA ⟨(g 3 (Or.inr (Or.inr rfl))).1, (g 3 (Or.inr (Or.inr rfl))).2.1⟩]
    refine ⟨by omega, fun c => ?_, fun c => ⟨fun c2 => ?_, fun c2 => ?_⟩⟩
    · intro y hy
      rw [w32_of (by omega) (by omega)] at hy
      refine ⟨0, by omega, rfl, Or.inr (Or.inr (Or.inr ⟨hy, ?_, rfl⟩))⟩
      rw [if_neg (by omega)]
    · intro y hy
      rw [w32_of (by omega) (by omega)] at hy
      by_cases c3 : 1000000000 ≤ wl_p A w (A (180 + 4 * r + 1)) ∨ 1000000000 ≤ wl_p A w (A (180 + 4 * r + 2))
      · rw [if_pos c3] at c2; omega
      · rw [if_neg c3, w32_of (by omega) (by omega)]
        refine ⟨0, by omega, rfl, Or.inr (Or.inr (Or.inr ⟨hy, ?_, rfl⟩))⟩
        rw [if_pos (by omega)]
        omega
    · intro y hy
      rw [w32_of (by omega) (by omega)] at hy
      by_cases c3 : 1000000000 ≤ wl_p A w (A (180 + 4 * r + 1)) ∨ 1000000000 ≤ wl_p A w (A (180 + 4 * r + 2))
      · refine ⟨0, by omega, rfl, Or.inr (Or.inr (Or.inr ⟨hy, ?_, rfl⟩))⟩
        rw [if_neg (by omega)]
      · rw [if_neg c3] at c2; omega
  · unfold M_X12_sum_L1B
    exact ⟨fun _ => hK, fun c => absurd (by decide) c⟩
theorem mrulesOf (hWA : wg_A A) (h : wg_ok A w) (hs : mw_S m w) (hA : m 170 = A) {r : Int} (hr : 0 ≤ r ∧ r < A 364) (hT : wg_c A w r < wg_T) (K : am_KK) : M_X12_rulesOf 168 r K m ↔ K (wg_c A w r % 10000) m := by
  have hN := hWA.1
  have g := (hWA.2 r hr.1 hr.2).2.2
  have b1 := wl_b hWA h hr (Or.inl rfl)
  have b2 := wl_b hWA h hr (Or.inr (Or.inl rfl))
  have b3 := wl_b hWA h hr (Or.inr (Or.inr rfl))
  have hsum := wl_sum hWA h hr
  unfold M_X12_rulesOf
  simp only [am_rf_all, am_ln_all]
  rw [row_at (k := 1) ⟨hr.1, by omega⟩ (by omega), row_at (k := 2) ⟨hr.1, by omega⟩ (by omega), row_at (k := 3) ⟨hr.1, by omega⟩ (by omega), hA, mtakesOf hs ⟨(g 1 (Or.inl rfl)).1, (g 1 (Or.inl rfl)).2.1⟩, hA, mtakesOf hs ⟨(g 2 (Or.inr (Or.inl rfl))).1, (g 2 (Or.inr (Or.inl rfl))).2.1⟩, hA, mtakesOf hs ⟨(g 3 (Or.inr (Or.inr rfl))).1, (g 3 (Or.inr (Or.inr rfl))).2.1⟩]
  have hb : (0 ≤ wt_p w (A (180 + 4 * r + 1)) ∧ wt_p w (A (180 + 4 * r + 1)) ≤ 3280) ∧ (0 ≤ wt_p w (A (180 + 4 * r + 2)) ∧ wt_p w (A (180 + 4 * r + 2)) ≤ 3280) ∧ 0 ≤ wt_p w (A (180 + 4 * r + 3)) ∧ wt_p w (A (180 + 4 * r + 3)) ≤ 3280 := by omega
  rw [w32_of (z := 1 + wt_p w (A (180 + 4 * r + 1))) (by omega) (by omega), w32_of (z := 1 + wt_p w (A (180 + 4 * r + 1)) + wt_p w (A (180 + 4 * r + 2))) (by omega) (by omega), w32_of (z := 1 + wt_p w (A (180 + 4 * r + 1)) + wt_p w (A (180 + 4 * r + 2)) + wt_p w (A (180 + 4 * r + 3))) (by omega) (by omega)]
  rcases hsum with ⟨-, -, -, e, -⟩ | ⟨e, -⟩
  · rw [← e]
    exact ⟨fun q => q.2.2.2, fun q => ⟨by omega, by omega, by omega, q⟩⟩
  · exact absurd hT e
theorem mshort (hWA : wg_A A) (h : wg_ok A w) (hs : mw_S m w) (hA : m 170 = A) {r : Int} (hr : 0 ≤ r ∧ r < A 364) {K : am_KK} (k0 : ¬ (wg_c A w r < wg_T ∧ wg_c A w r < w (A (180 + 4 * r))) → K 0 m) (k1 : (wg_c A w r < wg_T ∧ wg_c A w r < w (A (180 + 4 * r))) → ∀ m', (∀ o x, ¬ (o = 183 ∨ o = 184) → m' o x = m o x) → mw_S m' (wg_x A w r) → K 1 m') : M_X12_shortens 168 r K m := by
  have hN := hWA.1
  have hh := (hWA.2 r hr.1 hr.2).1
  have eT : wg_T = 1000000000000 := rfl
  have eI : wg_I = 10000000000000 := rfl
  have h0 := wg_c_0 hWA (wg_ok_0 h) hr
  have hsum := wl_sum hWA h hr
  unfold M_X12_shortens
  simp only [am_rf_all, am_ln_all, forall_eq]
  have e180 : w32 (180 + w32 (4 * r)) = 180 + 4 * r := by rw [w32_of (z := 4 * r) (by omega) (by omega), w32_of (by omega) (by omega)]
  rw [e180, hA]
  refine ⟨by omega, ?_⟩
  refine msum hWA h hs hA hr ?_
  unfold wl_c
  by_cases cT : wg_c A w r < wg_T
  case neg =>
    rw [if_neg cT]
    exact ⟨fun _ => k0 (fun q => cT q.1), fun c => absurd (by decide) c⟩
  rw [if_pos cT]
  have hc := (wl_sum hWA h hr).resolve_right (fun q => q.1 cT)
  have put : wg_c A w r < w (A (180 + 4 * r)) → M_X12_shortens_J1 168 r (A (180 + 4 * r)) (wg_c A w r / 10000) K m := by
    intro cl
    unfold M_X12_shortens_J1
    simp only [am_rf_all, am_ln_all, forall_eq]
    refine ⟨by omega, ?_⟩
    -- the LENGTH is written first; RULES don't look at it
    have hmr : ∀ K2 : am_KK, M_X12_rulesOf 168 r K2 (am_st m 183 (A (180 + 4 * r)) (wg_c A w r / 10000)) ↔ K2 (wg_c A w r % 10000) (am_st m 183 (A (180 + 4 * r)) (wg_c A w r / 10000)) := by
      intro K2
      have g := (hWA.2 r hr.1 hr.2).2.2
      have b1 := wl_b hWA h hr (Or.inl rfl)
      have b2 := wl_b hWA h hr (Or.inr (Or.inl rfl))
      have b3 := wl_b hWA h hr (Or.inr (Or.inr rfl))
      have tk : ∀ p, (-1 ≤ p ∧ p ≤ 17) → ∀ K3 : am_KK, M_X12_takesOf 168 p K3 (am_st m 183 (A (180 + 4 * r)) (wg_c A w r / 10000)) ↔ K3 (wt_p w p) (am_st m 183 (A (180 + 4 * r)) (wg_c A w r / 10000)) := by
        intro p hp K3
        unfold M_X12_takesOf wt_p
        simp only [am_rf_all, am_ln_all]
        by_cases c2 : p < 10
        · rw [if_pos c2]
          have q1 : ¬ 10 ≤ p := by omega
          simp [q1]
        · rw [if_neg c2, w32_of (z := p - 10) (by omega) (by omega), am_st_ne _ (by omega), (hs _ (by omega) (by omega)).2]
          have q1 : 10 ≤ p := by omega
          have q2 : 0 ≤ p - 10 := by omega
          have q3 : p - 10 < 8 := by omega
          simp [q1, q2, q3]
      have e7 : am_st m 183 (A (180 + 4 * r)) (wg_c A w r / 10000) 170 = A := by rw [st_rne _ _ _ (by omega)]; exact hA
      unfold M_X12_rulesOf
      simp only [am_rf_all, am_ln_all]
      rw [row_at (k := 1) ⟨hr.1, by omega⟩ (by omega), row_at (k := 2) ⟨hr.1, by omega⟩ (by omega), row_at (k := 3) ⟨hr.1, by omega⟩ (by omega), e7, tk _ ⟨(g 1 (Or.inl rfl)).1, (g 1 (Or.inl rfl)).2.1⟩, e7, tk _ ⟨(g 2 (Or.inr (Or.inl rfl))).1, (g 2 (Or.inr (Or.inl rfl))).2.1⟩, e7, tk _ ⟨(g 3 (Or.inr (Or.inr rfl))).1, (g 3 (Or.inr (Or.inr rfl))).2.1⟩]
      have hb : (0 ≤ wt_p w (A (180 + 4 * r + 1)) ∧ wt_p w (A (180 + 4 * r + 1)) ≤ 3280) ∧ (0 ≤ wt_p w (A (180 + 4 * r + 2)) ∧ wt_p w (A (180 + 4 * r + 2)) ≤ 3280) ∧ 0 ≤ wt_p w (A (180 + 4 * r + 3)) ∧ wt_p w (A (180 + 4 * r + 3)) ≤ 3280 := by omega
      rw [w32_of (z := 1 + wt_p w (A (180 + 4 * r + 1))) (by omega) (by omega), w32_of (z := 1 + wt_p w (A (180 + 4 * r + 1)) + wt_p w (A (180 + 4 * r + 2))) (by omega) (by omega), w32_of (z := 1 + wt_p w (A (180 + 4 * r + 1)) + wt_p w (A (180 + 4 * r + 2)) + wt_p w (A (180 + 4 * r + 3))) (by omega) (by omega), ← hc.2.2.2.1]
      exact ⟨fun q => q.2.2.2, fun q => ⟨by omega, by omega, by omega, q⟩⟩
    rw [hmr]
    refine ⟨by omega, k1 ⟨cT, cl⟩ _ (fun o x ho => by rw [am_st_ne _ (by omega), am_st_ne _ (by omega)]) (fun t t0 t1 => ?_)⟩
    have ex : wg_x A w r = wrA w (A (180 + 4 * r)) (wg_c A w r) := by unfold wg_x; rw [if_pos ⟨cT, cl⟩]
    rw [ex]
    by_cases e : t = A (180 + 4 * r)
    · rw [e, am_st_same, am_st_ne _ (by omega), am_st_same, wrA_same, if_neg (by omega), if_neg (by omega)]
      exact ⟨rfl, rfl⟩
    · rw [am_st_ne _ (by omega), am_st_ne _ (by omega), am_st_ne _ (by omega), am_st_ne _ (by omega), wrA_ne _ e]
      exact hs t t0 t1
  obtain ⟨s1, s2⟩ := hs (A (180 + 4 * r)) hh.1 (by omega)
  have hq : wg_c A w r = 10000 * (wg_c A w r / 10000) + wg_c A w r % 10000 := by omega
  refine ⟨fun c => by omega, fun _ => ⟨by omega, fun c => ?_, fun c => ⟨by omega, fun c2 => ?_, fun c2 => ?_⟩⟩⟩
  · rw [s1] at c
    by_cases z : w (A (180 + 4 * r)) = wg_I
    · rw [if_pos z] at c; omega
    · rw [if_neg z] at c
      exact k0 (fun q => by omega)
  · rw [s1] at c c2
    by_cases z : w (A (180 + 4 * r)) = wg_I
    · exact put (by omega)
    · rw [if_neg z] at c c2
      exact put (by omega)
  · have c2 := Classical.not_not.mp c2
    rw [mrulesOf hWA h hs hA hr cT]
    rw [s1] at c2
    by_cases z : w (A (180 + 4 * r)) = wg_I
    · rw [if_pos z] at c2; omega
    · rw [if_neg z] at c2
      rw [s2, if_neg z]
      exact ⟨by omega, fun c3 => put (by omega), fun c3 => k0 (fun q => by omega)⟩
end MWD
