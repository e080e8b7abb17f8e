/-! UNDO. -/
theorem am_shr1 {h : Int} (h0 : 0 ≤ h ∧ h < 16777216) : am_shr (h * 2 + 1) 1 = h := by
  obtain ⟨a, rfl⟩ := bit_nat h0.1
  have := bn_shr (a := a * 2 + 1) (k := 1) (by omega) (by omega)
  rw [show ((a * 2 + 1 : Nat) : Int) = (a : Int) * 2 + 1 by omega, show ((1 : Nat) : Int) = 1 from rfl] at this
  rw [this]
  omega
theorem ctakeBack {m : am_M} {V L : Int → Int} {h : Int} (hv : vg_P m 12 V) (hh : 0 ≤ h ∧ h < 16777216) (h168 : V 168 = L 168) (h24 : 0 ≤ L 168 ∧ L 168 ≤ 23) (h169 : V 169 = L 169 + 1) (hd : -1000 ≤ L 169 ∧ L 169 ≤ 1000000) (hp : ∀ p, 0 ≤ p → p < L 168 → (∀ j, 0 ≤ j → j < 5 → V (7 * p + j) = L (7 * p + j)) ∧ (bitI h p → L (7 * p + 5) = 0 ∧ L (7 * p + 6) = -1) ∧ (¬ bitI h p → V (7 * p + 5) = L (7 * p + 5) ∧ V (7 * p + 6) = L (7 * p + 6))) {K : am_KK}
    (hK : ∀ m', vg_P m' 12 L → (∀ o k, ¬ (o = 14 ∨ (o = 12 ∧ k = 1)) → m' o k = m o k) → K 0 m') : M_X9_takeBackDawn 12 h K m := by
  have r13 : am_RF m 13 7 168 V 168 0 := hv.1
  unfold M_X9_takeBackDawn M_X9_takeBackDawn_L1
  refine ⟨fun j i m1 => 0 ≤ i ∧ i ≤ L 168 ∧ j = (L 168 - i).toNat ∧ (∀ o k, ¬ (o = 14) → m1 o k = m o k) ∧ (∀ x, 0 ≤ x → x < 7 * i → m1 14 x = L x) ∧ ∀ x, 7 * i ≤ x → m1 14 x = m 14 x, ⟨_, by omega, by omega, rfl, fun _ _ _ => rfl, fun x x0 x1 => by omega, fun _ _ => rfl⟩, ?_⟩
  rintro j i m1 ⟨i0, i1, rfl, c1, c2, c3⟩
  have k1 : rk m1 13 7 168 := rk_of r13.1 (c1 _ _ (by omega)) (c1 _ _ (by omega))
  have e2 : m1 13 2 = L 168 := by rw [c1 _ _ (by omega), r13.2.1, h168]
  unfold M_X9_takeBackDawn_L1B M_X9_takeBackDawn_J1
  simp only [am_rf_all, e2]
  refine ⟨fun q => ?_, fun q => ?_⟩
  · have : i = L 168 := by omega
    subst this
    simp only [forall_eq]
    rw [c1 12 1 (by omega), hv.2, h169, w32_of (by omega) (by omega)]
    refine hK _ ⟨⟨rk_of r13.1 (by rw [am_st_ne _ (by omega), c1 _ _ (by omega)]) (by rw [am_st_ne _ (by omega), c1 _ _ (by omega)]), by rw [am_st_ne _ (by omega)]; exact e2, fun x x0 x1 => ?_⟩, by rw [am_st_same]; omega⟩ (fun o k ho => by rw [am_st_ne _ (by omega)]; exact c1 o k (by omega))
    rw [am_st_ne _ (by omega), Int.zero_add]
    exact c2 x x0 (by omega)
  · obtain ⟨p1, p2, p3⟩ := hp i i0 (by omega)
    have hold : ∀ x, 7 * i ≤ x → x < 7 * i + 7 → m 14 x = V x := fun x x0 x1 => by
      have := r13.2.2 x (by omega) (by rw [h168]; omega)
      rw [Int.zero_add] at this
      exact this
    simp only [forall_eq]
    rw [w32_of (z := i + 1) (by omega) (by omega)]
    -- what stands behind this one
    have next : ∀ m2 : am_M, (∀ o k, ¬ (o = 14) → m2 o k = m o k) → (∀ x, 0 ≤ x → x < 7 * i → m2 14 x = m1 14 x) → (∀ x, 7 * i + 7 ≤ x → m2 14 x = m1 14 x) → (∀ x, 7 * i ≤ x → x < 7 * i + 7 → m2 14 x = L x) → ∃ j', j' < (L 168 - i).toNat ∧ 0 ≤ i + 1 ∧ i + 1 ≤ L 168 ∧ j' = (L 168 - (i + 1)).toNat ∧ (∀ o k, ¬ (o = 14) → m2 o k = m o k) ∧ (∀ x, 0 ≤ x → x < 7 * (i + 1) → m2 14 x = L x) ∧ ∀ x, 7 * (i + 1) ≤ x → m2 14 x = m 14 x := by
      intro m2 a1 a2 a3 a4
      refine ⟨_, by omega, by omega, by omega, rfl, a1, fun x x0 x1 => ?_, fun x x0 => by rw [a3 x (by omega)]; exact c3 x (by omega)⟩
      by_cases cx : x < 7 * i
      · rw [a2 x x0 cx]; exact c2 x x0 cx
      · exact a4 x (by omega) (by omega)
    haveI : Decidable (bitI h i) := Classical.propDecidable _
    rw [bit_test (by omega) (by omega)]
    by_cases cb : bitI h i
    · rw [if_pos cb]
      refine ⟨fun z => absurd rfl z, fun _ => ?_⟩
      obtain ⟨g1, g2⟩ := p2 cb
      rw [set_eq k1, e2, if_pos (by omega)]
      have k2 : rk (am_st m1 (13 + 1) (i * 7 + 5) 0) 13 7 168 := rk_st k1 (by omega)
      rw [set_eq k2, am_st_ne (o' := 13) (k' := 2) _ (by omega), e2, if_pos (by omega)]
      refine next _ (fun o k ho => by rw [am_st_ne _ (by omega), am_st_ne _ (by omega)]; exact c1 o k ho) (fun x x0 x1 => by rw [am_st_ne _ (by omega), am_st_ne _ (by omega)]) (fun x x0 => by rw [am_st_ne _ (by omega), am_st_ne _ (by omega)]) (fun x x0 x1 => ?_)
      rw [show (13 : Int) + 1 = 14 by omega]
      by_cases c6 : x = 7 * i + 6
      · rw [c6, show i * 7 + 6 = 7 * i + 6 by omega, am_st_same, g2]
      · rw [am_st_ne _ (by omega)]
        by_cases c5 : x = 7 * i + 5
        · rw [c5, show i * 7 + 5 = 7 * i + 5 by omega, am_st_same, g1]
        · rw [am_st_ne _ (by omega), c3 x x0, hold x x0 x1]
          have := p1 (x - 7 * i) (by omega) (by omega)
          rwa [show 7 * i + (x - 7 * i) = x by omega] at this
    · rw [if_neg cb]
      refine ⟨fun _ => next m1 c1 (fun _ _ _ => rfl) (fun _ _ => rfl) (fun x x0 x1 => ?_), fun z => absurd (by decide) z⟩
      obtain ⟨g1, g2⟩ := p3 cb
      rw [c3 x x0, hold x x0 x1]
      by_cases c6 : x = 7 * i + 6
      · rw [c6]; exact g2
      · by_cases c5 : x = 7 * i + 5
        · rw [c5]; exact g1
        · have := p1 (x - 7 * i) (by omega) (by omega)
          rwa [show 7 * i + (x - 7 * i) = x by omega] at this
/-- the row with a laid-aside vigil -/
def ud_A (A L : Int → Int) : Int → Int := fun x => if 0 ≤ x ∧ x < 170 then L x else A x
theorem ud_A_lo (A L : Int → Int) {x : Int} (h : 0 ≤ x ∧ x < 170) : ud_A A L x = L x := by unfold ud_A; rw [if_pos h]
theorem ud_A_hi (A L : Int → Int) {x : Int} (h : ¬ (0 ≤ x ∧ x < 170)) : ud_A A L x = A x := by unfold ud_A; rw [if_neg h]
theorem ud_A_wf {A L : Int → Int} (hw : wf_A 16 A) (hL : ud_W (A 365) L) : wf_A 16 (ud_A A L) ∧ wf_H (ud_A A L) := by
  have e : ∀ x, 0 ≤ x → x < 170 → ud_A A L x = L x := fun x x0 x1 => ud_A_lo A L ⟨x0, x1⟩
  obtain ⟨g1, g2, g3⟩ := ud_W_ofL hL e
  refine ⟨wf_of hw (fun x hx => ud_A_hi A L (by omega)) g1 (fun x x0 x1 => ?_), g2⟩
  by_cases c : x < 170
  · exact g3 x x0 c
  · rw [ud_A_hi A L (by omega)]; exact hw.2.2.2 x x0 x1
theorem mundo {m : am_M} {u : Int} (hu : m 168 38 = u + 1) (h0 : 0 ≤ u ∧ u < 16) {K : am_KK} (hK : ∀ m', (∀ o k, ¬ (o = 170 ∨ (o = 168 ∧ (k = 0 ∨ k = 38))) → m' o k = m o k) → m' 170 = ud_A (m 170) (ud_L m u) → m' 168 0 = 0 → m' 168 38 = u → K (m 189 (171 * u + 170)) m') : M_X12_undo 168 K m := by
  unfold M_X12_undo
  refine ⟨fun _ => ?_, fun q => absurd (by omega) q⟩
  simp only [forall_eq]
  rw [hu, w32_of (z := u + 1 - 1) (by omega) (by omega), show u + 1 - 1 = u by omega, am_st_same, w32_of (z := 171 * u) (by omega) (by omega)]
  unfold M_X12_undo_L1
  refine ⟨fun j i m1 => 0 ≤ i ∧ i ≤ 170 ∧ j = (170 - i).toNat ∧ (∀ o k, ¬ (o = 170 ∨ (o = 168 ∧ k = 38)) → m1 o k = m o k) ∧ m1 168 38 = u ∧ (∀ x, 0 ≤ x → x < i → m1 170 x = ud_L m u x) ∧ ∀ x, ¬ (0 ≤ x ∧ x < i) → m1 170 x = m 170 x, ⟨_, by omega, by omega, rfl, fun o k ho => am_st_ne _ (by omega), am_st_same _ _ _ _, fun x x0 x1 => by omega, fun x _ => am_st_ne _ (by omega)⟩, ?_⟩
  rintro j i m1 ⟨i0, i1, rfl, c1, c4, c2, c3⟩
  unfold M_X12_undo_L1B
  simp only [am_rf_all, am_ln_all, forall_eq, good_eq]
  rw [w32_of (z := 171 * u + 170) (by omega) (by omega)]
  refine ⟨fun q => ⟨by omega, ?_⟩, fun q => ⟨?_, by omega, ?_⟩⟩
  · have : i = 170 := by omega
    subst this
    rw [c1 189 _ (by omega)]
    refine hK _ (fun o k ho => by rw [am_st_ne _ (by omega)]; exact c1 o k (by omega)) ?_ (am_st_same _ _ _ _) (by rw [am_st_ne _ (by omega)]; exact c4)
    funext x
    rw [am_st_ne _ (by omega)]
    by_cases cx : 0 ≤ x ∧ x < 170
    · rw [ud_A_lo _ _ cx]; exact c2 x cx.1 cx.2
    · rw [ud_A_hi _ _ cx]; exact c3 x cx
  · rw [w32_of (by omega) (by omega)]; omega
  · rw [w32_of (z := 171 * u + i) (by omega) (by omega), w32_of (z := i + 1) (by omega) (by omega)]
    refine ⟨_, by omega, by omega, by omega, rfl, fun o k ho => by rw [am_st_ne _ (by omega)]; exact c1 o k ho, by rw [am_st_ne _ (by omega)]; exact c4, fun x x0 x1 => ?_, fun x hx => by rw [am_st_ne _ (by omega)]; exact c3 x (by omega)⟩
    by_cases e : x = i
    · subst e; rw [am_st_same, c1 _ _ (by omega)]; rfl
    · rw [am_st_ne _ (by omega)]; exact c2 x x0 (by omega)
theorem j_undo : Joint (M_X11_undo 0) (M_X12_undo 168) := by
  intro m h K hK
  have hb := h.1.1
  have hv := h.1.2.1
  have hf := h.1.2.2.1
  have hud := h.2.2.2.2.2.1
  obtain ⟨g1, g2, g3, g4⟩ := id hud
  have l6 := hf.2.2.1.1.2
  have hd := hf.2.1.2.1
  unfold M_X11_undo
  simp only [am_rf_all, g2]
  refine ⟨fun hu => ?_, fun hu => ?_⟩
  · obtain ⟨u, hu1⟩ : ∃ u, m 168 38 = u + 1 := ⟨m 168 38 - 1, by omega⟩
    obtain ⟨y1, y2⟩ := g4 u (by omega) (by omega)
    rw [if_neg (by omega)] at y1
    have y3 := y2.1.1
    have y4 := y2.1.2.1
    rw [hu1, w32_of (z := u + 1 - 1) (by omega) (by omega), show u + 1 - 1 = u by omega, get_eq g1]
    have hget : rget m 148 1 u 0 = m 149 u := by
      unfold rget
      rw [g2, hu1, if_pos (by omega)]
      congr 1; omega
    rw [hget, g2, hu1, w32_of (z := u + 1 - 1) (by omega) (by omega), show u + 1 - 1 = u by omega, cut_eq, if_pos (by rw [g2, hu1]; omega)]
    generalize hm1 : am_st m 148 2 u = m1
    have f1 : ∀ o k, ¬ (o = 148 ∧ k = 2) → m1 o k = m o k := fun o k ho => by rw [← hm1]; exact am_st_ne _ ho
    have v1 : vg_P m1 12 (m 170) := vg_of hv (fun o k _ _ => f1 o k (by omega)) (fun _ _ => rfl)
    have e148 : m1 148 2 = u := by rw [← hm1, am_st_same]
    -- the end, on both sides
    have fin : ∀ (m2 : am_M) (r : Int), vg_P m2 12 (ud_L m u) → (∀ o k, ¬ (o = 14 ∨ (o = 12 ∧ k = 1) ∨ (o = 13 ∧ k = 2)) → m2 o k = m1 o k) → r = m 189 (171 * u + 170) → M_X12_undo 168 (fun r2 m4 => K r r2 m4) (am_st m2 0 17 0) := by
      intro m2 r v2 f2 hr
      have f3 : ∀ o k, ¬ (o = 14 ∨ (o = 12 ∧ k = 1) ∨ (o = 13 ∧ k = 2) ∨ (o = 148 ∧ k = 2) ∨ (o = 0 ∧ k = 17)) → am_st m2 0 17 0 o k = m o k := fun o k ho => by rw [am_st_ne _ (by omega), f2 o k (by omega)]; exact f1 o k (by omega)
      have e170 : am_st m2 0 17 0 170 = m 170 := funext fun x => f3 _ _ (by omega)
      have eL : ud_L (am_st m2 0 17 0) u = ud_L m u := funext fun x => f3 _ _ (by omega)
      refine mundo (u := u) (by rw [f3 _ _ (by omega)]; exact hu1) (by omega) (fun m3 a1 a2 a3 a4 => ?_)
      rw [f3 189 _ (by omega), ← hr]
      rw [e170, eL] at a2
      have e : ∀ o k, ¬ (o = 14 ∨ (o = 12 ∧ k = 1) ∨ (o = 13 ∧ k = 2) ∨ (o = 148 ∧ k = 2) ∨ (o = 0 ∧ k = 17) ∨ o = 170 ∨ (o = 168 ∧ (k = 0 ∨ k = 38))) → m3 o k = m o k := fun o k ho => by rw [a1 o k (by omega)]; exact f3 o k (by omega)
      obtain ⟨w1, w2⟩ := ud_A_wf hf y2
      have e2 : m3 148 2 = u := by rw [a1 _ _ (by omega), am_st_ne _ (by omega), f2 _ _ (by omega)]; exact e148
      refine hK _ _ (Rel_mk h (fun o k ho => e o k (by omega)) ?_ ?_ (by rw [a2]; exact w1) (by rw [a2]; exact w2) (tp_of h.2.2.1 (fun o k ho => e o k (by omega))) ⟨?_, ?_, ?_, ?_⟩ ⟨rk_to g1 (e _ _ (by omega)) (by rw [e2]; omega), by rw [e2, a4], by rw [a4]; omega, fun j j0 j1 => ?_⟩ (fun q hq => by have := wd_ne q hq; exact e _ _ (by omega)) (ww_of h.2.2.2.2.2.2.2.2 (e _ _ (by omega)) (e _ _ (by omega)) (fun _ => e _ _ (by omega)) (fun _ _ _ => e _ _ (by omega))))
      · rw [a2]; exact bk_of hb (fun o k _ _ _ => e o k (by omega)) (fun x hx => ud_A_hi _ _ (by omega)) l6
      · rw [a2]
        have v3 : vg_P m3 12 (ud_L m u) := vg_of v2 (fun o k _ _ => by rw [a1 o k (by omega), am_st_ne _ (by omega)]) (fun _ _ => rfl)
        refine ⟨⟨v3.1.1, by rw [ud_A_lo _ _ (by omega)]; exact v3.1.2.1, fun x x0 x1 => ?_⟩, by rw [ud_A_lo _ _ (by omega)]; exact v3.2⟩
        rw [ud_A_lo _ _ (by omega)] at x1
        rw [Int.zero_add, ud_A_lo _ _ (by omega)]
        have := v3.1.2.2 x x0 x1
        rwa [Int.zero_add] at this
      · rw [a1 _ _ (by omega), am_st_same, a3]
      · rw [e _ _ (by omega), e _ _ (by omega)]; exact h.2.2.2.1.2.1
      · rw [e _ _ (by omega), e _ _ (by omega)]; exact h.2.2.2.1.2.2.1
      · rw [e _ _ (by omega), e _ _ (by omega)]; exact h.2.2.2.1.2.2.2
      · rw [a4] at j1 ⊢
        obtain ⟨b1, b2⟩ := g4 j j0 (by omega)
        have eLj : ∀ i, ud_L m3 i = ud_L m i := fun i => funext fun x => e _ _ (by omega)
        rw [e 149 _ (by omega), e 189 _ (by omega), eLj, eLj, a2, ud_A_hi _ _ (by omega)]
        refine ⟨?_, b2⟩
        rw [if_pos (by omega)] at b1
        by_cases cj : j + 1 < u
        · rw [if_pos cj]; exact b1
        · rw [if_neg cj]
          have : j + 1 = u := by omega
          rw [this] at b1
          exact ud_1_of b1 (by have := b2.1.1; omega) (fun x x0 x1 => ud_A_lo _ _ ⟨x0, x1⟩)
    rcases y1 with ⟨d1, d2, d3, d4, d5⟩ | ⟨d1, d2, d3, hh, d4, d5, d6, d7⟩
    · rw [d1]
      refine ⟨fun q => absurd rfl q, fun _ => ?_⟩
      have e13 : m1 13 2 = m 170 168 := v1.1.2.1
      rw [e13, d3, w32_of (by omega) (by omega), show ud_L m u 168 + 1 - 1 = ud_L m u 168 by omega, cut_eq, e13, if_pos (by omega), fine_eq]
      refine fin _ 0 ⟨⟨rk_to v1.1.1 (am_st_ne _ (by omega)) (by rw [show (12 : Int) + 1 = 13 by omega, am_st_same]; omega), am_st_same _ _ _ _, fun x x0 x1 => ?_⟩, by rw [am_st_ne _ (by omega), v1.2]; exact d4⟩ (fun o k ho => am_st_ne _ (by omega)) d2.symm
      rw [am_st_ne _ (by omega)]
      have := v1.1.2.2 x x0 (by omega)
      rw [this, Int.zero_add]
      exact d5 x x0 (by omega)
    · rw [d4]
      refine ⟨fun _ => ?_, fun q => by omega⟩
      rw [am_shr1 ⟨d5, d6⟩]
      refine ctakeBack v1 ⟨d5, d6⟩ d2 (by omega) d3 (by omega) d7 (fun m2 v2 f2 => ?_)
      rw [fine_eq]
      exact fin m2 1 v2 (fun o k ho => f2 o k (by omega)) d1.symm
  · have hu0 : m 168 38 = 0 := by omega
    rw [refuse_eq (Or.inr (Or.inr (Or.inl rfl)))]
    unfold M_X12_undo
    have e1 : am_st (am_st m 0 17 (-3)) 167 (- -3) (w32 (m 167 (- -3) + 1)) 168 38 = 0 := by rw [am_st_ne _ (by omega), am_st_ne _ (by omega)]; exact hu0
    rw [e1]
    refine ⟨fun q => absurd rfl q, fun _ => ?_⟩
    rw [refuses_eq (Or.inr (Or.inr (Or.inl rfl)))]
    exact refuses_end (Or.inr (Or.inr (Or.inl rfl))) h hK
