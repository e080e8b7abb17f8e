/-! FEED: five numbers, byte by byte. -/
theorem byte_and (x : Int) : am_and x 255 = am_i2b x % 256 ∧ -128 ≤ am_i2b x ∧ am_i2b x ≤ 127 := by
  have h : ∀ v : Int32, (v &&& Int32.ofInt 255).toInt = v.toInt8.toInt32.toInt % 256 ∧ -128 ≤ v.toInt8.toInt32.toInt ∧ v.toInt8.toInt32.toInt ≤ 127 := by
    intro v
    rw [Int8.toInt_toInt32, Int32.toInt_toInt8]
    have eq : v.toInt = v.toBitVec.toInt := rfl
    have e2 : (v.toBitVec &&& (Int32.ofInt 255).toBitVec).toNat = v.toBitVec.toNat % 256 := by
      rw [BitVec.toNat_and]
      exact Nat.and_two_pow_sub_one_eq_mod _ 8
    have e3 : (v &&& Int32.ofInt 255).toInt = (v.toBitVec &&& (Int32.ofInt 255).toBitVec).toInt := by
      show (v &&& Int32.ofInt 255).toBitVec.toInt = _
      rw [Int32.toBitVec_and]
    have hb := v.toBitVec.isLt
    have q1 : v.toInt % 256 = ((v.toBitVec.toNat % 256 : Nat) : Int) := by
      rw [eq, BitVec.toInt_eq_toNat_cond]
      split <;> omega
    rw [e3, BitVec.toInt_eq_toNat_cond, e2]
    have q2 : (v.toInt.bmod (2 ^ 8)) = if v.toInt % 256 < 128 then v.toInt % 256 else v.toInt % 256 - 256 := by
      unfold Int.bmod
      rw [show ((2 ^ 8 : Nat) : Int) = 256 from rfl, show ((256 : Int) + 1) / 2 = 128 from rfl]
    rw [q2, q1]
    split <;> split <;> omega
  exact h _
section FEE
variable {m : am_M}
theorem cfeedNumber {x n : Int} (hk : rk m 129 1 400) (hn : m 129 2 = n) (h4 : n + 4 ≤ 400) {K : am_KK}
    (hK : ∀ m', (∀ o k, ¬ ((o = 129 ∧ k = 2) ∨ (o = 130 ∧ n ≤ k ∧ k < n + 4)) → m' o k = m o k) → m' 129 2 = n + 4 → (∀ i, 0 ≤ i → i < 4 → m' 130 (n + i) = am_and (am_shr x (24 - 8 * i)) 255) → K 0 m') : M_X11_feedNumber 0 x K m := by
  have h0 := hk.2.2.1
  rw [hn] at h0
  unfold M_X11_feedNumber M_X11_feedNumber_L1
  refine ⟨fun j s m1 => ∃ i, s = 24 - 8 * i ∧ 0 ≤ i ∧ i ≤ 4 ∧ j = (4 - i).toNat ∧ (∀ o k, ¬ ((o = 129 ∧ k = 2) ∨ (o = 130 ∧ n ≤ k ∧ k < n + 4)) → m1 o k = m o k) ∧ m1 129 2 = n + i ∧ ∀ y, 0 ≤ y → y < i → m1 130 (n + y) = am_and (am_shr x (24 - 8 * y)) 255, ⟨_, 0, by omega, by omega, by omega, rfl, fun _ _ _ => rfl, by omega, fun y y0 y1 => by omega⟩, ?_⟩
  rintro j s m1 ⟨i, rfl, i0, i4, rfl, f1, e1, g1⟩
  unfold M_X11_feedNumber_L1B
  simp only [am_rf_all]
  refine ⟨fun q => ?_, fun q => ?_⟩
  · have : i = 4 := by omega
    subst this
    exact hK m1 f1 e1 g1
  · have k1 : rk m1 129 1 400 := rk_to hk (f1 _ _ (by omega)) (by rw [e1]; omega)
    rw [open_eq k1, e1, if_pos (by omega), set_eq' (rk_opened k1 e1 (by omega)) (am_st_same _ _ _ _) (by omega) (by omega)]
    intro v hv
    rw [w32_of (by omega) (by omega)] at hv
    refine ⟨_, ?_, i + 1, by omega, by omega, by omega, rfl, fun o k ho => by rw [am_st_ne _ (by omega), am_st_ne _ (by omega)]; exact f1 o k ho, by rw [am_st_ne _ (by omega), am_st_same]; omega, fun y y0 y1 => ?_⟩
    · omega
    · rw [show (129 : Int) + 1 = 130 by omega]
      by_cases c : y = i
      · subst c; rw [show (n + y) * 1 + 0 = n + y by omega, am_st_same]
      · rw [am_st_ne _ (by omega), am_st_ne _ (by omega)]; exact g1 y y0 (by omega)
/-- the number a byte is of -/
def fd_X (a b c d e y : Int) : Int := if y < 4 then a else if y < 8 then b else if y < 12 then c else if y < 16 then d else e
theorem cfeed {a b c d e n : Int} (hk : rk m 129 1 400) (hn : m 129 2 = n) (h4 : n ≤ 380) {K : am_KK}
    (hK : ∀ m', (∀ o k, ¬ ((o = 129 ∧ k = 2) ∨ (o = 130 ∧ n ≤ k ∧ k < n + 20)) → m' o k = m o k) → m' 129 2 = n + 20 → (∀ y, 0 ≤ y → y < 20 → m' 130 (n + y) = am_and (am_shr (fd_X a b c d e y) (24 - 8 * (y % 4))) 255) → K (n + 20) m') : M_X11_feed 0 a b c d e K m := by
  have h0 := hk.2.2.1
  rw [hn] at h0
  unfold M_X11_feed
  simp only [am_rf_all, hn]
  refine ⟨fun _ => ?_, fun q => absurd h4 q⟩
  refine cfeedNumber (n := n) hk hn (by omega) (fun m1 f1 e1 g1 => ?_)
  refine cfeedNumber (n := n + 4) (rk_to hk (f1 _ _ (by omega)) (by rw [e1]; omega)) e1 (by omega) (fun m2 f2 e2 g2 => ?_)
  have t2 : m2 129 1 = m 129 1 := by rw [f2 _ _ (by omega), f1 _ _ (by omega)]
  refine cfeedNumber (n := n + 4 + 4) (rk_to hk t2 (by rw [e2]; omega)) e2 (by omega) (fun m3 f3 e3 g3 => ?_)
  have t3 : m3 129 1 = m 129 1 := by rw [f3 _ _ (by omega)]; exact t2
  refine cfeedNumber (n := n + 4 + 4 + 4) (rk_to hk t3 (by rw [e3]; omega)) e3 (by omega) (fun m4 f4 e4 g4 => ?_)
  have t4 : m4 129 1 = m 129 1 := by rw [f4 _ _ (by omega)]; exact t3
  refine cfeedNumber (n := n + 4 + 4 + 4 + 4) (rk_to hk t4 (by rw [e4]; omega)) e4 (by omega) (fun m5 f5 e5 g5 => ?_)
  rw [e5, show n + 4 + 4 + 4 + 4 + 4 = n + 20 by omega]
  refine hK m5 (fun o k ho => by rw [f5 _ _ (by omega), f4 _ _ (by omega), f3 _ _ (by omega), f2 _ _ (by omega), f1 _ _ (by omega)]) (by rw [e5]; omega) (fun y y0 y1 => ?_)
  unfold fd_X
  by_cases c1 : y < 4
  · rw [if_pos c1, f5 _ _ (by omega), f4 _ _ (by omega), f3 _ _ (by omega), f2 _ _ (by omega), g1 y y0 c1, show y % 4 = y by omega]
  by_cases c2 : y < 8
  · have := g2 (y - 4) (by omega) (by omega)
    rw [show n + 4 + (y - 4) = n + y by omega] at this
    rw [if_neg c1, if_pos c2, f5 _ _ (by omega), f4 _ _ (by omega), f3 _ _ (by omega), this, show y % 4 = y - 4 by omega]
  by_cases c3 : y < 12
  · have := g3 (y - 8) (by omega) (by omega)
    rw [show n + 4 + 4 + (y - 8) = n + y by omega] at this
    rw [if_neg c1, if_neg c2, if_pos c3, f5 _ _ (by omega), f4 _ _ (by omega), this, show y % 4 = y - 8 by omega]
  by_cases c4 : y < 16
  · have := g4 (y - 12) (by omega) (by omega)
    rw [show n + 4 + 4 + 4 + (y - 12) = n + y by omega] at this
    rw [if_neg c1, if_neg c2, if_neg c3, if_pos c4, f5 _ _ (by omega), this, show y % 4 = y - 12 by omega]
  · have := g5 (y - 16) (by omega) (by omega)
    rw [show n + 4 + 4 + 4 + 4 + (y - 16) = n + y by omega] at this
    rw [if_neg c1, if_neg c2, if_neg c3, if_neg c4, this, show y % 4 = y - 16 by omega]
theorem mfeed {a b c d e n : Int} (hn : m 168 13 = n) (h0 : 0 ≤ n ∧ n ≤ 380) {K : am_KK}
    (hK : ∀ m', (∀ o k, ¬ ((o = 168 ∧ k = 13) ∨ o = 176 ∨ (o = 175 ∧ n ≤ k ∧ k < n + 20)) → m' o k = m o k) → m' 168 13 = n + 20 → (∀ y, 0 ≤ y → y < 20 → m' 175 (n + y) = am_i2b (am_shr (fd_X a b c d e y) (24 - 8 * (y % 4)))) → K (n + 20) m') : M_X12_feed 168 a b c d e K m := by
  unfold M_X12_feed
  simp only [am_rf_all, am_ln_all, hn, forall_eq]
  rw [w32_of (z := n + 20) (by omega) (by omega)]
  refine ⟨fun _ => ⟨by omega, by omega, by omega, by omega, by omega, ?_⟩, fun q => absurd (by omega) q⟩
  generalize hm1 : am_st (am_st (am_st (am_st (am_st m 176 0 a) 176 1 b) 176 2 c) 176 3 d) 176 4 e = m1
  have f1 : ∀ o k, o ≠ 176 → m1 o k = m o k := fun o k ho => by rw [← hm1, am_st_ne _ (by omega), am_st_ne _ (by omega), am_st_ne _ (by omega), am_st_ne _ (by omega), am_st_ne _ (by omega)]
  have g1 : ∀ y, 0 ≤ y → y < 20 → m1 176 (y / 4) = fd_X a b c d e y := by
    intro y y0 y1
    unfold fd_X
    rw [← hm1]
    have : y / 4 = 0 ∨ y / 4 = 1 ∨ y / 4 = 2 ∨ y / 4 = 3 ∨ y / 4 = 4 := by omega
    rcases this with q | q | q | q | q
    · rw [q, if_pos (by omega)]; simp (disch := omega) only [am_st_ne, am_st_same]
    · rw [q, if_neg (by omega), if_pos (by omega)]; simp (disch := omega) only [am_st_ne, am_st_same]
    · rw [q, if_neg (by omega), if_neg (by omega), if_pos (by omega)]; simp (disch := omega) only [am_st_ne, am_st_same]
    · rw [q, if_neg (by omega), if_neg (by omega), if_neg (by omega), if_pos (by omega)]; simp (disch := omega) only [am_st_ne, am_st_same]
    · rw [q, if_neg (by omega), if_neg (by omega), if_neg (by omega), if_neg (by omega), am_st_same]
  clear hm1
  unfold M_X12_feed_L1
  refine ⟨fun j i m2 => 0 ≤ i ∧ i ≤ 20 ∧ j = (20 - i).toNat ∧ (∀ o k, ¬ (o = 175 ∧ n ≤ k ∧ k < n + 20) → m2 o k = m1 o k) ∧ ∀ y, 0 ≤ y → y < i → m2 175 (n + y) = am_i2b (am_shr (fd_X a b c d e y) (24 - 8 * (y % 4))), ⟨_, by omega, by omega, rfl, fun _ _ _ => rfl, fun y y0 y1 => by omega⟩, ?_⟩
  rintro j i m2 ⟨i0, i1, rfl, f2, g2⟩
  unfold M_X12_feed_L1B
  have e13 : m2 168 13 = n := by rw [f2 _ _ (by omega), f1 _ _ (by omega)]; exact hn
  simp only [am_rf_all, am_ln_all, forall_eq, e13]
  rw [w32_of (z := n + 20) (by omega) (by omega)]
  refine ⟨fun q => ?_, fun q => ?_⟩
  · have : i = 20 := by omega
    subst this
    rw [am_st_same]
    exact hK _ (fun o k ho => by rw [am_st_ne _ (by omega), f2 _ _ (by omega), f1 _ _ (by omega)]) (am_st_same _ _ _ _) (fun y y0 y1 => by rw [am_st_ne _ (by omega)]; exact g2 y y0 y1)
  · rw [Int.tdiv_eq_ediv_of_nonneg (by omega), Int.tmod_eq_emod_of_nonneg (by omega), w32_of (z := i / 4) (by omega) (by omega), w32_of (z := i % 4) (by omega) (by omega), w32_of (z := 8 * (i % 4)) (by omega) (by omega), w32_of (z := 24 - 8 * (i % 4)) (by omega) (by omega), w32_of (z := n + i) (by omega) (by omega), w32_of (z := i + 1) (by omega) (by omega)]
    rw [f2 176 _ (by omega), g1 i i0 (by omega)]
    have hby := (byte_and (am_shr (fd_X a b c d e i) (24 - 8 * (i % 4)))).2
    refine ⟨by omega, by omega, hby, _, by omega, by omega, by omega, rfl, fun o k ho => by rw [am_st_ne _ (by omega)]; exact f2 o k ho, fun y y0 y1 => ?_⟩
    by_cases cy : y = i
    · subst cy; rw [am_st_same]
    · rw [am_st_ne _ (by omega)]; exact g2 y y0 (by omega)
end FEE
theorem j_feed (a b c d e : Int) : Joint (M_X11_feed 0 a b c d e) (M_X12_feed 168 a b c d e) := by
  intro m h K hK
  obtain ⟨t1, t2, t3, t4⟩ := h.2.2.1
  by_cases hc : m 168 13 ≤ 380
  · refine cfeed t1 t2 hc (fun m1 f1 e1 g1 => ?_)
    refine mfeed (n := m 168 13) (f1 _ _ (by omega)) (by omega) (fun m2 f2 e2 g2 => ?_)
    have e : ∀ o k, ¬ ((o = 129 ∧ k = 2) ∨ o = 130 ∨ (o = 168 ∧ k = 13) ∨ o = 176 ∨ o = 175) → m2 o k = m o k := fun o k ho => by rw [f2 o k (by omega)]; exact f1 o k (by omega)
    have er : m2 170 = m 170 := funext fun x => e _ _ (by omega)
    have z2 : m2 129 2 = m 168 13 + 20 := by rw [f2 _ _ (by omega)]; exact e1
    refine hK _ _ (Rel_mk h (fun o k ho => e o k (by omega)) (by rw [er]; exact bk_of h.1.1 (fun o k _ _ _ => e o k (by omega)) (fun _ _ => rfl) h.1.2.2.1.2.2.1.1.2) (by rw [er]; exact vg_of h.1.2.1 (fun o k _ _ => e o k (by omega)) (fun _ _ => rfl)) (by rw [er]; exact h.1.2.2.1) (by rw [er]; exact h.1.2.2.2) ⟨rk_to t1 (e _ _ (by omega)) (by rw [z2]; omega), by rw [z2, e2], by rw [e2]; omega, fun x x0 x1 => ?_⟩ (sc_of h.2.2.2.1 (fun o k ho => e o k (by omega))) (ud_of h.2.2.2.2.2.1 (fun o k ho => e o k (by omega)) (by rw [er]; exact Int.le_refl _)) (fun q hq => by have := wd_ne q hq; exact e _ _ (by omega)) (ww_of h.2.2.2.2.2.2.2.2 (e _ _ (by omega)) (e _ _ (by omega)) (fun _ => e _ _ (by omega)) (fun _ _ _ => e _ _ (by omega))))
    rw [e2] at x1
    by_cases cx : x < m 168 13
    · rw [f2 130 _ (by omega), f1 130 _ (by omega), f2 175 _ (by omega), f1 175 _ (by omega)]
      exact t4 x x0 cx
    · have k1 := g1 (x - m 168 13) (by omega) (by omega)
      have k2 := g2 (x - m 168 13) (by omega) (by omega)
      rw [show m 168 13 + (x - m 168 13) = x by omega] at k1 k2
      rw [f2 130 _ (by omega), k1, k2]
      exact byte_and _
  · unfold M_X11_feed M_X12_feed
    simp only [am_rf_all, t2]
    rw [w32_of (by omega) (by omega)]
    exact ⟨fun q => absurd q hc, fun _ => ⟨fun q => absurd q (by omega), fun _ => hK _ _ h⟩⟩
