/-! ROWS, and the small helpers of both sides: what their forms come to. -/
theorem b01 (p : Prop) [Decidable p] : ((if p then (1 : Int) else 0) = 0) ↔ ¬ p := by by_cases h : p <;> simp [h]
theorem b01' (p : Prop) [Decidable p] : ((if p then (1 : Int) else 0) ≠ 0) ↔ p := by by_cases h : p <;> simp [h]
theorem b11 (p : Prop) [Decidable p] : ((if p then (1 : Int) else 0) = 1) ↔ p := by by_cases h : p <;> simp [h]
theorem b11' (p : Prop) [Decidable p] : ((if p then (1 : Int) else 0) ≠ 1) ↔ ¬ p := by by_cases h : p <;> simp [h]
theorem am_st_eq (m : am_M) (o k v o' k' : Int) : am_st m o k v o' k' = if o' = o ∧ k' = k then v else m o' k' := rfl
theorem am_cp_eq (m : am_M) (z0 sp z1 dp n o k : Int) : am_cp m z0 sp z1 dp n o k = if o = z1 ∧ dp ≤ k ∧ k < dp + n then m z0 (sp + (k - dp)) else m o k := rfl
theorem within_eq (x lo hi : Int) (K : am_KK) (m : am_M) : M_X11_within x lo hi K m ↔ K (if lo ≤ x ∧ x ≤ hi then 1 else 0) m := by
  unfold M_X11_within
  by_cases h1 : x < lo
  · rw [if_neg (by omega)]; simp [h1]
  · by_cases h2 : hi < x
    · rw [if_neg (by omega)]; simp [h1, h2]
    · rw [if_pos (by omega)]; simp [h1, h2]
theorem isThing_eq (x : Int) (K : am_KK) (m : am_M) : M_X11_isThing x K m ↔ K (if 0 ≤ x ∧ x ≤ 7 then 1 else 0) m := by
  unfold M_X11_isThing
  rw [within_eq]
theorem lies_eq (x lo hi : Int) (K : am_KK) (m : am_M) : M_X12_lies x lo hi K m ↔ K (if lo ≤ x ∧ x ≤ hi then 1 else 0) m := by
  unfold M_X12_lies
  by_cases h1 : x < lo
  · rw [if_neg (by omega)]; simp [h1]
  · by_cases h2 : hi < x
    · rw [if_neg (by omega)]; simp [h1, h2]
    · rw [if_pos (by omega)]; simp [h1, h2]
theorem fine_eq (o x : Int) (K : am_KK) (m : am_M) : M_X11_fine o x K m ↔ K x (am_st m o 17 0) := by
  unfold M_X11_fine
  simp
theorem good_eq (o x : Int) (K : am_KK) (m : am_M) : M_X12_good o x K m ↔ K x (am_st m o 0 0) := by
  unfold M_X12_good
  simp
theorem settled_eq (o x : Int) (K : am_KK) (m : am_M) : M_X12_settled o x K m ↔ K x (am_st (am_st m o 38 0) o 0 0) := by
  unfold M_X12_settled
  simp [good_eq]
/-- a Rows object: its width, how many cells it has -/
def rs (r w cap : Int) : Prop := am_rfv r 0 = r + 1 ∧ am_len (r + 1) = cap ∧ 1 ≤ w ∧ w ≤ 7 ∧ 0 ≤ cap ∧ cap ≤ 504
/-- .. as it stands in the memory -/
def rk (m : am_M) (r w cap : Int) : Prop := rs r w cap ∧ m r 1 = w ∧ 0 ≤ m r 2 ∧ m r 2 * w ≤ cap
def rget (m : am_M) (r w i j : Int) : Int := if (0 ≤ i ∧ i < m r 2) ∧ 0 ≤ j ∧ j < w then m (r + 1) (i * w + j) else -1
theorem rk_ix {m : am_M} {r w cap i j : Int} (h : rk m r w cap) (hi : 0 ≤ i ∧ i < m r 2) (hj : 0 ≤ j ∧ j < w) : 0 ≤ i * w ∧ i * w + j < cap ∧ m r 2 ≤ cap := by
  obtain ⟨⟨-, -, h1, h2, h3, h4⟩, -, h6, h7⟩ := h
  have a1 : (i + 1) * w ≤ m r 2 * w := Int.mul_le_mul_of_nonneg_right (by omega) (by omega)
  have a2 : 0 ≤ i * w := Int.mul_nonneg hi.1 (by omega)
  have a3 : m r 2 * 1 ≤ m r 2 * w := Int.mul_le_mul_of_nonneg_left h1 h6
  have a4 : (i + 1) * w = i * w + w := by rw [Int.add_mul, Int.one_mul]
  omega
theorem rk_n {m : am_M} {r w cap : Int} (h : rk m r w cap) : m r 2 ≤ cap := by
  obtain ⟨⟨-, -, h1, h2, h3, h4⟩, -, h6, h7⟩ := h
  have a3 : m r 2 * 1 ≤ m r 2 * w := Int.mul_le_mul_of_nonneg_left h1 h6
  omega
theorem has_eq (r i : Int) (K : am_KK) (m : am_M) : M_X7_has r i K m ↔ K (if 0 ≤ i ∧ i < m r 2 then 1 else 0) m := by
  unfold M_X7_has
  by_cases h1 : i < 0
  · rw [if_neg (by omega)]; simp [h1]
  · by_cases h2 : m r 2 ≤ i
    · rw [if_neg (by omega)]; simp [h1, h2]
    · rw [if_pos (by omega)]; simp [h1, h2]
theorem get_eq {r w cap : Int} {m : am_M} (h : rk m r w cap) (i j : Int) (K : am_KK) : M_X7_get r i j K m ↔ K (rget m r w i j) m := by
  unfold M_X7_get rget
  obtain ⟨hs, hw, hn⟩ := id h
  rw [hs.1, hs.2.1, hw]
  by_cases h1 : i < 0
  · rw [if_neg (by omega)]; simp [h1]
  by_cases h2 : m r 2 ≤ i
  · rw [if_neg (by omega)]; simp [h1, h2]
  by_cases h3 : j < 0
  · rw [if_neg (by omega)]; simp [h1, h2, h3]
  by_cases h4 : w ≤ j
  · rw [if_neg (by omega)]; simp [h1, h2, h3, h4]
  · have hx := rk_ix h (i := i) (j := j) (by omega) (by omega)
    obtain ⟨-, -, g1, g2, g3, g4⟩ := hs
    rw [if_pos (by omega), w32_of (z := i * w) (by omega) (by omega), w32_of (by omega) (by omega)]
    have e1 : 0 ≤ i * w + j := by omega
    simp [h1, h2, h3, h4, e1, hx.2.1]
theorem set_eq {r w cap : Int} {m : am_M} (h : rk m r w cap) (i j v : Int) (K : am_KK) : M_X7_set r i j v K m ↔ K 0 (if (0 ≤ i ∧ i < m r 2) ∧ 0 ≤ j ∧ j < w then am_st m (r + 1) (i * w + j) v else m) := by
  unfold M_X7_set
  obtain ⟨hs, hw, hn⟩ := id h
  rw [hs.1, hs.2.1, hw]
  by_cases h1 : i < 0
  · rw [if_neg (by omega)]; simp [h1]
  by_cases h2 : m r 2 ≤ i
  · rw [if_neg (by omega)]; simp [h1, h2]
  by_cases h3 : j < 0
  · rw [if_neg (by omega)]; simp [h1, h2, h3]
  by_cases h4 : w ≤ j
  · rw [if_neg (by omega)]; simp [h1, h2, h3, h4]
  · have hx := rk_ix h (i := i) (j := j) (by omega) (by omega)
    obtain ⟨-, -, g1, g2, g3, g4⟩ := hs
    rw [if_pos (by omega), w32_of (z := i * w) (by omega) (by omega), w32_of (by omega) (by omega)]
    have e1 : 0 ≤ i * w + j := by omega
    simp [h1, h2, h3, h4, e1, hx.2.1]
theorem open_eq {r w cap : Int} {m : am_M} (h : rk m r w cap) (K : am_KK) : M_X7_open r K m ↔ if (m r 2 + 1) * w ≤ cap then K (m r 2) (am_st m r 2 (m r 2 + 1)) else K (-1) m := by
  unfold M_X7_open
  have hn := rk_n h
  obtain ⟨⟨g5, g6, g1, g2, g3, g4⟩, hw, h6, h7⟩ := id h
  have a4 : (m r 2 + 1) * w = m r 2 * w + w := by rw [Int.add_mul, Int.one_mul]
  have a0 : 0 ≤ m r 2 * w := Int.mul_nonneg h6 (by omega)
  rw [g5, g6, hw, w32_of (z := m r 2 + 1) (by omega) (by omega), w32_of (by omega) (by omega)]
  by_cases c : (m r 2 + 1) * w ≤ cap
  · have e : m r 2 + 1 - 1 = m r 2 := by omega
    simp [c, am_st_same, e, w32_of (z := m r 2) (by omega) (by omega)]
  · simp [c]
theorem cut_eq (r k : Int) (K : am_KK) (m : am_M) : M_X7_cut r k K m ↔ K 0 (if 0 ≤ k ∧ k < m r 2 then am_st m r 2 k else m) := by
  unfold M_X7_cut
  by_cases h1 : k < 0
  · rw [if_neg (by omega)]; simp [h1]
  by_cases h2 : m r 2 ≤ k
  · rw [if_neg (by omega)]; simp [h1, h2]
  · rw [if_pos (by omega)]; simp [h1, h2]
theorem dropFirst_eq {r w cap : Int} {m : am_M} (h : rk m r w cap) (K : am_KK) : M_X7_dropFirst r K m ↔ K 0 (if 0 < m r 2 then am_cp (am_st m r 2 (m r 2 - 1)) (r + 1) w (r + 1) 0 ((m r 2 - 1) * w) else m) := by
  unfold M_X7_dropFirst
  have hn := rk_n h
  obtain ⟨⟨g5, g6, g1, g2, g3, g4⟩, hw, h6, h7⟩ := id h
  by_cases c : m r 2 ≤ 0
  · rw [if_neg (by omega)]; simp [c]
  · rw [if_pos (by omega)]
    have a4 : (m r 2 - 1) * w = m r 2 * w - w := by rw [Int.sub_mul, Int.one_mul]
    have a5 : 1 * w ≤ m r 2 * w := Int.mul_le_mul_of_nonneg_right (by omega) (by omega)
    have e1 : am_st m r 2 (m r 2 - 1) r 1 = w := by rw [am_st_eq, if_neg (by omega), hw]
    have b1 : 0 ≤ w := by omega
    have b2 : 0 ≤ (m r 2 - 1) * w := by omega
    have b3 : w + (m r 2 - 1) * w ≤ cap := by omega
    have b4 : (m r 2 - 1) * w ≤ cap := by omega
    rw [g5, g6, w32_of (z := m r 2 - 1) (by omega) (by omega)]
    simp [c, e1, am_st_same, w32_of (z := (m r 2 - 1) * w) (by omega) (by omega), b1, b2, b3, b4]
theorem copyRow_eq {r w cap : Int} {m : am_M} (h : rk m r w cap) (a b : Int) (K : am_KK) : M_X7_copyRow r a b K m ↔ K 0 (if (0 ≤ a ∧ a < m r 2) ∧ 0 ≤ b ∧ b < m r 2 then am_cp m (r + 1) (a * w) (r + 1) (b * w) w else m) := by
  unfold M_X7_copyRow
  obtain ⟨⟨g5, g6, g1, g2, g3, g4⟩, hw, h6, h7⟩ := id h
  simp only [has_eq, b01]
  by_cases c1 : 0 ≤ a ∧ a < m r 2
  · by_cases c2 : 0 ≤ b ∧ b < m r 2
    · have x1 := rk_ix h c1 (j := w - 1) (by omega)
      have x2 := rk_ix h c2 (j := w - 1) (by omega)
      rw [g5, g6, hw, w32_of (z := a * w) (by omega) (by omega), w32_of (z := b * w) (by omega) (by omega)]
      have b1 : 0 ≤ w := by omega
      have b2 : a * w + w ≤ cap := by omega
      have b3 : b * w + w ≤ cap := by omega
      simp [c1, c2, x1.1, x2.1, b1, b2, b3]
    · simp [c1, c2]
  · simp [c1]
theorem takeFrom_eq {r r2 w cap cap2 : Int} {m : am_M} (h : rk m r w cap) (h2 : rk m r2 w cap2) (hc : m r2 2 * w ≤ cap) (hne : r2 ≠ r + 1) (K : am_KK) : M_X7_takeFrom r r2 K m ↔ K 0 (am_st (am_cp m (r2 + 1) 0 (r + 1) 0 (m r2 2 * w)) r 2 (m r2 2)) := by
  unfold M_X7_takeFrom
  obtain ⟨⟨g5, g6, g1, g2, g3, g4⟩, hw, h6, h7⟩ := id h
  obtain ⟨⟨f5, f6, -, -, f3, f4⟩, fw, e6, e7⟩ := id h2
  have a0 : 0 ≤ m r2 2 * w := Int.mul_nonneg e6 (by omega)
  rw [hw, fw, g5, g6, f5, f6, w32_of (z := m r2 2 * w) (by omega) (by omega)]
  have e : am_cp m (r2 + 1) 0 (r + 1) 0 (m r2 2 * w) r2 2 = m r2 2 := by rw [am_cp_eq, if_neg (by rintro ⟨q, -⟩; exact hne q)]
  have n1 : ¬ cap < m r2 2 * w := by omega
  simp [n1, a0, e7, hc, e]
