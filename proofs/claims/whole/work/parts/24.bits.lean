/-! BITS of numbers from 0 on. -/
def bitI (x k : Int) : Prop := x.toNat.testBit k.toNat = true
theorem bn_toInt {c : Nat} (h : c < 2147483648) : (BitVec.ofNat 32 c).toInt = (c : Int) := by
  rw [BitVec.toInt_eq_toNat_bmod, BitVec.toNat_ofNat, Nat.mod_eq_of_lt (by omega), Int.bmod_def]
  split <;> omega
theorem bn_of (a : Nat) : (Int32.ofInt (a : Int)).toBitVec = BitVec.ofNat 32 a := by
  show BitVec.ofInt 32 (a : Int) = _
  exact BitVec.ofInt_natCast 32 a
theorem bn_and {a b : Nat} (ha : a < 2147483648) : am_and (a : Int) (b : Int) = ((a &&& b : Nat) : Int) := by
  unfold am_and
  show ((Int32.ofInt (a : Int) &&& Int32.ofInt (b : Int)).toBitVec).toInt = _
  rw [Int32.toBitVec_and, bn_of, bn_of, ← BitVec.ofNat_and, bn_toInt]
  exact Nat.lt_of_le_of_lt Nat.and_le_left ha
theorem bn_or {a b : Nat} (ha : a < 2147483648) (hb : b < 2147483648) : am_or (a : Int) (b : Int) = ((a ||| b : Nat) : Int) := by
  unfold am_or
  show ((Int32.ofInt (a : Int) ||| Int32.ofInt (b : Int)).toBitVec).toInt = _
  rw [Int32.toBitVec_or, bn_of, bn_of, ← BitVec.ofNat_or, bn_toInt]
  have : a ||| b < 2 ^ 31 := Nat.or_lt_two_pow ha hb
  omega
theorem bn_xor {a b : Nat} (ha : a < 2147483648) (hb : b < 2147483648) : am_xor (a : Int) (b : Int) = ((a ^^^ b : Nat) : Int) := by
  unfold am_xor
  show ((Int32.ofInt (a : Int) ^^^ Int32.ofInt (b : Int)).toBitVec).toInt = _
  rw [Int32.toBitVec_xor, bn_of, bn_of, ← BitVec.ofNat_xor, bn_toInt]
  have : a ^^^ b < 2 ^ 31 := Nat.xor_lt_two_pow ha hb
  omega
theorem bn_sm : ∀ k : Nat, k < 32 → ((Int32.ofInt (k : Int) &&& 31).toBitVec.smod 32).toNat = k := by decide +kernel
theorem bn_shr {a k : Nat} (ha : a < 2147483648) (hk : k < 32) : am_shr (a : Int) (k : Int) = ((a / 2 ^ k : Nat) : Int) := by
  unfold am_shr
  show ((Int32.ofInt (a : Int) >>> (Int32.ofInt (k : Int) &&& 31)).toBitVec).toInt = _
  rw [Int32.toBitVec_shiftRight, BitVec.sshiftRight', bn_sm k hk, BitVec.toInt_sshiftRight, bn_of, bn_toInt ha, Int.shiftRight_eq_div_pow]
  simp
theorem bn_shl : ∀ k : Nat, k < 31 → am_shl 1 (k : Int) = ((2 ^ k : Nat) : Int) := by decide +kernel
theorem bit_nat {x : Int} (h : 0 ≤ x) : ∃ n : Nat, x = n := ⟨x.toNat, by omega⟩
theorem bit_test {x k : Int} (hx : 0 ≤ x ∧ x < 2147483648) (hk : 0 ≤ k ∧ k < 32) [Decidable (bitI x k)] : am_and (am_shr x k) 1 = if bitI x k then 1 else 0 := by
  obtain ⟨a, rfl⟩ := bit_nat hx.1
  obtain ⟨j, rfl⟩ := bit_nat hk.1
  rw [bn_shr (by omega) (by omega)]
  have h1 : a / 2 ^ j < 2147483648 := Nat.lt_of_le_of_lt (Nat.div_le_self _ _) (by omega)
  have := bn_and (b := 1) h1
  rw [show ((1 : Nat) : Int) = 1 from rfl] at this
  rw [this, Nat.and_one_is_mod]
  have e : bitI (a : Int) (j : Int) ↔ a / 2 ^ j % 2 = 1 := by
    unfold bitI
    rw [Int.toNat_natCast, Int.toNat_natCast, Nat.testBit_eq_decide_div_mod_eq]
    simp
  by_cases c : bitI (a : Int) (j : Int)
  · rw [if_pos c, e.mp c]; rfl
  · rw [if_neg c]
    have : a / 2 ^ j % 2 ≠ 1 := fun q => c (e.mpr q)
    have : a / 2 ^ j % 2 = 0 := by omega
    rw [this]; rfl
theorem bit_or {x y k : Int} (hx : 0 ≤ x ∧ x < 2147483648) (hy : 0 ≤ y ∧ y < 2147483648) : bitI (am_or x y) k ↔ bitI x k ∨ bitI y k := by
  obtain ⟨a, rfl⟩ := bit_nat hx.1
  obtain ⟨b, rfl⟩ := bit_nat hy.1
  rw [bn_or (by omega) (by omega)]
  unfold bitI
  simp [Nat.testBit_or]
theorem bit_xor {x y k : Int} (hx : 0 ≤ x ∧ x < 2147483648) (hy : 0 ≤ y ∧ y < 2147483648) : bitI (am_xor x y) k ↔ ¬ (bitI x k ↔ bitI y k) := by
  obtain ⟨a, rfl⟩ := bit_nat hx.1
  obtain ⟨b, rfl⟩ := bit_nat hy.1
  rw [bn_xor (by omega) (by omega)]
  unfold bitI
  simp only [Int.toNat_natCast, Nat.testBit_xor]
  cases a.testBit k.toNat <;> cases b.testBit k.toNat <;> simp
theorem bit_and {x y k : Int} (hx : 0 ≤ x ∧ x < 2147483648) (hy : 0 ≤ y ∧ y < 2147483648) : bitI (am_and x y) k ↔ bitI x k ∧ bitI y k := by
  obtain ⟨a, rfl⟩ := bit_nat hx.1
  obtain ⟨b, rfl⟩ := bit_nat hy.1
  rw [bn_and (by omega)]
  unfold bitI
  simp [Nat.testBit_and]
theorem bit_shl {i k : Int} (hi : 0 ≤ i ∧ i < 31) (hk : 0 ≤ k) : bitI (am_shl 1 i) k ↔ i = k := by
  obtain ⟨a, rfl⟩ := bit_nat hi.1
  obtain ⟨b, rfl⟩ := bit_nat hk
  rw [bn_shl a (by omega)]
  unfold bitI
  rw [Int.toNat_natCast, Int.toNat_natCast, Nat.testBit_two_pow]
  simp only [decide_eq_true_eq]
  omega
theorem bit_shl_le {i : Int} {n : Nat} (hi : 0 ≤ i ∧ i < n) (hn : n ≤ 31) : 0 < am_shl 1 i ∧ am_shl 1 i < ((2 ^ n : Nat) : Int) := by
  obtain ⟨a, rfl⟩ := bit_nat hi.1
  rw [bn_shl a (by omega)]
  have h1 : 2 ^ a < 2 ^ n := Nat.pow_lt_pow_right (by omega) (by omega)
  have h2 : 0 < 2 ^ a := Nat.two_pow_pos a
  omega
theorem bit_or_le {x y : Int} {n : Nat} (hn : n ≤ 31) (hx : 0 ≤ x ∧ x < ((2 ^ n : Nat) : Int)) (hy : 0 ≤ y ∧ y < ((2 ^ n : Nat) : Int)) : 0 ≤ am_or x y ∧ am_or x y < ((2 ^ n : Nat) : Int) := by
  obtain ⟨a, rfl⟩ := bit_nat hx.1
  obtain ⟨b, rfl⟩ := bit_nat hy.1
  have h31 : 2 ^ n ≤ 2 ^ 31 := Nat.pow_le_pow_right (by omega) hn
  rw [bn_or (by omega) (by omega)]
  have : a ||| b < 2 ^ n := Nat.or_lt_two_pow (by omega) (by omega)
  omega
theorem bit_xor_le {x y : Int} {n : Nat} (hn : n ≤ 31) (hx : 0 ≤ x ∧ x < ((2 ^ n : Nat) : Int)) (hy : 0 ≤ y ∧ y < ((2 ^ n : Nat) : Int)) : 0 ≤ am_xor x y ∧ am_xor x y < ((2 ^ n : Nat) : Int) := by
  obtain ⟨a, rfl⟩ := bit_nat hx.1
  obtain ⟨b, rfl⟩ := bit_nat hy.1
  have h31 : 2 ^ n ≤ 2 ^ 31 := Nat.pow_le_pow_right (by omega) hn
  rw [bn_xor (by omega) (by omega)]
  have : a ^^^ b < 2 ^ n := Nat.xor_lt_two_pow (by omega) (by omega)
  omega
theorem bit_ext {x y : Int} (hx : 0 ≤ x) (hy : 0 ≤ y) (h : ∀ k, 0 ≤ k → (bitI x k ↔ bitI y k)) : x = y := by
  obtain ⟨a, rfl⟩ := bit_nat hx
  obtain ⟨b, rfl⟩ := bit_nat hy
  congr 1
  apply Nat.eq_of_testBit_eq
  intro i
  have := h i (by omega)
  unfold bitI at this
  rw [Int.toNat_natCast, Int.toNat_natCast, Int.toNat_natCast] at this
  cases e : a.testBit i <;> cases e2 : b.testBit i <;> simp [e, e2] at this ⊢
theorem bit_0 (k : Int) : ¬ bitI 0 k := by unfold bitI; simp
theorem bit_big {x k : Int} {n : Nat} (hx : x < ((2 ^ n : Nat) : Int)) (hk : (n : Int) ≤ k) : ¬ bitI x k := by
  unfold bitI
  rw [Nat.testBit_lt_two_pow]
  · simp
  · have h1 : 2 ^ n ≤ 2 ^ k.toNat := Nat.pow_le_pow_right (by omega) (by omega)
    have : 0 < 2 ^ k.toNat := Nat.two_pow_pos _
    omega
