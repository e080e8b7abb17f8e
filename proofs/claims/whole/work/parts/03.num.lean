/-! Java's ints and longs as whole numbers: what the machine's arithmetic does to the numbers that its cells stand for. -/
def w32 (z : Int) : Int := (z + 2147483648) % 4294967296 - 2147483648
def w64 (z : Int) : Int := (z + 9223372036854775808) % 18446744073709551616 - 9223372036854775808
def R32 (z : Int) : Prop := -2147483648 ≤ z ∧ z ≤ 2147483647
def R64 (z : Int) : Prop := -9223372036854775808 ≤ z ∧ z ≤ 9223372036854775807
theorem w32_R (z : Int) : R32 (w32 z) := by unfold R32 w32; omega
theorem w64_R (z : Int) : R64 (w64 z) := by unfold R64 w64; omega
theorem w32_id {z : Int} (h : R32 z) : w32 z = z := by unfold R32 at h; unfold w32; omega
theorem w64_id {z : Int} (h : R64 z) : w64 z = z := by unfold R64 at h; unfold w64; omega
theorem w32_of {z : Int} (h1 : -2147483648 ≤ z) (h2 : z ≤ 2147483647) : w32 z = z := w32_id ⟨h1, h2⟩
theorem w64_of {z : Int} (h1 : -9223372036854775808 ≤ z) (h2 : z ≤ 9223372036854775807) : w64 z = z := w64_id ⟨h1, h2⟩
theorem R32_64 {z : Int} (h : R32 z) : R64 z := by unfold R32 at h; unfold R64; omega
theorem w32_bmod (z : Int) : w32 z = z.bmod 4294967296 := by
  unfold w32
  rw [Int.bmod_def]
  split <;> omega
theorem w64_bmod (z : Int) : w64 z = z.bmod 18446744073709551616 := by
  unfold w64
  rw [Int.bmod_def]
  split <;> omega
theorem i32_to (z : Int) : (Int32.ofInt z).toInt = w32 z := by rw [w32_bmod, Int32.toInt_ofInt]
theorem i64_to (z : Int) : (Int64.ofInt z).toInt = w64 z := by rw [w64_bmod, Int64.toInt_ofInt]
theorem i32_toR {z : Int} (h : R32 z) : (Int32.ofInt z).toInt = z := by rw [i32_to, w32_id h]
theorem i64_toR {z : Int} (h : R64 z) : (Int64.ofInt z).toInt = z := by rw [i64_to, w64_id h]
theorem i32_ext {x y : Int32} (h : x.toInt = y.toInt) : x = y := Int32.toInt_inj.mp h
theorem i64_ext {x y : Int64} (h : x.toInt = y.toInt) : x = y := Int64.toInt_inj.mp h
theorem i32_R (x : Int32) : R32 x.toInt := by
  have h1 := Int32.le_toInt x
  have h2 := Int32.toInt_lt x
  unfold R32
  constructor
  · have : (-2147483648 : Int) = -2 ^ 31 := by decide
    omega
  · have : (2147483648 : Int) = 2 ^ 31 := by decide
    omega
theorem i64_R (x : Int64) : R64 x.toInt := by
  have h1 := Int64.le_toInt x
  have h2 := Int64.toInt_lt x
  unfold R64
  constructor
  · have : (-9223372036854775808 : Int) = -2 ^ 63 := by decide
    omega
  · have : (9223372036854775808 : Int) = 2 ^ 63 := by decide
    omega
theorem i32_of_to (x : Int32) : Int32.ofInt x.toInt = x := i32_ext (i32_toR (i32_R x))
theorem i64_of_to (x : Int64) : Int64.ofInt x.toInt = x := i64_ext (i64_toR (i64_R x))
theorem i32_w (z : Int) : Int32.ofInt (w32 z) = Int32.ofInt z := i32_ext (by rw [i32_to, i32_to, w32_id (w32_R z)])
theorem i64_w (z : Int) : Int64.ofInt (w64 z) = Int64.ofInt z := i64_ext (by rw [i64_to, i64_to, w64_id (w64_R z)])
theorem i32_add (a b : Int) : Int32.ofInt a + Int32.ofInt b = Int32.ofInt (w32 (a + b)) := by rw [i32_w, Int32.ofInt_add]
theorem i32_sub (a b : Int) : Int32.ofInt a - Int32.ofInt b = Int32.ofInt (w32 (a - b)) := by rw [i32_w, Int32.ofInt_sub]
theorem i32_mul (a b : Int) : Int32.ofInt a * Int32.ofInt b = Int32.ofInt (w32 (a * b)) := by rw [i32_w, Int32.ofInt_mul]
theorem i32_neg (a : Int) : -Int32.ofInt a = Int32.ofInt (w32 (-a)) := by rw [i32_w, Int32.ofInt_neg]
theorem i64_add (a b : Int) : Int64.ofInt a + Int64.ofInt b = Int64.ofInt (w64 (a + b)) := by rw [i64_w, Int64.ofInt_add]
theorem i64_sub (a b : Int) : Int64.ofInt a - Int64.ofInt b = Int64.ofInt (w64 (a - b)) := by rw [i64_w, Int64.ofInt_sub]
theorem i64_mul (a b : Int) : Int64.ofInt a * Int64.ofInt b = Int64.ofInt (w64 (a * b)) := by rw [i64_w, Int64.ofInt_mul]
theorem i32_div {a b : Int} (ha : R32 a) (hb : R32 b) : Int32.ofInt a / Int32.ofInt b = Int32.ofInt (w32 (a.tdiv b)) := by
  apply i32_ext
  rw [Int32.toInt_div, i32_toR ha, i32_toR hb, i32_w, i32_to, w32_bmod]
theorem i64_div {a b : Int} (ha : R64 a) (hb : R64 b) : Int64.ofInt a / Int64.ofInt b = Int64.ofInt (w64 (a.tdiv b)) := by
  apply i64_ext
  rw [Int64.toInt_div, i64_toR ha, i64_toR hb, i64_w, i64_to, w64_bmod]
theorem w32_mulw (a b c : Int) : w32 (a - w32 (w32 b * c)) = w32 (a - b * c) := by
  have e : Int32.ofInt (a - w32 (w32 b * c)) = Int32.ofInt (a - b * c) := by
    rw [Int32.ofInt_sub, Int32.ofInt_sub, i32_w, Int32.ofInt_mul, i32_w, Int32.ofInt_mul]
  have h := congrArg Int32.toInt e
  rwa [i32_to, i32_to] at h
theorem w64_mulw (a b c : Int) : w64 (a - w64 (w64 b * c)) = w64 (a - b * c) := by
  have e : Int64.ofInt (a - w64 (w64 b * c)) = Int64.ofInt (a - b * c) := by
    rw [Int64.ofInt_sub, Int64.ofInt_sub, i64_w, Int64.ofInt_mul, i64_w, Int64.ofInt_mul]
  have h := congrArg Int64.toInt e
  rwa [i64_to, i64_to] at h
theorem i32_rem {a b : Int} (ha : R32 a) (hb : R32 b) : Int32.ofInt a - Int32.ofInt a / Int32.ofInt b * Int32.ofInt b = Int32.ofInt (w32 (a.tmod b)) := by
  rw [i32_div ha hb, i32_mul, i32_sub, w32_mulw]
  congr 2
  have := Int.tmod_def a b
  rw [this, Int.mul_comm]
theorem i64_rem {a b : Int} (ha : R64 a) (hb : R64 b) : Int64.ofInt a - Int64.ofInt a / Int64.ofInt b * Int64.ofInt b = Int64.ofInt (w64 (a.tmod b)) := by
  rw [i64_div ha hb, i64_mul, i64_sub, w64_mulw]
  congr 2
  have := Int.tmod_def a b
  rw [this, Int.mul_comm]
theorem i32_zero : (0 : Int32) = Int32.ofInt 0 := rfl
theorem i32_lt {a b : Int} (ha : R32 a) (hb : R32 b) : Int32.ofInt a < Int32.ofInt b ↔ a < b := by rw [Int32.lt_iff_toInt_lt, i32_toR ha, i32_toR hb]
theorem i32_le {a b : Int} (ha : R32 a) (hb : R32 b) : Int32.ofInt a ≤ Int32.ofInt b ↔ a ≤ b := by rw [Int32.le_iff_toInt_le, i32_toR ha, i32_toR hb]
theorem i32_eq {a b : Int} (ha : R32 a) (hb : R32 b) : Int32.ofInt a = Int32.ofInt b ↔ a = b := ⟨fun h => by have := congrArg Int32.toInt h; rwa [i32_toR ha, i32_toR hb] at this, fun h => by rw [h]⟩
theorem i64_lt {a b : Int} (ha : R64 a) (hb : R64 b) : Int64.ofInt a < Int64.ofInt b ↔ a < b := by rw [Int64.lt_iff_toInt_lt, i64_toR ha, i64_toR hb]
theorem i64_eq {a b : Int} (ha : R64 a) (hb : R64 b) : Int64.ofInt a = Int64.ofInt b ↔ a = b := ⟨fun h => by have := congrArg Int64.toInt h; rwa [i64_toR ha, i64_toR hb] at this, fun h => by rw [h]⟩
theorem R32_0 : R32 0 := by unfold R32; omega
theorem R64_0 : R64 0 := by unfold R64; omega
/-- shifts and masks -/
def am_shl (a b : Int) : Int := (Int32.ofInt a <<< (Int32.ofInt b &&& 31)).toInt
def am_shr (a b : Int) : Int := (Int32.ofInt a >>> (Int32.ofInt b &&& 31)).toInt
def am_ushr (a b : Int) : Int := ((Int32.ofInt a).toUInt32 >>> ((Int32.ofInt b).toUInt32 &&& Int32.toUInt32 31)).toInt32.toInt
def am_and (a b : Int) : Int := (Int32.ofInt a &&& Int32.ofInt b).toInt
def am_or (a b : Int) : Int := (Int32.ofInt a ||| Int32.ofInt b).toInt
def am_xor (a b : Int) : Int := (Int32.ofInt a ^^^ Int32.ofInt b).toInt
def am_i2b (a : Int) : Int := (Int32.ofInt a).toInt8.toInt32.toInt
def am_l2i (a : Int) : Int := (Int64.ofInt a).toInt32.toInt
def am_cmp (a b : Int) : Int := if a < b then -1 else if a = b then 0 else 1
theorem i32_i64 {a : Int} (h : R32 a) : (Int32.ofInt a).toInt64 = Int64.ofInt a := by
  apply i64_ext
  rw [Int32.toInt_toInt64, i32_toR h, i64_toR (R32_64 h)]
