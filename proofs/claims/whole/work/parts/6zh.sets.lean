/-! CODE: sets as numbers. -/
def bc_2 (v : Int) : Int := w32 (v - (am_and (am_ushr v 1) 1431655765))
def bc_3 (v : Int) : Int := w32 ((am_and (bc_2 v) 858993459) + (am_and (am_ushr (bc_2 v) 2) 858993459))
def bc_4 (v : Int) : Int := am_and (w32 (bc_3 v + (am_ushr (bc_3 v) 4))) 252645135
def bc_5 (v : Int) : Int := w32 (bc_4 v + (am_ushr (bc_4 v) 8))
def bc_6 (v : Int) : Int := w32 (bc_5 v + (am_ushr (bc_5 v) 16))
/-- how many bits, as the machine counts them -/
def bc (v : Int) : Int := am_and (bc_6 v) 63
theorem bitCount_to {v : Int} {K : am_KK} {m : am_M} (h : K (bc v) m) : M_J6_bitCount_0f7a4 v K m := by
  unfold M_J6_bitCount_0f7a4
  intro a ha b hb c hc d hd e he
  have e1 : a = bc_2 v := ha
  have e2 : b = bc_3 v := by rw [hb, e1]; rfl
  have e3 : c = bc_4 v := by rw [hc, e2]; rfl
  have e4 : d = bc_5 v := by rw [hd, e3]; rfl
  have e5 : e = bc_6 v := by rw [he, e4]; rfl
  rw [e5]
  exact h
theorem bc_n : ∀ a : Nat, a < 32 → ∀ b : Nat, b < 32 → bc ((32 * a + b : Nat) : Int) = cv_1 ((32 * a + b : Nat) : Int) 10 := by decide +kernel
theorem bc_1 {v : Int} (h : 0 ≤ v ∧ v < 1024) : bc v = cv_1 v 10 := by
  obtain ⟨n, rfl⟩ := bit_nat h.1
  have := bc_n (n / 32) (by omega) (n % 32) (by omega)
  rw [show 32 * (n / 32) + n % 32 = n by omega] at this
  exact this
theorem bc_many : ∀ s : Nat, s < 64 → 1 < bc s → ∃ i, i < 6 ∧ ∃ j, j < 6 ∧ i ≠ j ∧ s.testBit i = true ∧ s.testBit j = true := by decide +kernel
theorem bc_few : ∀ s : Nat, s < 64 → ¬ 1 < bc s → s = 0 ∨ ∃ i, i < 6 ∧ s = 2 ^ i := by decide +kernel
theorem cv1_hi {s B : Int} (hB : 0 ≤ B ∧ B ≤ 10) (hlt : ∀ i, B ≤ i → i < 10 → am_and (am_shr s i) 1 = 0) : cv_1 s 10 = cv_1 s B.toNat := by
  have h2 : ∀ d : Nat, B.toNat + d ≤ 10 → cv_1 s (B.toNat + d) = cv_1 s B.toNat := by
    intro d
    induction d with
    | zero => intro _; rfl
    | succ d ih =>
      intro hd
      rw [show B.toNat + (d + 1) = (B.toNat + d) + 1 by omega, cv_1, ih (by omega), hlt _ (by omega) (by omega)]
      omega
  have := h2 (10 - B.toNat) (by omega)
  rw [show B.toNat + (10 - B.toNat) = 10 by omega] at this
  exact this
/-- x lies in s -/
def sb (x s : Int) : Prop := ∀ j, 0 ≤ j → bitI x j → bitI s j
theorem sb_le {x s : Int} (hx : 0 ≤ x) (hs : 0 ≤ s) (h : sb x s) : x ≤ s := by
  obtain ⟨a, rfl⟩ := bit_nat hx
  obtain ⟨b, rfl⟩ := bit_nat hs
  have e : a &&& b = a := by
    apply Nat.eq_of_testBit_eq
    intro i
    have := h i (by omega)
    unfold bitI at this
    rw [Int.toNat_natCast, Int.toNat_natCast, Int.toNat_natCast] at this
    rw [Nat.testBit_and]
    cases e : a.testBit i <;> cases e2 : b.testBit i <;> simp [e, e2] at this ⊢
  have h1 : a &&& b ≤ b := Nat.and_le_right
  rw [e] at h1
  omega
theorem nx_sub : ∀ (a s x : Nat), (∀ i, a.testBit i = true → s.testBit i = true) → (∀ i, x.testBit i = true → s.testBit i = true) → x < a → x ≤ (a - 1) &&& s := by
  intro a
  induction a using Nat.strongRecOn with
  | _ a ih =>
    intro s x ha hx hlt
    have hA : ∀ i, (a / 2).testBit i = true → (s / 2).testBit i = true := fun i h => by
      rw [Nat.testBit_div_two] at h ⊢; exact ha _ h
    have hX : ∀ i, (x / 2).testBit i = true → (s / 2).testBit i = true := fun i h => by
      rw [Nat.testBit_div_two] at h ⊢; exact hx _ h
    have e1 : ((a - 1) &&& s) / 2 = (a - 1) / 2 &&& s / 2 := by
      have := Nat.and_div_two_pow (a := a - 1) (b := s) (n := 1)
      rw [Nat.pow_one] at this
      exact this
    by_cases c : a % 2 = 1
    · have e2 : (a - 1) / 2 = a / 2 := by omega
      have e3 : a / 2 &&& s / 2 = a / 2 := by
        apply Nat.eq_of_testBit_eq
        intro i
        rw [Nat.testBit_and]
        have := hA i
        cases e : (a / 2).testBit i <;> cases e4 : (s / 2).testBit i <;> simp [e, e4] at this ⊢
      rw [e2, e3] at e1
      omega
    · have g := ih (a / 2) (by omega) (s / 2) (x / 2) hA hX (by omega)
      rw [show a / 2 - 1 = (a - 1) / 2 by omega, ← e1] at g
      have hm : x % 2 = 1 → ((a - 1) &&& s) % 2 = 1 := fun q => by
        rw [Nat.and_mod_two_eq_one]
        refine ⟨by omega, ?_⟩
        rw [Nat.mod_two_eq_one_iff_testBit_zero] at q ⊢
        exact hx 0 q
      omega
/-- the next smaller part of a set -/
theorem nx_i {a s : Int} (ha0 : 0 < a) (hs : 0 ≤ s ∧ s < 2147483648) (ha : sb a s) : (0 ≤ am_and (w32 (a - 1)) s ∧ am_and (w32 (a - 1)) s < a) ∧ sb (am_and (w32 (a - 1)) s) s ∧ ∀ x, 0 ≤ x → sb x s → x < a → x ≤ am_and (w32 (a - 1)) s := by
  have hle := sb_le (Int.le_of_lt ha0) hs.1 ha
  rw [w32_of (by omega) (by omega)]
  refine ⟨?_, fun j j0 h => ((bit_and (by omega) hs).mp h).2, fun x x0 hx hlt => ?_⟩
  · obtain ⟨b, rfl⟩ := bit_nat hs.1
    obtain ⟨d, rfl⟩ : ∃ d : Nat, a = (d : Int) + 1 := ⟨(a - 1).toNat, by omega⟩
    rw [show (d : Int) + 1 - 1 = d by omega, bn_and (by omega)]
    have : d &&& b ≤ d := Nat.and_le_left
    omega
  · obtain ⟨b, rfl⟩ := bit_nat hs.1
    obtain ⟨y, rfl⟩ := bit_nat x0
    obtain ⟨d, rfl⟩ : ∃ d : Nat, a = ((d + 1 : Nat) : Int) := ⟨(a - 1).toNat, by omega⟩
    rw [show ((d + 1 : Nat) : Int) - 1 = d by omega, bn_and (by omega)]
    have cv : ∀ z : Nat, sb (z : Int) (b : Int) → ∀ i, z.testBit i = true → b.testBit i = true := fun z h i hi => by
      have := h i (by omega)
      unfold bitI at this
      rw [Int.toNat_natCast, Int.toNat_natCast, Int.toNat_natCast] at this
      exact this hi
    have := nx_sub (d + 1) b y (cv _ ha) (cv _ hx) (by omega)
    rw [show d + 1 - 1 = d by omega] at this
    omega
theorem andn_n : ∀ s : Nat, s < 64 → ∀ a : Nat, a < 64 → am_and (s : Int) (am_xor (a : Int) (-1)) = ((s &&& (63 ^^^ a) : Nat) : Int) := by decide +kernel
/-- what is left of s without a -/
theorem andn {s a : Int} (hs : 0 ≤ s ∧ s < 64) (ha : 0 ≤ a ∧ a < 64) : (0 ≤ am_and s (am_xor a (-1)) ∧ am_and s (am_xor a (-1)) ≤ s) ∧ ∀ j, 0 ≤ j → (bitI (am_and s (am_xor a (-1))) j ↔ bitI s j ∧ ¬ bitI a j) := by
  obtain ⟨x, rfl⟩ := bit_nat hs.1
  obtain ⟨y, rfl⟩ := bit_nat ha.1
  rw [andn_n x (by omega) y (by omega)]
  refine ⟨?_, fun j j0 => ?_⟩
  · have : x &&& (63 ^^^ y) ≤ x := Nat.and_le_left
    omega
  · by_cases c : 6 ≤ j
    · have h1 : ¬ bitI (x : Int) j := bit_big (n := 6) (by show _ < (64 : Int); omega) (by omega)
      have h2 : ¬ bitI ((x &&& (63 ^^^ y) : Nat) : Int) j := bit_big (n := 6) (by have : x &&& (63 ^^^ y) ≤ x := Nat.and_le_left; show _ < (64 : Int); omega) (by omega)
      exact ⟨fun z => absurd z h2, fun z => absurd z.1 h1⟩
    · obtain ⟨i, rfl⟩ := bit_nat j0
      unfold bitI
      rw [Int.toNat_natCast, Int.toNat_natCast, Int.toNat_natCast, Int.toNat_natCast, Nat.testBit_and, Nat.testBit_xor]
      have h63 : (63 : Nat).testBit i = true := by
        have : i = 0 ∨ i = 1 ∨ i = 2 ∨ i = 3 ∨ i = 4 ∨ i = 5 := by omega
        rcases this with rfl | rfl | rfl | rfl | rfl | rfl <;> rfl
      rw [h63]
      cases x.testBit i <;> cases y.testBit i <;> simp
/-- every set is a number -/
theorem kset (Q : Int → Prop) : ∀ n : Nat, n ≤ 6 → ∃ s : Int, (0 ≤ s ∧ s < ((2 ^ n : Nat) : Int)) ∧ ∀ j, 0 ≤ j → (bitI s j ↔ j < (n : Int) ∧ Q j) := by
  intro n
  induction n with
  | zero => intro _; exact ⟨0, by decide, fun j j0 => ⟨fun h => absurd h (bit_0 j), fun h => by omega⟩⟩
  | succ n ih =>
    intro hn
    obtain ⟨s, hs, hb⟩ := ih (by omega)
    have hp : 2 ^ n ≤ 2 ^ (n + 1) := Nat.pow_le_pow_right (by omega) (by omega)
    have hp2 : 2 ^ (n + 1) ≤ 2 ^ 6 := Nat.pow_le_pow_right (by omega) (by omega)
    by_cases c : Q n
    · have h1 := bit_shl_le (i := (n : Int)) (n := n + 1) (by omega) (by omega)
      refine ⟨am_or s (am_shl 1 n), bit_or_le (n := n + 1) (by omega) (by omega) (by omega), fun j j0 => ?_⟩
      rw [bit_or (by omega) (by omega), hb j j0, bit_shl (by omega) j0]
      constructor
      · rintro (⟨h, h'⟩ | h)
        · exact ⟨by omega, h'⟩
        · subst h; exact ⟨by omega, c⟩
      · rintro ⟨h, h'⟩
        by_cases cj : (n : Int) = j
        · exact Or.inr cj
        · exact Or.inl ⟨by omega, h'⟩
    · refine ⟨s, by omega, fun j j0 => (hb j j0).trans ⟨fun h => ⟨by omega, h.2⟩, fun h => ⟨?_, h.2⟩⟩⟩
      by_cases cj : j = n
      · exact absurd (cj ▸ h.2) c
      · omega
/-- a bit, as the machine tests it -/
theorem bt_iff {s j : Int} (hs : 0 ≤ s ∧ s < 2147483648) (hj : 0 ≤ j ∧ j < 32) : am_and (am_shr s j) 1 = 1 ↔ bitI s j := by
  haveI : Decidable (bitI s j) := Classical.propDecidable _
  rw [bit_test hs hj]
  split
  · exact ⟨fun _ => by assumption, fun _ => rfl⟩
  · exact ⟨fun h => absurd h (by decide), fun h => absurd h (by assumption)⟩
