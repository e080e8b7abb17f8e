/-! COVER: what a choice of BUNDLES covers, how long it is, how many they are. -/
def cv_W (A : Int → Int) (s : Int) : Nat → Int × Int × Int
  | 0 => (0, 0, 0)
  | n + 1 => if am_and (am_shr s n) 1 ≠ 1 then cv_W A s n else (am_or (cv_W A s n).1 (A (322 + 2 * (n : Int))), (cv_W A s n).2.1 + A (322 + 2 * (n : Int) + 1), (cv_W A s n).2.2 + 1)
theorem cv_s (A : Int → Int) (s : Int) {i : Int} (h : 0 ≤ i) : cv_W A s (i + 1).toNat = if am_and (am_shr s i) 1 ≠ 1 then cv_W A s i.toNat else (am_or (cv_W A s i.toNat).1 (A (322 + 2 * i)), (cv_W A s i.toNat).2.1 + A (322 + 2 * i + 1), (cv_W A s i.toNat).2.2 + 1) := by
  rw [show (i + 1).toNat = i.toNat + 1 by omega, cv_W, show ((i.toNat : Nat) : Int) = i by omega]
theorem cv_le {A : Int → Int} (hw : am_WA A) (s : Int) : ∀ n : Nat, (n : Int) ≤ A 366 → (0 ≤ (cv_W A s n).1 ∧ (cv_W A s n).1 < 256) ∧ (0 ≤ (cv_W A s n).2.1 ∧ (cv_W A s n).2.1 ≤ 99 * n) ∧ 0 ≤ (cv_W A s n).2.2 ∧ (cv_W A s n).2.2 ≤ n := by
  have h6 := hw.2.2.2.1
  intro n
  induction n with
  | zero => intro _; exact ⟨⟨Int.le_refl _, by show (0 : Int) < 256; omega⟩, ⟨Int.le_refl _, by show (0 : Int) ≤ 99 * 0; omega⟩, Int.le_refl _, Int.le_refl _⟩
  | succ n ih =>
    intro hn
    obtain ⟨i1, i2, i3⟩ := ih (by omega)
    have h2 := h6.2.2 n (by omega) (by omega)
    rw [cv_W]
    split
    · exact ⟨i1, by omega, by omega⟩
    · refine ⟨bit_or_le (n := 8) (by omega) i1 (by show _ ∧ _ < (256 : Int); omega), ?_, ?_⟩
      · show 0 ≤ (cv_W A s n).2.1 + A (322 + 2 * (n : Int) + 1) ∧ (cv_W A s n).2.1 + A (322 + 2 * (n : Int) + 1) ≤ 99 * ((n + 1 : Nat) : Int)
        omega
      · show 0 ≤ (cv_W A s n).2.2 + 1 ∧ (cv_W A s n).2.2 + 1 ≤ ((n + 1 : Nat) : Int)
        omega
/-- all that is wanted is covered -/
theorem cv_sub {x v : Int} (hx : 0 ≤ x ∧ x < 256) (hv : 0 ≤ v ∧ v < 256) : am_and x v = v ↔ am_and v (am_xor x (-1)) = 0 := by
  have h : ∀ a b : Int32, (a &&& b).toInt = b.toInt ↔ (b &&& (a ^^^ Int32.ofInt (-1))).toInt = 0 := by
    intro a b
    have e1 : (a &&& b).toInt = b.toInt ↔ a &&& b = b := ⟨fun q => Int32.toInt_inj.mp q, fun q => by rw [q]⟩
    have e2 : (b &&& (a ^^^ Int32.ofInt (-1))).toInt = 0 ↔ b &&& (a ^^^ Int32.ofInt (-1)) = 0 := ⟨fun q => Int32.toInt_inj.mp (by rw [q]; rfl), fun q => by rw [q]; rfl⟩
    rw [e1, e2]
    have g1 : a &&& b = b ↔ a.toBitVec &&& b.toBitVec = b.toBitVec := by rw [← Int32.toBitVec_and, Int32.toBitVec_inj]
    have g2 : b &&& (a ^^^ Int32.ofInt (-1)) = 0 ↔ b.toBitVec &&& (a.toBitVec ^^^ (BitVec.allOnes 32)) = 0#32 := by
      rw [← Int32.toBitVec_inj, Int32.toBitVec_and, Int32.toBitVec_xor]
      exact Iff.rfl
    rw [g1, g2, BitVec.xor_allOnes]
    constructor
    · intro q
      ext i hi
      have := congrArg (fun z => z.getLsbD i) q
      simp only [BitVec.getLsbD_and] at this
      simp [hi]
      cases ha : a.toBitVec.getLsbD i <;> cases hb : b.toBitVec.getLsbD i <;> simp_all
    · intro q
      ext i hi
      have := congrArg (fun z => z.getLsbD i) q
      simp [hi] at this
      simp
      cases ha : a.toBitVec.getLsbD i <;> cases hb : b.toBitVec.getLsbD i <;> simp_all
  have r : ∀ z : Int, 0 ≤ z ∧ z < 256 → (Int32.ofInt z).toInt = z := fun z hz => by
    rw [Int32.toInt_ofInt]
    rw [show Int32.size = 4294967296 from rfl]
    exact Int.bmod_eq_of_le (by omega) (by omega)
  have := h (Int32.ofInt x) (Int32.ofInt v)
  unfold am_and am_xor
  rw [r v hv] at this
  rw [this]
  have e3 : Int32.ofInt ((Int32.ofInt x ^^^ Int32.ofInt (-1)).toInt) = Int32.ofInt x ^^^ Int32.ofInt (-1) := Int32.ofInt_toInt _
  rw [e3]
section COV
variable {m : am_M} {A : Int → Int}
theorem ccost {s v : Int} (hw : am_WA A) (hB : bk_P m 1 A) (hv : 0 ≤ v ∧ v < 256) {K : am_KK}
    (h1 : am_and v (am_xor (cv_W A s (A 366).toNat).1 (-1)) ≠ 0 → K (-1) m) (h0 : am_and v (am_xor (cv_W A s (A 366).toNat).1 (-1)) = 0 → K (16 * (cv_W A s (A 366).toNat).2.1 + (cv_W A s (A 366).toNat).2.2) m) : M_X0_coverCost 1 s v K m := by
  obtain ⟨-, -, -, R4, -⟩ := bk_rows hB
  have h6 := hw.2.2.2.1
  unfold M_X0_coverCost M_X0_coverCost_L1
  refine ⟨fun j c k i m1 => m1 = m ∧ 0 ≤ i ∧ i ≤ A 366 ∧ j = (A 366 - i).toNat ∧ c = (cv_W A s i.toNat).1 ∧ k = 16 * (cv_W A s i.toNat).2.1 + (cv_W A s i.toNat).2.2, ⟨_, rfl, by omega, by omega, rfl, rfl, rfl⟩, ?_⟩
  rintro j c k i m1 ⟨rfl, i0, i1, rfl, rfl, rfl⟩
  obtain ⟨b1, b2, b3⟩ := cv_le hw s i.toNat (by omega)
  have es := cv_s A s i0
  unfold M_X0_coverCost_L1B M_X0_coverCost_J1
  simp only [am_rf_all, R4.2.1]
  refine ⟨fun q => ?_, fun q => ⟨fun c => ?_, fun c => ?_⟩⟩
  · have : i = A 366 := by omega
    subst this
    have hs := cv_sub b1 hv
    refine ⟨fun c => h1 (fun z => c (hs.mpr z)), fun c => h0 (hs.mp (Classical.not_not.mp c))⟩
  · rw [if_pos c] at es
    intro v5 hv5
    rw [w32_of (by omega) (by omega)] at hv5
    subst hv5
    refine ⟨_, ?_, trivial, by omega, by omega, rfl, by rw [es], by rw [es]⟩
    omega
  · rw [if_neg c] at es
    have h2 := h6.2.2 i i0 (by omega)
    rw [get_eq R4.1, rf_get R4, if_pos (by omega), show 322 + (i * 2 + 0) = 322 + 2 * i by omega]
    intro v3 hv3
    rw [get_eq R4.1, rf_get R4, if_pos (by omega), show 322 + (i * 2 + 1) = 322 + 2 * i + 1 by omega]
    intro v4 hv4 v5 hv5
    rw [w32_of (z := A (322 + 2 * i + 1) * 16) (by omega) (by omega), w32_of (z := A (322 + 2 * i + 1) * 16 + 1) (by omega) (by omega), w32_of (by omega) (by omega)] at hv4
    rw [w32_of (by omega) (by omega)] at hv5
    subst hv5
    refine ⟨_, ?_, rfl, by omega, by omega, rfl, by rw [es]; exact hv3, ?_⟩
    · omega
    · rw [es]
      show v4 = 16 * ((cv_W A s i.toNat).2.1 + A (322 + 2 * i + 1)) + ((cv_W A s i.toNat).2.2 + 1)
      omega
/-- ones are counted -/
def cv_1 (s : Int) : Nat → Int
  | 0 => 0
  | n + 1 => cv_1 s n + am_and (am_shr s n) 1
theorem mones {s : Int} {K : am_KK} (hK : K (cv_1 s 10) m) : M_X12_ones s K m := by
  have hb : ∀ n : Nat, 0 ≤ cv_1 s n ∧ cv_1 s n ≤ n := by
    intro n
    induction n with
    | zero => exact ⟨Int.le_refl _, Int.le_refl _⟩
    | succ n ih =>
      rw [cv_1]
      have := and1 (am_shr s n)
      omega
  unfold M_X12_ones M_X12_ones_L1
  refine ⟨fun j c i m1 => m1 = m ∧ 0 ≤ i ∧ i ≤ 10 ∧ j = (10 - i).toNat ∧ c = cv_1 s i.toNat, ⟨_, rfl, by omega, by omega, rfl, rfl⟩, ?_⟩
  rintro j c i m1 ⟨rfl, i0, i1, rfl, rfl⟩
  unfold M_X12_ones_L1B
  refine ⟨fun q => ?_, fun q => ?_⟩
  · have : i = 10 := by omega
    subst this
    exact hK
  · intro v1 hv1 v2 hv2
    have h1 := hb i.toNat
    have h2 := and1 (am_shr s i)
    rw [w32_of (by omega) (by omega)] at hv1 hv2
    refine ⟨_, ?_, rfl, by omega, by omega, rfl, ?_⟩
    · omega
    · rw [hv1, hv2, show (i + 1).toNat = i.toNat + 1 by omega, cv_1, show ((i.toNat : Nat) : Int) = i by omega]
theorem cv_ones {s B : Int} (hs : 0 ≤ s ∧ s < 1024) (hB : 0 ≤ B ∧ B ≤ 10) (hlt : ∀ i, B ≤ i → i < 10 → am_and (am_shr s i) 1 = 0) : cv_1 s 10 = (cv_W A s B.toNat).2.2 := by
  have h1 : ∀ n : Nat, cv_1 s n = (cv_W A s n).2.2 := by
    intro n
    induction n with
    | zero => rfl
    | succ n ih =>
      rw [cv_1, cv_W, ih]
      have := and1 (am_shr s n)
      split
      · omega
      · show _ = (cv_W A s n).2.2 + 1
        omega
  have h2 : ∀ d : Nat, B.toNat + d ≤ 10 → cv_1 s (B.toNat + d) = cv_1 s B.toNat := by
    intro d
    induction d with
    | zero => intro _; rfl
    | succ d ih =>
      intro hd
      rw [show B.toNat + (d + 1) = (B.toNat + d) + 1 by omega, cv_1, ih (by omega), hlt _ (by omega) (by omega)]
      omega
  have := h2 (10 - B.toNat) (by omega)
  rw [show B.toNat + (10 - B.toNat) = 10 by omega] at this
  rw [this, h1]
end COV
