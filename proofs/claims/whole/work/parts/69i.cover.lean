/-! COVER, both sides. -/
theorem shl_B {B : Int} (h : 0 ≤ B ∧ B ≤ 10) : am_shl 1 B = ((2 ^ B.toNat : Nat) : Int) ∧ am_shl 1 B ≤ 1024 ∧ 1 ≤ am_shl 1 B := by
  have : B = 0 ∨ B = 1 ∨ B = 2 ∨ B = 3 ∨ B = 4 ∨ B = 5 ∨ B = 6 ∨ B = 7 ∨ B = 8 ∨ B = 9 ∨ B = 10 := by omega
  rcases this with rfl | rfl | rfl | rfl | rfl | rfl | rfl | rfl | rfl | rfl | rfl <;> decide +kernel
theorem bits_hi {s B : Int} (hB : 0 ≤ B ∧ B ≤ 10) (hs : 0 ≤ s ∧ s < am_shl 1 B) : ∀ i, B ≤ i → i < 10 → am_and (am_shr s i) 1 = 0 := by
  intro i i0 i1
  obtain ⟨h1, h2, h3⟩ := shl_B hB
  haveI : Decidable (bitI s i) := Classical.propDecidable _
  rw [bit_test (by omega) (by omega), if_neg]
  exact bit_big (n := B.toNat) (by omega) (by omega)
def cb_c (A : Int → Int) (s : Int) : Int := 16 * (cv_W A s (A 366).toNat).2.1 + (cv_W A s (A 366).toNat).2.2
def cb_S (A : Int → Int) (v : Int) : Nat → Int × Int
  | 0 => (-1, 0)
  | n + 1 => if am_and v (am_xor (cv_W A ((n : Int) + 1) (A 366).toNat).1 (-1)) = 0 ∧ ((cb_S A v n).1 = -1 ∨ cb_c A ((n : Int) + 1) < (cb_S A v n).2) then ((n : Int) + 1, cb_c A ((n : Int) + 1)) else cb_S A v n
theorem cb_s (A : Int → Int) (v : Int) {s : Int} (h : 1 ≤ s) : cb_S A v s.toNat = if am_and v (am_xor (cv_W A s (A 366).toNat).1 (-1)) = 0 ∧ ((cb_S A v (s - 1).toNat).1 = -1 ∨ cb_c A s < (cb_S A v (s - 1).toNat).2) then (s, cb_c A s) else cb_S A v (s - 1).toNat := by
  obtain ⟨n, rfl⟩ : ∃ n : Nat, s = (n : Int) + 1 := ⟨(s - 1).toNat, by omega⟩
  rw [show ((n : Int) + 1).toNat = n + 1 by omega, show ((n : Int) + 1 - 1).toNat = n by omega, cb_S]
/-- what is best is one of them -/
theorem cb_P (A : Int → Int) (v : Int) : ∀ n : Nat, (cb_S A v n = (-1, 0)) ∨ (1 ≤ (cb_S A v n).1 ∧ (cb_S A v n).1 ≤ n ∧ (cb_S A v n).2 = cb_c A (cb_S A v n).1) := by
  intro n
  induction n with
  | zero => exact Or.inl rfl
  | succ n ih =>
    rw [cb_S]
    split
    · refine Or.inr ⟨?_, ?_, rfl⟩
      · show (1 : Int) ≤ (n : Int) + 1; omega
      · show (n : Int) + 1 ≤ ((n + 1 : Nat) : Int); omega
    · rcases ih with h | ⟨h1, h2, h3⟩
      · exact Or.inl h
      · exact Or.inr ⟨h1, by omega, h3⟩
/-- the answer -/
def cb_R (A : Int → Int) (v how : Int) : Int := if (cb_S A v (am_shl 1 (A 366) - 1).toNat).1 ≠ -1 then (if how ≠ 0 then (cb_S A v (am_shl 1 (A 366) - 1).toNat).1 else (cb_S A v (am_shl 1 (A 366) - 1).toNat).2 / 16) else -1
section COW
variable {m : am_M} {A : Int → Int}
theorem ccover {v how : Int} (hw : am_WA A) (hB : bk_P m 1 A) (hv : 1 ≤ v ∧ v < 256) {K : am_KK} (hK : K (cb_R A v how) m) : M_X11_cover_L1 0 v how (-1) 0 1 K m := by
  obtain ⟨-, -, -, R4, -⟩ := bk_rows hB
  have h6 := hw.2.2.2.1
  obtain ⟨g1, g2, g3⟩ := shl_B (B := A 366) (by omega)
  unfold M_X11_cover_L1
  refine ⟨fun j b k s m1 => m1 = m ∧ 1 ≤ s ∧ s ≤ am_shl 1 (A 366) ∧ j = (am_shl 1 (A 366) - s).toNat ∧ b = (cb_S A v (s - 1).toNat).1 ∧ k = (cb_S A v (s - 1).toNat).2, ⟨_, rfl, by omega, by omega, rfl, rfl, rfl⟩, ?_⟩
  rintro j b k s m1 ⟨rfl, s1, sN, rfl, rfl, rfl⟩
  have hP := cb_P A v (s - 1).toNat
  have e8 : m1 8 2 = A 366 := R4.2.1
  unfold M_X11_cover_L1B M_X11_cover_J1 M_X11_cover_J2
  simp only [am_rf_all, e8]
  refine ⟨fun q => ?_, fun q => ?_⟩
  · have hs : s = am_shl 1 (A 366) := by omega
    rw [hs] at hP ⊢
    unfold cb_R at hK
    refine ⟨fun c => ⟨fun c2 => ?_, fun c2 => ?_⟩, fun c => ?_⟩
    · rw [if_pos c, if_pos c2] at hK; exact hK
    · rw [if_pos c, if_neg c2] at hK
      rcases hP with hP | ⟨p1, p2, p3⟩
      · rw [hP] at c; exact absurd rfl c
      · obtain ⟨b1, b2, b3⟩ := cv_le hw (cb_S A v (am_shl 1 (A 366) - 1).toNat).1 (A 366).toNat (by omega)
        have hc : 0 ≤ (cb_S A v (am_shl 1 (A 366) - 1).toNat).2 ∧ (cb_S A v (am_shl 1 (A 366) - 1).toNat).2 ≤ 20000 := by
          rw [p3]; unfold cb_c; omega
        rw [Int.tdiv_eq_ediv_of_nonneg hc.1, w32_of (by omega) (by omega)]
        exact hK
    · rw [if_neg c] at hK; exact hK
  · have es := cb_s A v s1
    have nx : ∀ z : Int, z = w32 (s + 1) → z = s + 1 := fun z hz => by rw [hz, w32_of (by omega) (by omega)]
    refine ccost hw hB (by omega) (fun c => ?_) (fun c => ?_)
    · rw [if_neg (fun z => c z.1)] at es
      refine ⟨fun _ => ?_, fun z => absurd rfl z⟩
      intro z hz
      rw [nx z hz]
      refine ⟨_, ?_, rfl, by omega, by omega, rfl, ?_, ?_⟩
      · omega
      · rw [show (s + 1 - 1) = s by omega, es]
      · rw [show (s + 1 - 1) = s by omega, es]
    · obtain ⟨b1, b2, b3⟩ := cv_le hw s (A 366).toNat (by omega)
      have ec : 16 * (cv_W A s (A 366).toNat).2.1 + (cv_W A s (A 366).toNat).2.2 = cb_c A s := rfl
      have e0 : 0 ≤ cb_c A s := by rw [← ec]; omega
      rw [ec]
      refine ⟨fun z => absurd z (by omega), fun _ => ⟨fun c1 => ?_, fun c1 => ⟨fun c2 => ?_, fun c2 => ?_⟩⟩⟩
      · rw [if_pos ⟨c, Or.inl c1⟩] at es
        intro z hz
        rw [nx z hz]
        refine ⟨_, ?_, rfl, by omega, by omega, rfl, ?_, ?_⟩
        · omega
        · rw [show (s + 1 - 1) = s by omega, es]
        · rw [show (s + 1 - 1) = s by omega, es]
      · rw [if_neg (fun z => z.2.elim c1 (fun y => by omega))] at es
        intro z hz
        rw [nx z hz]
        refine ⟨_, ?_, rfl, by omega, by omega, rfl, ?_, ?_⟩
        · omega
        · rw [show (s + 1 - 1) = s by omega, es]
        · rw [show (s + 1 - 1) = s by omega, es]
      · rw [if_pos ⟨c, Or.inr (by omega)⟩] at es
        intro z hz
        rw [nx z hz]
        refine ⟨_, ?_, rfl, by omega, by omega, rfl, ?_, ?_⟩
        · omega
        · rw [show (s + 1 - 1) = s by omega, es]
        · rw [show (s + 1 - 1) = s by omega, es]
end COW
