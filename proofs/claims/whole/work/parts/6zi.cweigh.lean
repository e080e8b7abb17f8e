/-! CODE, the class: weights, rows cleared, which row is ahead. -/
theorem kc_bd {w r : Int → Int} {B : Int} : ∀ {n : Nat}, (∀ j, 0 ≤ j → j < (n : Int) → (0 ≤ r j ∧ r j ≤ B) ∧ 0 ≤ w j ∧ w j ≤ 99) → 0 ≤ kc w r n ∧ kc w r n ≤ 99 * B * n := by
  intro n
  induction n with
  | zero => intro _; rw [kc]; omega
  | succ n ih =>
    intro h
    rw [kc]
    have h1 := ih (fun j j0 j1 => h j j0 (by omega))
    obtain ⟨⟨a1, a2⟩, b1, b2⟩ := h n (by omega) (by omega)
    have h2 := Int.mul_nonneg b1 a1
    have h3 : w n * r n ≤ 99 * B := Int.mul_le_mul b2 a2 a1 (by omega)
    have e : 99 * B * ((n + 1 : Nat) : Int) = 99 * B * n + 99 * B := by rw [Int.natCast_add, Int.mul_add]; simp
    omega
/-- the bits of a set, one by one -/
def bt (s j : Int) : Int := am_and (am_shr s j) 1
theorem bt_01 (s j : Int) : bt s j = 0 ∨ bt s j = 1 := and1 _
theorem bt_b {s j : Int} (hs : 0 ≤ s ∧ s < 2147483648) (hj : 0 ≤ j ∧ j < 32) : bt s j = 1 ↔ bitI s j := bt_iff hs hj
def cdP (n : Nat) (k : Int) (L w : Int → Int) (m : am_M) : Prop :=
  (m 156 1 = n ∧ n ≤ 6) ∧ (m 156 3 = k ∧ 2 ≤ k ∧ k ≤ 3) ∧ ((∀ l, m 158 l = L l) ∧ ∀ l, 0 ≤ l → l < k → 1 ≤ L l ∧ L l ≤ 9) ∧ ∀ i, 0 ≤ i → i < (n : Int) → (0 ≤ m 157 i ∧ m 157 i ≤ 7) ∧ m 16 (m 157 i) = w i ∧ 1 ≤ w i ∧ w i ≤ 99
theorem cdP_of {n : Nat} {k : Int} {L w : Int → Int} {m m' : am_M} (h : cdP n k L w m) (e : ∀ o x, o = 16 ∨ o = 156 ∨ o = 157 ∨ o = 158 → m' o x = m o x) : cdP n k L w m' := by
  obtain ⟨⟨h1, h2⟩, ⟨h3, h4⟩, ⟨h5, h6⟩, h7⟩ := h
  refine ⟨⟨by rw [e _ _ (by omega)]; exact h1, h2⟩, ⟨by rw [e _ _ (by omega)]; exact h3, h4⟩, ⟨fun l => by rw [e _ _ (by omega)]; exact h5 l, h6⟩, fun i i0 i1 => ?_⟩
  rw [e 157 _ (by omega), e 16 _ (by omega)]
  exact h7 i i0 i1
section CDA
variable {n : Nat} {k : Int} {L w : Int → Int} {m : am_M}
theorem cweight (h : cdP n k L w m) {s : Int} {K : am_KK} (hK : K (kc w (bt s) n) m) : M_X1_weightOf 156 1 s K m := by
  obtain ⟨⟨h1, h2⟩, -, -, h7⟩ := h
  unfold M_X1_weightOf M_X1_weightOf_L1
  refine ⟨fun j v i m1 => m1 = m ∧ 0 ≤ i ∧ i ≤ n ∧ j = ((n : Int) - i).toNat ∧ v = kc w (bt s) i.toNat, ⟨_, rfl, by omega, by omega, rfl, rfl⟩, ?_⟩
  rintro j v i m1 ⟨rfl, i0, i1, rfl, rfl⟩
  unfold M_X1_weightOf_L1B M_X1_weightOf_J1
  simp only [am_rf_all, am_ln_all, isThing_eq, b01, h1]
  refine ⟨fun q => ?_, fun q => ⟨fun q2 => absurd q2 (by omega), fun _ => ?_⟩⟩
  · rw [show i.toNat = n by omega]; exact hK
  obtain ⟨g1, g2, g3⟩ := h7 i i0 (by omega)
  have hb := kc_bd (w := w) (r := bt s) (B := 1) (n := i.toNat) (fun j j0 j1 => ⟨by have := bt_01 s j; omega, by have := (h7 j j0 (by omega)).2; omega⟩)
  have es : kc w (bt s) (i + 1).toNat = kc w (bt s) i.toNat + w i * bt s i := by rw [show (i + 1).toNat = i.toNat + 1 by omega, kc, show ((i.toNat : Nat) : Int) = i by omega]
  refine ⟨fun c => ?_, fun c => ?_⟩
  · intro z hz
    rw [w32_of (by omega) (by omega)] at hz
    have c0 : bt s i = 0 := by have := bt_01 s i; have c' : bt s i ≠ 1 := c; omega
    rw [c0, Int.mul_zero, Int.add_zero] at es
    refine ⟨_, ?_, by first | rfl | trivial, by omega, by omega, rfl, by rw [hz, es]⟩
    omega
  · have c1 : bt s i = 1 := Classical.not_not.mp c
    rw [c1, Int.mul_one] at es
    refine ⟨by omega, fun z => absurd g1 z, fun _ => ⟨by omega, by omega, ?_⟩⟩
    intro y hy z hz
    rw [g2, w32_of (by omega) (by omega)] at hy
    rw [w32_of (by omega) (by omega)] at hz
    refine ⟨_, ?_, by first | rfl | trivial, by omega, by omega, rfl, by rw [hz, hy, es]⟩
    omega
theorem cclear {s : Int} (hs : 0 ≤ s ∧ s < 64) {K : am_KK} (hK : ∀ m' : am_M, (∀ o x, (o ≠ 161 ∨ x < s * 6 ∨ s * 6 + 6 ≤ x) → m' o x = m o x) → (∀ j, 0 ≤ j → j < 6 → m' 161 (s * 6 + j) = 0) → K 0 m') : M_X1_clearLengths 156 s K m := by
  unfold M_X1_clearLengths M_X1_clearLengths_L1
  refine ⟨fun j i m1 => 0 ≤ i ∧ i ≤ 6 ∧ j = (6 - i).toNat ∧ (∀ o x, (o ≠ 161 ∨ x < s * 6 ∨ s * 6 + 6 ≤ x) → m1 o x = m o x) ∧ ∀ j, 0 ≤ j → j < i → m1 161 (s * 6 + j) = 0, ⟨_, by omega, by omega, rfl, fun _ _ _ => rfl, fun j j0 j1 => by omega⟩, ?_⟩
  rintro j i m1 ⟨i0, i1, rfl, hf, hz⟩
  unfold M_X1_clearLengths_L1B
  simp only [am_rf_all, am_ln_all]
  refine ⟨fun q => hK m1 hf (fun j j0 j1 => hz j j0 (by omega)), fun q => ?_⟩
  rw [w32_of (z := s * 6) (by omega) (by omega), w32_of (z := s * 6 + i) (by omega) (by omega)]
  refine ⟨by omega, ?_⟩
  intro m2 hm2 y hy
  rw [w32_of (by omega) (by omega)] at hy
  refine ⟨_, ?_, by omega, by omega, rfl, fun o x hox => ?_, fun j j0 j1 => ?_⟩
  · omega
  · rw [hm2, am_st_ne _ (by omega)]; exact hf o x hox
  · rw [hm2, am_st_eq]
    split
    · rfl
    · exact hz j j0 (by omega)
theorem cahead {s : Int} (hs : 0 ≤ s ∧ s < 64) {K : am_KK} (h1 : kx 6 (m 162) (fun j => m 161 (s * 6 + j)) → K 1 m) (h0 : ¬ kx 6 (m 162) (fun j => m 161 (s * 6 + j)) → K 0 m) : M_X1_isTrialAhead 156 s K m := by
  unfold M_X1_isTrialAhead M_X1_isTrialAhead_L1
  refine ⟨fun j i m1 => m1 = m ∧ 0 ≤ i ∧ i ≤ 6 ∧ j = (6 - i).toNat ∧ ∀ j, 0 ≤ j → j < i → m 162 j = m 161 (s * 6 + j), ⟨_, rfl, by omega, by omega, rfl, fun j j0 j1 => by omega⟩, ?_⟩
  rintro j i m1 ⟨rfl, i0, i1, rfl, hz⟩
  unfold M_X1_isTrialAhead_L1B
  simp only [am_rf_all, am_ln_all]
  refine ⟨fun q => h0 (fun z => kx_ne z (fun j j0 j1 => hz j j0 (by omega))), fun q => ?_⟩
  rw [w32_of (z := s * 6) (by omega) (by omega), w32_of (z := s * 6 + i) (by omega) (by omega)]
  refine ⟨by omega, by omega, fun c => ?_, fun c => ⟨by omega, by omega, fun c2 => ?_, fun c2 => ?_⟩⟩
  · intro y hy
    rw [w32_of (by omega) (by omega)] at hy
    refine ⟨_, ?_, by first | rfl | trivial, by omega, by omega, rfl, fun j j0 j1 => ?_⟩
    · omega
    · by_cases cj : j = i
      · rw [cj]; exact c
      · exact hz j j0 (by omega)
  · refine h0 ?_
    rintro ⟨x, x0, x1, g1, g2⟩
    have g2' : m1 162 x < m1 161 (s * 6 + x) := g2
    by_cases c3 : x < i
    · have := hz x x0 c3; omega
    · by_cases c4 : x = i
      · subst c4; omega
      · exact c (g1 i i0 (by omega))
  · exact h1 ⟨i, i0, by omega, fun x x0 x1 => hz x x0 x1, by show m1 162 i < m1 161 (s * 6 + i); omega⟩
theorem kx_6 {r s : Int → Int} (hn : n ≤ 6) (hr : ∀ j, (n : Int) ≤ j → j < 6 → r j = 0) (hs : ∀ j, (n : Int) ≤ j → j < 6 → s j = 0) : kx 6 r s ↔ kx n r s := by
  constructor
  · rintro ⟨i, i0, i1, h1, h2⟩
    refine ⟨i, i0, ?_, h1, h2⟩
    by_cases c : (n : Int) ≤ i
    · rw [hr i c i1, hs i c i1] at h2; omega
    · omega
  · rintro ⟨i, i0, i1, h1, h2⟩
    exact ⟨i, i0, by omega, h1, h2⟩
end CDA
