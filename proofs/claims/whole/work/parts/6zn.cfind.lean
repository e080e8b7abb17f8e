/-! CODE, the class: all sets, one behind the other. -/
theorem kc_z {w r : Int → Int} : ∀ {n : Nat}, (∀ j, 0 ≤ j → j < (n : Int) → r j = 0) → kc w r n = 0 := by
  intro n
  induction n with
  | zero => intro _; rfl
  | succ n ih =>
    intro h
    rw [kc, ih (fun j j0 j1 => h j j0 (by omega)), h n (by omega) (by omega)]
    omega
section CDF
variable {n : Nat} {k : Int} {L w : Int → Int} {m m0 : am_M}
theorem cshort (hP : cdP n k L w m) {K : am_KK} (hK : ∀ r, (∃ l, 0 ≤ l ∧ l < k ∧ r = L l) → (∀ l, 0 ≤ l → l < k → r ≤ L l) → K r m) : M_X1_shortestLetter 156 K m := by
  obtain ⟨-, ⟨h3, h4⟩, ⟨h5, -⟩, -⟩ := hP
  unfold M_X1_shortestLetter M_X1_shortestLetter_L1
  simp only [am_rf_all, am_ln_all, h5]
  refine ⟨by omega, ?_⟩
  intro v1 hv1
  refine ⟨fun j v i m1 => m1 = m ∧ 1 ≤ i ∧ i ≤ k ∧ j = (k - i).toNat ∧ (∃ l, 0 ≤ l ∧ l < i ∧ v = L l) ∧ ∀ l, 0 ≤ l → l < i → v ≤ L l, ⟨_, rfl, by omega, by omega, rfl, ⟨0, by omega, by omega, hv1⟩, fun l l0 l1 => by rw [hv1, show l = 0 by omega]; exact Int.le_refl _⟩, ?_⟩
  rintro j v i m1 ⟨rfl, i0, i1, rfl, ⟨l, l0, l1, hl⟩, hm⟩
  unfold M_X1_shortestLetter_L1B
  simp only [am_rf_all, am_ln_all, h3, h5]
  refine ⟨fun q => hK v ⟨l, l0, by omega, hl⟩ (fun x x0 x1 => hm x x0 (by omega)), fun q => ⟨fun q2 => absurd q2 (by omega), fun _ => ⟨by omega, ?_⟩⟩⟩
  intro y hy z hz
  rw [w32_of (by omega) (by omega)] at hz
  unfold am_min at hy
  subst hz
  by_cases c : L i < v
  · rw [if_pos c] at hy
    refine ⟨_, ?_, by first | rfl | trivial, by omega, by omega, rfl, ⟨i, by omega, by omega, hy⟩, fun x x0 x1 => ?_⟩
    · omega
    · by_cases cx : x = i
      · rw [cx, hy]; exact Int.le_refl _
      · have := hm x x0 (by omega); omega
  · rw [if_neg c] at hy
    refine ⟨_, ?_, by first | rfl | trivial, by omega, by omega, rfl, ⟨l, l0, by omega, hy.trans hl⟩, fun x x0 x1 => ?_⟩
    · omega
    · by_cases cx : x = i
      · rw [cx, hy]; omega
      · have := hm x x0 (by omega); omega
/-- a set that is but one thing, or none -/
theorem cfew (hP : cdP n k L w m) {s : Int} (hs : 0 ≤ s ∧ s < 64) (hn : ∀ j, 0 ≤ j → bitI s j → j < (n : Int)) (hf : ¬ 1 < bc s) (h1 : m 159 s = kc w (bt s) n) (h2 : m 160 s = 0) (h3 : ∀ j, 0 ≤ j → j < 6 → m 161 (s * 6 + j) = 0) : cdG w L k n m s := by
  have hn6 := hP.1.2
  refine ⟨h1, by rw [h2]; exact (kc_z (fun j j0 j1 => h3 j j0 (by omega))).symm, fun j j0 j1 => ⟨by rw [h3 j j0 j1]; omega, fun _ => h3 j j0 j1⟩, fun hne => ?_⟩
  obtain ⟨a, rfl⟩ := bit_nat hs.1
  rcases bc_few a (by omega) hf with q | ⟨i, i0, q⟩
  · subst q; exact absurd rfl hne
  · have e : ((a : Nat) : Int) = am_shl 1 (i : Int) := by rw [bn_shl i (by omega), q]
    have hb : ∀ j, 0 ≤ j → (bitI (a : Int) j ↔ j = (i : Int)) := fun j j0 => by
      rw [e, bit_shl (by omega) j0]; exact ⟨fun z => z.symm, fun z => z.symm⟩
    have hi := hn i (by omega) ((hb i (by omega)).mpr rfl)
    exact kb_onething (by omega) hi (fun j j0 j1 => hb j j0) (fun j j0 j1 => h3 j j0 (by omega))
theorem cfind_loop (hP : cdP n k L w m0) {K : am_KK} (h1 : n ≠ 1 → ∀ m2 : am_M, (∀ o x, (o < 159 ∨ 162 < o) → m2 o x = m0 o x) → (∀ s, 0 ≤ s → s < ((2 ^ n : Nat) : Int) → cdG w L k n m2 s) → K 1 m2)
    (h2 : n = 1 → ∀ m2 : am_M, (∀ o x, (o < 159 ∨ 162 < o) → m2 o x = m0 o x) → ∀ r, (∃ l, 0 ≤ l ∧ l < k ∧ r = L l) → (∀ l, 0 ≤ l → l < k → r ≤ L l) → m2 160 1 = w 0 * r → m2 161 6 = r → K 1 m2) : M_X1_find_L1 156 1 0 K m0 := by
  have hn6 := hP.1.2
  have h64 : ((2 ^ n : Nat) : Int) ≤ 64 := by have : 2 ^ n ≤ 2 ^ 6 := Nat.pow_le_pow_right (by omega) hn6; omega
  have hpos : 0 < 2 ^ n := Nat.two_pow_pos n
  unfold M_X1_find_L1
  refine ⟨fun j s m1 => 0 ≤ s ∧ s ≤ ((2 ^ n : Nat) : Int) ∧ j = (((2 ^ n : Nat) : Int) - s).toNat ∧ (∀ o x, (o < 159 ∨ 162 < o) → m1 o x = m0 o x) ∧ ∀ s', 0 ≤ s' → s' < s → cdG w L k n m1 s', ⟨_, by omega, by omega, rfl, fun _ _ _ => rfl, fun s' s0 s1 => by omega⟩, ?_⟩
  rintro j s m1 ⟨s0, s1, rfl, hf, hG⟩
  have hP1 : cdP n k L w m1 := cdP_of hP (fun o x ho => hf o x (by omega))
  have hsh : am_shl 1 (m1 156 1) = ((2 ^ n : Nat) : Int) := by rw [hP1.1.1]; exact bn_shl n (by omega)
  generalize hC : (fun (v3' : Int) (m' : am_M) => ∃ j', j' < (((2 ^ n : Nat) : Int) - s).toNat ∧ 0 ≤ v3' ∧ v3' ≤ ((2 ^ n : Nat) : Int) ∧ j' = (((2 ^ n : Nat) : Int) - v3').toNat ∧ (∀ o x, (o < 159 ∨ 162 < o) → m' o x = m0 o x) ∧ ∀ s', 0 ≤ s' → s' < v3' → cdG w L k n m' s') = C
  have go : s < ((2 ^ n : Nat) : Int) → ∀ m2 : am_M, (∀ o x, (o < 159 ∨ 162 < o) → m2 o x = m0 o x) → (∀ s', 0 ≤ s' → s' < s + 1 → cdG w L k n m2 s') → M_X1_find_J1 156 1 s C K m2 := fun q m2 hf2 hG2 => by
    unfold M_X1_find_J1
    intro z hz
    rw [w32_of (by omega) (by omega)] at hz
    rw [← hC, hz]
    refine ⟨_, ?_, by omega, by omega, rfl, hf2, hG2⟩
    omega
  clear hC
  unfold M_X1_find_L1B M_X1_find_J2
  rw [hsh]
  refine ⟨fun q => ⟨fun c1 => ?_, fun c1 => ?_⟩, fun q => ⟨fun q2 => absurd q2 (by omega), fun _ => ?_⟩⟩
  · rw [hP1.1.1] at c1
    have : s = ((2 ^ n : Nat) : Int) := by omega
    exact h1 (by omega) m1 hf (fun s' a b => hG s' a (by omega))
  · rw [hP1.1.1] at c1
    have hn1 : n = 1 := by have := Classical.not_not.mp c1; omega
    have hs2 : s = 2 := by subst hn1; have : ((2 ^ 1 : Nat) : Int) = 2 := rfl; omega
    have hW : m1 159 1 = w 0 := by
      rw [(hG 1 (by omega) (by omega)).1, hn1, kc, kc, show bt 1 ((0 : Nat) : Int) = 1 by decide +kernel]
      show 0 + w 0 * 1 = w 0
      omega
    have hw0 := hP1.2.2.2 0 (by omega) (by omega)
    have hL := hP1.2.2.1.2
    refine cshort hP1 (fun r hr1 hr2 => ?_)
    simp only [am_rf_all, am_ln_all]
    refine ⟨by omega, ?_⟩
    intro m2 e2
    have hP2 : cdP n k L w m2 := cdP_of hP1 (fun o x ho => by rw [e2, am_st_ne _ (by omega)])
    refine ⟨by omega, cshort hP2 (fun r' hr1' hr2' => ⟨by omega, ?_⟩)⟩
    intro m3 e3
    have er : r' = r := by
      obtain ⟨l, l0, l1, hl⟩ := hr1
      obtain ⟨l', l0', l1', hl'⟩ := hr1'
      have := hr2 l' l0' l1'
      have := hr2' l l0 l1
      omega
    have hb : 1 ≤ r ∧ r ≤ 9 := by
      obtain ⟨l, l0, l1, hl⟩ := hr1
      rw [hl]; exact hL l l0 l1
    have hp : 0 ≤ w 0 * r ∧ w 0 * r ≤ 99 * 9 := ⟨Int.mul_nonneg (by omega) (by omega), Int.mul_le_mul (by omega) (by omega) (by omega) (by omega)⟩
    rw [er, e2, am_st_ne _ (by omega), hW, w32_of (by omega) (by omega)] at e3
    refine h2 hn1 m3 (fun o x ho => ?_) r hr1 hr2 ?_ ?_
    · rw [e3, am_st_ne _ (by omega), am_st_ne _ (by omega)]; exact hf o x ho
    · rw [e3, am_st_eq, if_pos ⟨rfl, rfl⟩]
    · rw [e3, am_st_ne _ (by omega), am_st_eq, if_pos ⟨rfl, rfl⟩]
  · have hs64 : 0 ≤ s ∧ s < 64 := by omega
    have hbn : ∀ j, 0 ≤ j → bitI s j → j < (n : Int) := fun j j0 hj => by
      by_cases c : j < (n : Int)
      · exact c
      · exact absurd hj (bit_big (n := n) (by omega) (by omega))
    refine cweight hP1 ?_
    simp only [am_rf_all, am_ln_all]
    refine ⟨by omega, ?_⟩
    intro m2 e2
    refine ⟨by omega, ?_⟩
    intro m3 e3
    refine cclear hs64 (fun m4 f4 z4 => ?_)
    have d159 : m4 159 s = kc w (bt s) n := by rw [f4 _ _ (by omega), e3, am_st_ne _ (by omega), e2, am_st_eq, if_pos ⟨rfl, rfl⟩]
    have d160 : m4 160 s = 0 := by rw [f4 _ _ (by omega), e3, am_st_eq, if_pos ⟨rfl, rfl⟩]
    have fr : ∀ o x, ¬ ((o = 159 ∧ x = s) ∨ (o = 160 ∧ x = s) ∨ (o = 161 ∧ s * 6 ≤ x ∧ x < s * 6 + 6)) → m4 o x = m1 o x := fun o x ho => by
      rw [f4 _ _ (by omega), e3, am_st_ne _ (by omega), e2, am_st_ne _ (by omega)]
    have hP4 : cdP n k L w m4 := cdP_of hP1 (fun o x ho => fr o x (by omega))
    have hG4 : ∀ s', 0 ≤ s' → s' < s → cdG w L k n m4 s' := fun s' a b => cdG_of (hG s' a b) (fr _ _ (by omega)) (fr _ _ (by omega)) (fun j => by
      by_cases c : 0 ≤ j ∧ j < 6
      · exact Or.inl (fr _ _ (by omega))
      · exact Or.inr (by omega)) hn6
    have hf4 : ∀ o x, (o < 159 ∨ 162 < o) → m4 o x = m0 o x := fun o x ho => by rw [fr _ _ (by omega)]; exact hf o x ho
    refine bitCount_to ⟨fun c1 => ?_, fun c1 => ?_⟩
    · refine go (by omega) m4 hf4 (fun s' a b => ?_)
      by_cases c : s' = s
      · rw [c]; exact cfew hP4 hs64 hbn (by omega) d159 d160 z4
      · exact hG4 s' a (by omega)
    · have two : ∃ i j, 0 ≤ i ∧ 0 ≤ j ∧ i ≠ j ∧ bitI s i ∧ bitI s j := by
        obtain ⟨a, rfl⟩ := bit_nat s0
        obtain ⟨i, i1, j, j1, hij, hi, hj⟩ := bc_many a (by omega) (by omega)
        refine ⟨i, j, by omega, by omega, by omega, ?_, ?_⟩
        · unfold bitI; rw [Int.toNat_natCast, Int.toNat_natCast]; exact hi
        · unfold bitI; rw [Int.toNat_natCast, Int.toNat_natCast]; exact hj
      have hs0 : 0 < s := by
        obtain ⟨i, j, -, -, -, hi, -⟩ := two
        have : s ≠ 0 := fun z => bit_0 i (z ▸ hi)
        omega
      refine cshare_loop hP4 ⟨hs0, hs64.2⟩ hbn hG4 (fun m5 hM => ?_)
      have g5 := cbest hP4 ⟨hs0, hs64.2⟩ hbn hG4 two d159 hM
      refine go (by omega) m5 (fun o x ho => by rw [hM.1 _ _ (by omega) (by omega) (by omega)]; exact hf4 o x ho) (fun s' a b => ?_)
      by_cases c : s' = s
      · rw [c]; exact g5
      · exact cdM_G hP4 hG4 hM a (by omega)
theorem ctotal (hP : cdP n k L w m) {K : am_KK} (hK : K (m 160 (((2 ^ n : Nat) : Int) - 1)) m) : M_X1_total 156 K m := by
  have hn6 := hP.1.2
  have h64 : ((2 ^ n : Nat) : Int) ≤ 64 := by have : 2 ^ n ≤ 2 ^ 6 := Nat.pow_le_pow_right (by omega) hn6; omega
  have hpos : 0 < 2 ^ n := Nat.two_pow_pos n
  have hsh : am_shl 1 (m 156 1) = ((2 ^ n : Nat) : Int) := by rw [hP.1.1]; exact bn_shl n (by omega)
  unfold M_X1_total
  simp only [within_eq, b01]
  rw [hsh, w32_of (by omega) (by omega)]
  simp only [am_rf_all, am_ln_all, hP.1.1]
  exact ⟨fun z => absurd (by omega) z, fun _ => ⟨by omega, hK⟩⟩
theorem cdlength (hP : cdP n k L w m) {t : Int} {K : am_KK} (h1 : ∀ i, 0 ≤ i → i < (n : Int) → (∀ x, 0 ≤ x → x < i → m 157 x ≠ t) → m 157 i = t → K (m 161 ((((2 ^ n : Nat) : Int) - 1) * 6 + i)) m) (h0 : (∀ i, 0 ≤ i → i < (n : Int) → m 157 i ≠ t) → K (-1) m) : M_X1_lengthFor 156 t K m := by
  have hn6 := hP.1.2
  have h64 : ((2 ^ n : Nat) : Int) ≤ 64 := by have : 2 ^ n ≤ 2 ^ 6 := Nat.pow_le_pow_right (by omega) hn6; omega
  have hpos : 0 < 2 ^ n := Nat.two_pow_pos n
  have hsh : am_shl 1 (m 156 1) = ((2 ^ n : Nat) : Int) := by rw [hP.1.1]; exact bn_shl n (by omega)
  have e1 := hP.1.1
  unfold M_X1_lengthFor M_X1_lengthFor_L1
  refine ⟨fun j i m1 => m1 = m ∧ 0 ≤ i ∧ i ≤ n ∧ j = ((n : Int) - i).toNat ∧ ∀ x, 0 ≤ x → x < i → m 157 x ≠ t, ⟨_, rfl, by omega, by omega, rfl, fun x x0 x1 => by omega⟩, ?_⟩
  rintro j i m1 ⟨rfl, i0, i1, rfl, hx⟩
  unfold M_X1_lengthFor_L1B
  rw [hsh, e1]
  simp only [am_rf_all, am_ln_all]
  refine ⟨fun q => h0 (fun x x0 x1 => hx x x0 (by omega)), fun q => ⟨fun q2 => absurd q2 (by omega), fun _ => ⟨by omega, fun c => ?_, fun c => ?_⟩⟩⟩
  · intro z hz
    rw [w32_of (by omega) (by omega)] at hz
    refine ⟨_, ?_, by first | rfl | trivial, by omega, by omega, rfl, fun x x0 x1 => ?_⟩
    · omega
    · by_cases cx : x = i
      · rw [cx]; exact c
      · exact hx x x0 (by omega)
  · rw [w32_of (z := ((2 ^ n : Nat) : Int) - 1) (by omega) (by omega), w32_of (z := (((2 ^ n : Nat) : Int) - 1) * 6) (by omega) (by omega), w32_of (z := (((2 ^ n : Nat) : Int) - 1) * 6 + i) (by omega) (by omega)]
    exact ⟨by omega, h1 i i0 (by omega) hx (Classical.not_not.mp c)⟩
end CDF
