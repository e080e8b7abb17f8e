/-! THE ROW's reader: words, TOKENS. -/
theorem and_255 {x : Int} (h : -128 ≤ x ∧ x ≤ 127) : am_and x 255 = x % 256 := by
  rw [(byte_and x).1]
  unfold am_i2b
  have e1 : x.bmod 4294967296 = x := Int.bmod_eq_of_le (by omega) (by omega)
  have e2 : x.bmod 256 = x := Int.bmod_eq_of_le (by omega) (by omega)
  rw [Int8.toInt_toInt32, Int32.toInt_toInt8, Int32.toInt_ofInt]
  show (x.bmod 4294967296).bmod 256 % 256 = x % 256
  rw [e1, e2]
def tz_of : List Nat := (List.range 26).map fun j => ((tz_W.take j).map fun w => w.length + 1).sum
theorem tz_of_t : ∀ j, j < 25 → (∀ i, i < (tz_W.getD j []).length → am_wb.getD (tz_of.getD j 0 + i) 0 = (tz_W.getD j []).getD i 0 ∧ (tz_W.getD j []).getD i 0 ≠ 32) ∧ am_wb.getD (tz_of.getD j 0 + (tz_W.getD j []).length) 0 = 32 ∧ tz_of.getD (j + 1) 0 = tz_of.getD j 0 + (tz_W.getD j []).length + 1 ∧ tz_of.getD j 0 + (tz_W.getD j []).length < 133 := by decide +kernel
theorem tz_of_e : tz_of.getD 25 0 = 133 ∧ tz_of.getD 0 0 = 0 := by decide +kernel
def ms_H (m : am_M) (B : Int → Int) (n : Int) : Prop := (0 ≤ n ∧ n ≤ 400) ∧ (∀ x, 0 ≤ x → x < n → (-128 ≤ m 175 x ∧ m 175 x ≤ 127) ∧ B x = m 175 x % 256) ∧ ∀ k, 0 ≤ k → k < 133 → m 174 k = am_wb.getD k.toNat 0
theorem small_eq (x : Int) (K : am_KK) (m : am_M) : M_X12_isSmall x K m ↔ K (if 97 ≤ x ∧ x ≤ 122 then 1 else 0) m := by
  unfold M_X12_isSmall
  by_cases h1 : x < 97
  · rw [if_neg (by omega)]; simp [h1]
  · by_cases h2 : 122 < x
    · rw [if_neg (by omega)]; simp [h1, h2]
    · rw [if_pos (by omega)]; simp [h1, h2]
theorem digit_eq (x : Int) (K : am_KK) (m : am_M) : M_X12_isDigit x K m ↔ K (if 48 ≤ x ∧ x ≤ 57 then 1 else 0) m := by
  unfold M_X12_isDigit
  by_cases h1 : x < 48
  · rw [if_neg (by omega)]; simp [h1]
  · by_cases h2 : 57 < x
    · rw [if_neg (by omega)]; simp [h1, h2]
    · rw [if_pos (by omega)]; simp [h1, h2]
section MSP
variable {m : am_M} {B : Int → Int} {n : Int}
theorem ms_H_of {m' : am_M} (H : ms_H m B n) (e : ∀ o k, (o = 174 ∨ o = 175) → m' o k = m o k) : ms_H m' B n := ⟨H.1, fun x x0 x1 => by rw [e _ _ (by omega)]; exact H.2.1 x x0 x1, fun k k0 k1 => by rw [e _ _ (by omega)]; exact H.2.2 k k0 k1⟩
theorem mword (H : ms_H m B n) {a e : Int} (h : 0 ≤ a ∧ a < e ∧ e ≤ n) (hl : ∀ y, a ≤ y → y < e → 97 ≤ B y ∧ B y ≤ 122) {K : am_KK} (hK : K (tz_w (tz_L B a e)) m) : M_X12_wordAt 168 a e K m := by
  have hn := H.1
  have hb : ∀ y, a ≤ y → y < e → m 175 y = B y := fun y y0 y1 => by
    have h1 := H.2.1 y (by omega) (by omega)
    have h2 := hl y y0 y1
    omega
  have hf : ∀ j : Nat, j < 25 → tz_L B a e = tz_W.getD j [] → tz_w (tz_L B a e) = 1 + j := fun j hj q => (tz_wl_eq tz_W 1 _ j (by omega) tz_W_nd (by rw [tz_W_len]; exact hj)).mpr q
  have hno : (∀ j : Nat, j < 25 → tz_L B a e ≠ tz_W.getD j []) → tz_w (tz_L B a e) = 0 := fun q => by
    have h1 := tz_wl_le tz_W 1 (tz_L B a e)
    rw [tz_W_len] at h1
    rcases h1 with h1 | h1
    · exact h1
    · exfalso
      have := (tz_wl_eq tz_W 1 (tz_L B a e) (tz_wl tz_W 1 (tz_L B a e) - 1).toNat (by omega) tz_W_nd (by rw [tz_W_len]; omega)).mp (by omega)
      exact q _ (by omega) this
  unfold M_X12_wordAt M_X12_wordAt_L1
  refine ⟨fun j w k m1 => m1 = m ∧ ∃ i : Nat, i ≤ 25 ∧ w = 1 + (i : Int) ∧ k = (tz_of.getD i 0 : Nat) ∧ j = 25 - i ∧ ∀ i' : Nat, i' < i → tz_L B a e ≠ tz_W.getD i' [], ⟨_, rfl, 0, by omega, by omega, by rw [tz_of_e.2]; rfl, rfl, fun i' hi' => by omega⟩, ?_⟩
  rintro j w k m1 ⟨rfl, i, hi, rfl, rfl, rfl, hne⟩
  unfold M_X12_wordAt_L1B
  simp only [am_rf_all, am_ln_all]
  by_cases c25 : i = 25
  · subst c25
    rw [tz_of_e.1]
    refine ⟨fun _ => ?_, fun y => by omega⟩
    rw [hno (fun j hj => hne j hj)] at hK
    exact hK
  have hi : i < 25 := by omega
  obtain ⟨t1, t2, t3, t4⟩ := tz_of_t i hi
  refine ⟨fun y => by omega, fun _ => ?_⟩
  generalize hO : tz_of.getD i 0 = O at *
  generalize hWi : tz_W.getD i [] = Wi at *
  unfold M_X12_wordAt_L2
  refine ⟨fun j v m2 => m2 = m1 ∧ (0 ≤ v ∧ v ≤ (Wi.length : Int)) ∧ j = ((Wi.length : Int) - v).toNat, ⟨_, rfl, by omega, rfl⟩, ?_⟩
  rintro j v m2 ⟨rfl, hv, rfl⟩
  unfold M_X12_wordAt_L2B
  simp only [am_rf_all, am_ln_all]
  rw [w32_of (z := (O : Int) + v) (by omega) (by omega), w32_of (z := e - a) (by omega) (by omega), H.2.2 _ (by omega) (by omega), show ((O : Int) + v).toNat = O + v.toNat by omega]
  refine ⟨by omega, fun c => ?_, fun c => ?_⟩
  · have hvl : v = (Wi.length : Int) := by
      by_cases q : v < (Wi.length : Int)
      · have := t1 v.toNat (by omega); omega
      · omega
    have J1 : ∀ s0 : Int, s0 = (if v ≠ e - a then 0 else 1) → M_X12_wordAt_J1 168 a e (1 + (i : Int)) (O : Int) v s0 (fun v3' v4' m' => ∃ j', j' < 25 - i ∧ m' = m2 ∧ ∃ i : Nat, i ≤ 25 ∧ v3' = 1 + (i : Int) ∧ v4' = (tz_of.getD i 0 : Nat) ∧ j' = 25 - i ∧ ∀ i' : Nat, i' < i → tz_L B a e ≠ tz_W.getD i' []) K m2 := by
      intro s0 hs0
      unfold M_X12_wordAt_J1 M_X12_wordAt_L3
      refine ⟨fun j s x m3 => m3 = m2 ∧ (0 ≤ x ∧ x ≤ v) ∧ j = (v - x).toNat ∧ ((s = 1 ∧ e - a = v ∧ ∀ y : Nat, (y : Int) < x → B (a + y) = Wi.getD y 0) ∨ (s = 0 ∧ tz_L B a e ≠ Wi)), ⟨_, rfl, by omega, rfl, ?_⟩, ?_⟩
      · by_cases q : v = e - a
        · rw [if_neg (by omega)] at hs0
          exact Or.inl ⟨hs0, by omega, fun y hy => by omega⟩
        · rw [if_pos q] at hs0
          refine Or.inr ⟨hs0, fun z => ?_⟩
          have := (tz_L_ext.mp z).1
          omega
      rintro j s x m3 ⟨rfl, hx, rfl, hs⟩
      have J3 : (s = 1 ∧ tz_L B a e = Wi) ∨ (s = 0 ∧ tz_L B a e ≠ Wi) → M_X12_wordAt_J3 168 a e (1 + (i : Int)) (O : Int) v s (fun v3' v4' m' => ∃ j', j' < 25 - i ∧ m' = m3 ∧ ∃ i : Nat, i ≤ 25 ∧ v3' = 1 + (i : Int) ∧ v4' = (tz_of.getD i 0 : Nat) ∧ j' = 25 - i ∧ ∀ i' : Nat, i' < i → tz_L B a e ≠ tz_W.getD i' []) K m3 := by
        intro hq
        unfold M_X12_wordAt_J3
        rcases hq with ⟨rfl, q⟩ | ⟨rfl, q⟩
        · refine ⟨fun y => absurd y (by decide), fun _ => ?_⟩
          rw [hf i hi (by rw [hWi]; exact q)] at hK
          exact hK
        · refine ⟨fun _ => ?_, fun y => absurd rfl y⟩
          rw [w32_of (z := v + 1) (by omega) (by omega)]
          intro k hk w hw
          rw [w32_of (by omega) (by omega)] at hk hw
          subst hk hw
          refine ⟨25 - (i + 1), by omega, rfl, i + 1, by omega, by omega, by rw [t3]; omega, rfl, fun i' hi' => ?_⟩
          by_cases ci : i' = i
          · rw [ci, hWi]; exact q
          · exact hne i' (by omega)
      unfold M_X12_wordAt_L3B
      simp only [am_rf_all, am_ln_all]
      refine ⟨fun c2 => J3 ?_, fun c2 => ⟨fun c3 => J3 ?_, fun c3 => ?_⟩⟩
      · rcases hs with ⟨h1, h2, h3⟩ | hs
        · exact Or.inl ⟨h1, tz_L_ext.mpr ⟨by omega, fun y hy => h3 y (by omega)⟩⟩
        · exact Or.inr hs
      · rcases hs with ⟨h1, h2, h3⟩ | hs
        · omega
        · exact Or.inr hs
      · rcases hs with ⟨rfl, h2, h3⟩ | ⟨h1, -⟩
        rotate_left
        · exact absurd h1 c3
        have q1 := t1 x.toNat (by omega)
        rw [w32_of (z := (O : Int) + x) (by omega) (by omega), w32_of (z := a + x) (by omega) (by omega), H.2.2 _ (by omega) (by omega), hb _ (by omega) (by omega), show ((O : Int) + x).toNat = O + x.toNat by omega, q1.1]
        unfold M_X12_wordAt_J2
        refine ⟨by omega, by omega, fun c4 => ?_, fun c4 => ?_⟩
        · intro y hy
          rw [w32_of (by omega) (by omega)] at hy
          subst hy
          refine ⟨_, by omega, rfl, by omega, rfl, Or.inr ⟨rfl, fun z => ?_⟩⟩
          have := (tz_L_ext.mp z).2 x.toNat (by omega)
          rw [show a + ((x.toNat : Nat) : Int) = a + x by omega] at this
          exact c4 this.symm
        · have c4 := Classical.not_not.mp c4
          intro y hy
          rw [w32_of (by omega) (by omega)] at hy
          subst hy
          refine ⟨_, by omega, rfl, by omega, rfl, Or.inl ⟨rfl, h2, fun y hy => ?_⟩⟩
          by_cases cy : (y : Int) = x
          · rw [cy, ← c4, show x.toNat = y by omega]
          · exact h3 y (by omega)
    exact ⟨fun q => J1 0 (by rw [if_pos q]), fun q => J1 1 (by rw [if_neg q])⟩
  · have hvl : v < (Wi.length : Int) := by
      by_cases q : v < (Wi.length : Int)
      · exact q
      · have : v.toNat = Wi.length := by omega
        rw [this] at c
        exact absurd t2 c
    intro y hy
    rw [w32_of (by omega) (by omega)] at hy
    subst hy
    exact ⟨_, by omega, trivial, by omega, rfl⟩
end MSP
