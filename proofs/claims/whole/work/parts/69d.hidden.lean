/-! HIDDEN: does a hidden PRAYER explain the ANSWERS? -/
theorem and1 (x : Int) : am_and x 1 = 0 ∨ am_and x 1 = 1 := by
  have h : ∀ v : Int32, (v &&& Int32.ofInt 1).toInt = 0 ∨ (v &&& Int32.ofInt 1).toInt = 1 := by
    intro v
    have e : (v &&& Int32.ofInt 1).toBitVec = BitVec.setWidth 32 (BitVec.ofBool (v.toBitVec.getLsbD 0)) := by
      rw [Int32.toBitVec_and]
      exact BitVec.and_one_eq_setWidth_ofBool_getLsbD
    unfold Int32.toInt
    rw [e]
    cases v.toBitVec.getLsbD 0
    · left; decide
    · right; decide
  exact h _
/-- the ANSWERS of a DAWN are as the THINGS granted say -/
def hd_T (A : Int → Int) (d bits : Int) : Prop := ∀ i, 0 ≤ i → i < A 367 → A (342 + 3 * i) = d → am_and (am_shr bits (A (342 + 3 * i + 1))) 1 = A (342 + 3 * i + 2)
def hl_M (A : Int → Int) : Nat → Int
  | 0 => 0
  | n + 1 => if A (342 + 3 * (n : Int)) ≤ hl_M A n then hl_M A n else A (342 + 3 * (n : Int))
theorem hl_le (A : Int → Int) : ∀ (n : Nat) (i : Int), 0 ≤ i → i < n → A (342 + 3 * i) ≤ hl_M A n := by
  intro n
  induction n with
  | zero => intro i h0 h1; omega
  | succ n ih =>
    intro i h0 h1
    rw [hl_M]
    by_cases c : i = n
    · subst c; split <;> omega
    · have := ih i h0 (by omega)
      split <;> omega
theorem hl_09 {A : Int → Int} : ∀ n : Nat, (∀ i, 0 ≤ i → i < (n : Int) → 1 ≤ A (342 + 3 * i) ∧ A (342 + 3 * i) ≤ 9) → 0 ≤ hl_M A n ∧ hl_M A n ≤ 9 := by
  intro n
  induction n with
  | zero => intro _; exact ⟨Int.le_refl _, by show (0 : Int) ≤ 9; omega⟩
  | succ n ih =>
    intro h
    have h1 := ih (fun i i0 i1 => h i i0 (by omega))
    have h2 := h n (by omega) (by omega)
    rw [hl_M]
    split <;> omega
theorem hl_s (A : Int → Int) {i : Int} (h : 0 ≤ i) : hl_M A (i + 1).toNat = if A (342 + 3 * i) ≤ hl_M A i.toNat then hl_M A i.toNat else A (342 + 3 * i) := by
  rw [show (i + 1).toNat = i.toNat + 1 by omega, hl_M, show ((i.toNat : Nat) : Int) = i by omega]
section HID
variable {m : am_M} {A : Int → Int}
theorem cfarthest (hw : am_WA A) (hB : bk_P m 1 A) {K : am_KK} (hK : K (hl_M A (A 367).toNat) m) : M_X0_farthestAnswer 1 K m := by
  obtain ⟨-, -, -, -, R5⟩ := bk_rows hB
  have h6 := hw.2.2.2.2.1
  unfold M_X0_farthestAnswer M_X0_farthestAnswer_L1
  refine ⟨fun j r i m1 => m1 = m ∧ 0 ≤ i ∧ i ≤ A 367 ∧ j = (A 367 - i).toNat ∧ r = hl_M A i.toNat, ⟨_, rfl, by omega, by omega, rfl, rfl⟩, ?_⟩
  rintro j r i m1 ⟨rfl, i0, i1, rfl, rfl⟩
  unfold M_X0_farthestAnswer_L1B
  simp only [am_rf_all, R5.2.1]
  refine ⟨fun q => ?_, fun q => ?_⟩
  · have : i = A 367 := by omega
    subst this
    exact hK
  · rw [get_eq R5.1, rf_get R5, if_pos (by omega), show 342 + (i * 3 + 0) = 342 + 3 * i by omega]
    intro v1 hv1 v2 hv2
    rw [w32_of (by omega) (by omega)] at hv2
    subst hv2
    refine ⟨_, ?_, rfl, by omega, by omega, rfl, ?_⟩
    · omega
    · rw [hv1, hl_s A i0]
      unfold am_max
      by_cases c : A (342 + 3 * i) ≤ hl_M A i.toNat
      · rw [if_pos c, if_neg (by omega)]
      · rw [if_neg c, if_pos (by omega)]
theorem mlast (hw : am_WA (m 170)) {K : am_KK} (hK : K (hl_M (m 170) (m 170 367).toNat) m) : M_X12_lastAnswer 168 K m := by
  have h6 := hw.2.2.2.2.1
  unfold M_X12_lastAnswer M_X12_lastAnswer_L1
  refine ⟨fun j r i m1 => m1 = m ∧ 0 ≤ i ∧ i ≤ m 170 367 ∧ j = (m 170 367 - i).toNat ∧ r = hl_M (m 170) i.toNat, ⟨_, rfl, by omega, by omega, rfl, rfl⟩, ?_⟩
  rintro j r i m1 ⟨rfl, i0, i1, rfl, rfl⟩
  unfold M_X12_lastAnswer_L1B M_X12_lastAnswer_J1
  simp only [am_rf_all, am_ln_all]
  refine ⟨by omega, fun q => ?_, fun q => ?_⟩
  · have : i = m1 170 367 := by omega
    rw [this]
    exact hK
  · rw [w32_of (z := 3 * i) (by omega) (by omega), w32_of (z := 342 + 3 * i) (by omega) (by omega)]
    have hs := hl_s (m1 170) i0
    refine ⟨by omega, fun c => ?_, fun c => ⟨by omega, ?_⟩⟩
    · intro v2 hv2
      rw [w32_of (by omega) (by omega)] at hv2
      subst hv2
      rw [if_pos c] at hs
      exact ⟨_, by omega, trivial, by omega, by omega, rfl, hs.symm⟩
    · intro v2 hv2
      rw [w32_of (by omega) (by omega)] at hv2
      subst hv2
      rw [if_neg c] at hs
      exact ⟨_, by omega, trivial, by omega, by omega, rfl, hs.symm⟩
theorem canswers {d bits : Int} (hw : am_WA A) (hB : bk_P m 1 A) {K : am_KK} (h1 : hd_T A d bits → K 1 m) (h0 : ¬ hd_T A d bits → K 0 m) : M_X0_answersAre 1 d bits K m := by
  obtain ⟨-, -, -, -, R5⟩ := bk_rows hB
  have h6 := hw.2.2.2.2.1
  unfold M_X0_answersAre M_X0_answersAre_L1
  refine ⟨fun j i m1 => m1 = m ∧ 0 ≤ i ∧ i ≤ A 367 ∧ j = (A 367 - i).toNat ∧ ∀ x, 0 ≤ x → x < i → A (342 + 3 * x) = d → am_and (am_shr bits (A (342 + 3 * x + 1))) 1 = A (342 + 3 * x + 2), ⟨_, rfl, by omega, by omega, rfl, fun x x0 x1 => by omega⟩, ?_⟩
  rintro j i m1 ⟨rfl, i0, i1, rfl, hh⟩
  unfold M_X0_answersAre_L1B M_X0_answersAre_J1
  simp only [am_rf_all, R5.2.1]
  refine ⟨fun q => h1 (fun x x0 x1 => hh x x0 (by omega)), fun q => ?_⟩
  rw [get_eq R5.1, rf_get R5, if_pos (by omega), show 342 + (i * 3 + 0) = 342 + 3 * i by omega]
  have go : (A (342 + 3 * i) = d → am_and (am_shr bits (A (342 + 3 * i + 1))) 1 = A (342 + 3 * i + 2)) → ∀ v : Int, v = w32 (i + 1) → ∃ j', j' < (A 367 - i).toNat ∧ m1 = m1 ∧ 0 ≤ v ∧ v ≤ A 367 ∧ j' = (A 367 - v).toNat ∧ ∀ x, 0 ≤ x → x < v → A (342 + 3 * x) = d → am_and (am_shr bits (A (342 + 3 * x + 1))) 1 = A (342 + 3 * x + 2) := by
    intro hi v hv
    rw [w32_of (by omega) (by omega)] at hv
    subst hv
    refine ⟨_, ?_, rfl, by omega, by omega, rfl, fun x x0 x1 hx => ?_⟩
    · omega
    · by_cases c : x = i
      · subst c; exact hi hx
      · exact hh x x0 (by omega) hx
  refine ⟨fun c => go (fun z => absurd z c), fun c => ?_⟩
  have c' : A (342 + 3 * i) = d := Classical.not_not.mp c
  rw [get_eq R5.1, rf_get R5, if_pos (by omega), show 342 + (i * 3 + 1) = 342 + 3 * i + 1 by omega]
  rw [get_eq R5.1, rf_get R5, if_pos (by omega), show 342 + (i * 3 + 2) = 342 + 3 * i + 2 by omega]
  refine ⟨fun c2 => go (fun _ => c2), fun c2 => h0 (fun z => c2 (z i i0 (by omega) c'))⟩
/-- the DAYS to come, one after another: are the ANSWERS so? -/
def hd_N (A : Int → Int) : Int → Int := if 999 ≤ A 169 then A else (ab_dawn A).2.2.2
def hd_B (A : Int → Int) : Int := if 999 ≤ A 169 then 0 else (ab_dawn A).2.1
def hd_S (A : Int → Int) : Nat → Int → (Int → Int) → Prop
  | 0, _, _ => True
  | n + 1, d, X => hd_T A d (hd_B X) ∧ hd_S A n (d + 1) (hd_N X)
theorem mareSo_2 {v1 d bits : Int} {C7 : Int → am_M → Prop} (hw : am_WA (m 170)) (hd : 0 ≤ d ∧ d ≤ 9) {K : am_KK} (h1 : hd_T (m 170) d bits → C7 (d + 1) m) (h0 : ¬ hd_T (m 170) d bits → K 0 m) : M_X12_areSo_J1 168 v1 d bits C7 K m := by
  have h6 := hw.2.2.2.2.1
  unfold M_X12_areSo_J1 M_X12_areSo_L2
  refine ⟨fun j i m1 => m1 = m ∧ 0 ≤ i ∧ i ≤ m 170 367 ∧ j = (m 170 367 - i).toNat ∧ ∀ x, 0 ≤ x → x < i → m 170 (342 + 3 * x) = d → am_and (am_shr bits (m 170 (342 + 3 * x + 1))) 1 = m 170 (342 + 3 * x + 2), ⟨_, rfl, by omega, by omega, rfl, fun x x0 x1 => by omega⟩, ?_⟩
  rintro j i m1 ⟨rfl, i0, i1, rfl, hh⟩
  have go : (m1 170 (342 + 3 * i) = d → am_and (am_shr bits (m1 170 (342 + 3 * i + 1))) 1 = m1 170 (342 + 3 * i + 2)) → i < m1 170 367 → ∀ v : Int, v = w32 (i + 1) → ∃ j', j' < (m1 170 367 - i).toNat ∧ m1 = m1 ∧ 0 ≤ v ∧ v ≤ m1 170 367 ∧ j' = (m1 170 367 - v).toNat ∧ ∀ x, 0 ≤ x → x < v → m1 170 (342 + 3 * x) = d → am_and (am_shr bits (m1 170 (342 + 3 * x + 1))) 1 = m1 170 (342 + 3 * x + 2) := by
    intro hi hlt v hv
    rw [w32_of (by omega) (by omega)] at hv
    subst hv
    refine ⟨_, ?_, rfl, by omega, by omega, rfl, fun x x0 x1 hx => ?_⟩
    · omega
    · by_cases c : x = i
      · subst c; exact hi hx
      · exact hh x x0 (by omega) hx
  generalize hC : (fun (v' : Int) (m' : am_M) => ∃ j', j' < (m1 170 367 - i).toNat ∧ m' = m1 ∧ 0 ≤ v' ∧ v' ≤ m1 170 367 ∧ j' = (m1 170 367 - v').toNat ∧ ∀ x, 0 ≤ x → x < v' → m1 170 (342 + 3 * x) = d → am_and (am_shr bits (m1 170 (342 + 3 * x + 1))) 1 = m1 170 (342 + 3 * x + 2)) = C
  have go' : (m1 170 (342 + 3 * i) = d → am_and (am_shr bits (m1 170 (342 + 3 * i + 1))) 1 = m1 170 (342 + 3 * i + 2)) → i < m1 170 367 → ∀ v : Int, v = w32 (i + 1) → C v m1 := by rw [← hC]; exact go
  clear go hC
  unfold M_X12_areSo_L2B M_X12_areSo_J2 M_X12_areSo_J3 M_X12_isIn
  simp only [am_rf_all, am_ln_all]
  refine ⟨by omega, fun q => ?_, fun q => ?_⟩
  · intro v hv
    rw [w32_of (by omega) (by omega)] at hv
    subst hv
    exact h1 (fun x x0 x1 => hh x x0 (by omega))
  · rw [w32_of (z := 3 * i) (by omega) (by omega), w32_of (z := 342 + 3 * i) (by omega) (by omega), w32_of (z := 342 + 3 * i + 1) (by omega) (by omega), w32_of (z := 342 + 3 * i + 2) (by omega) (by omega)]
    obtain ⟨-, -, k1, k2⟩ := h6.2.2 i i0 (by omega)
    refine ⟨by omega, fun c => go' (fun z => absurd z c) (by omega), fun c => ⟨by omega, fun c1 => ⟨by omega, fun c2 => ⟨fun c3 => ?_, fun c3 => ?_⟩, fun c2 => ⟨fun c3 => ?_, fun c3 => ?_⟩⟩, fun c1 => ⟨by omega, fun c2 => ⟨fun c3 => ?_, fun c3 => ?_⟩, fun c2 => ⟨fun c3 => ?_, fun c3 => ?_⟩⟩⟩⟩
    all_goals
      have q1 := and1 (am_shr bits (m1 170 (342 + 3 * i + 1)))
      first
        | exact go' (fun _ => by omega) (by omega)
        | exact absurd trivial c3
        | exact absurd rfl c3
        | exact False.elim c3
        | exact h0 (fun z => by have := z i i0 (by omega) (by omega); omega)
theorem mareSo (hw : wf_A 24 (m 170)) (h341 : m 170 = A) {K : am_KK}
    (hK : ∀ r m', fr_d m m' → (∀ x, ¬ (0 ≤ x ∧ x < 170) → m' 170 x = A x) → (r = 0 ∨ r = 1) → (r ≠ 0 ↔ hd_S A (hl_M A (A 367).toNat).toNat 1 A) → K r m') : M_X12_areSo 168 K m := by
  unfold M_X12_areSo
  refine mlast hw.1 ?_
  rw [h341]
  rw [h341] at hw
  have h6 := hw.1.2.2.2.2.1
  have h09 := hl_09 (A := A) (A 367).toNat (fun i i0 i1 => (h6.2.2 i i0 (by omega)).1)
  generalize hl_M A (A 367).toNat = last at *
  unfold M_X12_areSo_L1
  refine ⟨fun j v m1 => ∃ i, v = i + 1 ∧ 0 ≤ i ∧ i ≤ last ∧ j = (last - i).toNat ∧ fr_d m m1 ∧ wf_A 24 (m1 170) ∧ (∀ x, ¬ (0 ≤ x ∧ x < 170) → m1 170 x = A x) ∧ (hd_S A last.toNat 1 A ↔ hd_S A (last - i).toNat (i + 1) (m1 170)), ⟨_, 0, by omega, by omega, by omega, rfl, fr_d_refl _, by rw [h341]; exact hw, fun _ _ => by rw [h341], by rw [Int.sub_zero, h341, Int.zero_add]⟩, ?_⟩
  rintro j v m1 ⟨i, rfl, i0, i1, rfl, f1, w1, g1, e⟩
  unfold M_X12_areSo_L1B
  simp only [am_rf_all, am_ln_all]
  refine ⟨fun q => ?_, fun q => ⟨by omega, ?_⟩⟩
  · rw [show (last - i).toNat = 0 by omega] at e
    exact hK 1 m1 f1 g1 (Or.inr rfl) ⟨fun _ => e.mpr trivial, fun _ => by omega⟩
  · have es : (last - i).toNat = (last - (i + 1)).toNat + 1 := by omega
    rw [es, hd_S] at e
    have hTT : ∀ (B : Int → Int) d bits, (∀ x, ¬ (0 ≤ x ∧ x < 170) → B x = A x) → (hd_T B d bits ↔ hd_T A d bits) := fun B d bits hB => by
      unfold hd_T
      rw [hB 367 (by omega)]
      refine forall_congr' fun x => forall_congr' fun x0 => ?_
      rw [hB (342 + 3 * x) (by omega), hB (342 + 3 * x + 1) (by omega), hB (342 + 3 * x + 2) (by omega)]
    unfold hd_B hd_N at e
    refine ⟨fun c => ?_, fun c => ?_⟩
    · rw [if_pos c, if_pos c] at e
      refine mareSo_2 w1.1 (by omega) (fun hT => ?_) (fun hT => hK 0 m1 f1 g1 (Or.inl rfl) ⟨fun z => absurd rfl z, fun z => absurd ((hTT _ _ _ g1).mpr (e.mp z).1) hT⟩)
      refine ⟨_, ?_, i + 1, rfl, by omega, by omega, rfl, f1, w1, g1, ?_⟩
      · omega
      · rw [e]; exact ⟨fun z => z.2, fun z => ⟨(hTT _ _ _ g1).mp hT, z⟩⟩
    · rw [if_neg c, if_neg c] at e
      refine mdawns w1 (by omega) (fun m2 f2 r2 b2 => ?_)
      obtain ⟨b1, b3, -⟩ := ab_dawn_hi w1 (show m1 170 169 < 999 by omega)
      have g2 : ∀ x, ¬ (0 ≤ x ∧ x < 170) → m2 170 x = A x := fun x hx => by
        rw [r2]
        by_cases cx : x < 0
        · rw [ab_dawn_neg cx]; exact g1 x hx
        · rw [b3 x (by omega) (by omega)]; exact g1 x hx
      have w2 : wf_A 24 (m2 170) := by rw [r2]; exact b1
      simp only [forall_eq]
      rw [b2]
      refine mareSo_2 w2.1 (by omega) (fun hT => ?_) (fun hT => hK 0 m2 (fr_d_t f1 f2) g2 (Or.inl rfl) ⟨fun z => absurd rfl z, fun z => absurd ((hTT _ _ _ g2).mpr (e.mp z).1) hT⟩)
      refine ⟨_, ?_, i + 1, rfl, by omega, by omega, rfl, fr_d_t f1 f2, w2, g2, ?_⟩
      · omega
      · rw [e, r2]; exact ⟨fun z => z.2, fun z => ⟨(hTT _ _ _ g2).mp hT, z⟩⟩
end HID
