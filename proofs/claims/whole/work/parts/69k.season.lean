/-! SEASON: what is drawn. -/
def sn_N (s : Int) : Int := (s * 1103 + 12345) % 1000003
theorem sn_le (s : Int) : 0 ≤ sn_N s ∧ sn_N s < 1000003 := by unfold sn_N; omega
theorem l2i_of {z : Int} (h0 : 0 ≤ z) (h1 : z < 2147483648) : am_l2i z = z := by
  unfold am_l2i
  rw [Int64.toInt_toInt32, Int64.toInt_ofInt]
  have e : z.bmod 18446744073709551616 = z := Int.bmod_eq_of_le (by omega) (by omega)
  rw [show Int64.size = 18446744073709551616 from rfl, e]
  exact Int.bmod_eq_of_le (by omega) (by omega)
theorem w64_in {z : Int} (h0 : 0 ≤ z) (h1 : z < 9223372036854775808) : w64 z = z := by
  unfold w64
  omega
section SEA
variable {m : am_M}
theorem cdraw {s b : Int} (hs : m 163 1 = s) (h0 : 0 ≤ s ∧ s < 1000003) (hb : 0 < b ∧ b ≤ 1000) (K : am_KK) : M_X8_draw 163 b K m ↔ K (sn_N s % b) (am_st m 163 1 (sn_N s)) := by
  unfold M_X8_draw
  have h1 := sn_le s
  have e1 : w32 (Int.tmod (w32 (w32 (m 163 1 * 1103) + 12345)) 1000003) = sn_N s := by
    rw [hs, w32_of (z := s * 1103) (by omega) (by omega), w32_of (z := s * 1103 + 12345) (by omega) (by omega), Int.tmod_eq_emod_of_nonneg (by omega)]
    exact w32_of (by have := h1.1; unfold sn_N at this; omega) (by have := h1.2; unfold sn_N at this; omega)
  rw [e1]
  simp only [forall_eq, am_st_same]
  rw [Int.tmod_eq_emod_of_nonneg h1.1]
  have h2 : 0 ≤ sn_N s % b ∧ sn_N s % b < b := ⟨Int.emod_nonneg _ (by omega), Int.emod_lt_of_pos _ hb.1⟩
  rw [w32_of (by omega) (by omega)]
  have h3 : ¬ b ≤ 0 := by omega
  have h4 : b ≠ 0 := by omega
  simp [h3, h4]
theorem mdraws {s b : Int} (hs : m 168 59 = s) (h0 : 0 ≤ s ∧ s < 1000003) (hb : 0 < b ∧ b ≤ 1000) (K : am_KK) : M_X12_draws 168 b K m ↔ K (sn_N s % b) (am_st m 168 59 (sn_N s)) := by
  unfold M_X12_draws
  have h1 := sn_le s
  have e1 : am_l2i (w64 (Int.tmod (w64 (w64 (1103 * m 168 59) + 12345)) 1000003)) = sn_N s := by
    rw [hs, w64_in (z := 1103 * s) (by omega) (by omega), w64_in (z := 1103 * s + 12345) (by omega) (by omega), Int.tmod_eq_emod_of_nonneg (by omega), w64_in (by omega) (by omega), l2i_of (by omega) (by omega)]
    unfold sn_N
    rw [Int.mul_comm]
  rw [e1]
  simp only [forall_eq, am_st_same]
  rw [Int.tmod_eq_emod_of_nonneg h1.1]
  have h2 : 0 ≤ sn_N s % b ∧ sn_N s % b < b := ⟨Int.emod_nonneg _ (by omega), Int.emod_lt_of_pos _ hb.1⟩
  rw [w32_of (by omega) (by omega)]
  have h4 : b ≠ 0 := by omega
  simp [h4]
/-- so many rows of noughts -/
theorem cbegin {s P : Int} (h164 : rk m 164 4 24) (hP : 0 ≤ P ∧ P ≤ 6) {K : am_KK}
    (hK : ∀ m', (∀ o k, ¬ ((o = 163 ∧ k = 1) ∨ (o = 164 ∧ k = 2) ∨ o = 165) → m' o k = m o k) → m' 163 1 = s → rk m' 164 4 24 → m' 164 2 = P → (∀ x, 0 ≤ x → x < 4 * P → m' 165 x = 0) → K 0 m') : M_X8_begin 163 s P K m := by
  have r0 : am_rfv 163 0 = 164 := by decide +kernel
  have h02 := h164.2.2.1
  suffices key : ∀ m1 : am_M, (∀ o k, ¬ ((o = 163 ∧ k = 1) ∨ (o = 164 ∧ k = 2)) → m1 o k = m o k) → m1 163 1 = s → m1 164 2 = 0 → M_X8_begin_L1 163 P 0 K m1 by
    unfold M_X8_begin
    rw [r0]
    simp only [forall_eq]
    rw [cut_eq]
    by_cases c : 0 < am_st m 163 1 s 164 2
    · rw [if_pos ⟨by omega, c⟩]
      exact key _ (fun o k ho => by rw [am_st_ne _ (by omega), am_st_ne _ (by omega)]) (by rw [am_st_ne _ (by omega), am_st_same]) (am_st_same _ _ _ _)
    · rw [if_neg (fun z => c z.2)]
      rw [am_st_ne _ (by omega)] at c
      exact key _ (fun o k ho => by rw [am_st_ne _ (by omega)]) (am_st_same _ _ _ _) (by rw [am_st_ne _ (by omega)]; omega)
  intro m1 f1 e1 e2
  unfold M_X8_begin_L1
  refine ⟨fun j i m2 => 0 ≤ i ∧ i ≤ P ∧ j = (P - i).toNat ∧ (∀ o k, ¬ ((o = 163 ∧ k = 1) ∨ (o = 164 ∧ k = 2) ∨ o = 165) → m2 o k = m o k) ∧ m2 163 1 = s ∧ m2 164 2 = i ∧ ∀ x, 0 ≤ x → x < 4 * i → m2 165 x = 0, ⟨_, by omega, by omega, rfl, fun o k ho => f1 o k (by omega), e1, e2, fun x x0 x1 => by omega⟩, ?_⟩
  rintro j i m2 ⟨i0, i1, rfl, f2, g1, g2, g3⟩
  have k2 : rk m2 164 4 24 := rk_to h164 (f2 _ _ (by omega)) (by rw [g2]; omega)
  unfold M_X8_begin_L1B
  rw [r0]
  refine ⟨fun q => ?_, fun q => ?_⟩
  · have : i = P := by omega
    subst this
    exact hK m2 f2 g1 k2 g2 g3
  · rw [open_eq k2, g2, if_pos (by omega)]
    unfold M_X8_begin_L2
    refine ⟨fun j4 v4 m3 => 0 ≤ v4 ∧ v4 ≤ 4 ∧ j4 = (4 - v4).toNat ∧ (∀ o k, ¬ ((o = 163 ∧ k = 1) ∨ (o = 164 ∧ k = 2) ∨ o = 165) → m3 o k = m o k) ∧ m3 163 1 = s ∧ m3 164 2 = i + 1 ∧ ∀ x, 0 ≤ x → x < 4 * i + v4 → m3 165 x = 0, ⟨_, by omega, by omega, rfl, fun o k ho => by rw [am_st_ne _ (by omega)]; exact f2 o k ho, by rw [am_st_ne _ (by omega)]; exact g1, am_st_same _ _ _ _, fun x x0 x1 => by rw [am_st_ne _ (by omega)]; exact g3 x x0 (by omega)⟩, ?_⟩
    rintro j4 v4 m3 ⟨v0, v1, rfl, f3, t1, t2, t3⟩
    have k3 : rk m3 164 4 24 := rk_to h164 (f3 _ _ (by omega)) (by rw [t2]; omega)
    unfold M_X8_begin_L2B
    rw [r0]
    refine ⟨fun z => ?_, fun z => ?_⟩
    · intro v hv
      rw [w32_of (by omega) (by omega)] at hv
      subst hv
      exact ⟨_, by omega, by omega, by omega, rfl, f3, t1, t2, fun x x0 x1 => t3 x x0 (by omega)⟩
    · rw [set_eq' k3 t2 (by omega) (by omega)]
      intro v hv
      rw [w32_of (by omega) (by omega)] at hv
      subst hv
      refine ⟨_, ?_, by omega, by omega, rfl, fun o k ho => by rw [am_st_ne _ (by omega)]; exact f3 o k ho, by rw [am_st_ne _ (by omega)]; exact t1, by rw [am_st_ne _ (by omega)]; exact t2, fun x x0 x1 => ?_⟩
      · omega
      · rw [show (164 : Int) + 1 = 165 by omega]
        by_cases c : x = i * 4 + v4
        · subst c; rw [am_st_same]
        · rw [am_st_ne _ (by omega)]; exact t3 x x0 (by omega)
end SEA
