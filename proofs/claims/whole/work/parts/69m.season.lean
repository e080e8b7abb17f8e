/-! SEASON: what stands at the end, on the other side. -/
section SEM
variable {m : am_M}
/-- tallies of states as the row T of the one side tells them -/
def sn_C (m : am_M) (P : Int) (T : Int → Int) : Prop := ∀ p, 0 ≤ p → p < P → m 165 (p * 4 + 1) = T (3 * p + 1) ∧ m 165 (p * 4 + 2) = T (3 * p + 2) ∧ m 165 (p * 4 + 3) = T (3 * p)
theorem cstanding {A T : Int → Int} {P : Int} (hv : vg_P m 142 A) (h24 : 0 ≤ A 168 ∧ A 168 ≤ 24) (hA : ∀ i, 0 ≤ i → i < A 168 → (0 ≤ A (7 * i) ∧ A (7 * i) < P) ∧ 0 ≤ A (7 * i + 5) ∧ A (7 * i + 5) ≤ 2) (hk : rk m 164 4 24) (hP : m 164 2 = P) (hT : sn_C m P T) {K : am_KK}
    (hK : ∀ m', (∀ o x, o ≠ 165 → m' o x = m o x) → (∀ p, 0 ≤ p → p < P → m' 165 (p * 4 + 0) = m 165 (p * 4 + 0)) → sn_C m' P (sn_A A (A 168).toNat T) → K 0 m') : M_X8_noteStanding 163 142 K m := by
  have r0 : am_rfv 142 0 = 143 := by decide +kernel
  unfold M_X8_noteStanding M_X8_noteStanding_L1
  refine ⟨fun j i m1 => 0 ≤ i ∧ i ≤ A 168 ∧ j = (A 168 - i).toNat ∧ (∀ o x, o ≠ 165 → m1 o x = m o x) ∧ (∀ p, 0 ≤ p → p < P → m1 165 (p * 4 + 0) = m 165 (p * 4 + 0)) ∧ sn_C m1 P (sn_A A i.toNat T), ⟨_, by omega, by omega, rfl, fun _ _ _ => rfl, fun _ _ _ => rfl, hT⟩, ?_⟩
  rintro j i m1 ⟨i0, i1, rfl, f1, z1, t1⟩
  have v1 : vg_P m1 142 A := vg_of hv (fun o k _ _ => f1 o k (by omega)) (fun _ _ => rfl)
  have e2 : m1 143 2 = A 168 := v1.1.2.1
  unfold M_X8_noteStanding_L1B M_X8_noteStanding_J1
  rw [r0, e2]
  refine ⟨fun q => ?_, fun q => ?_⟩
  · have : i = A 168 := by omega
    subst this
    exact hK m1 f1 z1 t1
  · obtain ⟨p1, p2⟩ := hA i i0 (by omega)
    have k1 : rk m1 164 4 24 := rk_of hk (f1 _ _ (by omega)) (f1 _ _ (by omega))
    have g5 : ∀ K : am_KK, M_X7_get 143 i 5 K m1 ↔ K (A (7 * i + 5)) m1 := fun K => vg_get v1 i0 (by omega) (by omega) K
    have g0 : ∀ K : am_KK, M_X7_get 143 i 0 K m1 ↔ K (A (7 * i)) m1 := fun K => by
      have := vg_get v1 i0 (show i < A 168 by omega) (j := 0) (by omega) K
      rwa [Int.add_zero] at this
    rw [g5, g0]
    have hP1 : m1 164 2 = P := by rw [f1 _ _ (by omega)]; exact hP
    have fin : ∀ c, (c = if A (7 * i + 5) = 0 then 3 else A (7 * i + 5)) → M_X8_add 163 (A (7 * i)) c (fun _ m_2 => ∀ v2_3 : Int, v2_3 = w32 (i + 1) → ∃ j', j' < (A 168 - i).toNat ∧ 0 ≤ v2_3 ∧ v2_3 ≤ A 168 ∧ j' = (A 168 - v2_3).toNat ∧ (∀ o x, o ≠ 165 → m_2 o x = m o x) ∧ (∀ p, 0 ≤ p → p < P → m_2 165 (p * 4 + 0) = m 165 (p * 4 + 0)) ∧ sn_C m_2 P (sn_A A v2_3.toNat T)) m1 := by
      intro c hc
      have hc3 : (A (7 * i + 5) = 0 ∧ c = 3) ∨ (A (7 * i + 5) = 1 ∧ c = 1) ∨ (A (7 * i + 5) = 2 ∧ c = 2) := by
        by_cases z : A (7 * i + 5) = 0
        · rw [if_pos z] at hc; omega
        · rw [if_neg z] at hc; omega
      rw [cadd k1 hP1 p1 (by omega)]
      intro v hv2
      rw [w32_of (by omega) (by omega)] at hv2
      subst hv2
      refine ⟨_, by omega, by omega, by omega, rfl, fun o x ho => by rw [am_st_ne _ (by omega)]; exact f1 o x ho, fun p q0 q1 => by rw [am_st_ne _ (by omega)]; exact z1 p q0 q1, fun p q0 q1 => ?_⟩
      obtain ⟨t2, t3, t4⟩ := t1 p q0 q1
      rw [show (i + 1).toNat = i.toNat + 1 by omega, sn_A, show ((i.toNat : Nat) : Int) = i by omega]
      by_cases cp : p = A (7 * i)
      · subst cp
        rcases hc3 with ⟨u1, rfl⟩ | ⟨u1, rfl⟩ | ⟨u1, rfl⟩
        · rw [u1, Int.add_zero]
          refine ⟨by rw [am_st_ne _ (by omega), wrA_ne _ (by omega)]; exact t2, by rw [am_st_ne _ (by omega), wrA_ne _ (by omega)]; exact t3, by rw [am_st_same, wrA_same, t4]⟩
        · rw [u1]
          refine ⟨by rw [am_st_same, wrA_same, t2], by rw [am_st_ne _ (by omega), wrA_ne _ (by omega)]; exact t3, by rw [am_st_ne _ (by omega), wrA_ne _ (by omega)]; exact t4⟩
        · rw [u1]
          refine ⟨by rw [am_st_ne _ (by omega), wrA_ne _ (by omega)]; exact t2, by rw [am_st_same, wrA_same, t3], by rw [am_st_ne _ (by omega), wrA_ne _ (by omega)]; exact t4⟩
      · refine ⟨by rw [am_st_ne _ (by omega), wrA_ne _ (by omega)]; exact t2, by rw [am_st_ne _ (by omega), wrA_ne _ (by omega)]; exact t3, by rw [am_st_ne _ (by omega), wrA_ne _ (by omega)]; exact t4⟩
    exact ⟨fun c => fin _ (by rw [if_neg c]), fun c => fin _ (by rw [if_pos (Classical.not_not.mp c)])⟩
end SEM
