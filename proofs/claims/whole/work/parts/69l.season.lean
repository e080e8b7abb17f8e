/-! SEASON: tallies. -/
section SEL
variable {m : am_M}
theorem cadd {r c P : Int} (hk : rk m 164 4 24) (hP : m 164 2 = P) (hr : 0 ≤ r ∧ r < P) (hc : 0 ≤ c ∧ c < 4) (K : am_KK) : M_X8_add 163 r c K m ↔ K 0 (am_st m 165 (r * 4 + c) (w32 (m 165 (r * 4 + c) + 1))) := by
  have r0 : am_rfv 163 0 = 164 := by decide +kernel
  unfold M_X8_add
  rw [r0, get_eq hk]
  have e : rget m 164 4 r c = m 165 (r * 4 + c) := by
    unfold rget
    rw [hP, if_pos ⟨hr, hc⟩]
    rfl
  rw [e, set_eq hk, hP, if_pos ⟨hr, hc⟩]
  rfl
/-- the tallies of both sides tell the same -/
def sn_T (m : am_M) (P : Int) : Prop := ∀ p, 0 ≤ p → p < P → m 165 (p * 4 + 0) = m 198 p ∧ m 165 (p * 4 + 1) = m 199 (3 * p + 1) ∧ m 165 (p * 4 + 2) = m 199 (3 * p + 2) ∧ m 165 (p * 4 + 3) = m 199 (3 * p)
/-- what stands at the end is told, PRAYER by PRAYER: T are the tallies of states -/
def sn_A (A : Int → Int) : Nat → (Int → Int) → Int → Int
  | 0, T => T
  | n + 1, T => wrA (sn_A A n T) (3 * A (7 * (n : Int)) + A (7 * (n : Int) + 5)) (w32 (sn_A A n T (3 * A (7 * (n : Int)) + A (7 * (n : Int) + 5)) + 1))
theorem mstanding {A A0 : Int → Int} {g : Int} (hA : m 170 = A) (h24 : 0 ≤ A 168 ∧ A 168 ≤ 24) (hP : ∀ i, 0 ≤ i → i < A 168 → (0 ≤ A (7 * i) ∧ A (7 * i) < 6) ∧ 0 ≤ A (7 * i + 5) ∧ A (7 * i + 5) ≤ 2) (h1 : ∀ x, ¬ (0 ≤ x ∧ x < 170) → A x = A0 x) (h2 : ∀ x, 0 ≤ x → x < 170 → m 173 x = A0 x) {K : am_KK}
    (hK : ∀ m', (∀ o x, o ≠ 170 → o ≠ 199 → ¬ (o = 168 ∧ x = 0) → m' o x = m o x) → m' 170 = A0 → m' 168 0 = 0 → m' 199 = sn_A A (A 168).toNat (m 199) → K g m') : M_X12_season_L4 168 g 0 K m := by
  unfold M_X12_season_L4
  refine ⟨fun j i m1 => 0 ≤ i ∧ i ≤ A 168 ∧ j = (A 168 - i).toNat ∧ (∀ o x, o ≠ 199 → m1 o x = m o x) ∧ m1 199 = sn_A A i.toNat (m 199), ⟨_, by omega, by omega, rfl, fun _ _ _ => rfl, rfl⟩, ?_⟩
  rintro j i m1 ⟨i0, i1, rfl, f1, e1⟩
  have e170 : m1 170 = A := by rw [← hA]; exact funext fun x => f1 _ _ (by omega)
  unfold M_X12_season_L4B
  rw [prayers_eq, e170]
  refine ⟨fun q => ?_, fun q => ?_⟩
  · have : i = A 168 := by omega
    subst this
    refine mtakes (A := A0) (fun x hx => by rw [e170]; exact h1 x hx) (fun x x0 x1 => by rw [f1 _ _ (by omega)]; exact h2 x x0 x1) (fun m2 f2 r2 => ?_)
    rw [good_eq]
    refine hK _ (fun o x h1 h2 h3 => by rw [am_st_ne _ h3, f2 o x h1]; exact f1 o x h2) (by rw [st_rne _ _ _ (by omega)]; exact r2) (am_st_same _ _ _ _) ?_
    rw [st_rne _ _ _ (by omega), ← e1]
    exact funext fun x => f2 _ _ (by omega)
  · obtain ⟨p1, p2⟩ := hP i i0 (by omega)
    rw [fact_eq (by omega) (by omega), fact_eq (by omega) (by omega), e170, Int.add_zero]
    simp only [am_rf_all, am_ln_all, forall_eq]
    rw [w32_of (z := 3 * A (7 * i)) (by omega) (by omega), w32_of (z := 3 * A (7 * i) + A (7 * i + 5)) (by omega) (by omega), w32_of (z := i + 1) (by omega) (by omega)]
    refine ⟨by omega, by omega, _, by omega, by omega, by omega, rfl, fun o x ho => by rw [am_st_ne _ (by omega)]; exact f1 o x ho, ?_⟩
    rw [show (i + 1).toNat = i.toNat + 1 by omega, sn_A, show ((i.toNat : Nat) : Int) = i by omega, st_row, e1]
end SEL
