/-! CODE: a part's row made better makes the whole better. -/
theorem kc_add {w r r' b q : Int → Int} : ∀ {n : Nat}, (∀ j, 0 ≤ j → j < (n : Int) → r' j = r j + (b j - q j)) → kc w r' n = kc w r n + (kc w b n - kc w q n) := by
  intro n
  induction n with
  | zero => intro _; rfl
  | succ n ih =>
    intro h
    rw [kc, kc, kc, kc, ih (fun j j0 j1 => h j j0 (by omega)), h n (by omega) (by omega), Int.mul_add, Int.mul_sub]
    omega
theorem kl_add {w r r' b q : Int → Int} {n : Nat} (h : ∀ j, 0 ≤ j → j < (n : Int) → r' j = r j + (b j - q j)) (g : kl w n b q) : kl w n r' r := by
  have hc := kc_add (w := w) h
  rcases g with g | ⟨g, g'⟩
  · exact Or.inl (by omega)
  · refine Or.inr ⟨by omega, ?_⟩
    rcases g' with ⟨i, i0, i1, g1, g2⟩ | g'
    · refine Or.inl ⟨i, i0, i1, fun x x0 x1 => ?_, ?_⟩
      · rw [h x x0 (by omega), g1 x x0 x1]; omega
      · rw [h i i0 i1]; omega
    · refine Or.inr (fun x x0 x1 => ?_)
      rw [h x x0 x1, g' x x0 x1]; omega
theorem kl_ke {w r s : Int → Int} {n : Nat} (h : ke n r s) : kl w n r s := Or.inr ⟨kc_e h, Or.inr h⟩
theorem kl_three {w L r r' P : Int → Int} {n : Nat} {S : Int → Prop} {q b : Int → Int → Int} (hP : ∀ j, 0 ≤ j → j < (n : Int) → S j → P j = 0 ∨ P j = 1 ∨ P j = 2) (hr : ∀ j, 0 ≤ j → j < (n : Int) → S j → r j = q (P j) j + L (P j)) (hr0 : ∀ j, 0 ≤ j → j < (n : Int) → ¬ S j → r j = 0) (hr' : ∀ j, 0 ≤ j → j < (n : Int) → S j → r' j = b (P j) j + L (P j)) (hr0' : ∀ j, 0 ≤ j → j < (n : Int) → ¬ S j → r' j = 0)
    (hz : ∀ i, 0 ≤ i → i < (n : Int) → S i → ∀ j, 0 ≤ j → j < (n : Int) → ¬ (S j ∧ P j = P i) → b (P i) j = 0 ∧ q (P i) j = 0) (hb : ∀ i, 0 ≤ i → i < (n : Int) → S i → kl w n (b (P i)) (q (P i))) : kl w n r' r := by
  have step : ∀ l : Int, ∃ d : Int → Int, (∀ j, 0 ≤ j → j < (n : Int) → S j → P j = l → d j = b l j - q l j) ∧ (∀ j, 0 ≤ j → j < (n : Int) → ¬ (S j ∧ P j = l) → d j = 0) ∧ ∀ t : Int → Int, kl w n (fun j => t j + d j) t := by
    intro l
    by_cases c : ∃ i, 0 ≤ i ∧ i < (n : Int) ∧ S i ∧ P i = l
    · obtain ⟨i, i0, i1, hi, hl⟩ := c
      subst hl
      refine ⟨fun j => b (P i) j - q (P i) j, fun _ _ _ _ _ => rfl, fun j j0 j1 hj => ?_, fun t => kl_add (fun _ _ _ => rfl) (hb i i0 i1 hi)⟩
      obtain ⟨z1, z2⟩ := hz i i0 i1 hi j j0 j1 hj
      simp only [z1, z2]; decide
    · exact ⟨fun _ => 0, fun j j0 j1 hj hl => absurd ⟨j, j0, j1, hj, hl⟩ c, fun _ _ _ _ => rfl, fun t => kl_ke (fun j _ _ => by show t j + 0 = t j; omega)⟩
  obtain ⟨d0, a0, z0, k0⟩ := step 0
  obtain ⟨d1, a1, z1, k1⟩ := step 1
  obtain ⟨d2, a2, z2, k2⟩ := step 2
  refine kl_trans (kl_ke (s := fun j => (r j + d0 j + d1 j) + d2 j) (fun j j0 j1 => ?_)) (kl_trans (k2 (fun j => r j + d0 j + d1 j)) (kl_trans (k1 (fun j => r j + d0 j)) (k0 r)))
  show r' j = r j + d0 j + d1 j + d2 j
  by_cases hj : S j
  · rw [hr' j j0 j1 hj, hr j j0 j1 hj]
    rcases hP j j0 j1 hj with hp | hp | hp
    · rw [a0 j j0 j1 hj hp, z1 j j0 j1 (by omega), z2 j j0 j1 (by omega), hp]; omega
    · rw [z0 j j0 j1 (by omega), a1 j j0 j1 hj hp, z2 j j0 j1 (by omega), hp]; omega
    · rw [z0 j j0 j1 (by omega), z1 j j0 j1 (by omega), a2 j j0 j1 hj hp, hp]; omega
  · rw [hr0' j j0 j1 hj, hr0 j j0 j1 hj, z0 j j0 j1 (fun z => hj z.1), z1 j j0 j1 (fun z => hj z.1), z2 j j0 j1 (fun z => hj z.1)]
    rfl
