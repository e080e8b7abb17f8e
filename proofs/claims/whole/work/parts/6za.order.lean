/-! CODE: rows, by cost and then by the first difference. -/
/-- the first difference is smaller -/
def kx (n : Int) (r s : Int → Int) : Prop := ∃ i, 0 ≤ i ∧ i < n ∧ (∀ j, 0 ≤ j → j < i → r j = s j) ∧ r i < s i
/-- alike so far -/
def ke (n : Int) (r s : Int → Int) : Prop := ∀ j, 0 ≤ j → j < n → r j = s j
def kc (w r : Int → Int) : Nat → Int
  | 0 => 0
  | n + 1 => kc w r n + w n * r n
/-- cost, then row -/
def kl (w : Int → Int) (n : Nat) (r s : Int → Int) : Prop := kc w r n < kc w s n ∨ (kc w r n = kc w s n ∧ (kx n r s ∨ ke n r s))
theorem kx_tri (r s : Int → Int) : ∀ n : Nat, kx n r s ∨ ke n r s ∨ kx n s r := by
  intro n
  induction n with
  | zero => exact Or.inr (Or.inl (fun j j0 j1 => by omega))
  | succ n ih =>
    rcases ih with ⟨i, i0, i1, h1, h2⟩ | h | ⟨i, i0, i1, h1, h2⟩
    · exact Or.inl ⟨i, i0, by omega, h1, h2⟩
    · by_cases c : r n < s n
      · exact Or.inl ⟨n, by omega, by omega, fun j j0 j1 => h j j0 j1, c⟩
      · by_cases c2 : s n < r n
        · exact Or.inr (Or.inr ⟨n, by omega, by omega, fun j j0 j1 => (h j j0 j1).symm, c2⟩)
        · refine Or.inr (Or.inl (fun j j0 j1 => ?_))
          by_cases cj : j = n
          · rw [cj]; omega
          · exact h j j0 (by omega)
    · exact Or.inr (Or.inr ⟨i, i0, by omega, h1, h2⟩)
theorem kx_trans {n : Int} {r s t : Int → Int} (h : kx n r s) (g : kx n s t) : kx n r t := by
  obtain ⟨i, i0, i1, h1, h2⟩ := h
  obtain ⟨j, j0, j1, g1, g2⟩ := g
  by_cases c : i < j
  · exact ⟨i, i0, i1, fun x x0 x1 => by rw [h1 x x0 x1]; exact g1 x x0 (by omega), by rw [← g1 i i0 c]; exact h2⟩
  · by_cases c2 : i = j
    · subst c2
      exact ⟨i, i0, i1, fun x x0 x1 => by rw [h1 x x0 x1]; exact g1 x x0 x1, by omega⟩
    · exact ⟨j, j0, j1, fun x x0 x1 => by rw [h1 x x0 (by omega)]; exact g1 x x0 x1, by rw [h1 j j0 (by omega)]; exact g2⟩
theorem kx_ne {n : Int} {r s : Int → Int} (h : kx n r s) : ¬ ke n r s := by
  obtain ⟨i, i0, i1, h1, h2⟩ := h
  intro e
  have := e i i0 i1
  omega
theorem kx_irr {n : Int} {r : Int → Int} (h : kx n r r) : False := kx_ne h (fun _ _ _ => rfl)
theorem kx_el {n : Int} {r r' s s' : Int → Int} (h : kx n r s) (e1 : ke n r' r) (e2 : ke n s' s) : kx n r' s' := by
  obtain ⟨i, i0, i1, h1, h2⟩ := h
  exact ⟨i, i0, i1, fun x x0 x1 => by rw [e1 x x0 (by omega), e2 x x0 (by omega)]; exact h1 x x0 x1, by rw [e1 i i0 i1, e2 i i0 i1]; exact h2⟩
theorem kc_e {w r s : Int → Int} : ∀ {n : Nat}, ke n r s → kc w r n = kc w s n := by
  intro n
  induction n with
  | zero => intro _; rfl
  | succ n ih =>
    intro h
    rw [kc, kc, ih (fun j j0 j1 => h j j0 (by omega)), h n (by omega) (by omega)]
theorem kl_refl (w : Int → Int) (n : Nat) (r : Int → Int) : kl w n r r := Or.inr ⟨rfl, Or.inr (fun _ _ _ => rfl)⟩
theorem kl_total (w : Int → Int) (n : Nat) (r s : Int → Int) : kl w n r s ∨ kl w n s r := by
  unfold kl
  rcases kx_tri r s n with h | h | h
  · by_cases c : kc w r n < kc w s n
    · exact Or.inl (Or.inl c)
    · by_cases c2 : kc w s n < kc w r n
      · exact Or.inr (Or.inl c2)
      · exact Or.inl (Or.inr ⟨by omega, Or.inl h⟩)
  · exact Or.inl (Or.inr ⟨kc_e h, Or.inr h⟩)
  · by_cases c : kc w r n < kc w s n
    · exact Or.inl (Or.inl c)
    · by_cases c2 : kc w s n < kc w r n
      · exact Or.inr (Or.inl c2)
      · exact Or.inr (Or.inr ⟨by omega, Or.inl h⟩)
theorem kl_trans {w : Int → Int} {n : Nat} {r s t : Int → Int} (h : kl w n r s) (g : kl w n s t) : kl w n r t := by
  unfold kl at *
  rcases h with h | ⟨h, h'⟩
  · rcases g with g | ⟨g, -⟩ <;> exact Or.inl (by omega)
  · rcases g with g | ⟨g, g'⟩
    · exact Or.inl (by omega)
    · refine Or.inr ⟨by omega, ?_⟩
      rcases h' with h' | h'
      · rcases g' with g' | g'
        · exact Or.inl (kx_trans h' g')
        · exact Or.inl (kx_el h' (fun _ _ _ => rfl) (fun j j0 j1 => (g' j j0 j1).symm))
      · rcases g' with g' | g'
        · exact Or.inl (kx_el g' h' (fun _ _ _ => rfl))
        · exact Or.inr (fun j j0 j1 => by rw [h' j j0 j1]; exact g' j j0 j1)
/-- the best is one row -/
theorem kl_anti {w : Int → Int} {n : Nat} {r s : Int → Int} (h : kl w n r s) (g : kl w n s r) : ke n r s := by
  unfold kl at *
  rcases h with h | ⟨h, h'⟩
  · rcases g with g | ⟨g, -⟩ <;> omega
  · rcases g with g | ⟨g, g'⟩
    · omega
    · rcases h' with h' | h'
      · rcases g' with g' | g'
        · exact absurd (kx_trans h' g') kx_irr
        · exact fun j j0 j1 => (g' j j0 j1).symm
      · exact h'
/-- shorter everywhere is not worse -/
theorem kc_le {w r s : Int → Int} (hw : ∀ i, 0 ≤ i → 0 ≤ w i) : ∀ {n : Nat}, (∀ j, 0 ≤ j → j < (n : Int) → r j ≤ s j) → kc w r n ≤ kc w s n := by
  intro n
  induction n with
  | zero => intro _; exact Int.le_refl _
  | succ n ih =>
    intro h
    rw [kc, kc]
    have h1 := ih (fun j j0 j1 => h j j0 (by omega))
    have h2 := Int.mul_le_mul_of_nonneg_left (h n (by omega) (by omega)) (hw n (by omega))
    omega
theorem kl_le {w r s : Int → Int} {n : Nat} (hw : ∀ i, 0 ≤ i → 0 ≤ w i) (h : ∀ j, 0 ≤ j → j < (n : Int) → r j ≤ s j) : kl w n r s := by
  have h1 := kc_le hw h
  by_cases c : kc w r n < kc w s n
  · exact Or.inl c
  · refine Or.inr ⟨by omega, ?_⟩
    rcases kx_tri r s n with q | q | ⟨i, i0, i1, q1, q2⟩
    · exact Or.inl q
    · exact Or.inr q
    · have := h i i0 i1; omega
