/-! CODE: the letters in another order. -/
theorem cod_let {k k' n : Int} {L L' tu si : Int → Int} (ht : ∀ l, 0 ≤ l → l < k → (0 ≤ tu l ∧ tu l < k') ∧ L' (tu l) = L l ∧ si (tu l) = l) : ∀ (f : Nat) {S : Int → Prop} {r : Int → Int}, cod k L n f S r → cod k' L' n f S r := by
  intro f
  induction f with
  | zero => intro S r h; exact h
  | succ f ih =>
    intro S r h
    obtain ⟨h0, h⟩ := h
    refine ⟨h0, ?_⟩
    rcases h with h | ⟨P, q, h1, h2, h3, h4⟩
    · exact Or.inl h
    · have inj : ∀ i j, 0 ≤ i → i < n → S i → 0 ≤ j → j < n → S j → tu (P i) = tu (P j) → P i = P j := fun i j i0 i1 hi j0 j1 hj e => by
        rw [← (ht _ (h1 i i0 i1 hi).1 (h1 i i0 i1 hi).2).2.2, ← (ht _ (h1 j j0 j1 hj).1 (h1 j j0 j1 hj).2).2.2, e]
      refine Or.inr ⟨fun x => tu (P x), fun l => q (si l), fun j j0 j1 hj => (ht _ (h1 j j0 j1 hj).1 (h1 j j0 j1 hj).2).1, fun l => ?_, fun j j0 j1 hj => ?_, fun j j0 j1 hj => ?_⟩
      · obtain ⟨i, i0, i1, hi, -⟩ := h2 0
        obtain ⟨j, j0, j1, hj, hne⟩ := h2 (P i)
        by_cases c : tu (P i) = l
        · exact ⟨j, j0, j1, hj, fun e => hne (inj j i j0 j1 hj i0 i1 hi ((show tu (P j) = l from e).trans c.symm))⟩
        · exact ⟨i, i0, i1, hi, c⟩
      · show cod k' L' n f (fun x => S x ∧ tu (P x) = tu (P j)) (q (si (tu (P j))))
        rw [(ht _ (h1 j j0 j1 hj).1 (h1 j j0 j1 hj).2).2.2]
        refine cod_ext f (fun x x0 x1 => ⟨fun z => ⟨z.1, inj x j x0 x1 z.1 j0 j1 hj z.2⟩, fun z => ⟨z.1, by rw [z.2]⟩⟩) (fun _ _ _ => rfl) (ih (h3 j j0 j1 hj))
      · show r j = q (si (tu (P j))) j + L' (tu (P j))
        obtain ⟨-, e1, e2⟩ := ht _ (h1 j j0 j1 hj).1 (h1 j j0 j1 hj).2
        rw [e2, e1]
        exact h4 j j0 j1 hj
