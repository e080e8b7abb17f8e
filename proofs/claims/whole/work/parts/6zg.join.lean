/-! CODE: a coding put together; of one thing. -/
theorem all_fuel {Q : Int → Nat → Prop} (hm : ∀ i f g, f ≤ g → Q i f → Q i g) : ∀ n : Nat, (∀ i, 0 ≤ i → i < (n : Int) → ∃ f, Q i f) → ∃ F, ∀ i, 0 ≤ i → i < (n : Int) → Q i F := by
  intro n
  induction n with
  | zero => intro _; exact ⟨0, fun i i0 i1 => by omega⟩
  | succ n ih =>
    intro h
    obtain ⟨F, hF⟩ := ih (fun i i0 i1 => h i i0 (by omega))
    obtain ⟨f, hf⟩ := h n (by omega) (by omega)
    refine ⟨F + f, fun i i0 i1 => ?_⟩
    by_cases c : i = n
    · rw [c]; exact hm _ _ _ (by omega) hf
    · exact hm _ _ _ (by omega) (hF i i0 (by omega))
theorem Cod_join {k : Int} {L : Int → Int} {n : Nat} {S : Int → Prop} {P t : Int → Int} {b : Int → Int → Int} (hP : ksp k n S P) (hb : ∀ i, 0 ≤ i → i < (n : Int) → S i → Cod k L n (fun x => S x ∧ P x = P i) (b (P i))) (ht : ∀ j, 0 ≤ j → j < (n : Int) → S j → t j = b (P j) j + L (P j)) (ht0 : ∀ j, 0 ≤ j → j < (n : Int) → ¬ S j → t j = 0) : Cod k L n S t := by
  obtain ⟨F, hF⟩ := all_fuel (Q := fun i f => S i → cod k L n f (fun x => S x ∧ P x = P i) (b (P i))) (fun i f g hfg h hs => cod_mono hfg (h hs)) n (fun i i0 i1 => by
    by_cases c : S i
    · obtain ⟨f, hf⟩ := hb i i0 i1 c
      exact ⟨f, fun _ => hf⟩
    · exact ⟨0, fun z => absurd z c⟩)
  exact ⟨F + 1, ht0, Or.inr ⟨P, b, hP.1, hP.2, fun j j0 j1 hj => hF j j0 j1 hj, ht⟩⟩
theorem Cod_one {k : Int} {L : Int → Int} {n : Nat} {S : Int → Prop} {r : Int → Int} {i : Int} (i0 : 0 ≤ i) (i1 : i < (n : Int)) (hS : ∀ j, 0 ≤ j → j < (n : Int) → (S j ↔ j = i)) (hr : ∀ j, 0 ≤ j → j < (n : Int) → r j = 0) : Cod k L n S r :=
  ⟨1, fun j j0 j1 _ => hr j j0 j1, Or.inl ⟨i, i0, i1, hS, hr i i0 i1⟩⟩
/-- of one thing: noughts, the only row -/
theorem kb_onething {w L : Int → Int} {k : Int} {n : Nat} {S : Int → Prop} {r : Int → Int} {i : Int} (i0 : 0 ≤ i) (i1 : i < (n : Int)) (hS : ∀ j, 0 ≤ j → j < (n : Int) → (S j ↔ j = i)) (hr : ∀ j, 0 ≤ j → j < (n : Int) → r j = 0) : kb w n (Cod k L n S) r := by
  refine ⟨Cod_one i0 i1 hS hr, fun s hs => ?_⟩
  obtain ⟨f, hs⟩ := hs
  cases f with
  | zero => exact absurd hs (by unfold cod; exact fun z => z)
  | succ f =>
    obtain ⟨s0, hs⟩ := hs
    rcases hs with ⟨y, y0, y1, g1, g2⟩ | ⟨P, q, g1, g2, g3, g4⟩
    · refine kl_ke (fun j j0 j1 => ?_)
      rw [hr j j0 j1]
      by_cases c : j = y
      · rw [c]; exact g2.symm
      · exact (s0 j j0 j1 (fun z => c ((g1 j j0 j1).mp z))).symm
    · obtain ⟨j, j0, j1, hj, hne⟩ := g2 (P i)
      exact absurd (by rw [(hS j j0 j1).mp hj]) hne
