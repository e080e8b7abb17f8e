/-! CODE: the best of a set out of the bests of its parts. -/
def Cod (k : Int) (L : Int → Int) (n : Nat) (S : Int → Prop) (r : Int → Int) : Prop := ∃ f, cod k L n f S r
/-- who goes to which letter: not all to one -/
def ksp (k : Int) (n : Nat) (S : Int → Prop) (P : Int → Int) : Prop := (∀ j, 0 ≤ j → j < (n : Int) → S j → 0 ≤ P j ∧ P j < k) ∧ ∀ l, ∃ j, 0 ≤ j ∧ j < (n : Int) ∧ S j ∧ P j ≠ l
theorem Cod_0 {k : Int} {L : Int → Int} {n : Nat} {S : Int → Prop} {r : Int → Int} (h : Cod k L n S r) {j : Int} (j0 : 0 ≤ j) (j1 : j < (n : Int)) (hj : ¬ S j) : r j = 0 := by
  obtain ⟨f, h⟩ := h
  cases f with
  | zero => exact absurd h (by unfold cod; exact fun z => z)
  | succ f => exact h.1 j j0 j1 hj
theorem kb_parts {w L : Int → Int} {k : Int} {n : Nat} {S : Int → Prop} {r : Int → Int} (hk : k ≤ 3) (hr : Cod k L n S r) (h2 : ∀ i, ∃ j, 0 ≤ j ∧ j < (n : Int) ∧ S j ∧ j ≠ i) (hp : ∀ P, ksp k n S P → ∀ i, 0 ≤ i → i < (n : Int) → S i → ∃ b, kb w n (Cod k L n (fun x => S x ∧ P x = P i)) b)
    (hm : ∀ P (b : Int → Int → Int) (t : Int → Int), ksp k n S P → (∀ i, 0 ≤ i → i < (n : Int) → S i → kb w n (Cod k L n (fun x => S x ∧ P x = P i)) (b (P i))) → (∀ j, 0 ≤ j → j < (n : Int) → S j → t j = b (P j) j + L (P j)) → (∀ j, 0 ≤ j → j < (n : Int) → ¬ S j → t j = 0) → kl w n r t) : kb w n (Cod k L n S) r := by
  refine ⟨hr, fun s hs => ?_⟩
  obtain ⟨f, hs⟩ := hs
  cases f with
  | zero => exact absurd hs (by unfold cod; exact fun z => z)
  | succ f =>
    obtain ⟨s0, hs⟩ := hs
    rcases hs with ⟨i, i0, i1, g1, -⟩ | ⟨P, q, g1, g2, g3, g4⟩
    · obtain ⟨j, j0, j1, hj, hne⟩ := h2 i
      exact absurd ((g1 j j0 j1).mp hj) hne
    · have hch : ∀ l, ∃ b : Int → Int, ∀ i, 0 ≤ i → i < (n : Int) → S i → P i = l → kb w n (Cod k L n (fun x => S x ∧ P x = l)) b := by
        intro l
        by_cases c : ∃ i, 0 ≤ i ∧ i < (n : Int) ∧ S i ∧ P i = l
        · obtain ⟨i, i0, i1, hi, hl⟩ := c
          obtain ⟨b, hb⟩ := hp P ⟨g1, g2⟩ i i0 i1 hi
          rw [hl] at hb
          exact ⟨b, fun _ _ _ _ _ => hb⟩
        · exact ⟨fun _ => 0, fun i i0 i1 hi hl => absurd ⟨i, i0, i1, hi, hl⟩ c⟩
      obtain ⟨b, hb⟩ := Classical.axiomOfChoice hch
      have htt : ∀ j, ∃ y : Int, (S j → y = b (P j) j + L (P j)) ∧ (¬ S j → y = 0) := fun j => by
        by_cases c : S j
        · exact ⟨_, fun _ => rfl, fun z => absurd c z⟩
        · exact ⟨0, fun z => absurd z c, fun _ => rfl⟩
      obtain ⟨t, ht⟩ := Classical.axiomOfChoice htt
      have hbi : ∀ i, 0 ≤ i → i < (n : Int) → S i → kb w n (Cod k L n (fun x => S x ∧ P x = P i)) (b (P i)) := fun i i0 i1 hi => hb (P i) i i0 i1 hi rfl
      refine kl_trans (hm P b t ⟨g1, g2⟩ hbi (fun j _ _ hj => (ht j).1 hj) (fun j _ _ hj => (ht j).2 hj)) ?_
      refine kl_three (q := q) (b := b) (P := P) (S := S) (L := L) (fun j j0 j1 hj => ?_) g4 s0 (fun j _ _ hj => (ht j).1 hj) (fun j _ _ hj => (ht j).2 hj) (fun i i0 i1 hi j j0 j1 hj => ⟨?_, ?_⟩) (fun i i0 i1 hi => (hbi i i0 i1 hi).2 _ ⟨f, g3 i i0 i1 hi⟩)
      · have := g1 j j0 j1 hj; omega
      · exact Cod_0 (hbi i i0 i1 hi).1 j0 j1 hj
      · exact Cod_0 ⟨f, g3 i i0 i1 hi⟩ j0 j1 hj
