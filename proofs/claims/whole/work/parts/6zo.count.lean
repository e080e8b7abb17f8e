/-! CODE: counting. -/
theorem php : ∀ (n : Nat) (f : Int → Int), (∀ i, 0 ≤ i → i < (n : Int) → 0 ≤ f i ∧ f i < (n : Int)) → (∀ i j, 0 ≤ i → i < (n : Int) → 0 ≤ j → j < (n : Int) → f i = f j → i = j) → ∀ y, 0 ≤ y → y < (n : Int) → ∃ x, 0 ≤ x ∧ x < (n : Int) ∧ f x = y := by
  intro n
  induction n with
  | zero => intro f _ _ y y0 y1; omega
  | succ n ih =>
    intro f hr hi y y0 y1
    have hz := hr n (by omega) (by omega)
    have ne : ∀ i, 0 ≤ i → i < (n : Int) → f i ≠ f n := fun i i0 i1 e => by
      have := hi i n i0 (by omega) (by omega) (by omega) e; omega
    have g := ih (fun i => if f i = n then f n else f i) (fun i i0 i1 => by
      have h1 := hr i i0 (by omega)
      have h2 := ne i i0 i1
      show 0 ≤ (if f i = (n : Int) then f n else f i) ∧ (if f i = (n : Int) then f n else f i) < (n : Int)
      by_cases c : f i = n
      · rw [if_pos c]; omega
      · rw [if_neg c]; omega) (fun i j i0 i1 j0 j1 e => by
      have e' : (if f i = (n : Int) then f n else f i) = (if f j = (n : Int) then f n else f j) := e
      by_cases ci : f i = n
      · rw [if_pos ci] at e'
        by_cases cj : f j = n
        · exact hi i j i0 (by omega) j0 (by omega) (ci.trans cj.symm)
        · rw [if_neg cj] at e'
          exact absurd e'.symm (ne j j0 j1)
      · rw [if_neg ci] at e'
        by_cases cj : f j = n
        · rw [if_pos cj] at e'
          exact absurd e' (ne i i0 i1)
        · rw [if_neg cj] at e'
          exact hi i j i0 (by omega) j0 (by omega) e')
    by_cases cy : y = n
    · by_cases cz : f n = n
      · exact ⟨n, by omega, by omega, cz.trans cy.symm⟩
      · obtain ⟨x, x0, x1, hx⟩ := g (f n) (by omega) (by omega)
        have hx' : (if f x = (n : Int) then f n else f x) = f n := hx
        by_cases c : f x = n
        · exact ⟨x, x0, by omega, c.trans cy.symm⟩
        · rw [if_neg c] at hx'
          exact absurd hx' (ne x x0 x1)
    · obtain ⟨x, x0, x1, hx⟩ := g y y0 (by omega)
      have hx' : (if f x = (n : Int) then f n else f x) = y := hx
      by_cases c : f x = n
      · rw [if_pos c] at hx'
        exact ⟨n, by omega, by omega, hx'⟩
      · rw [if_neg c] at hx'
        exact ⟨x, x0, by omega, hx'⟩
/-- no way of so many into fewer -/
theorem php_no {n : Nat} {f : Int → Int} {M : Int} (c : 0 ≤ M) (hM : M < (n : Int)) (hr : ∀ i, 0 ≤ i → i < (n : Int) → 0 ≤ f i ∧ f i < M) (hi : ∀ i j, 0 ≤ i → i < (n : Int) → 0 ≤ j → j < (n : Int) → f i = f j → i = j) : False := by
  obtain ⟨x, x0, x1, hx⟩ := php n f (fun i i0 i1 => by have := hr i i0 i1; omega) hi M c hM
  have := hr x x0 x1
  omega
/-- two that go to one place -/
theorem php_two {n : Nat} {f : Int → Int} {M : Int} (c : 0 ≤ M) (hM : M < (n : Int)) (hr : ∀ i, 0 ≤ i → i < (n : Int) → 0 ≤ f i ∧ f i < M) : ∃ i j, (0 ≤ i ∧ i < (n : Int)) ∧ (0 ≤ j ∧ j < (n : Int)) ∧ i ≠ j ∧ f i = f j := by
  refine Classical.byContradiction fun hno => php_no c hM hr (fun i j i0 i1 j0 j1 e => ?_)
  exact Classical.byContradiction fun hne => hno ⟨i, j, ⟨i0, i1⟩, ⟨j0, j1⟩, hne, e⟩
/-- all places are met: there are no more of them -/
theorem php_on {n : Nat} {f : Int → Int} {M : Int} (hs : ∀ x, 0 ≤ x → x < M → ∃ j, 0 ≤ j ∧ j < (n : Int) ∧ f j = x) : M ≤ (n : Int) := by
  refine Classical.byContradiction fun hno => ?_
  have hch : ∀ x : Int, ∃ j : Int, 0 ≤ x → x < M → 0 ≤ j ∧ j < (n : Int) ∧ f j = x := fun x => by
    by_cases c : 0 ≤ x ∧ x < M
    · obtain ⟨j, hj⟩ := hs x c.1 c.2; exact ⟨j, fun _ _ => hj⟩
    · exact ⟨0, fun a b => absurd ⟨a, b⟩ c⟩
  obtain ⟨h, hh⟩ := Classical.axiomOfChoice hch
  exact php_no (n := M.toNat) (f := h) (M := (n : Int)) (by omega) (by omega) (fun i i0 i1 => by have := hh i i0 (by omega); omega) (fun i j i0 i1 j0 j1 e => by
    have h1 := (hh i i0 (by omega)).2.2
    have h2 := (hh j j0 (by omega)).2.2
    rw [← h1, ← h2, e])
/-- as many as there are places, all met: each but once -/
theorem php_in {n : Nat} {f : Int → Int} (hr : ∀ i, 0 ≤ i → i < (n : Int) → 0 ≤ f i ∧ f i < (n : Int)) (hs : ∀ x, 0 ≤ x → x < (n : Int) → ∃ j, 0 ≤ j ∧ j < (n : Int) ∧ f j = x) : ∀ i j, 0 ≤ i → i < (n : Int) → 0 ≤ j → j < (n : Int) → f i = f j → i = j := by
  have hch : ∀ x : Int, ∃ j : Int, 0 ≤ x → x < (n : Int) → 0 ≤ j ∧ j < (n : Int) ∧ f j = x := fun x => by
    by_cases c : 0 ≤ x ∧ x < (n : Int)
    · obtain ⟨j, hj⟩ := hs x c.1 c.2; exact ⟨j, fun _ _ => hj⟩
    · exact ⟨0, fun a b => absurd ⟨a, b⟩ c⟩
  obtain ⟨h, hh⟩ := Classical.axiomOfChoice hch
  have ho := php n h (fun i i0 i1 => by have := hh i i0 i1; omega) (fun i j i0 i1 j0 j1 e => by
    have h1 := (hh i i0 i1).2.2
    have h2 := (hh j j0 j1).2.2
    rw [← h1, ← h2, e])
  intro i j i0 i1 j0 j1 e
  obtain ⟨x, x0, x1, hx⟩ := ho i i0 i1
  obtain ⟨y, y0, y1, hy⟩ := ho j j0 j1
  have h1 := (hh x x0 x1).2.2
  have h2 := (hh y y0 y1).2.2
  rw [hx] at h1
  rw [hy] at h2
  rw [← hx, ← hy, ← h1, ← h2, e]
/-- no row is below nought -/
theorem cod_nn {k n : Int} {L : Int → Int} (hL : ∀ l, 0 ≤ l → l < k → 0 ≤ L l) : ∀ (f : Nat) {S : Int → Prop} {r : Int → Int}, cod k L n f S r → ∀ j, 0 ≤ j → j < n → 0 ≤ r j := by
  intro f
  induction f with
  | zero => intro S r h; exact absurd h (by unfold cod; exact fun z => z)
  | succ f ih =>
    intro S r h j j0 j1
    obtain ⟨h0, h⟩ := h
    by_cases cs : S j
    · rcases h with ⟨i, i0, i1, g1, g2⟩ | ⟨P, q, g1, g2, g3, g4⟩
      · rw [(g1 j j0 j1).mp cs, g2]; exact Int.le_refl _
      · have e1 := ih (g3 j j0 j1 cs) j j0 j1
        have e2 := hL (P j) (g1 j j0 j1 cs).1 (g1 j j0 j1 cs).2
        rw [g4 j j0 j1 cs]
        omega
    · rw [h0 j j0 j1 cs]; exact Int.le_refl _
