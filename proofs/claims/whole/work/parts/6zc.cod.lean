/-! CODE: the rows of codings of a set of things. k letters of the lengths L; places 0 .. n - 1; by fuel. -/
def cod (k : Int) (L : Int → Int) (n : Int) : Nat → (Int → Prop) → (Int → Int) → Prop
  | 0, _, _ => False
  | f + 1, S, r => (∀ j, 0 ≤ j → j < n → ¬ S j → r j = 0) ∧ ((∃ i, 0 ≤ i ∧ i < n ∧ (∀ j, 0 ≤ j → j < n → (S j ↔ j = i)) ∧ r i = 0) ∨ ∃ (P : Int → Int) (q : Int → Int → Int), (∀ j, 0 ≤ j → j < n → S j → 0 ≤ P j ∧ P j < k) ∧ (∀ l, ∃ j, 0 ≤ j ∧ j < n ∧ S j ∧ P j ≠ l) ∧ (∀ j, 0 ≤ j → j < n → S j → cod k L n f (fun x => S x ∧ P x = P j) (q (P j))) ∧ ∀ j, 0 ≤ j → j < n → S j → r j = q (P j) j + L (P j))
section COD
variable {k n : Int} {L : Int → Int}
theorem cod_succ : ∀ (f : Nat) (S : Int → Prop) (r : Int → Int), cod k L n f S r → cod k L n (f + 1) S r := by
  intro f
  induction f with
  | zero => intro S r h; exact absurd h (by unfold cod; exact fun z => z)
  | succ f ih =>
    intro S r h
    obtain ⟨h0, h⟩ := h
    refine ⟨h0, ?_⟩
    rcases h with h | ⟨P, q, h1, h2, h3, h4⟩
    · exact Or.inl h
    · exact Or.inr ⟨P, q, h1, h2, fun j j0 j1 hj => ih _ _ (h3 j j0 j1 hj), h4⟩
theorem cod_mono {f g : Nat} (h : f ≤ g) {S : Int → Prop} {r : Int → Int} (hc : cod k L n f S r) : cod k L n g S r := by
  induction g with
  | zero =>
    have : f = 0 := by omega
    subst this; exact hc
  | succ g ih =>
    by_cases c : f = g + 1
    · subst c; exact hc
    · exact cod_succ _ _ _ (ih (by omega))
/-- sets and rows alike in the places -/
theorem cod_ext : ∀ (f : Nat) {S S' : Int → Prop} {r r' : Int → Int}, (∀ j, 0 ≤ j → j < n → (S' j ↔ S j)) → ke n r' r → cod k L n f S r → cod k L n f S' r' := by
  intro f
  induction f with
  | zero => intro S S' r r' _ _ h; exact h
  | succ f ih =>
    intro S S' r r' hS hr h
    obtain ⟨h0, h⟩ := h
    refine ⟨fun j j0 j1 hj => by rw [hr j j0 j1]; exact h0 j j0 j1 (fun z => hj ((hS j j0 j1).mpr z)), ?_⟩
    rcases h with ⟨i, i0, i1, h1, h2⟩ | ⟨P, q, h1, h2, h3, h4⟩
    · exact Or.inl ⟨i, i0, i1, fun j j0 j1 => (hS j j0 j1).trans (h1 j j0 j1), by rw [hr i i0 i1]; exact h2⟩
    · refine Or.inr ⟨P, q, fun j j0 j1 hj => h1 j j0 j1 ((hS j j0 j1).mp hj), fun l => ?_, fun j j0 j1 hj => ?_, fun j j0 j1 hj => by rw [hr j j0 j1]; exact h4 j j0 j1 ((hS j j0 j1).mp hj)⟩
      · obtain ⟨j, j0, j1, hj, hl⟩ := h2 l
        exact ⟨j, j0, j1, (hS j j0 j1).mpr hj, hl⟩
      · exact ih (fun x x0 x1 => ⟨fun z => ⟨(hS x x0 x1).mp z.1, z.2⟩, fun z => ⟨(hS x x0 x1).mpr z.1, z.2⟩⟩) (fun _ _ _ => rfl) (h3 j j0 j1 ((hS j j0 j1).mp hj))
/-- i and j exchanged -/
def ksg (i j : Int) : Int → Int := fun x => if x = j then i else if x = i then j else x
theorem ksg_b {i j x : Int} (hi : 0 ≤ i ∧ i < n) (hj : 0 ≤ j ∧ j < n) (hx : 0 ≤ x ∧ x < n) : 0 ≤ ksg i j x ∧ ksg i j x < n := by
  unfold ksg
  repeat' split
  all_goals omega
theorem ksg_2 (i j x : Int) : ksg i j (ksg i j x) = x := by
  unfold ksg
  repeat' split
  all_goals omega
theorem ksw_eq {r : Int → Int} {i j : Int} (x : Int) : ksw r i j x = r (ksg i j x) := by
  unfold ksw kup ksg
  by_cases c : x = j
  · rw [if_pos c, if_pos c]
  · rw [if_neg c, if_neg c]
    by_cases d : x = i
    · rw [if_pos d, if_pos d]
    · rw [if_neg d, if_neg d]
theorem cod_sg {i j : Int} (hi : 0 ≤ i ∧ i < n) (hj : 0 ≤ j ∧ j < n) : ∀ (f : Nat) {S : Int → Prop} {r : Int → Int}, cod k L n f S r → cod k L n f (fun x => S (ksg i j x)) (fun x => r (ksg i j x)) := by
  intro f
  induction f with
  | zero => intro S r h; exact h
  | succ f ih =>
    intro S r h
    obtain ⟨h0, h⟩ := h
    have b : ∀ x, 0 ≤ x → x < n → 0 ≤ ksg i j x ∧ ksg i j x < n := fun x x0 x1 => ksg_b hi hj ⟨x0, x1⟩
    refine ⟨fun x x0 x1 hx => h0 _ (b x x0 x1).1 (b x x0 x1).2 hx, ?_⟩
    rcases h with ⟨y, y0, y1, h1, h2⟩ | ⟨P, q, h1, h2, h3, h4⟩
    · refine Or.inl ⟨ksg i j y, (b y y0 y1).1, (b y y0 y1).2, fun x x0 x1 => ?_, by show r (ksg i j (ksg i j y)) = 0; rw [ksg_2]; exact h2⟩
      refine (h1 _ (b x x0 x1).1 (b x x0 x1).2).trans ⟨fun z => by rw [← z, ksg_2], fun z => by rw [z, ksg_2]⟩
    · refine Or.inr ⟨fun x => P (ksg i j x), fun l x => q l (ksg i j x), fun x x0 x1 hx => h1 _ (b x x0 x1).1 (b x x0 x1).2 hx, fun l => ?_, fun x x0 x1 hx => ?_, fun x x0 x1 hx => h4 _ (b x x0 x1).1 (b x x0 x1).2 hx⟩
      · obtain ⟨x, x0, x1, hx, hl⟩ := h2 l
        exact ⟨ksg i j x, (b x x0 x1).1, (b x x0 x1).2, by simp only [ksg_2]; exact hx, by simp only [ksg_2]; exact hl⟩
      · exact ih (h3 _ (b x x0 x1).1 (b x x0 x1).2 hx)
/-- the whole set: closed under exchange -/
theorem cod_sw {i j : Int} (hi : 0 ≤ i ∧ i < n) (hj : 0 ≤ j ∧ j < n) {f : Nat} {r : Int → Int} (h : cod k L n f (fun _ => True) r) : cod k L n f (fun _ => True) (ksw r i j) :=
  cod_ext f (fun _ _ _ => Iff.rfl) (fun x _ _ => ksw_eq x) (cod_sg hi hj f h)
end COD
