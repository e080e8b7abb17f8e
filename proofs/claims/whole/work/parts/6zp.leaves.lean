/-! CODE, the model: leaves parted. -/
/-- leaf x of ℓ (so many) parted by so many letters -/
def lf_S (L : Int → Int) (many x by_ : Int) (l l' : Int → Int) : Prop := (∀ y, 0 ≤ y → y < many → y ≠ x → l' y = l y) ∧ l' x = l x + L 0 ∧ ∀ i, 1 ≤ i → i < by_ → l' (many - 1 + i) = l x + L i
/-- however things are given out to the leaves, it is a coding -/
def lf_G (k : Int) (L : Int → Int) (n : Nat) (many : Int) (l : Int → Int) : Prop := ∀ (g : Int → Int) (q : Int → Int → Int), (∀ j, 0 ≤ j → j < (n : Int) → 0 ≤ g j ∧ g j < many) → (∀ x, 0 ≤ x → x < many → ∃ j, 0 ≤ j ∧ j < (n : Int) ∧ g j = x) → (∀ j, 0 ≤ j → j < (n : Int) → Cod k L n (fun i => g i = g j) (q (g j))) → Cod k L n (fun _ => True) (fun j => l (g j) + q (g j) j)
/-- what these leaves may still come to is nowhere longer than s -/
def lf_H (k : Int) (L : Int → Int) (n : Nat) (many : Int) (l s : Int → Int) : Prop := ∃ (g : Int → Int) (q : Int → Int → Int), (∀ j, 0 ≤ j → j < (n : Int) → 0 ≤ g j ∧ g j < many) ∧ (∀ x, 0 ≤ x → x < many → ∃ j, 0 ≤ j ∧ j < (n : Int) ∧ g j = x) ∧ (∀ j, 0 ≤ j → j < (n : Int) → Cod k L n (fun i => g i = g j) (q (g j))) ∧ ∀ j, 0 ≤ j → j < (n : Int) → l (g j) + q (g j) j ≤ s j
theorem Cod_ext {k : Int} {L : Int → Int} {n : Nat} {S S' : Int → Prop} {r r' : Int → Int} (hS : ∀ j, 0 ≤ j → j < (n : Int) → (S' j ↔ S j)) (hr : ke n r' r) (h : Cod k L n S r) : Cod k L n S' r' := by
  obtain ⟨f, h⟩ := h
  exact ⟨f, cod_ext f hS hr h⟩
section LEA
variable {k : Int} {L : Int → Int} {n : Nat} {many x by_ : Int} {l l' s : Int → Int}
theorem lf_G1 (hn : 0 < n) (h0 : l 0 = 0) : lf_G k L n 1 l := by
  intro g q hr hs hc
  have g0 : ∀ j, 0 ≤ j → j < (n : Int) → g j = 0 := fun j j0 j1 => by have := hr j j0 j1; omega
  have h1 := hc 0 (by omega) (by omega)
  rw [g0 0 (by omega) (by omega)] at h1
  exact Cod_ext (fun j j0 j1 => ⟨fun _ => g0 j j0 j1, fun _ => trivial⟩) (fun j j0 j1 => by show l (g j) + q (g j) j = q 0 j; rw [g0 j j0 j1, h0]; omega) h1
theorem lf_H1 (hn : 0 < n) (h0 : l 0 = 0) (hs : Cod k L n (fun _ => True) s) : lf_H k L n 1 l s :=
  ⟨fun _ => 0, fun _ => s, fun j _ _ => ⟨Int.le_refl _, by show (0 : Int) < 1; decide⟩, fun y y0 y1 => ⟨0, by omega, by omega, by show (0 : Int) = y; omega⟩, fun j _ _ => Cod_ext (fun _ _ _ => ⟨fun _ => trivial, fun _ => rfl⟩) (fun _ _ _ => rfl) hs, fun j _ _ => by show l 0 + s j ≤ s j; rw [h0]; omega⟩
theorem lf_Gs (hx : 0 ≤ x ∧ x < many) (hb : 2 ≤ by_ ∧ by_ ≤ k) (hS : lf_S L many x by_ l l') (h : lf_G k L n many l) : lf_G k L n (many - 1 + by_) l' := by
  obtain ⟨s1, s2, s3⟩ := hS
  intro g' q' hr hs hc
  -- the old places
  have eg : ∃ g : Int → Int, ∀ j, (g' j < many → g j = g' j) ∧ (¬ g' j < many → g j = x) := ⟨fun j => if g' j < many then g' j else x, fun j => ⟨fun c => if_pos c, fun c => if_neg c⟩⟩
  obtain ⟨g, hg⟩ := eg
  have eP : ∃ P : Int → Int, ∀ j, (g' j < many → P j = 0) ∧ (¬ g' j < many → P j = g' j - (many - 1)) := ⟨fun j => if g' j < many then 0 else g' j - (many - 1), fun j => ⟨fun c => if_pos c, fun c => if_neg c⟩⟩
  obtain ⟨P, hP⟩ := eP
  have et : ∃ t : Int → Int, ∀ j, (g j = x → t j = q' (g' j) j + L (P j)) ∧ (¬ g j = x → t j = 0) := ⟨fun j => if g j = x then q' (g' j) j + L (P j) else 0, fun j => ⟨fun c => if_pos c, fun c => if_neg c⟩⟩
  obtain ⟨t, ht⟩ := et
  have eq' : ∃ q : Int → Int → Int, q x = t ∧ ∀ y, y ≠ x → q y = q' y := ⟨fun y => if y = x then t else q' y, if_pos rfl, fun y c => if_neg c⟩
  obtain ⟨q, hq1, hq2⟩ := eq'
  have range : ∀ j, 0 ≤ j → j < (n : Int) → 0 ≤ g j ∧ g j < many := fun j j0 j1 => by
    have h1 := hr j j0 j1
    by_cases c : g' j < many
    · rw [(hg j).1 c]; omega
    · rw [(hg j).2 c]; omega
  refine Cod_ext (fun _ _ _ => Iff.rfl) (fun j j0 j1 => ?_) (h g q range (fun y y0 y1 => ?_) (fun j j0 j1 => ?_))
  · show l' (g' j) + q' (g' j) j = l (g j) + q (g j) j
    have h1 := hr j j0 j1
    by_cases c : g' j < many
    · rw [(hg j).1 c]
      by_cases cx : g' j = x
      · rw [cx, s2, hq1, (ht j).1 (((hg j).1 c).trans cx), cx, (hP j).1 c]; omega
      · rw [s1 _ h1.1 c cx, hq2 _ cx]
    · rw [(hg j).2 c, hq1, (ht j).1 ((hg j).2 c), (hP j).2 c]
      have := s3 (g' j - (many - 1)) (by omega) (by omega)
      rw [show many - 1 + (g' j - (many - 1)) = g' j by omega] at this
      rw [this]; omega
  · obtain ⟨j, j0, j1, hj⟩ := hs y y0 (by omega)
    exact ⟨j, j0, j1, by rw [(hg j).1 (by omega)]; exact hj⟩
  · have h1 := hr j j0 j1
    by_cases cx : g j = x
    · rw [cx, hq1]
      refine Cod_join (S := fun i => g i = x) (P := P) (b := fun i => q' (if i = 0 then x else many - 1 + i)) ⟨fun i i0 i1 hi => ?_, fun i => ?_⟩ (fun i i0 i1 hi => ?_) (fun i i0 i1 hi => ?_) (fun i i0 i1 hi => (ht i).2 hi)
      · have := hr i i0 i1
        by_cases c : g' i < many
        · rw [(hP i).1 c]; omega
        · rw [(hP i).2 c]; omega
      · by_cases ci : i = 0
        · obtain ⟨y, y0, y1, hy⟩ := hs many (by omega) (by omega)
          exact ⟨y, y0, y1, (hg y).2 (by omega), by rw [(hP y).2 (by omega)]; omega⟩
        · obtain ⟨y, y0, y1, hy⟩ := hs x hx.1 (by omega)
          exact ⟨y, y0, y1, by show g y = x; rw [(hg y).1 (by omega)]; exact hy, by rw [(hP y).1 (by omega)]; omega⟩
      · have hi1 := hr i i0 i1
        by_cases c : g' i < many
        · have e1 : g' i = x := ((hg i).1 c).symm.trans hi
          have := hc i i0 i1
          rw [e1] at this
          rw [(hP i).1 c]
          refine Cod_ext (fun y y0 y1 => ⟨fun z => ?_, fun z => ?_⟩) (fun y _ _ => by show q' (if (0 : Int) = 0 then x else many - 1 + 0) y = q' x y; rw [if_pos rfl]) this
          · by_cases cy : g' y < many
            · exact ((hg y).1 cy).symm.trans z.1
            · have := z.2; rw [(hP y).2 cy] at this; omega
          · exact ⟨((hg y).1 (by omega)).trans z, (hP y).1 (by omega)⟩
        · have := hc i i0 i1
          have eP := (hP i).2 c
          refine Cod_ext (fun y y0 y1 => ⟨fun z => ?_, fun z => ?_⟩) (fun y _ _ => by show q' (if P i = 0 then x else many - 1 + P i) y = q' (g' i) y; rw [if_neg (by omega), show many - 1 + P i = g' i by omega]) this
          · by_cases cy : g' y < many
            · have := z.2; rw [(hP y).1 cy] at this; omega
            · have := z.2; rw [(hP y).2 cy] at this; omega
          · exact ⟨(hg y).2 (by omega), by rw [(hP y).2 (by omega), z]; omega⟩
      · rw [(ht i).1 hi]
        show q' (g' i) i + L (P i) = q' (if P i = 0 then x else many - 1 + P i) i + L (P i)
        have hi1 := hr i i0 i1
        by_cases c : g' i < many
        · rw [(hP i).1 c, if_pos rfl, show g' i = x from ((hg i).1 c).symm.trans hi]
        · have eP := (hP i).2 c
          rw [if_neg (by omega), show many - 1 + P i = g' i by omega]
    · have c : g' j < many := Classical.byContradiction fun c => cx ((hg j).2 c)
      have e1 := (hg j).1 c
      rw [hq2 _ cx, e1]
      refine Cod_ext (fun y y0 y1 => ⟨fun z => ?_, fun z => ?_⟩) (fun _ _ _ => rfl) (hc j j0 j1)
      · have z' : g y = g' j := z
        by_cases cy : g' y < many
        · exact ((hg y).1 cy).symm.trans z'
        · have := (hg y).2 cy; exact absurd (e1.trans (z'.symm.trans this)) cx
      · have z' : g' y = g' j := z
        show g y = g' j
        rw [(hg y).1 (by omega)]; exact z'
/-- which letters are used, told anew from nought on -/
theorem lf_use (hk : 2 ≤ k ∧ k ≤ 3) (hL : ∀ i j, 0 ≤ i → i ≤ j → j < k → L i ≤ L j) {u : Int → Prop} (hu : ∀ i, u i → 0 ≤ i ∧ i < k) (h2 : ∀ i, ∃ j, u j ∧ j ≠ i) : ∃ (b : Int) (rho lam : Int → Int), (2 ≤ b ∧ b ≤ k) ∧ (∀ i, u i → (0 ≤ rho i ∧ rho i < b) ∧ L (rho i) ≤ L i ∧ lam (rho i) = i) ∧ ∀ i, 0 ≤ i → i < b → u (lam i) ∧ rho (lam i) = i := by
  have hid : ∀ b : Int, 2 ≤ b → b ≤ k → (∀ i, u i ↔ 0 ≤ i ∧ i < b) → ∃ (b : Int) (rho lam : Int → Int), (2 ≤ b ∧ b ≤ k) ∧ (∀ i, u i → (0 ≤ rho i ∧ rho i < b) ∧ L (rho i) ≤ L i ∧ lam (rho i) = i) ∧ ∀ i, 0 ≤ i → i < b → u (lam i) ∧ rho (lam i) = i := fun b b0 b1 hb =>
    ⟨b, fun i => i, fun i => i, ⟨b0, b1⟩, fun i hi => ⟨(hb i).mp hi, Int.le_refl _, rfl⟩, fun i i0 i1 => ⟨(hb i).mpr ⟨i0, i1⟩, rfl⟩⟩
  by_cases u0 : u 0
  · by_cases u1 : u 1
    · by_cases u2 : u 2
      · have := hu 2 u2
        exact hid 3 (by omega) (by omega) (fun i => ⟨fun z => by have := hu i z; omega, fun z => by
          have : i = 0 ∨ i = 1 ∨ i = 2 := by omega
          rcases this with rfl | rfl | rfl
          · exact u0
          · exact u1
          · exact u2⟩)
      · exact hid 2 (by omega) (by omega) (fun i => ⟨fun z => by
          have := hu i z
          have : i ≠ 2 := fun q => u2 (q ▸ z)
          omega, fun z => by
          have : i = 0 ∨ i = 1 := by omega
          rcases this with rfl | rfl
          · exact u0
          · exact u1⟩)
    · obtain ⟨j, j1, j2⟩ := h2 0
      have hj := hu j j1
      have hj1 : j ≠ 1 := fun q => u1 (q ▸ j1)
      have hj2 : j = 2 := by omega
      subst hj2
      refine ⟨2, fun i => if i = 0 then 0 else 1, fun i => if i = 0 then 0 else 2, by omega, fun i hi => ?_, fun i i0 i1 => ?_⟩
      · have := hu i hi
        have : i ≠ 1 := fun q => u1 (q ▸ hi)
        have : i = 0 ∨ i = 2 := by omega
        rcases this with rfl | rfl
        · exact ⟨by decide, Int.le_refl _, rfl⟩
        · exact ⟨by decide, hL 1 2 (by omega) (by omega) (by omega), rfl⟩
      · have : i = 0 ∨ i = 1 := by omega
        rcases this with rfl | rfl
        · exact ⟨u0, rfl⟩
        · exact ⟨j1, rfl⟩
  · obtain ⟨a, a1, a2⟩ := h2 0
    obtain ⟨c, c1, c2⟩ := h2 a
    have ha := hu a a1
    have hc := hu c c1
    have hc0 : c ≠ 0 := fun q => u0 (q ▸ c1)
    have u1 : u 1 := by
      by_cases q : a = 1
      · exact q ▸ a1
      · have : c = 1 := by omega
        exact this ▸ c1
    have u2 : u 2 := by
      by_cases q : a = 2
      · exact q ▸ a1
      · have : c = 2 := by omega
        exact this ▸ c1
    have := hu 2 u2
    refine ⟨2, fun i => i - 1, fun i => i + 1, by omega, fun i hi => ?_, fun i i0 i1 => ?_⟩
    · have := hu i hi
      have : i ≠ 0 := fun q => u0 (q ▸ hi)
      exact ⟨by show 0 ≤ i - 1 ∧ i - 1 < 2; omega, hL (i - 1) i (by omega) (by omega) (by omega), by show i - 1 + 1 = i; omega⟩
    · refine ⟨?_, by show i + 1 - 1 = i; omega⟩
      have : i = 0 ∨ i = 1 := by omega
      rcases this with rfl | rfl
      · exact u1
      · exact u2
theorem lf_Hs (hk : 2 ≤ k ∧ k ≤ 3) (hL : ∀ i j, 0 ≤ i → i ≤ j → j < k → L i ≤ L j) (hm0 : 0 ≤ many) (hm : many < (n : Int)) (h : lf_H k L n many l s) : ∃ x by_, (0 ≤ x ∧ x < many) ∧ (2 ≤ by_ ∧ by_ ≤ k) ∧ many - 1 + by_ ≤ (n : Int) ∧ ∀ l', lf_S L many x by_ l l' → lf_H k L n (many - 1 + by_) l' s := by
  obtain ⟨g, q, hr, hs, hc, hle⟩ := h
  obtain ⟨i, j, ⟨i0, i1⟩, ⟨j0, j1⟩, hij, he⟩ := php_two hm0 hm hr
  obtain ⟨x, hx⟩ : ∃ x, g i = x := ⟨_, rfl⟩
  have hxr := hr i i0 i1
  have hcx := hc i i0 i1
  rw [hx] at hxr hcx
  obtain ⟨f, hcx⟩ := hcx
  cases f with
  | zero => exact absurd hcx (by unfold cod; exact fun z => z)
  | succ f =>
    obtain ⟨-, hcx⟩ := hcx
    rcases hcx with ⟨y, y0, y1, w1, -⟩ | ⟨P, q2, w1, w2, w3, w4⟩
    · have e1 := (w1 i i0 i1).mp hx
      have e2 := (w1 j j0 j1).mp (he.symm.trans hx)
      exact absurd (e1.trans e2.symm) hij
    · obtain ⟨b, rho, lam, hb, hu1, hu2⟩ := lf_use (u := fun c => ∃ j, 0 ≤ j ∧ j < (n : Int) ∧ g j = x ∧ P j = c) hk hL (fun c hcc => by
        obtain ⟨j, j0, j1, g1, g2⟩ := hcc
        rw [← g2]; exact w1 j j0 j1 g1) (fun c => by
        obtain ⟨j, j0, j1, g1, g2⟩ := w2 c
        exact ⟨P j, ⟨j, j0, j1, g1, rfl⟩, g2⟩)
      have used : ∀ j, 0 ≤ j → j < (n : Int) → g j = x → ((0 ≤ rho (P j) ∧ rho (P j) < b) ∧ L (rho (P j)) ≤ L (P j) ∧ lam (rho (P j)) = P j) := fun j j0 j1 hj => hu1 (P j) ⟨j, j0, j1, hj, rfl⟩
      have eg : ∃ g' : Int → Int, ∀ j, (g j ≠ x → g' j = g j) ∧ (g j = x → rho (P j) = 0 → g' j = x) ∧ (g j = x → rho (P j) ≠ 0 → g' j = many - 1 + rho (P j)) := ⟨fun j => if g j ≠ x then g j else if rho (P j) = 0 then x else many - 1 + rho (P j), fun j => ⟨fun c => if_pos c, fun c d => by show (if g j ≠ x then g j else if rho (P j) = 0 then x else many - 1 + rho (P j)) = x; rw [if_neg (fun z => z c), if_pos d], fun c d => by show (if g j ≠ x then g j else if rho (P j) = 0 then x else many - 1 + rho (P j)) = _; rw [if_neg (fun z => z c), if_neg d]⟩⟩
      obtain ⟨g', hg⟩ := eg
      have eq' : ∃ q' : Int → Int → Int, q' x = q2 (lam 0) ∧ (∀ y, y ≠ x → y < many → q' y = q y) ∧ ∀ y, many ≤ y → q' y = q2 (lam (y - (many - 1))) := ⟨fun y => if y = x then q2 (lam 0) else if y < many then q y else q2 (lam (y - (many - 1))), if_pos rfl, fun y c d => by show (if y = x then q2 (lam 0) else if y < many then q y else q2 (lam (y - (many - 1)))) = _; rw [if_neg c, if_pos d], fun y c => by show (if y = x then q2 (lam 0) else if y < many then q y else q2 (lam (y - (many - 1)))) = _; rw [if_neg (by omega), if_neg (by omega)]⟩
      obtain ⟨q', hq1, hq2, hq3⟩ := eq'
      have range : ∀ j, 0 ≤ j → j < (n : Int) → 0 ≤ g' j ∧ g' j < many - 1 + b := fun j j0 j1 => by
        have h1 := hr j j0 j1
        by_cases c : g j = x
        · have h2 := used j j0 j1 c
          by_cases d : rho (P j) = 0
          · rw [(hg j).2.1 c d]; omega
          · rw [(hg j).2.2 c d]; omega
        · rw [(hg j).1 c]; omega
      have onto : ∀ y, 0 ≤ y → y < many - 1 + b → ∃ j, 0 ≤ j ∧ j < (n : Int) ∧ g' j = y := fun y y0 y1 => by
        by_cases c : y < many
        · by_cases d : y = x
          · obtain ⟨⟨j, j0, j1, g1, g2⟩, e⟩ := hu2 0 (by omega) (by omega)
            exact ⟨j, j0, j1, by rw [(hg j).2.1 g1 (by rw [g2]; exact e), d]⟩
          · obtain ⟨j, j0, j1, hj⟩ := hs y y0 c
            exact ⟨j, j0, j1, by rw [(hg j).1 (by omega)]; exact hj⟩
        · obtain ⟨⟨j, j0, j1, g1, g2⟩, e⟩ := hu2 (y - (many - 1)) (by omega) (by omega)
          exact ⟨j, j0, j1, by rw [(hg j).2.2 g1 (by rw [g2, e]; omega), g2, e]; omega⟩
      -- the new place tells the letter
      have tell : ∀ j, 0 ≤ j → j < (n : Int) → g j = x → q' (g' j) = q2 (P j) := fun j j0 j1 c => by
        have h2 := used j j0 j1 c
        by_cases d : rho (P j) = 0
        · rw [(hg j).2.1 c d, hq1, ← d, h2.2.2]
        · rw [(hg j).2.2 c d, hq3 _ (by omega), show many - 1 + rho (P j) - (many - 1) = rho (P j) by omega, h2.2.2]
      refine ⟨x, b, hxr, hb, php_on onto, fun l' hS => ⟨g', q', range, onto, fun j j0 j1 => ?_, fun j j0 j1 => ?_⟩⟩
      · by_cases c : g j = x
        · rw [tell j j0 j1 c]
          refine Cod_ext (fun y y0 y1 => ⟨fun z => ?_, fun z => ?_⟩) (fun _ _ _ => rfl) ⟨f, w3 j j0 j1 c⟩
          · have z' : g' y = g' j := z
            have h2 := used j j0 j1 c
            by_cases cy : g y = x
            · have h3 := used y y0 y1 cy
              refine ⟨cy, ?_⟩
              rw [← h3.2.2, ← h2.2.2]
              congr 1
              by_cases d : rho (P j) = 0
              · by_cases d2 : rho (P y) = 0
                · rw [d, d2]
                · rw [(hg j).2.1 c d, (hg y).2.2 cy d2] at z'; omega
              · by_cases d2 : rho (P y) = 0
                · rw [(hg j).2.2 c d, (hg y).2.1 cy d2] at z'; omega
                · rw [(hg j).2.2 c d, (hg y).2.2 cy d2] at z'; omega
            · rw [(hg y).1 cy] at z'
              have := hr y y0 y1
              by_cases d : rho (P j) = 0
              · rw [(hg j).2.1 c d] at z'; exact absurd z' cy
              · rw [(hg j).2.2 c d] at z'; omega
          · obtain ⟨z1, z2⟩ := z
            show g' y = g' j
            by_cases d : rho (P j) = 0
            · rw [(hg j).2.1 c d, (hg y).2.1 z1 (by rw [z2]; exact d)]
            · rw [(hg j).2.2 c d, (hg y).2.2 z1 (by rw [z2]; exact d), z2]
        · have e1 := (hg j).1 c
          have h1 := hr j j0 j1
          rw [e1, hq2 _ c h1.2]
          refine Cod_ext (fun y y0 y1 => ⟨fun z => ?_, fun z => ?_⟩) (fun _ _ _ => rfl) (hc j j0 j1)
          · have z' : g' y = g j := z
            by_cases cy : g y = x
            · have h3 := used y y0 y1 cy
              by_cases d2 : rho (P y) = 0
              · rw [(hg y).2.1 cy d2] at z'; exact absurd z'.symm c
              · rw [(hg y).2.2 cy d2] at z'; omega
            · rw [(hg y).1 cy] at z'; exact z'
          · have z' : g y = g j := z
            show g' y = g j
            rw [(hg y).1 (by rw [z']; exact c)]; exact z'
      · obtain ⟨s1, s2, s3⟩ := hS
        have h5 := hle j j0 j1
        by_cases c : g j = x
        · have h2 := used j j0 j1 c
          have h6 := w4 j j0 j1 c
          rw [tell j j0 j1 c]
          rw [c] at h5
          by_cases d : rho (P j) = 0
          · rw [(hg j).2.1 c d, s2]
            have := h2.2.1; rw [d] at this
            omega
          · rw [(hg j).2.2 c d, s3 _ (by omega) (by omega)]
            omega
        · have h1 := hr j j0 j1
          rw [(hg j).1 c, s1 _ h1.1 h1.2 c, hq2 _ c h1.2]
          exact h5
end LEA
