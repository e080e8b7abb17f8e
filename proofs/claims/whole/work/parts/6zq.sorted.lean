/-! CODE: sorted rows, and who is how far ahead. -/
def srt (k : Int) (f : Int → Int) : Prop := ∀ i j, 0 ≤ i → i ≤ j → j < k → f i ≤ f j
/-- g is f with v put in at a place -/
def insd (k at_ v : Int) (f g : Int → Int) : Prop := (0 ≤ at_ ∧ at_ ≤ k) ∧ (∀ l, 0 ≤ l → l < at_ → g l = f l) ∧ g at_ = v ∧ ∀ l, at_ < l → l ≤ k → g l = f (l - 1)
/-- L' is L in another order -/
def pm (k : Int) (L L' : Int → Int) : Prop := ∃ tu si : Int → Int, (∀ l, 0 ≤ l → l < k → (0 ≤ tu l ∧ tu l < k) ∧ L' (tu l) = L l ∧ si (tu l) = l) ∧ ∀ l, 0 ≤ l → l < k → (0 ≤ si l ∧ si l < k) ∧ L (si l) = L' l ∧ tu (si l) = l
section SRT
variable {k at_ v : Int} {f g L L1 L' : Int → Int}
theorem srt_ins (h : srt k f) (hi : insd k at_ v f g) (h1 : at_ ≤ 0 ∨ f (at_ - 1) ≤ v) (h2 : ∀ l, at_ ≤ l → l < k → v ≤ f l) : srt (k + 1) g := by
  obtain ⟨a0, a1, a2, a3⟩ := hi
  intro i j i0 ij jk
  by_cases ci : i < at_
  · rw [a1 i i0 ci]
    by_cases cj : j < at_
    · rw [a1 j (by omega) cj]; exact h i j i0 ij (by omega)
    · by_cases cj2 : j = at_
      · rw [cj2, a2]
        have := h i (at_ - 1) i0 (by omega) (by omega)
        omega
      · rw [a3 j (by omega) (by omega)]; exact h i (j - 1) i0 (by omega) (by omega)
  · by_cases ci2 : i = at_
    · rw [ci2, a2]
      by_cases cj2 : j = at_
      · rw [cj2, a2]; exact Int.le_refl _
      · rw [a3 j (by omega) (by omega)]; exact h2 (j - 1) (by omega) (by omega)
    · rw [a3 i (by omega) (by omega), a3 j (by omega) (by omega)]
      exact h (i - 1) (j - 1) (by omega) (by omega) (by omega)
theorem pm_0 : pm 0 L L' := ⟨fun l => l, fun l => l, fun l l0 l1 => by omega, fun l l0 l1 => by omega⟩
theorem pm_ins (h : pm k L L') (hk : 0 ≤ k) (hi : insd k at_ v L' g) (hL : ∀ l, 0 ≤ l → l < k → L1 l = L l) (hv : L1 k = v) : pm (k + 1) L1 g := by
  obtain ⟨tu, si, h1, h2⟩ := h
  obtain ⟨a0, a1, a2, a3⟩ := hi
  have et : ∃ t : Int → Int, t k = at_ ∧ (∀ l, l ≠ k → tu l < at_ → t l = tu l) ∧ ∀ l, l ≠ k → ¬ tu l < at_ → t l = tu l + 1 := ⟨fun l => if l = k then at_ else if tu l < at_ then tu l else tu l + 1, if_pos rfl, fun l c d => by show (if l = k then at_ else if tu l < at_ then tu l else tu l + 1) = _; rw [if_neg c, if_pos d], fun l c d => by show (if l = k then at_ else if tu l < at_ then tu l else tu l + 1) = _; rw [if_neg c, if_neg d]⟩
  obtain ⟨t, t1, t2, t3⟩ := et
  have es : ∃ s : Int → Int, s at_ = k ∧ (∀ l, l < at_ → s l = si l) ∧ ∀ l, at_ < l → s l = si (l - 1) := ⟨fun l => if l = at_ then k else if l < at_ then si l else si (l - 1), if_pos rfl, fun l c => by show (if l = at_ then k else if l < at_ then si l else si (l - 1)) = _; rw [if_neg (by omega), if_pos c], fun l c => by show (if l = at_ then k else if l < at_ then si l else si (l - 1)) = _; rw [if_neg (by omega), if_neg (by omega)]⟩
  obtain ⟨s, s1, s2, s3⟩ := es
  refine ⟨t, s, fun l l0 l1 => ?_, fun l l0 l1 => ?_⟩
  · by_cases c : l = k
    · subst c
      rw [t1]
      exact ⟨by omega, by rw [a2, hv], s1⟩
    · obtain ⟨b1, b2, b3⟩ := h1 l l0 (by omega)
      by_cases d : tu l < at_
      · rw [t2 l c d]
        exact ⟨by omega, by rw [a1 _ b1.1 d, b2, hL l l0 (by omega)], by rw [s2 _ d, b3]⟩
      · rw [t3 l c d]
        refine ⟨by omega, ?_, ?_⟩
        · rw [a3 _ (by omega) (by omega), show tu l + 1 - 1 = tu l by omega, b2, hL l l0 (by omega)]
        · rw [s3 _ (by omega), show tu l + 1 - 1 = tu l by omega, b3]
  · by_cases c : l = at_
    · subst c
      rw [s1]
      exact ⟨by omega, by rw [a2, hv], t1⟩
    · by_cases d : l < at_
      · obtain ⟨b1, b2, b3⟩ := h2 l l0 (by omega)
        rw [s2 l d]
        refine ⟨by omega, by rw [hL _ b1.1 b1.2, b2, a1 l l0 d], ?_⟩
        rw [t2 _ (by omega) (by omega), b3]
      · obtain ⟨b1, b2, b3⟩ := h2 (l - 1) (by omega) (by omega)
        rw [s3 l (by omega)]
        refine ⟨by omega, by rw [hL _ b1.1 b1.2, b2, a3 l (by omega) (by omega)], ?_⟩
        rw [t3 _ (by omega) (by omega), b3]
        omega
end SRT
/-- o is ahead of i -/
def bf (w : Int → Int) (o i : Int) : Prop := w i < w o ∨ (w o = w i ∧ o < i)
/-- so many of the first are ahead of i -/
def ahd (w : Int → Int) (i : Int) : Nat → Int
  | 0 => 0
  | o + 1 => if w i < w o ∨ (w o = w i ∧ (o : Int) < i) then ahd w i o + 1 else ahd w i o
section RNK
variable {w : Int → Int}
theorem ahd_b (i : Int) (i0 : 0 ≤ i) : ∀ n : Nat, 0 ≤ ahd w i n ∧ ahd w i n ≤ n ∧ (i < (n : Int) → ahd w i n < n) := by
  intro n
  induction n with
  | zero => exact ⟨Int.le_refl _, Int.le_refl _, fun h => by omega⟩
  | succ n ih =>
    obtain ⟨h1, h2, h3⟩ := ih
    rw [ahd]
    by_cases c : w i < w (n : Int) ∨ (w (n : Int) = w i ∧ (n : Int) < i)
    · rw [if_pos c]
      refine ⟨by omega, by omega, fun h => ?_⟩
      by_cases ci : i = n
      · subst ci; omega
      · have := h3 (by omega); omega
    · rw [if_neg c]
      exact ⟨h1, by omega, fun h => by omega⟩
theorem bf_trans {a b c : Int} (h : bf w a b) (g : bf w b c) : bf w a c := by
  unfold bf at *
  omega
theorem bf_total {a b : Int} (h : a ≠ b) : bf w a b ∨ bf w b a := by
  unfold bf
  omega
theorem ahd_lt {i j : Int} (h : bf w i j) (i0 : 0 ≤ i) : ∀ n : Nat, ahd w i n ≤ ahd w j n ∧ (i < (n : Int) → ahd w i n < ahd w j n) := by
  intro n
  induction n with
  | zero => exact ⟨Int.le_refl _, fun h => by omega⟩
  | succ n ih =>
    obtain ⟨h1, h2⟩ := ih
    rw [ahd, ahd]
    by_cases c : w i < w (n : Int) ∨ (w (n : Int) = w i ∧ (n : Int) < i)
    · have c' : w j < w (n : Int) ∨ (w (n : Int) = w j ∧ (n : Int) < j) := bf_trans (a := (n : Int)) c h
      rw [if_pos c, if_pos c']
      refine ⟨by omega, fun hh => ?_⟩
      have : i < (n : Int) := by
        by_cases ci : i = n
        · subst ci; omega
        · omega
      have := h2 this
      omega
    · rw [if_neg c]
      by_cases c' : w j < w (n : Int) ∨ (w (n : Int) = w j ∧ (n : Int) < j)
      · rw [if_pos c']
        exact ⟨by omega, fun hh => by omega⟩
      · rw [if_neg c']
        refine ⟨h1, fun hh => ?_⟩
        by_cases ci : i = n
        · rw [ci] at h; exact absurd h c'
        · exact h2 (by omega)
theorem ahd_in {n : Nat} {i j : Int} (i0 : 0 ≤ i) (i1 : i < (n : Int)) (j0 : 0 ≤ j) (j1 : j < (n : Int)) (h : ahd w i n = ahd w j n) : i = j := by
  refine Classical.byContradiction fun hne => ?_
  rcases bf_total (w := w) hne with g | g
  · have := (ahd_lt g i0 n).2 i1; omega
  · have := (ahd_lt g j0 n).2 j1; omega
variable {k : Int} {L l T s : Int → Int} {n : Nat}
/-- sorted leaves, given out: a coding -/
theorem rank_G (hp : pm n l T) (h : lf_G k L n n l) : Cod k L n (fun _ => True) (fun j => T (ahd w j n)) := by
  obtain ⟨tu, si, h1, h2⟩ := hp
  have hr : ∀ j, 0 ≤ j → j < (n : Int) → 0 ≤ ahd w j n ∧ ahd w j n < (n : Int) := fun j j0 j1 => ⟨(ahd_b j j0 n).1, (ahd_b j j0 n).2.2 j1⟩
  have rg : ∀ j, 0 ≤ j → j < (n : Int) → 0 ≤ si (ahd w j n) ∧ si (ahd w j n) < (n : Int) := fun j j0 j1 => (h2 _ (hr j j0 j1).1 (hr j j0 j1).2).1
  have inj : ∀ i j, 0 ≤ i → i < (n : Int) → 0 ≤ j → j < (n : Int) → si (ahd w i n) = si (ahd w j n) → i = j := fun i j i0 i1 j0 j1 e => by
    have e1 := (h2 _ (hr i i0 i1).1 (hr i i0 i1).2).2.2
    have e2 := (h2 _ (hr j j0 j1).1 (hr j j0 j1).2).2.2
    exact ahd_in i0 i1 j0 j1 (by rw [← e1, ← e2, e])
  refine Cod_ext (fun _ _ _ => Iff.rfl) (fun j j0 j1 => ?_) (h (fun j => si (ahd w j n)) (fun _ _ => 0) rg (php n _ rg inj) (fun j j0 j1 => Cod_one j0 j1 (fun i i0 i1 => ⟨fun z => inj i j i0 i1 j0 j1 z, fun z => by rw [z]⟩) (fun _ _ _ => rfl)))
  show T (ahd w j n) = l (si (ahd w j n)) + 0
  rw [(h2 _ (hr j j0 j1).1 (hr j j0 j1).2).2.1]
  omega
/-- sorted leaves, given out: nowhere longer than a sorted row that they may come to -/
theorem rank_H (hL : ∀ i, 0 ≤ i → i < k → 0 ≤ L i) (hT : srt n T) (hp : pm n l T) (h : lf_H k L n n l s) (hs : ∀ i j, 0 ≤ i → i < (n : Int) → 0 ≤ j → j < (n : Int) → bf w i j → s i ≤ s j) : ∀ j, 0 ≤ j → j < (n : Int) → T (ahd w j n) ≤ s j := by
  obtain ⟨g, q, g1, g2, g3, g4⟩ := h
  obtain ⟨tu, si, h1, h2⟩ := hp
  have ginj := php_in g1 g2
  have gle : ∀ j, 0 ≤ j → j < (n : Int) → l (g j) ≤ s j := fun j j0 j1 => by
    obtain ⟨f, hf⟩ := g3 j j0 j1
    have := cod_nn hL f hf j j0 j1
    have := g4 j j0 j1
    omega
  have hr : ∀ j, 0 ≤ j → j < (n : Int) → 0 ≤ ahd w j n ∧ ahd w j n < (n : Int) := fun j j0 j1 => ⟨(ahd_b j j0 n).1, (ahd_b j j0 n).2.2 j1⟩
  have ho := php n (fun j => ahd w j n) hr (fun i j i0 i1 j0 j1 e => ahd_in i0 i1 j0 j1 e)
  have hch : ∀ p : Int, ∃ i : Int, 0 ≤ p → p < (n : Int) → 0 ≤ i ∧ i < (n : Int) ∧ ahd w i n = p := fun p => by
    by_cases c : 0 ≤ p ∧ p < (n : Int)
    · obtain ⟨i, hi⟩ := ho p c.1 c.2; exact ⟨i, fun _ _ => hi⟩
    · exact ⟨0, fun a b => absurd ⟨a, b⟩ c⟩
  obtain ⟨hh, hhp⟩ := Classical.axiomOfChoice hch
  intro j j0 j1
  refine Classical.byContradiction fun hno => ?_
  have hj := hr j j0 j1
  obtain ⟨a, ha⟩ : ∃ a, ahd w j n = a := ⟨_, rfl⟩
  rw [ha] at hno hj
  refine php_no (n := (a + 1).toNat) (f := fun p => tu (g (hh p))) (M := a) hj.1 (by omega) (fun p p0 p1 => ?_) (fun p p' p0 p1 p0' p1' e => ?_)
  · obtain ⟨i0, i1, i2⟩ := hhp p p0 (by omega)
    obtain ⟨gi0, gi1⟩ := g1 _ i0 i1
    obtain ⟨b1, b2, b3⟩ := h1 _ gi0 gi1
    refine ⟨b1.1, Classical.byContradiction fun hge => ?_⟩
    have hge' : a ≤ tu (g (hh p)) := by
      have : ¬ tu (g (hh p)) < a := hge
      omega
    have e1 := hT a (tu (g (hh p))) hj.1 hge' b1.2
    have e2 := gle _ i0 i1
    have e3 : s (hh p) ≤ s j := by
      by_cases c : hh p = j
      · rw [c]; exact Int.le_refl _
      · rcases bf_total (w := w) c with z | z
        · exact hs _ _ i0 i1 j0 j1 z
        · have := (ahd_lt z j0 n).2 j1; omega
    omega
  · obtain ⟨i0, i1, i2⟩ := hhp p p0 (by omega)
    obtain ⟨i0', i1', i2'⟩ := hhp p' p0' (by omega)
    obtain ⟨gi0, gi1⟩ := g1 _ i0 i1
    obtain ⟨gi0', gi1'⟩ := g1 _ i0' i1'
    have e' : tu (g (hh p)) = tu (g (hh p')) := e
    have e1 := (h1 _ gi0 gi1).2.2
    have e2 := (h1 _ gi0' gi1').2.2
    have : g (hh p) = g (hh p') := by rw [← e1, ← e2, e']
    have := ginj _ _ i0 i1 i0' i1' this
    rw [← i2, ← i2', this]
end RNK
