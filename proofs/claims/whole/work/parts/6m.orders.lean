/-! ORDERS: what is done, clause after clause; deeds are noted in a memory of their own. -/
def or_gr (A : Int → Int) (t : Int) : Nat → Int
  | 0 => 0
  | n + 1 => or_gr A t n + (if A (7 * (n : Int) + 5) = 1 ∧ A (7 * (n : Int) + 1) = t then 1 else 0)
theorem or_gr_le (A : Int → Int) (t : Int) : ∀ n : Nat, 0 ≤ or_gr A t n ∧ or_gr A t n ≤ n := by
  intro n
  induction n with
  | zero => exact ⟨Int.le_refl _, Int.le_refl _⟩
  | succ n ih => rw [or_gr]; split <;> omega
def or_env (S A : Int → Int) (done : Int) : Int → Int := fun f => if f = 0 then A 169 else if f = 1 then A 168 else if f = 2 then ab_wait A (A 168).toNat else if f = 3 then done else if 8 ≤ f ∧ f < 16 then S (f - 8) else if 16 ≤ f ∧ f < 24 then or_gr A (f - 16) (A 168).toNat else 0
def or_S (A : Int → Int) : Int → Int := fun t => if 0 ≤ t ∧ t < 8 then (if wg_n A 8 t = wg_I then -1 else wg_n A 8 t / 10000) else 0
theorem or_env_le {S A : Int → Int} {done : Int} (hS : ∀ t, -1 ≤ S t ∧ S t ≤ 1000000) (h8 : 0 ≤ A 168 ∧ A 168 ≤ 24) (h9 : 0 ≤ A 169 ∧ A 169 ≤ 999) (hd : 0 ≤ done ∧ done ≤ 1000) : ∀ f, -1000000000 ≤ or_env S A done f ∧ or_env S A done f ≤ 1000000000 := by
  intro f
  have h1 := ab_wait_le A (A 168).toNat
  have h2 := or_gr_le A (f - 16) (A 168).toNat
  have h3 := hS (f - 8)
  unfold or_env
  repeat' split
  all_goals omega
/-- a deed noted -/
def gp_ (g : am_M) (d w : Int) (V : Int → Int) : am_M := fun o k =>
  if o = 170 then V k
  else if (o = 148 ∧ k = 2) ∨ (o = 168 ∧ k = 38) then (if g 168 38 < 16 then g 168 38 + 1 else 16)
  else if o = 149 then (if g 168 38 < 16 then (if k = g 168 38 then d else g 149 k) else (if k = 15 then d else g 149 (k + 1)))
  else if o = 189 then (if (if g 168 38 < 16 then 171 * g 168 38 else 2565) ≤ k ∧ k < (if g 168 38 < 16 then 171 * g 168 38 else 2565) + 170 then g 170 (k - (if g 168 38 < 16 then 171 * g 168 38 else 2565)) else if k = (if g 168 38 < 16 then 171 * g 168 38 else 2565) + 170 then w else if g 168 38 < 16 then g 189 k else g 189 (k + 171))
  else g o k
section GP
variable {g : am_M} {d w : Int} {V : Int → Int}
theorem gp_170 : gp_ g d w V 170 = V := by
  funext k
  unfold gp_
  rw [if_pos rfl]
theorem gp_n : gp_ g d w V 148 2 = (if g 168 38 < 16 then g 168 38 + 1 else 16) ∧ gp_ g d w V 168 38 = (if g 168 38 < 16 then g 168 38 + 1 else 16) := by
  unfold gp_
  refine ⟨?_, ?_⟩
  · rw [if_neg (by omega), if_pos (Or.inl ⟨rfl, rfl⟩)]
  · rw [if_neg (by omega), if_pos (Or.inr ⟨rfl, rfl⟩)]
theorem gp_149 (k : Int) : gp_ g d w V 149 k = (if g 168 38 < 16 then (if k = g 168 38 then d else g 149 k) else (if k = 15 then d else g 149 (k + 1))) := by
  unfold gp_
  rw [if_neg (by omega), if_neg (by omega), if_pos rfl]
theorem gp_189 (k : Int) : gp_ g d w V 189 k = (if (if g 168 38 < 16 then 171 * g 168 38 else 2565) ≤ k ∧ k < (if g 168 38 < 16 then 171 * g 168 38 else 2565) + 170 then g 170 (k - (if g 168 38 < 16 then 171 * g 168 38 else 2565)) else if k = (if g 168 38 < 16 then 171 * g 168 38 else 2565) + 170 then w else if g 168 38 < 16 then g 189 k else g 189 (k + 171)) := by
  unfold gp_
  rw [if_neg (by omega), if_neg (by omega), if_neg (by omega), if_pos rfl]
theorem gp_o (o k : Int) (h : ¬ (o = 170 ∨ (o = 148 ∧ k = 2) ∨ (o = 168 ∧ k = 38) ∨ o = 149 ∨ o = 189)) : gp_ g d w V o k = g o k := by
  unfold gp_
  rw [if_neg (by omega), if_neg (by omega), if_neg (by omega), if_neg (by omega)]
theorem gp_ud (h : ud_P g) (hd : ud_1 d w V (g 170)) (hW : ud_W (V 365) (g 170)) (hp : g 170 365 ≤ V 365) : ud_P (gp_ g d w V) := by
  have hu := h.2.2.1
  obtain ⟨n1, n2⟩ := gp_n (g := g) (d := d) (w := w) (V := V)
  refine ud_push (d := d) (what := w) h (gp_o _ _ (by omega)) (fun c => ?_) (fun c => ?_) (by rw [gp_170]; exact hd) (by rw [gp_170]; exact hW) (by rw [gp_170]; exact hp)
  · rw [if_pos c] at n1 n2
    refine ⟨n1, n2, by rw [gp_149, if_pos c, if_pos rfl], fun j j0 j1 => by rw [gp_149, if_pos c, if_neg (by omega)], fun x x0 x1 => ?_, ?_, fun y y0 y1 => ?_⟩
    · rw [gp_189, if_pos c, if_pos (by omega)]; congr 1; omega
    · rw [gp_189, if_pos c, if_neg (by omega), if_pos rfl]
    · rw [gp_189, if_pos c, if_neg (by omega), if_neg (by omega), if_pos c]
  · have c' : ¬ g 168 38 < 16 := by omega
    rw [if_neg c'] at n1 n2
    refine ⟨n1, n2, by rw [gp_149, if_neg c', if_pos rfl], fun j j0 j1 => by rw [gp_149, if_neg c', if_neg (by omega)], fun x x0 x1 => ?_, ?_, fun y y0 y1 => ?_⟩
    · rw [gp_189, if_neg c', if_pos (by omega)]; congr 1; omega
    · rw [gp_189, if_neg c', if_neg (by omega), if_pos (by omega)]
    · rw [gp_189, if_neg c', if_neg (by omega), if_neg (by omega), if_neg c']
end GP
/-- deeds stand in so many cells -/
theorem ud_loc {g m : am_M} (h : ud_P g) (e1 : m 148 1 = g 148 1) (e2 : m 148 2 = g 148 2) (e3 : m 168 38 = g 168 38) (e4 : ∀ j, 0 ≤ j → j < g 168 38 → m 149 j = g 149 j) (e5 : ∀ y, 0 ≤ y → y < 171 * g 168 38 → m 189 y = g 189 y) (e6 : m 170 = g 170) : ud_P m := by
  obtain ⟨h1, h2, h3, h4⟩ := h
  refine ⟨rk_of h1 e1 e2, by rw [e2, e3]; exact h2, by rw [e3]; exact h3, fun j j0 j1 => ?_⟩
  rw [e3] at j1 ⊢
  obtain ⟨g1, g2⟩ := h4 j j0 j1
  have e : ∀ x, 0 ≤ x → x < 170 → ud_L m j x = ud_L g j x := fun x x0 x1 => e5 _ (by omega) (by omega)
  have b168 := g2.1.1
  rw [e4 j j0 j1, e5 _ (by omega) (by omega), e6]
  refine ⟨ud_1_ofL (ud_1_of g1 (by omega) (fun x x0 x1 => ?_)) (by omega) e, ud_W_ofL g2 e⟩
  by_cases cj : j + 1 < g 168 38
  · rw [if_pos cj, if_pos cj]; exact e5 _ (by omega) (by omega)
  · rw [if_neg cj, if_neg cj]
/-- a clause, once: how it comes out, what is noted -/
def or_1 (S : Int → Int) (x : pz_C) (g : am_M) (done : Int) : Int × am_M :=
  if x.2.2.2.2.2.2 (or_env S (g 170) done) ≠ some 1 then (0, g)
  else if x.1 = 4 then (if g 170 169 < 999 then (1, gp_ g ((ab_dawn (g 170)).2.2.1 * 2 + 1) 1 (ab_dawn (g 170)).2.2.2) else (-3, g))
  else match x.2.2.1.2 (or_env S (g 170) done), x.2.2.2.1.2 (or_env S (g 170) done), x.2.2.2.2.1.2 (or_env S (g 170) done) with
    | some a, some t, some l => if ab_why (g 170) a t l 1 (g 170 169) = 0 then (1, gp_ g 0 0 (ab_say (g 170) a t l 1)) else if ab_why (g 170) a t l 1 (g 170 169) = -5 then (-5, g) else (-3, g)
    | _, _, _ => (-3, g)
def or_t (S : Int → Int) (x : pz_C) : Nat → am_M → Int → Int × am_M × Int
  | 0, g, done => (0, g, done)
  | n + 1, g, done =>
    if (or_1 S x g done).1 = 0 then or_t S x n g done
    else if (or_1 S x g done).1 = 1 then or_t S x n (or_1 S x g done).2 (done + 1)
    else ((or_1 S x g done).1, g, done)
def or_c (S : Int → Int) : List pz_C → Int → am_M → Int → Int × Int × am_M × Int
  | [], i, g, done => (0, i, g, done)
  | x :: cs, i, g, done =>
    if (or_t S x x.2.1.toNat g done).1 = 0 then or_c S cs (i + 1) (or_t S x x.2.1.toNat g done).2.1 (or_t S x x.2.1.toNat g done).2.2
    else ((or_t S x x.2.1.toNat g done).1, i, (or_t S x x.2.1.toNat g done).2.1, (or_t S x x.2.1.toNat g done).2.2)
/-- what holds all along -/
def or_G (A0 : Int → Int) (g : am_M) : Prop := ud_P g ∧ wf_A 16 (g 170) ∧ wf_H (g 170) ∧ ∀ x, (x < 0 ∨ 170 ≤ x) → g 170 x = A0 x
section ORA
variable {A0 S : Int → Int} {g : am_M}
theorem or_say_G (h : or_G A0 g) {a t l : Int} (hy : ab_why (g 170) a t l 1 (g 170 169) = 0) : or_G A0 (gp_ g 0 0 (ab_say (g 170) a t l 1)) := by
  obtain ⟨h1, h2, h3, h4⟩ := h
  obtain ⟨y1, y2, y3, y4⟩ := why_0 hy
  have h16 := h2.2.1.1
  obtain ⟨s0, -⟩ := ab_say_n (A := g 170) (a := a) (t := t) (l := l) (w := 1) (by omega)
  have wS := wf_say (n := 16) h2 (by omega) y4 y2 y1.1 y1.2.1 y1.2.2
  have hS : ∀ x, (x < 0 ∨ 169 ≤ x) → ab_say (g 170) a t l 1 x = g 170 x := fun x hx => ab_say_o (by omega) (by omega)
  refine ⟨gp_ud h1 (Or.inl ⟨rfl, rfl, s0, hS 169 (by omega), fun x x0 x1 => ab_say_o (by omega) (by omega)⟩) ?_ (by rw [hS _ (by omega)]; exact Int.le_refl _), by rw [gp_170]; exact wS, by rw [gp_170]; exact wH_say h3 (by omega), fun x hx => by rw [gp_170, hS x (by omega)]; exact h4 x hx⟩
  rw [hS 365 (by omega)]
  exact ud_W_of h2 h3
theorem or_dawn_G (h : or_G A0 g) (hd : g 170 169 < 999) : or_G A0 (gp_ g ((ab_dawn (g 170)).2.2.1 * 2 + 1) 1 (ab_dawn (g 170)).2.2.2) := by
  obtain ⟨h1, h2, h3, h4⟩ := h
  obtain ⟨u1, u2, -⟩ := ab_dawn_ud h2 h3 hd
  obtain ⟨d1, d2, d3⟩ := ab_dawn_hi (wf_mono h2 (show (16 : Int) ≤ 24 by omega)) hd
  have wD := (ab_dawnR_wf (R := fun p => ab_fore (g 170) p (g 170 169 + 1)) h2 (by omega) hd).1
  refine ⟨gp_ud h1 u1 (by rw [d2 365 (by omega) (by omega)]; exact ud_W_of h2 h3) (by rw [d2 365 (by omega) (by omega)]; exact Int.le_refl _), by rw [gp_170]; exact wD, by rw [gp_170]; exact u2, fun x hx => ?_⟩
  rw [gp_170]
  by_cases c : x < 0
  · rw [ab_dawn_neg c]; exact h4 x hx
  · rw [d2 x (by omega) (by omega)]; exact h4 x hx
theorem or_1_G (h : or_G A0 g) (x : pz_C) (done : Int) : or_G A0 (or_1 S x g done).2 ∧ ((or_1 S x g done).1 = 0 ∨ (or_1 S x g done).1 = 1 ∨ (or_1 S x g done).1 = -3 ∨ (or_1 S x g done).1 = -5) := by
  unfold or_1
  by_cases c1 : x.2.2.2.2.2.2 (or_env S (g 170) done) ≠ some 1
  · rw [if_pos c1]; exact ⟨h, Or.inl rfl⟩
  · rw [if_neg c1]
    by_cases c2 : x.1 = 4
    · rw [if_pos c2]
      by_cases c3 : g 170 169 < 999
      · rw [if_pos c3]; exact ⟨or_dawn_G h c3, Or.inr (Or.inl rfl)⟩
      · rw [if_neg c3]; exact ⟨h, Or.inr (Or.inr (Or.inl rfl))⟩
    · rw [if_neg c2]
      split
      · rename_i a t l _ _ _
        by_cases c4 : ab_why (g 170) a t l 1 (g 170 169) = 0
        · rw [if_pos c4]; exact ⟨or_say_G h c4, Or.inr (Or.inl rfl)⟩
        · rw [if_neg c4]
          by_cases c5 : ab_why (g 170) a t l 1 (g 170 169) = -5
          · rw [if_pos c5]; exact ⟨h, Or.inr (Or.inr (Or.inr rfl))⟩
          · rw [if_neg c5]; exact ⟨h, Or.inr (Or.inr (Or.inl rfl))⟩
      · exact ⟨h, Or.inr (Or.inr (Or.inl rfl))⟩
theorem or_t_G : ∀ (n : Nat) (x : pz_C) (g : am_M) (done : Int), or_G A0 g → or_G A0 (or_t S x n g done).2.1 ∧ ((or_t S x n g done).1 = 0 ∨ (or_t S x n g done).1 = -3 ∨ (or_t S x n g done).1 = -5) ∧ done ≤ (or_t S x n g done).2.2 ∧ (or_t S x n g done).2.2 ≤ done + n := by
  intro n
  induction n with
  | zero => intro x g done h; exact ⟨h, Or.inl rfl, Int.le_refl _, by show done ≤ done + ((0 : Nat) : Int); omega⟩
  | succ n ih =>
    intro x g done h
    obtain ⟨h1, h2⟩ := or_1_G (S := S) h x done
    rw [or_t]
    by_cases c1 : (or_1 S x g done).1 = 0
    · rw [if_pos c1]
      obtain ⟨i1, i2, i3, i4⟩ := ih x g done h
      exact ⟨i1, i2, i3, by omega⟩
    · rw [if_neg c1]
      by_cases c2 : (or_1 S x g done).1 = 1
      · rw [if_pos c2]
        obtain ⟨i1, i2, i3, i4⟩ := ih x (or_1 S x g done).2 (done + 1) h1
        exact ⟨i1, i2, by omega, by omega⟩
      · rw [if_neg c2]
        exact ⟨h, by simp only []; omega, Int.le_refl _, by simp only []; omega⟩
end ORA
