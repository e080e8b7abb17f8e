/-! CODE, the class: one way to share a set out. -/
/-- a set that is done with -/
def cdG (w L : Int → Int) (k : Int) (n : Nat) (m : am_M) (s : Int) : Prop :=
  m 159 s = kc w (bt s) n ∧ m 160 s = kc w (fun j => m 161 (s * 6 + j)) n ∧ (∀ j, 0 ≤ j → j < 6 → (0 ≤ m 161 (s * 6 + j) ∧ m 161 (s * 6 + j) ≤ 9 * s) ∧ (¬ bitI s j → m 161 (s * 6 + j) = 0)) ∧ (s ≠ 0 → kb w n (Cod k L n (fun j => bitI s j)) (fun j => m 161 (s * 6 + j)))
theorem cdG_of {w L : Int → Int} {k : Int} {n : Nat} {m m' : am_M} {s : Int} (h : cdG w L k n m s) (e1 : m' 159 s = m 159 s) (e2 : m' 160 s = m 160 s) (e3 : ∀ j, m' 161 (s * 6 + j) = m 161 (s * 6 + j) ∨ j < 0 ∨ 6 ≤ j) (hn : n ≤ 6) : cdG w L k n m' s := by
  obtain ⟨h1, h2, h3, h4⟩ := h
  have e : ∀ j, 0 ≤ j → j < 6 → m' 161 (s * 6 + j) = m 161 (s * 6 + j) := fun j j0 j1 => by
    rcases e3 j with z | z | z
    · exact z
    · omega
    · omega
  have ek : ke n (fun j => m' 161 (s * 6 + j)) (fun j => m 161 (s * 6 + j)) := fun j j0 j1 => e j j0 (by omega)
  refine ⟨by rw [e1]; exact h1, by rw [e2, h2]; exact (kc_e ek).symm, fun j j0 j1 => by rw [e j j0 j1]; exact h3 j j0 j1, fun hs => ?_⟩
  obtain ⟨⟨f, g1⟩, g2⟩ := h4 hs
  exact ⟨⟨f, cod_ext f (fun _ _ _ => Iff.rfl) ek g1⟩, fun t ht => kl_trans (kl_ke ek) (g2 t ht)⟩
/-- a, b, c are a sharing of the set -/
def cdV (k set a b c : Int) : Prop := (0 ≤ a ∧ a < set) ∧ (0 ≤ b ∧ b < set) ∧ (0 ≤ c ∧ c < set) ∧ (c = 0 ∨ k = 3) ∧ ∀ j, 0 ≤ j → (bitI a j → bitI set j ∧ ¬ bitI b j) ∧ (bitI b j → bitI set j) ∧ (bitI c j ↔ bitI set j ∧ ¬ bitI a j ∧ ¬ bitI b j)
/-- the row that comes of it -/
def trow (m : am_M) (L : Int → Int) (set a b c j : Int) : Int := if bt set j ≠ 1 then 0 else if bt a j = 1 then m 161 (a * 6 + j) + L 0 else if bt b j = 1 then m 161 (b * 6 + j) + L 1 else m 161 (c * 6 + j) + L 2
/-- a sum of three -/
theorem kc_3 {w t ra rb rc ia ib ic : Int → Int} {l0 l1 l2 : Int} : ∀ {n : Nat}, (∀ j, 0 ≤ j → j < (n : Int) → t j = ra j + rb j + rc j + l0 * ia j + l1 * ib j + l2 * ic j) → kc w t n = kc w ra n + l0 * kc w ia n + kc w rb n + l1 * kc w ib n + kc w rc n + l2 * kc w ic n := by
  intro n
  induction n with
  | zero => intro _; simp only [kc]; omega
  | succ n ih =>
    intro h
    simp only [kc]
    rw [ih (fun j j0 j1 => h j j0 (by omega)), h n (by omega) (by omega)]
    simp only [Int.mul_add]
    rw [Int.mul_left_comm (w n) l0, Int.mul_left_comm (w n) l1, Int.mul_left_comm (w n) l2]
    omega
theorem bt_0 {s j : Int} (hs : 0 ≤ s ∧ s < 64) (hj : 0 ≤ j ∧ j < 6) (h : ¬ bitI s j) : bt s j = 0 := by
  have := bt_01 s j
  have g := bt_b (s := s) (j := j) (by omega) (by omega)
  rcases this with z | z
  · exact z
  · exact absurd (g.mp z) h
section CDT
variable {n : Nat} {k : Int} {L w : Int → Int} {m : am_M} {set a b c : Int}
theorem trow_3 (hset : 0 ≤ set ∧ set < 64) (hv : cdV k set a b c) (ga : cdG w L k n m a) (gb : cdG w L k n m b) (gc : cdG w L k n m c) {j : Int} (j0 : 0 ≤ j) (j1 : j < 6) : trow m L set a b c j = m 161 (a * 6 + j) + m 161 (b * 6 + j) + m 161 (c * 6 + j) + L 0 * bt a j + L 1 * bt b j + L 2 * bt c j := by
  obtain ⟨v1, v2, v3, v4, v5⟩ := hv
  obtain ⟨u1, u2, u3⟩ := v5 j j0
  have hj : 0 ≤ j ∧ j < 32 := by omega
  have ba := bt_b (s := a) (j := j) (by omega) hj
  have bb := bt_b (s := b) (j := j) (by omega) hj
  have bs := bt_b (s := set) (j := j) (by omega) hj
  have bc' := bt_b (s := c) (j := j) (by omega) hj
  have za := (ga.2.2.1 j j0 j1).2
  have zb := (gb.2.2.1 j j0 j1).2
  have zc := (gc.2.2.1 j j0 j1).2
  unfold trow
  by_cases cs : bitI set j
  · rw [if_neg (fun z => z (bs.mpr cs))]
    by_cases ca : bitI a j
    · have nb := (u1 ca).2
      have nc : ¬ bitI c j := fun z => (u3.mp z).2.1 ca
      rw [if_pos (ba.mpr ca), ba.mpr ca, bt_0 (by omega) (by omega) nb, bt_0 (by omega) (by omega) nc, zb nb, zc nc]
      omega
    · rw [if_neg (fun z => ca (ba.mp z))]
      by_cases cb : bitI b j
      · have nc : ¬ bitI c j := fun z => (u3.mp z).2.2 cb
        rw [if_pos (bb.mpr cb), bb.mpr cb, bt_0 (by omega) (by omega) ca, bt_0 (by omega) (by omega) nc, za ca, zc nc]
        omega
      · have cc : bitI c j := u3.mpr ⟨cs, ca, cb⟩
        rw [if_neg (fun z => cb (bb.mp z)), bc'.mpr cc, bt_0 (by omega) (by omega) ca, bt_0 (by omega) (by omega) cb, za ca, zb cb]
        omega
  · have na : ¬ bitI a j := fun z => cs (u1 z).1
    have nb : ¬ bitI b j := fun z => cs (u2 z)
    have nc : ¬ bitI c j := fun z => cs (u3.mp z).1
    rw [if_pos (fun z => cs (bs.mp z)), bt_0 (by omega) (by omega) na, bt_0 (by omega) (by omega) nb, bt_0 (by omega) (by omega) nc, za na, zb nb, zc nc]
    omega
/-- bounds of it -/
theorem trow_b (hset : 0 ≤ set ∧ set < 64) (hL : ∀ l, 0 ≤ l → l < k → 1 ≤ L l ∧ L l ≤ 9) (hk : 2 ≤ k ∧ k ≤ 3) (hv : cdV k set a b c) (ga : cdG w L k n m a) (gb : cdG w L k n m b) (gc : cdG w L k n m c) {j : Int} (j0 : 0 ≤ j) (j1 : j < 6) : (0 ≤ trow m L set a b c j ∧ trow m L set a b c j ≤ 9 * set) ∧ (¬ bitI set j → trow m L set a b c j = 0) := by
  obtain ⟨v1, v2, v3, v4, v5⟩ := hv
  obtain ⟨u1, u2, u3⟩ := v5 j j0
  have hj : 0 ≤ j ∧ j < 32 := by omega
  have ba := bt_b (s := a) (j := j) (by omega) hj
  have bb := bt_b (s := b) (j := j) (by omega) hj
  have bs := bt_b (s := set) (j := j) (by omega) hj
  have za := (ga.2.2.1 j j0 j1).1
  have zb := (gb.2.2.1 j j0 j1).1
  have zc := (gc.2.2.1 j j0 j1).1
  have l0 := hL 0 (by omega) (by omega)
  have l1 := hL 1 (by omega) (by omega)
  unfold trow
  by_cases cs : bitI set j
  · rw [if_neg (fun z => z (bs.mpr cs))]
    refine ⟨?_, fun z => absurd cs z⟩
    by_cases ca : bt a j = 1
    · rw [if_pos ca]; omega
    · rw [if_neg ca]
      by_cases cb : bt b j = 1
      · rw [if_pos cb]; omega
      · rw [if_neg cb]
        have cc : bitI c j := u3.mpr ⟨cs, fun z => ca (ba.mpr z), fun z => cb (bb.mpr z)⟩
        have c0 : c ≠ 0 := fun z => by rw [z] at cc; exact bit_0 j cc
        have l2 := hL 2 (by omega) (by omega)
        omega
  · rw [if_pos (fun z => cs (bs.mp z))]
    exact ⟨by omega, fun _ => rfl⟩
end CDT
