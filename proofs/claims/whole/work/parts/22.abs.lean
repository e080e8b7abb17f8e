/-! THE ABSTRACT STATE s (numbered as the model's cells) and what both sides have to do with it. -/
/-- the model's cells that last from call to call -/
def am_pc (o k : Int) : Prop := (o = 168 ∧ (k = 0 ∨ k = 6 ∨ k = 13 ∨ k = 14 ∨ k = 38 ∨ k = 48 ∨ k = 58)) ∨ o = 169 ∨ (o = 170 ∧ k < 370) ∨ (o = 171 ∧ (k < 370 ∨ (5977 ≤ k ∧ k < 6347))) ∨ o = 172 ∨ o = 175 ∨ o = 189 ∨ o = 198 ∨ o = 199
def am_MS (m s : am_M) : Prop := ∀ o k, am_pc o k → m o k = s o k
theorem ms_st {m s : am_M} (h : am_MS m s) (o k v : Int) : am_MS (am_st m o k v) (am_st s o k v) := fun o' k' hp => by
  rw [am_st_eq, am_st_eq]
  split
  · rfl
  · exact h o' k' hp
theorem ms_sc {m s : am_M} (h : am_MS m s) {o k : Int} (v : Int) (hn : ¬ am_pc o k) : am_MS (am_st m o k v) s := fun o' k' hp => by
  rw [am_st_eq, if_neg]
  · exact h o' k' hp
  · rintro ⟨rfl, rfl⟩
    exact hn hp
theorem ms_of {m m' s : am_M} (h : am_MS m s) (e : ∀ o k, 168 ≤ o → m' o k = m o k) : am_MS m' s := fun o k hp => (e o k (by unfold am_pc at hp; omega)).trans (h o k hp)
/-- a Rows object of the class and its place in the flat row A: how many at n0, the cells from base on -/
def am_RF (m : am_M) (r w cap : Int) (A : Int → Int) (n0 base : Int) : Prop := rk m r w cap ∧ m r 2 = A n0 ∧ ∀ x, 0 ≤ x → x < A n0 * w → m (r + 1) x = A (base + x)
theorem rk_of {m m' : am_M} {r w cap : Int} (h : rk m r w cap) (e1 : m' r 1 = m r 1) (e2 : m' r 2 = m r 2) : rk m' r w cap := ⟨h.1, e1.trans h.2.1, e2 ▸ h.2.2.1, e2 ▸ h.2.2.2⟩
theorem rk_to {m m' : am_M} {r w cap : Int} (h : rk m r w cap) (e1 : m' r 1 = m r 1) (e2 : 0 ≤ m' r 2 ∧ m' r 2 * w ≤ cap) : rk m' r w cap := ⟨h.1, e1.trans h.2.1, e2.1, e2.2⟩
theorem rf_of {m m' : am_M} {r w cap : Int} {A A' : Int → Int} {n0 base : Int} (h : am_RF m r w cap A n0 base) (e1 : m' r 1 = m r 1) (e2 : m' r 2 = m r 2) (e3 : ∀ x, m' (r + 1) x = m (r + 1) x) (a1 : A' n0 = A n0) (a2 : ∀ x, base ≤ x → x < base + cap → A' x = A x) : am_RF m' r w cap A' n0 base := by
  refine ⟨rk_of h.1 e1 e2, by rw [e2, a1]; exact h.2.1, fun x h0 h1 => ?_⟩
  rw [a1] at h1
  have hc := h.1.2.2.2
  rw [h.2.1] at hc
  rw [e3, a2 _ (by omega) (by omega)]
  exact h.2.2 x h0 h1
/-- what is asked of a row -/
theorem rf_get {m : am_M} {r w cap : Int} {A : Int → Int} {n0 base : Int} (h : am_RF m r w cap A n0 base) (i j : Int) : rget m r w i j = if (0 ≤ i ∧ i < A n0) ∧ 0 ≤ j ∧ j < w then A (base + (i * w + j)) else -1 := by
  unfold rget
  rw [h.2.1]
  split
  · rename_i c
    have e : (i + 1) * w ≤ A n0 * w := Int.mul_le_mul_of_nonneg_right (by omega) (by omega)
    have e0 : 0 ≤ i * w := Int.mul_nonneg c.1.1 (by omega)
    rw [Int.add_mul, Int.one_mul] at e
    exact h.2.2 _ (by omega) (by omega)
  · rfl
