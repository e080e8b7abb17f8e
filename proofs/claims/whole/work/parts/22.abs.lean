/-! THE ABSTRACT STATE s (numbered as the model's cells) and what both sides have to do with it. -/
/-- the model's cells that last from call to call -/
def am_pc (o k : Int) : Prop := (o = 168 ∧ (k = 0 ∨ k = 6 ∨ k = 13 ∨ k = 14 ∨ k = 38 ∨ k = 48 ∨ k = 58)) ∨ o = 169 ∨ (o = 170 ∧ k < 370) ∨ (o = 171 ∧ (k < 370 ∨ (5977 ≤ k ∧ k < 6347))) ∨ o = 172 ∨ o = 175 ∨ o = 189 ∨ o = 198 ∨ o = 199
def am_MS (m s : am_M) : Prop := ∀ o k, am_pc o k → m o k = s o k
theorem ms_st {m s : am_M} (h : am_MS m s) (o k v : Int) : am_MS (am_st m o k v) (am_st s o k v) := fun o' k' hp => by
  rw [am_st_eq, am_st_eq]
  split
  · rfl
  · exact h o' k' hp
theorem ms_sc {m s : am_M} (h : am_MS m s) {o k : Int} (v : Int) (hn : ¬ am_pc o k) : am_MS (am_st m o k v) s := fun o' k' hp => by
  rw [am_st_eq, if_neg]
  · exact h o' k' hp
  · rintro ⟨rfl, rfl⟩
    exact hn hp
theorem ms_of {m m' s : am_M} (h : am_MS m s) (e : ∀ o k, 168 ≤ o → m' o k = m o k) : am_MS m' s := fun o k hp => (e o k (by unfold am_pc at hp; omega)).trans (h o k hp)
/-- a Rows object of the class and its place in the flat row A: how many at n0, the cells from base on -/
def am_RF (m : am_M) (r w cap : Int) (A : Int → Int) (n0 base : Int) : Prop := rk m r w cap ∧ m r 2 = A n0 ∧ ∀ x, 0 ≤ x → x < A n0 * w → m (r + 1) x = A (base + x)
theorem rk_of {m m' : am_M} {r w cap : Int} (h : rk m r w cap) (e1 : m' r 1 = m r 1) (e2 : m' r 2 = m r 2) : rk m' r w cap := ⟨h.1, e1.trans h.2.1, e2 ▸ h.2.2.1, e2 ▸ h.2.2.2⟩
theorem rk_to {m m' : am_M} {r w cap : Int} (h : rk m r w cap) (e1 : m' r 1 = m r 1) (e2 : 0 ≤ m' r 2 ∧ m' r 2 * w ≤ cap) : rk m' r w cap := ⟨h.1, e1.trans h.2.1, e2.1, e2.2⟩
theorem rf_of {m m' : am_M} {r w cap : Int} {A A' : Int → Int} {n0 base : Int} (h : am_RF m r w cap A n0 base) (e1 : m' r 1 = m r 1) (e2 : m' r 2 = m r 2) (e3 : ∀ x, m' (r + 1) x = m (r + 1) x) (a1 : A' n0 = A n0) (a2 : ∀ x, base ≤ x → x < base + cap → A' x = A x) : am_RF m' r w cap A' n0 base := by
  refine ⟨rk_of h.1 e1 e2, by rw [e2, a1]; exact h.2.1, fun x h0 h1 => ?_⟩
  rw [a1] at h1
  have hc := h.1.2.2.2
  rw [h.2.1] at hc
  rw [e3, a2 _ (by omega) (by omega)]
  exact h.2.2 x h0 h1
/-- what is asked of a row -/
theorem rf_get {m : am_M} {r w cap : Int} {A : Int → Int} {n0 base : Int} (h : am_RF m r w cap A n0 base) (i j : Int) : rget m r w i j = if (0 ≤ i ∧ i < A n0) ∧ 0 ≤ j ∧ j < w then A (base + (i * w + j)) else -1 := by
  unfold rget
  rw [h.2.1]
  split
  · rename_i c
    have e : (i + 1) * w ≤ A n0 * w := Int.mul_le_mul_of_nonneg_right (by omega) (by omega)
    have e0 : 0 ≤ i * w := Int.mul_nonneg c.1.1 (by omega)
    rw [Int.add_mul, Int.one_mul] at e
    exact h.2.2 _ (by omega) (by omega)
  · rfl
/-- one Rows object more: opened -/
theorem rf_open {m : am_M} {r w cap : Int} {A : Int → Int} {n0 base : Int} (h : am_RF m r w cap A n0 base) (K : am_KK) : M_X7_open r K m ↔ if (A n0 + 1) * w ≤ cap then K (A n0) (am_st m r 2 (A n0 + 1)) else K (-1) m := by
  rw [open_eq h.1, h.2.1]
/-- the clauses of a Book b, by the flat row A -/
def am_RB (m : am_M) (b : Int) (A : Int → Int) : Prop :=
  am_RF m (b + 1) 1 10 A 363 170 ∧ am_RF m (b + 3) 4 64 A 364 180 ∧ am_RF m (b + 5) 1 6 A 365 316 ∧ am_RF m (b + 7) 2 20 A 366 322 ∧ am_RF m (b + 9) 3 18 A 367 342
  ∧ am_RF m (b + 12) 7 168 A 168 0 ∧ m (b + 11) 1 = A 169
  ∧ (∀ i j, 0 ≤ i → i < 8 → 0 ≤ j → j < 8 → m (b + 14) i / 2 ^ j.toNat % 2 = A (244 + 8 * i + j))
  ∧ (∀ i, 0 ≤ i → i < 8 → 0 ≤ m (b + 14) i ∧ m (b + 14) i < 256 ∧ m (b + 15) i = A (308 + i))
  ∧ (m (b + 16) 1 = A 360 ∧ m (b + 16) 2 = A 361 ∧ m (b + 16) 3 = A 362)
  ∧ m b 10 = A 368 ∧ m b 11 = A 369
/-- bounds of a flat row -/
def am_WA (A : Int → Int) : Prop :=
  (0 ≤ A 363 ∧ A 363 ≤ 10 ∧ ∀ i, 0 ≤ i → i < A 363 → 1 ≤ A (170 + i) ∧ A (170 + i) ≤ 9)
  ∧ (0 ≤ A 364 ∧ A 364 ≤ 16 ∧ ∀ i, 0 ≤ i → i < A 364 → (0 ≤ A (180 + 4 * i) ∧ A (180 + 4 * i) ≤ 7)
      ∧ (0 ≤ A (180 + 4 * i + 1) ∧ A (180 + 4 * i + 1) ≤ 17 ∧ (A (180 + 4 * i + 1) < 10 → A (180 + 4 * i + 1) < A 363))
      ∧ (-1 ≤ A (180 + 4 * i + 2) ∧ A (180 + 4 * i + 2) ≤ 17 ∧ (A (180 + 4 * i + 2) < 10 → A (180 + 4 * i + 2) < A 363))
      ∧ (-1 ≤ A (180 + 4 * i + 3) ∧ A (180 + 4 * i + 3) ≤ 17 ∧ (A (180 + 4 * i + 3) < 10 → A (180 + 4 * i + 3) < A 363)))
  ∧ (0 ≤ A 365 ∧ A 365 ≤ 6 ∧ ∀ i, 0 ≤ i → i < A 365 → 0 ≤ A (316 + i) ∧ A (316 + i) ≤ 99)
  ∧ (0 ≤ A 366 ∧ A 366 ≤ 10 ∧ ∀ i, 0 ≤ i → i < A 366 → 1 ≤ A (322 + 2 * i) ∧ A (322 + 2 * i) ≤ 255 ∧ 1 ≤ A (322 + 2 * i + 1) ∧ A (322 + 2 * i + 1) ≤ 99)
  ∧ (0 ≤ A 367 ∧ A 367 ≤ 6 ∧ ∀ i, 0 ≤ i → i < A 367 → (1 ≤ A (342 + 3 * i) ∧ A (342 + 3 * i) ≤ 9) ∧ (0 ≤ A (342 + 3 * i + 1) ∧ A (342 + 3 * i + 1) ≤ 7) ∧ 0 ≤ A (342 + 3 * i + 2) ∧ A (342 + 3 * i + 2) ≤ 1)
  ∧ (∀ i j, 0 ≤ i → i < 8 → 0 ≤ j → j < 8 → (0 ≤ A (244 + 8 * i + j) ∧ A (244 + 8 * i + j) ≤ 1) ∧ A (244 + 8 * i + j) = A (244 + 8 * j + i) ∧ (i = j → A (244 + 8 * i + j) = 0))
  ∧ (∀ i, 0 ≤ i → i < 8 → 0 ≤ A (308 + i) ∧ A (308 + i) ≤ 99)
  ∧ (1 ≤ A 360 ∧ A 360 ≤ 4) ∧ (0 ≤ A 361 ∧ A 361 ≤ 30) ∧ (0 ≤ A 362 ∧ A 362 ≤ 9)
  ∧ (0 ≤ A 368 ∧ A 368 ≤ 6) ∧ (-1 ≤ A 369 ∧ A 369 < A 368)
/-- bounds of what dawns move: so many prayers at most -/
def am_WV (most ppl : Int) (A : Int → Int) : Prop :=
  (0 ≤ A 168 ∧ A 168 ≤ most) ∧ (0 ≤ A 169 ∧ A 169 ≤ 999)
  ∧ ∀ i, 0 ≤ i → i < A 168 → (0 ≤ A (7 * i) ∧ A (7 * i) < ppl) ∧ (0 ≤ A (7 * i + 1) ∧ A (7 * i + 1) ≤ 7) ∧ (1 ≤ A (7 * i + 2) ∧ A (7 * i + 2) ≤ 99) ∧ (1 ≤ A (7 * i + 3) ∧ A (7 * i + 3) ≤ 6) ∧ (0 ≤ A (7 * i + 4) ∧ A (7 * i + 4) ≤ 999) ∧ (0 ≤ A (7 * i + 5) ∧ A (7 * i + 5) ≤ 2) ∧ -1 ≤ A (7 * i + 6) ∧ A (7 * i + 6) ≤ 999
