/-! WORDINGS: the rule that is taken, how many words. -/
def wg_ch (A w : Int → Int) (t : Int) : Nat → Int → Int
  | 0, _ => -1
  | k + 1, i => if A (180 + 4 * i) = t ∧ w t < wg_T ∧ wg_c A w i = w t then i else wg_ch A w t k (i + 1)
def wg_h (A w : Int → Int) (t : Int) : Int := wg_ch A w t (A 364).toNat 0
theorem wg_ch_p {A w : Int → Int} {t : Int} : ∀ (k : Nat) (i : Int), (wg_ch A w t k i = -1 ∧ ∀ j, i ≤ j → j < i + k → ¬ (A (180 + 4 * j) = t ∧ w t < wg_T ∧ wg_c A w j = w t)) ∨ (i ≤ wg_ch A w t k i ∧ wg_ch A w t k i < i + k ∧ A (180 + 4 * wg_ch A w t k i) = t ∧ w t < wg_T ∧ wg_c A w (wg_ch A w t k i) = w t) := by
  intro k
  induction k with
  | zero => intro i; exact Or.inl ⟨rfl, fun j h0 h1 => by omega⟩
  | succ k ih =>
    intro i
    rw [wg_ch]
    by_cases c : A (180 + 4 * i) = t ∧ w t < wg_T ∧ wg_c A w i = w t
    · rw [if_pos c]; exact Or.inr ⟨by omega, by omega, c⟩
    · rw [if_neg c]
      rcases ih (i + 1) with ⟨h1, h2⟩ | ⟨h1, h2, h3⟩
      · refine Or.inl ⟨h1, fun j h0 hj => ?_⟩
        by_cases e : j = i
        · rw [e]; exact c
        · exact h2 j (by omega) (by omega)
      · exact Or.inr ⟨by omega, by omega, h3⟩
def wv_p (v : Int → Int) (p : Int) : Int := if p = -1 then 0 else if p < 10 then 1 else v (p - 10)
def wv_s (A v : Int → Int) (r : Int) : Int := wv_p v (A (180 + 4 * r + 1)) + wv_p v (A (180 + 4 * r + 2)) + wv_p v (A (180 + 4 * r + 3))
def wv_t (A w v : Int → Int) (t : Int) : Int := if wg_h A w t = -1 then 0 else w32 (w32 (wv_p v (A (180 + 4 * wg_h A w t + 1)) + wv_p v (A (180 + 4 * wg_h A w t + 2))) + wv_p v (A (180 + 4 * wg_h A w t + 3)))
def wv_r (A w : Int → Int) : Nat → (Int → Int) → Int → Int
  | 0, v => v
  | k + 1, v => wrA (wv_r A w k v) k (wv_t A w (wv_r A w k v) k)
def wv_n (A w : Int → Int) : Nat → Int → Int
  | 0 => fun _ => 0
  | k + 1 => wv_r A w 8 (wv_n A w k)
def tv (A w : Int → Int) : Nat → Int → Int
  | 0, _ => 0
  | k + 1, t => if wg_h A w t = -1 then 0 else wv_s A (tv A w k) (wg_h A w t)
def p3_ : Nat → Int
  | 0 => 1
  | k + 1 => 3 * p3_ k
theorem p3_1 : ∀ k, 1 ≤ p3_ k := by
  intro k
  induction k with
  | zero => decide
  | succ k ih => rw [p3_]; omega
section WV
variable {A w : Int → Int}
theorem wg_h_p (hA : wg_A A) (t : Int) : (wg_h A w t = -1 ∧ ∀ j, 0 ≤ j → j < A 364 → ¬ (A (180 + 4 * j) = t ∧ w t < wg_T ∧ wg_c A w j = w t)) ∨ (0 ≤ wg_h A w t ∧ wg_h A w t < A 364 ∧ A (180 + 4 * wg_h A w t) = t ∧ w t < wg_T ∧ wg_c A w (wg_h A w t) = w t) := by
  have hN := hA.1
  rcases wg_ch_p (A := A) (w := w) (t := t) (A 364).toNat 0 with ⟨h1, h2⟩ | ⟨h1, h2, h3⟩
  · exact Or.inl ⟨h1, fun j h0 hj => h2 j h0 (by omega)⟩
  · exact Or.inr ⟨h1, by unfold wg_h; omega, h3⟩
theorem wg_h_fin (hA : wg_A A) (h : wg_ok A w) (e : wg_d A w = w) {t : Int} (ht : 0 ≤ t ∧ t < 8) (hT : w t < wg_T) : 0 ≤ wg_h A w t := by
  rcases wg_h_p (w := w) hA t with ⟨-, h2⟩ | h2
  · exfalso
    rcases h.2 t ht.1 ht.2 with hi | ⟨-, -, r, r0, r1, r2, r3⟩
    · rw [hi] at hT; exact absurd hT (by decide)
    · have := wg_fix hA h e ⟨r0, r1⟩ (by omega)
      rw [r2] at this
      exact h2 r r0 r1 ⟨r2, hT, by omega⟩
  · exact h2.1
/-- a part of the rule that is taken -/
theorem wg_h_q (hA : wg_A A) (h : wg_ok A w) {t k : Int} (hh : 0 ≤ wg_h A w t) (hk : k = 1 ∨ k = 2 ∨ k = 3) (hp : 10 ≤ A (180 + 4 * wg_h A w t + k)) : (0 ≤ A (180 + 4 * wg_h A w t + k) - 10 ∧ A (180 + 4 * wg_h A w t + k) - 10 < 8) ∧ w (A (180 + 4 * wg_h A w t + k) - 10) < wg_T ∧ wg_k w (A (180 + 4 * wg_h A w t + k) - 10) < wg_k w t := by
  rcases wg_h_p (w := w) hA t with ⟨h1, -⟩ | ⟨h1, h2, h3, h4, h5⟩
  · omega
  · obtain ⟨q1, q2⟩ := wg_q hA (wg_ok_0 h) ⟨h1, h2⟩ hk hp
    exact ⟨q1, by omega, wg_k_lt q1 (by omega)⟩
theorem wv_p_le {v v' : Int → Int} {p : Int} (h : 10 ≤ p → v (p - 10) = v' (p - 10)) (hp : -1 ≤ p) : wv_p v p = wv_p v' p := by
  unfold wv_p
  by_cases c1 : p = -1
  · rw [if_pos c1, if_pos c1]
  · rw [if_neg c1, if_neg c1]
    by_cases c2 : p < 10
    · rw [if_pos c2, if_pos c2]
    · rw [if_neg c2, if_neg c2]; exact h (by omega)
theorem wv_s_eq (hA : wg_A A) {v v' : Int → Int} {r : Int} (hr : 0 ≤ r ∧ r < A 364) (h : ∀ k, (k = 1 ∨ k = 2 ∨ k = 3) → 10 ≤ A (180 + 4 * r + k) → v (A (180 + 4 * r + k) - 10) = v' (A (180 + 4 * r + k) - 10)) : wv_s A v r = wv_s A v' r := by
  have g := (hA.2 r hr.1 hr.2).2.2
  unfold wv_s
  rw [wv_p_le (h 1 (Or.inl rfl)) (g 1 (Or.inl rfl)).1, wv_p_le (h 2 (Or.inr (Or.inl rfl))) (g 2 (Or.inr (Or.inl rfl))).1, wv_p_le (h 3 (Or.inr (Or.inr rfl))) (g 3 (Or.inr (Or.inr rfl))).1]
theorem tv_le (hA : wg_A A) : ∀ (k : Nat) (t : Int), 0 ≤ tv A w k t ∧ tv A w k t ≤ p3_ k := by
  intro k
  induction k with
  | zero => intro t; exact ⟨Int.le_refl _, by show (0 : Int) ≤ 1; decide⟩
  | succ k ih =>
    intro t
    rw [tv, p3_]
    have h1 := p3_1 k
    by_cases c : wg_h A w t = -1
    · rw [if_pos c]; omega
    · rw [if_neg c]
      have part : ∀ p, 0 ≤ wv_p (tv A w k) p ∧ wv_p (tv A w k) p ≤ p3_ k := fun p => by
        unfold wv_p
        split
        · omega
        · split
          · omega
          · exact ih _
      have a1 := part (A (180 + 4 * wg_h A w t + 1))
      have a2 := part (A (180 + 4 * wg_h A w t + 2))
      have a3 := part (A (180 + 4 * wg_h A w t + 3))
      unfold wv_s
      omega
theorem tv_ind (hA : wg_A A) (h : wg_ok A w) : ∀ (k : Nat) (t : Int), wg_k w t < k → tv A w (k + 1) t = tv A w k t := by
  intro k
  induction k with
  | zero => intro t hk; omega
  | succ k ih =>
    intro t hk
    rw [tv, tv]
    by_cases c : wg_h A w t = -1
    · rw [if_pos c, if_pos c]
    · rw [if_neg c, if_neg c]
      rcases wg_h_p (w := w) hA t with ⟨h1, -⟩ | ⟨h1, h2, -⟩
      · exact absurd h1 c
      · exact wv_s_eq hA ⟨h1, h2⟩ (fun j hj hp => ih _ (by have := (wg_h_q hA h h1 hj hp).2.2; omega))
theorem tv_pos (hA : wg_A A) (h : wg_ok A w) (e : wg_d A w = w) : ∀ (k : Nat) (t : Int), 0 ≤ t → t < 8 → w t < wg_T → wg_k w t < k → 1 ≤ tv A w k t := by
  intro k
  induction k with
  | zero => intro t _ _ _ hk; omega
  | succ k ih =>
    intro t t0 t1 hT hk
    have hh := wg_h_fin hA h e ⟨t0, t1⟩ hT
    rw [tv, if_neg (by omega)]
    rcases wg_h_p (w := w) hA t with ⟨h1, -⟩ | ⟨h1, h2, -⟩
    · omega
    have part : ∀ p, 0 ≤ wv_p (tv A w k) p := fun p => by
      unfold wv_p
      split
      · omega
      · split
        · omega
        · exact (tv_le hA k _).1
    have a2 := part (A (180 + 4 * wg_h A w t + 2))
    have a3 := part (A (180 + 4 * wg_h A w t + 3))
    have a1 : 1 ≤ wv_p (tv A w k) (A (180 + 4 * wg_h A w t + 1)) := by
      have g := (hA.2 _ h1 h2).2.1
      unfold wv_p
      rw [if_neg (by omega)]
      by_cases c : A (180 + 4 * wg_h A w t + 1) < 10
      · rw [if_pos c]; omega
      · rw [if_neg c]
        obtain ⟨q1, q2, q3⟩ := wg_h_q hA h h1 (Or.inl rfl) (show 10 ≤ A (180 + 4 * wg_h A w t + 1) by omega)
        exact ih _ q1.1 q1.2 q2 (by omega)
    unfold wv_s
    omega
/-- how many words there are in truth -/
theorem tv_eq (hA : wg_A A) (h : wg_ok A w) {t : Int} (ht : 0 ≤ t ∧ t < 8) (hh : 0 ≤ wg_h A w t) : tv A w 8 t = wv_s A (tv A w 8) (wg_h A w t) := by
  have h7 := wg_k_7 (w := w) ht
  rw [← tv_ind hA h 8 t (by omega), tv, if_neg (by omega)]
theorem wv_p_b (hA : wg_A A) (p : Int) : 0 ≤ wv_p (tv A w 8) p ∧ wv_p (tv A w 8) p ≤ 6561 := by
  have h3 : p3_ 8 = 6561 := by decide
  unfold wv_p
  split
  · omega
  · split
    · omega
    · have := tv_le (w := w) hA 8 (p - 10); omega
theorem wv_t_eq (hA : wg_A A) (h : wg_ok A w) {t : Int} (ht : 0 ≤ t ∧ t < 8) {u : Int → Int} (hu : 0 ≤ wg_h A w t → ∀ k, (k = 1 ∨ k = 2 ∨ k = 3) → 10 ≤ A (180 + 4 * wg_h A w t + k) → u (A (180 + 4 * wg_h A w t + k) - 10) = tv A w 8 (A (180 + 4 * wg_h A w t + k) - 10)) : wv_t A w u t = tv A w 8 t := by
  unfold wv_t
  rcases wg_h_p (w := w) hA t with ⟨h1, -⟩ | ⟨h1, h2, -⟩
  · rw [if_pos h1, tv, if_pos h1]
  · rw [if_neg (by omega), tv_eq hA h ht h1]
    have g := (hA.2 _ h1 h2).2.2
    rw [wv_p_le (v' := tv A w 8) (hu h1 1 (Or.inl rfl)) (g 1 (Or.inl rfl)).1, wv_p_le (v' := tv A w 8) (hu h1 2 (Or.inr (Or.inl rfl))) (g 2 (Or.inr (Or.inl rfl))).1, wv_p_le (v' := tv A w 8) (hu h1 3 (Or.inr (Or.inr rfl))) (g 3 (Or.inr (Or.inr rfl))).1]
    have a1 := wv_p_b (w := w) hA (A (180 + 4 * wg_h A w t + 1))
    have a2 := wv_p_b (w := w) hA (A (180 + 4 * wg_h A w t + 2))
    have a3 := wv_p_b (w := w) hA (A (180 + 4 * wg_h A w t + 3))
    rw [w32_of (z := wv_p (tv A w 8) (A (180 + 4 * wg_h A w t + 1)) + wv_p (tv A w 8) (A (180 + 4 * wg_h A w t + 2))) (by omega) (by omega), w32_of (by omega) (by omega)]
    rfl
theorem wv_reach (hA : wg_A A) (h : wg_ok A w) : ∀ (j : Nat) (t : Int), 0 ≤ t → t < 8 → (wg_h A w t = -1 ∨ wg_k w t < j) → wv_n A w j t = tv A w 8 t := by
  intro j
  induction j with
  | zero =>
    intro t t0 t1 hp
    rcases hp with hp | hp
    · rw [tv, if_pos hp]; rfl
    · omega
  | succ j ih =>
    have key : ∀ m : Nat, m ≤ 8 → (∀ t, 0 ≤ t → t < 8 → (wg_h A w t = -1 ∨ wg_k w t < j) → wv_r A w m (wv_n A w j) t = tv A w 8 t) ∧ ∀ t, 0 ≤ t → t < (m : Int) → (wg_h A w t = -1 ∨ wg_k w t < j + 1) → wv_r A w m (wv_n A w j) t = tv A w 8 t := by
      intro m
      induction m with
      | zero => intro _; exact ⟨ih, fun t t0 t1 => by omega⟩
      | succ m ihm =>
        intro hm
        obtain ⟨h1, h2⟩ := ihm (by omega)
        have cell : (wg_h A w (m : Int) = -1 ∨ wg_k w (m : Int) < j + 1) → wv_t A w (wv_r A w m (wv_n A w j)) m = tv A w 8 m := fun hp => by
          refine wv_t_eq hA h (by omega) (fun hh k hk hp2 => ?_)
          obtain ⟨q1, q2, q3⟩ := wg_h_q hA h hh hk hp2
          refine h1 _ q1.1 q1.2 (Or.inr ?_)
          rcases hp with hp | hp
          · omega
          · omega
        refine ⟨fun t t0 t1 hp => ?_, fun t t0 t1 hp => ?_⟩
        · rw [wv_r]
          by_cases e : t = m
          · rw [e, wrA_same]
            rw [e] at hp
            refine cell ?_
            rcases hp with hp | hp
            · exact Or.inl hp
            · exact Or.inr (by omega)
          · rw [wrA_ne _ e]; exact h1 t t0 t1 hp
        · rw [wv_r]
          by_cases e : t = m
          · rw [e, wrA_same]
            rw [e] at hp
            exact cell hp
          · rw [wrA_ne _ e]; exact h2 t t0 (by omega) hp
    intro t t0 t1 hp
    exact (key 8 (by omega)).2 t t0 (by omega) hp
theorem wv_eight (hA : wg_A A) (h : wg_ok A w) {t : Int} (ht : 0 ≤ t ∧ t < 8) : wv_n A w 8 t = tv A w 8 t := wv_reach hA h 8 t ht.1 ht.2 (Or.inr (by have := wg_k_7 (w := w) ht; omega))
/-- where there is no rule there is no word, all along -/
theorem wv_none {k m : Nat} {t : Int} (hh : wg_h A w t = -1) : wv_r A w m (wv_n A w k) t = 0 := by
  have step : ∀ (m : Nat) (v : Int → Int), v t = 0 → wv_r A w m v t = 0 := by
    intro m
    induction m with
    | zero => intro v h; exact h
    | succ m ih =>
      intro v h
      rw [wv_r]
      by_cases e : t = m
      · rw [e, wrA_same, wv_t, if_pos (by rw [← e]; exact hh)]
      · rw [wrA_ne _ e]; exact ih v h
  have base : ∀ k : Nat, wv_n A w k t = 0 := by
    intro k
    induction k with
    | zero => rfl
    | succ k ih => exact step 8 _ ih
  exact step m _ (base k)
end WV
/-- the word at a place -/
def wa_nx (f : Int → Int → Int) (p l : Int) : Int := if p < 10 then p else f (p - 10) l
def wa_at (A w v : Int → Int) : Nat → Int → Int → Int
  | 0, _, _ => -1
  | k + 1, t, l =>
    if l < wv_p v (A (180 + 4 * wg_h A w t + 1)) then wa_nx (wa_at A w v k) (A (180 + 4 * wg_h A w t + 1)) l
    else if l - wv_p v (A (180 + 4 * wg_h A w t + 1)) < wv_p v (A (180 + 4 * wg_h A w t + 2)) then wa_nx (wa_at A w v k) (A (180 + 4 * wg_h A w t + 2)) (l - wv_p v (A (180 + 4 * wg_h A w t + 1)))
    else wa_nx (wa_at A w v k) (A (180 + 4 * wg_h A w t + 3)) (l - wv_p v (A (180 + 4 * wg_h A w t + 1)) - wv_p v (A (180 + 4 * wg_h A w t + 2)))
