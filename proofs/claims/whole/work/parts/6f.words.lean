/-! WORDINGS: rules make shorter until nothing is. -/
def wg_I : Int := 10000000000000
def wg_T : Int := 1000000000000
def wg_p (A w : Int → Int) (p : Int) : Int := if p = -1 then 0 else if p < 10 then 10000 * A (170 + p) else w (p - 10)
def wg_c (A w : Int → Int) (r : Int) : Int := 1 + wg_p A w (A (180 + 4 * r + 1)) + wg_p A w (A (180 + 4 * r + 2)) + wg_p A w (A (180 + 4 * r + 3))
def wg_x (A w : Int → Int) (r : Int) : Int → Int := if wg_c A w r < wg_T ∧ wg_c A w r < w (A (180 + 4 * r)) then wrA w (A (180 + 4 * r)) (wg_c A w r) else w
def wg_r (A : Int → Int) : Nat → (Int → Int) → Int → Int
  | 0, w => w
  | k + 1, w => wg_x A (wg_r A k w) k
def wg_d (A w : Int → Int) : Int → Int := wg_r A (A 364).toNat w
def wg_n (A : Int → Int) : Nat → Int → Int
  | 0 => fun _ => wg_I
  | k + 1 => wg_d A (wg_n A k)
def wg_k (w : Int → Int) (t : Int) : Nat := (List.range 8).countP fun s : Nat => decide (w s < w t)
def tl_ : Nat → Int
  | 0 => 27
  | k + 1 => 3 * tl_ k
def tt_ : Nat → Int
  | 0 => 1
  | k + 1 => 1 + 3 * tt_ k
theorem cnt_le {p q : Nat → Bool} : ∀ l : List Nat, (∀ x ∈ l, p x = true → q x = true) → l.countP p ≤ l.countP q := by
  intro l
  induction l with
  | nil => intro _; exact Nat.le_refl _
  | cons a l ih =>
    intro h
    have h1 := ih (fun x hx => h x (List.mem_cons_of_mem _ hx))
    have h2 := h a List.mem_cons_self
    rw [List.countP_cons, List.countP_cons]
    by_cases c : p a = true
    · rw [if_pos c, if_pos (h2 c)]; omega
    · rw [if_neg c]; split <;> omega
theorem cnt_lt {p q : Nat → Bool} : ∀ l : List Nat, (∀ x ∈ l, p x = true → q x = true) → (∃ x ∈ l, q x = true ∧ ¬ p x = true) → l.countP p < l.countP q := by
  intro l
  induction l with
  | nil => rintro _ ⟨x, hx, -⟩; cases hx
  | cons a l ih =>
    rintro h ⟨x, hx, h1, h2⟩
    have h3 := cnt_le l (fun x hx => h x (List.mem_cons_of_mem _ hx))
    have h4 := h a List.mem_cons_self
    rw [List.countP_cons, List.countP_cons]
    by_cases e : x = a
    · subst e
      rw [if_pos h1, if_neg h2]; omega
    · have hx : x ∈ l := by
        rcases List.mem_cons.mp hx with h | h
        · exact absurd h e
        · exact h
      have h5 := ih (fun x hx => h x (List.mem_cons_of_mem _ hx)) ⟨x, hx, h1, h2⟩
      by_cases c : p a = true
      · rw [if_pos c, if_pos (h4 c)]; omega
      · rw [if_neg c]; split <;> omega
theorem tl_27 : ∀ k, 27 ≤ tl_ k ∧ 1 ≤ tt_ k := by
  intro k
  induction k with
  | zero => exact ⟨by decide, by decide⟩
  | succ k ih => rw [tl_, tt_]; omega
theorem tl_mono : ∀ {a b : Nat}, a ≤ b → tl_ a ≤ tl_ b ∧ tt_ a ≤ tt_ b := by
  intro a b h
  induction b with
  | zero => rw [show a = 0 by omega]; exact ⟨Int.le_refl _, Int.le_refl _⟩
  | succ b ih =>
    by_cases c : a = b + 1
    · rw [c]; exact ⟨Int.le_refl _, Int.le_refl _⟩
    · have := ih (by omega)
      have := tl_27 b
      rw [tl_, tt_]; omega
theorem tl_7 {k : Nat} (h : k ≤ 7) : tl_ k ≤ 59049 ∧ tt_ k ≤ 3280 := by
  have h1 := tl_mono h
  have h2 : tl_ 7 = 59049 := by decide
  have h3 : tt_ 7 = 3280 := by decide
  omega
section WG
variable {w w' : Int → Int}
theorem wg_k_lt {p t : Int} (hp : 0 ≤ p ∧ p < 8) (h : w p < w t) : wg_k w p < wg_k w t := by
  refine cnt_lt _ (fun x _ hx => ?_) ⟨p.toNat, List.mem_range.mpr (by omega), ?_, ?_⟩
  · simp only [decide_eq_true_eq] at hx ⊢; omega
  · simp only [decide_eq_true_eq]; rw [show ((p.toNat : Nat) : Int) = p by omega]; exact h
  · simp only [decide_eq_true_eq]; rw [show ((p.toNat : Nat) : Int) = p by omega]; omega
theorem wg_k_7 {t : Int} (ht : 0 ≤ t ∧ t < 8) : wg_k w t ≤ 7 := by
  have h := cnt_lt (p := fun s : Nat => decide (w s < w t)) (q := fun _ => true) (List.range 8) (fun _ _ _ => rfl) ⟨t.toNat, List.mem_range.mpr (by omega), rfl, by simp only [decide_eq_true_eq]; rw [show ((t.toNat : Nat) : Int) = t by omega]; omega⟩
  have h2 : (List.range 8).countP (fun _ => true) = 8 := by decide
  unfold wg_k
  omega
theorem wg_k_mono {t : Int} (h : ∀ s, 0 ≤ s → s < 8 → w' s ≤ w s) (e : w' t = w t) : wg_k w t ≤ wg_k w' t := by
  refine cnt_le _ (fun x hx h1 => ?_)
  have hx := List.mem_range.mp hx
  have := h x (by omega) (by omega)
  simp only [decide_eq_true_eq] at h1 ⊢
  omega
end WG
/-- what stands in the rules -/
def wg_A (A : Int → Int) : Prop := (0 ≤ A 364 ∧ A 364 ≤ 16) ∧ ∀ r, 0 ≤ r → r < A 364 → (0 ≤ A (180 + 4 * r) ∧ A (180 + 4 * r) ≤ 7) ∧ (0 ≤ A (180 + 4 * r + 1)) ∧ ∀ k, (k = 1 ∨ k = 2 ∨ k = 3) → -1 ≤ A (180 + 4 * r + k) ∧ A (180 + 4 * r + k) ≤ 17 ∧ (0 ≤ A (180 + 4 * r + k) → A (180 + 4 * r + k) < 10 → 1 ≤ A (170 + A (180 + 4 * r + k)) ∧ A (170 + A (180 + 4 * r + k)) ≤ 9)
theorem wg_A_of {A : Int → Int} (h : am_WA A) : wg_A A := by
  obtain ⟨⟨a1, a2, a3⟩, ⟨b1, b2, b3⟩, -⟩ := h
  refine ⟨⟨b1, b2⟩, fun r r0 r1 => ?_⟩
  obtain ⟨g1, g2, g3, g4⟩ := b3 r r0 r1
  refine ⟨g1, g2.1, fun k hk => ?_⟩
  rcases hk with rfl | rfl | rfl
  · exact ⟨by omega, by omega, fun h0 h1 => a3 _ h0 (g2.2.2 h1)⟩
  · exact ⟨by omega, by omega, fun h0 h1 => a3 _ h0 (g3.2.2 h1)⟩
  · exact ⟨by omega, by omega, fun h0 h1 => a3 _ h0 (g4.2.2 h1)⟩
section WH
variable {A : Int → Int} {w w' : Int → Int}
def wg_0 (w : Int → Int) : Prop := ∀ t, 0 ≤ t → t < 8 → 0 < w t
theorem wg_p_0 (hA : wg_A A) (h0 : wg_0 w) {r k : Int} (hr : 0 ≤ r ∧ r < A 364) (hk : k = 1 ∨ k = 2 ∨ k = 3) : 0 ≤ wg_p A w (A (180 + 4 * r + k)) := by
  obtain ⟨g1, g2, g3⟩ := (hA.2 r hr.1 hr.2).2.2 k hk
  unfold wg_p
  by_cases c1 : A (180 + 4 * r + k) = -1
  · rw [if_pos c1]; omega
  · rw [if_neg c1]
    by_cases c2 : A (180 + 4 * r + k) < 10
    · rw [if_pos c2]; have := g3 (by omega) c2; omega
    · rw [if_neg c2]; have := h0 (A (180 + 4 * r + k) - 10) (by omega) (by omega); omega
theorem wg_p_le (hA : wg_A A) (h : ∀ s, 0 ≤ s → s < 8 → w' s ≤ w s) {r k : Int} (hr : 0 ≤ r ∧ r < A 364) (hk : k = 1 ∨ k = 2 ∨ k = 3) : wg_p A w' (A (180 + 4 * r + k)) ≤ wg_p A w (A (180 + 4 * r + k)) := by
  obtain ⟨g1, g2, g3⟩ := (hA.2 r hr.1 hr.2).2.2 k hk
  unfold wg_p
  by_cases c1 : A (180 + 4 * r + k) = -1
  · rw [if_pos c1, if_pos c1]; omega
  · rw [if_neg c1, if_neg c1]
    by_cases c2 : A (180 + 4 * r + k) < 10
    · rw [if_pos c2, if_pos c2]; omega
    · rw [if_neg c2, if_neg c2]; exact h _ (by omega) (by omega)
theorem wg_c_le (hA : wg_A A) (h : ∀ s, 0 ≤ s → s < 8 → w' s ≤ w s) {r : Int} (hr : 0 ≤ r ∧ r < A 364) : wg_c A w' r ≤ wg_c A w r := by
  have h1 := wg_p_le hA h hr (Or.inl rfl)
  have h2 := wg_p_le hA h hr (Or.inr (Or.inl rfl))
  have h3 := wg_p_le hA h hr (Or.inr (Or.inr rfl))
  unfold wg_c
  omega
theorem wg_c_0 (hA : wg_A A) (h0 : wg_0 w) {r : Int} (hr : 0 ≤ r ∧ r < A 364) : 0 < wg_c A w r ∧ ∀ k, (k = 1 ∨ k = 2 ∨ k = 3) → wg_p A w (A (180 + 4 * r + k)) < wg_c A w r := by
  have h1 := wg_p_0 hA h0 hr (Or.inl rfl)
  have h2 := wg_p_0 hA h0 hr (Or.inr (Or.inl rfl))
  have h3 := wg_p_0 hA h0 hr (Or.inr (Or.inr rfl))
  unfold wg_c
  refine ⟨by omega, fun k hk => ?_⟩
  rcases hk with rfl | rfl | rfl <;> omega
/-- a part that is a thing -/
theorem wg_q (hA : wg_A A) (h0 : wg_0 w) {r k : Int} (hr : 0 ≤ r ∧ r < A 364) (hk : k = 1 ∨ k = 2 ∨ k = 3) (hp : 10 ≤ A (180 + 4 * r + k)) : (0 ≤ A (180 + 4 * r + k) - 10 ∧ A (180 + 4 * r + k) - 10 < 8) ∧ w (A (180 + 4 * r + k) - 10) < wg_c A w r := by
  have h1 := (wg_c_0 hA h0 hr).2 k hk
  obtain ⟨g1, g2, g3⟩ := (hA.2 r hr.1 hr.2).2.2 k hk
  unfold wg_p at h1
  rw [if_neg (by omega), if_neg (by omega)] at h1
  exact ⟨by omega, h1⟩
def wg_ok (A w : Int → Int) : Prop := (∀ t, ¬ (0 ≤ t ∧ t < 8) → w t = wg_I) ∧ ∀ t, 0 ≤ t → t < 8 → w t = wg_I ∨ ((0 < w t ∧ w t < wg_T) ∧ (w t / 10000 ≤ tl_ (wg_k w t) ∧ w t % 10000 ≤ tt_ (wg_k w t)) ∧ ∃ r, 0 ≤ r ∧ r < A 364 ∧ A (180 + 4 * r) = t ∧ wg_c A w r ≤ w t)
theorem wg_ok_0 (h : wg_ok A w) : wg_0 w := fun t t0 t1 => by
  rcases h.2 t t0 t1 with h | h
  · rw [h]; decide
  · omega
theorem wg_x_ok (hA : wg_A A) (h : wg_ok A w) {r : Int} (hr : 0 ≤ r ∧ r < A 364) : wg_ok A (wg_x A w r) ∧ ∀ t, wg_x A w r t ≤ w t := by
  have h0 := wg_ok_0 h
  unfold wg_x
  by_cases c : wg_c A w r < wg_T ∧ wg_c A w r < w (A (180 + 4 * r))
  case neg => rw [if_neg c]; exact ⟨h, fun t => Int.le_refl _⟩
  rw [if_pos c]
  obtain ⟨c1, c2⟩ := c
  have hh := (hA.2 r hr.1 hr.2).1
  have hc0 := wg_c_0 hA h0 hr
  generalize hc : wg_c A w r = q at *
  generalize ht0 : A (180 + 4 * r) = t0 at *
  have le : ∀ t, wrA w t0 q t ≤ w t := fun t => by
    by_cases e : t = t0
    · rw [e, wrA_same]; omega
    · rw [wrA_ne _ e]; omega
  refine ⟨⟨fun t ht => ?_, fun t t1 t2 => ?_⟩, le⟩
  · rw [wrA_ne _ (by omega)]; exact h.1 t ht
  · by_cases e : t = t0
    · subst e
      right
      refine ⟨by rw [wrA_same]; omega, ?_, r, hr.1, hr.2, ht0, by rw [wrA_same]; have h9 := wg_c_le (w := w) (w' := wrA w t q) hA (fun s _ _ => le s) hr; rw [hc] at h9; exact h9⟩
      have hK7 := wg_k_7 (w := wrA w t q) ⟨t1, t2⟩
      have part : ∀ k, (k = 1 ∨ k = 2 ∨ k = 3) → ∃ L T, wg_p A w (A (180 + 4 * r + k)) = 10000 * L + T ∧ 0 ≤ L ∧ 3 * L ≤ tl_ (wg_k (wrA w t q) t) ∧ 0 ≤ T ∧ 3 * T ≤ tt_ (wg_k (wrA w t q) t) - 1 := by
        intro k hk
        have b27 := tl_27 (wg_k (wrA w t q) t)
        obtain ⟨g1, g2, g3⟩ := (hA.2 r hr.1 hr.2).2.2 k hk
        by_cases p1 : A (180 + 4 * r + k) = -1
        · refine ⟨0, 0, by unfold wg_p; rw [if_pos p1]; rfl, by omega, by omega, by omega, by omega⟩
        · by_cases p2 : A (180 + 4 * r + k) < 10
          · have := g3 (by omega) p2
            refine ⟨A (170 + A (180 + 4 * r + k)), 0, by unfold wg_p; rw [if_neg p1, if_pos p2]; omega, by omega, by omega, by omega, by omega⟩
          · obtain ⟨q1, q2⟩ := wg_q hA h0 hr hk (by omega)
            rw [hc] at q2
            have hne : A (180 + 4 * r + k) - 10 ≠ t := fun z => by rw [z] at q2; omega
            have hp : wg_p A w (A (180 + 4 * r + k)) = w (A (180 + 4 * r + k) - 10) := by unfold wg_p; rw [if_neg p1, if_neg p2]
            have k1 := wg_k_mono (w := w) (w' := wrA w t q) (t := A (180 + 4 * r + k) - 10) (fun s _ _ => le s) (wrA_ne _ hne)
            have k2 := wg_k_lt (w := wrA w t q) (p := A (180 + 4 * r + k) - 10) (t := t) q1 (by rw [wrA_ne _ hne, wrA_same]; exact q2)
            rcases h.2 _ q1.1 q1.2 with hi | ⟨f1, f2, f3⟩
            · rw [hi] at q2; unfold wg_I at q2; unfold wg_T at c1; omega
            · obtain ⟨K, hK⟩ : ∃ K, wg_k (wrA w t q) t = K + 1 := ⟨wg_k (wrA w t q) t - 1, by omega⟩
              have m1 := tl_mono (show wg_k w (A (180 + 4 * r + k) - 10) ≤ K by omega)
              refine ⟨w (A (180 + 4 * r + k) - 10) / 10000, w (A (180 + 4 * r + k) - 10) % 10000, by rw [hp]; omega, by omega, by rw [hK, tl_]; omega, by omega, by rw [hK, tt_]; omega⟩
      obtain ⟨L1, T1, e1, l1⟩ := part 1 (Or.inl rfl)
      obtain ⟨L2, T2, e2, l2⟩ := part 2 (Or.inr (Or.inl rfl))
      obtain ⟨L3, T3, e3, l3⟩ := part 3 (Or.inr (Or.inr rfl))
      have b7 := tl_7 hK7
      rw [wrA_same]
      have hq : q = 10000 * (L1 + L2 + L3) + (1 + T1 + T2 + T3) := by rw [← hc, wg_c, e1, e2, e3]; omega
      have hR : 0 ≤ 1 + T1 + T2 + T3 ∧ 1 + T1 + T2 + T3 < 10000 := by omega
      have hS : L1 + L2 + L3 ≤ tl_ (wg_k (wrA w t q) t) ∧ 1 + T1 + T2 + T3 ≤ tt_ (wg_k (wrA w t q) t) := by omega
      generalize L1 + L2 + L3 = S at hq hS
      generalize 1 + T1 + T2 + T3 = R at hq hR hS
      have d1 : q / 10000 = S := by omega
      have d2 : q % 10000 = R := by omega
      rw [d1, d2]
      exact hS
    · rw [wrA_ne _ e]
      rcases h.2 t t1 t2 with hi | ⟨f1, f2, s, f3, f4, f5, f6⟩
      · exact Or.inl hi
      · right
        have k1 := wg_k_mono (w := w) (w' := wrA w t0 q) (t := t) (fun s _ _ => le s) (wrA_ne _ e)
        have m1 := tl_mono k1
        refine ⟨f1, by omega, s, f3, f4, f5, ?_⟩
        have := wg_c_le (A := A) (w := w) (w' := wrA w t0 q) hA (fun s _ _ => le s) ⟨f3, f4⟩
        omega
theorem wg_r_ok (hA : wg_A A) (h : wg_ok A w) : ∀ k : Nat, (k : Int) ≤ A 364 → wg_ok A (wg_r A k w) ∧ (∀ t, wg_r A k w t ≤ w t) := by
  intro k
  induction k with
  | zero => intro _; exact ⟨h, fun t => Int.le_refl _⟩
  | succ k ih =>
    intro hk
    obtain ⟨h1, h2⟩ := ih (by omega)
    obtain ⟨h3, h4⟩ := wg_x_ok hA h1 (r := k) (by omega)
    refine ⟨h3, fun t => ?_⟩
    have := h4 t
    have := h2 t
    rw [wg_r]
    omega
theorem wg_r_le (hA : wg_A A) (h : wg_ok A w) {i k : Nat} (hik : i ≤ k) (hk : (k : Int) ≤ A 364) : ∀ t, wg_r A k w t ≤ wg_r A i w t := by
  induction k with
  | zero => intro t; rw [show i = 0 by omega]; exact Int.le_refl _
  | succ k ih =>
    intro t
    by_cases c : i = k + 1
    · rw [c]; exact Int.le_refl _
    · have h1 := ih (by omega) (by omega) t
      have h2 := (wg_x_ok hA (wg_r_ok hA h k (by omega)).1 (r := k) (by omega)).2 t
      rw [wg_r]
      omega
theorem wg_n_ok (hA : wg_A A) : ∀ k, wg_ok A (wg_n A k) := by
  intro k
  induction k with
  | zero => exact ⟨fun _ _ => rfl, fun _ _ _ => Or.inl rfl⟩
  | succ k ih => exact (wg_r_ok hA ih (A 364).toNat (by have := hA.1; omega)).1
theorem wg_n_le (hA : wg_A A) (k : Nat) (t : Int) : wg_n A (k + 1) t ≤ wg_n A k t := (wg_r_ok hA (wg_n_ok hA k) (A 364).toNat (by have := hA.1; omega)).2 t
theorem wg_n_anti (hA : wg_A A) {i k : Nat} (h : i ≤ k) (t : Int) : wg_n A k t ≤ wg_n A i t := by
  induction k with
  | zero => rw [show i = 0 by omega]; exact Int.le_refl _
  | succ k ih =>
    by_cases c : i = k + 1
    · rw [c]; exact Int.le_refl _
    · have := ih (by omega)
      have := wg_n_le hA k t
      omega
theorem wg_ext (h : wg_ok A w) (h' : wg_ok A w') (e : ∀ t, 0 ≤ t → t < 8 → w t = w' t) : w = w' := by
  funext t
  by_cases c : 0 ≤ t ∧ t < 8
  · exact e t c.1 c.2
  · rw [h.1 t c, h'.1 t c]
theorem wg_stop (hA : wg_A A) : ∃ n, wg_n A (n + 1) = wg_n A n := by
  have key : ∀ (N k : Nat), wg_n A k 0 + wg_n A k 1 + wg_n A k 2 + wg_n A k 3 + wg_n A k 4 + wg_n A k 5 + wg_n A k 6 + wg_n A k 7 ≤ N → ∃ n, wg_n A (n + 1) = wg_n A n := by
    intro N
    induction N with
    | zero =>
      intro k hk
      have h := wg_ok_0 (wg_n_ok hA k)
      have h0 := h 0 (by omega) (by omega)
      have h1 := h 1 (by omega) (by omega)
      have h2 := h 2 (by omega) (by omega)
      have h3 := h 3 (by omega) (by omega)
      have h4 := h 4 (by omega) (by omega)
      have h5 := h 5 (by omega) (by omega)
      have h6 := h 6 (by omega) (by omega)
      have h7 := h 7 (by omega) (by omega)
      omega
    | succ N ih =>
      intro k hk
      by_cases c : wg_n A (k + 1) = wg_n A k
      · exact ⟨k, c⟩
      · refine ih (k + 1) ?_
        have l0 := wg_n_le hA k 0
        have l1 := wg_n_le hA k 1
        have l2 := wg_n_le hA k 2
        have l3 := wg_n_le hA k 3
        have l4 := wg_n_le hA k 4
        have l5 := wg_n_le hA k 5
        have l6 := wg_n_le hA k 6
        have l7 := wg_n_le hA k 7
        by_cases z : wg_n A (k + 1) 0 = wg_n A k 0 ∧ wg_n A (k + 1) 1 = wg_n A k 1 ∧ wg_n A (k + 1) 2 = wg_n A k 2 ∧ wg_n A (k + 1) 3 = wg_n A k 3 ∧ wg_n A (k + 1) 4 = wg_n A k 4 ∧ wg_n A (k + 1) 5 = wg_n A k 5 ∧ wg_n A (k + 1) 6 = wg_n A k 6 ∧ wg_n A (k + 1) 7 = wg_n A k 7
        · exfalso
          apply c
          obtain ⟨z0, z1, z2, z3, z4, z5, z6, z7⟩ := z
          refine wg_ext (wg_n_ok hA _) (wg_n_ok hA _) (fun t t0 t1 => ?_)
          have : t = 0 ∨ t = 1 ∨ t = 2 ∨ t = 3 ∨ t = 4 ∨ t = 5 ∨ t = 6 ∨ t = 7 := by omega
          rcases this with rfl | rfl | rfl | rfl | rfl | rfl | rfl | rfl <;> assumption
        · push_cast at hk
          omega
  exact key 80000000000000 0 (by show wg_I + wg_I + wg_I + wg_I + wg_I + wg_I + wg_I + wg_I ≤ _; decide)
theorem wg_fix (hA : wg_A A) (h : wg_ok A w) (e : wg_d A w = w) {r : Int} (hr : 0 ≤ r ∧ r < A 364) (hc : wg_c A w r < wg_T) : w (A (180 + 4 * r)) ≤ wg_c A w r := by
  have hN := hA.1
  have h1 : ∀ k : Nat, (k : Int) ≤ A 364 → wg_r A k w = w := fun k hk => by
    refine wg_ext (wg_r_ok hA h k hk).1 h (fun t _ _ => ?_)
    have a1 := (wg_r_ok hA h k hk).2 t
    have a2 := wg_r_le hA h (show k ≤ (A 364).toNat by omega) (by omega) t
    unfold wg_d at e
    rw [e] at a2
    omega
  have h2 := h1 (r.toNat + 1) (by omega)
  rw [wg_r, h1 r.toNat (by omega), show ((r.toNat : Nat) : Int) = r by omega] at h2
  by_cases c : wg_c A w r < w (A (180 + 4 * r))
  · exfalso
    have h3 : wg_x A w r (A (180 + 4 * r)) = w (A (180 + 4 * r)) := by rw [h2]
    unfold wg_x at h3
    rw [if_pos ⟨hc, c⟩, wrA_same] at h3
    omega
  · omega
/-- eight rounds are enough -/
theorem wg_eight (hA : wg_A A) : wg_d A (wg_n A 8) = wg_n A 8 := by
  obtain ⟨n, hn⟩ := wg_stop hA
  have hW := wg_n_ok hA n
  have hW0 := wg_ok_0 hW
  have hfix : wg_d A (wg_n A n) = wg_n A n := hn
  have after : ∀ j, n ≤ j → wg_n A j = wg_n A n := by
    intro j hj
    induction j with
    | zero => rw [show n = 0 by omega]
    | succ j ih =>
      by_cases c : n = j + 1
      · rw [c]
      · rw [wg_n, ih (by omega)]; exact hfix
  have low : ∀ j t, wg_n A n t ≤ wg_n A j t := fun j t => by
    by_cases c : n ≤ j
    · rw [after j c]; exact Int.le_refl _
    · exact wg_n_anti hA (by omega) t
  have reach : ∀ (j : Nat) (t : Int), 0 ≤ t → t < 8 → wg_n A n t < wg_T → wg_k (wg_n A n) t < j → wg_n A j t = wg_n A n t := by
    intro j
    induction j with
    | zero => intro t _ _ _ h; omega
    | succ j ih =>
      intro t t0 t1 hT hk
      have h1 := low (j + 1) t
      have h2 : wg_n A (j + 1) t ≤ wg_n A n t := by
        rcases hW.2 t t0 t1 with hi | ⟨-, -, r, r0, r1, r2, r3⟩
        · rw [hi] at hT; exact absurd hT (by decide)
        · have hj := wg_n_ok hA j
          have hu := wg_r_ok hA hj r.toNat (by omega)
          have hle := wg_r_le hA hj (show r.toNat + 1 ≤ (A 364).toNat by omega) (by have := hA.1; omega) t
          have hul : ∀ s, wg_n A n s ≤ wg_r A r.toNat (wg_n A j) s := fun s => by
            have a1 := wg_r_le hA hj (show r.toNat ≤ (A 364).toNat by omega) (by have := hA.1; omega) s
            have a2 := low (j + 1) s
            rw [wg_n] at a2
            unfold wg_d at a2
            omega
          have hcost : wg_c A (wg_r A r.toNat (wg_n A j)) r = wg_c A (wg_n A n) r := by
            have part : ∀ k, (k = 1 ∨ k = 2 ∨ k = 3) → wg_p A (wg_r A r.toNat (wg_n A j)) (A (180 + 4 * r + k)) = wg_p A (wg_n A n) (A (180 + 4 * r + k)) := by
              intro k hk'
              unfold wg_p
              by_cases p1 : A (180 + 4 * r + k) = -1
              · rw [if_pos p1, if_pos p1]
              · rw [if_neg p1, if_neg p1]
                by_cases p2 : A (180 + 4 * r + k) < 10
                · rw [if_pos p2, if_pos p2]
                · rw [if_neg p2, if_neg p2]
                  obtain ⟨q1, q2⟩ := wg_q hA hW0 ⟨r0, r1⟩ hk' (by omega)
                  have k2 := wg_k_lt (w := wg_n A n) (p := A (180 + 4 * r + k) - 10) (t := t) q1 (by omega)
                  have := ih _ q1.1 q1.2 (by omega) (by omega)
                  have a1 := hu.2 (A (180 + 4 * r + k) - 10)
                  have a2 := hul (A (180 + 4 * r + k) - 10)
                  omega
            unfold wg_c
            rw [part 1 (Or.inl rfl), part 2 (Or.inr (Or.inl rfl)), part 3 (Or.inr (Or.inr rfl))]
          have hx : wg_r A (r.toNat + 1) (wg_n A j) t ≤ wg_n A n t := by
            rw [wg_r, show ((r.toNat : Nat) : Int) = r by omega]
            unfold wg_x
            rw [hcost, r2]
            by_cases c : wg_c A (wg_n A n) r < wg_T ∧ wg_c A (wg_n A n) r < wg_r A r.toNat (wg_n A j) t
            · rw [if_pos c, wrA_same]; exact r3
            · rw [if_neg c]; omega
          rw [wg_n]
          unfold wg_d
          omega
      omega
  have e8 : wg_n A 8 = wg_n A n := by
    refine wg_ext (wg_n_ok hA 8) hW (fun t t0 t1 => ?_)
    have := wg_k_7 (w := wg_n A n) ⟨t0, t1⟩
    rcases hW.2 t t0 t1 with hi | hf
    · have h1 := low 8 t
      rcases (wg_n_ok hA 8).2 t t0 t1 with h2 | h2
      · rw [h2, hi]
      · rw [hi] at h1; unfold wg_I at h1; unfold wg_T at h2; omega
    · exact reach 8 t t0 t1 hf.1.2 (by omega)
  rw [e8]
  exact hfix
end WH
