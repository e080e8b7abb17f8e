/-! DAWNS as functions of the flat row; what a Book, a Vigil hold of it. -/
def wrA (A : Int → Int) (k v : Int) : Int → Int := fun x => if x = k then v else A x
theorem wrA_same (A : Int → Int) (k v : Int) : wrA A k v k = v := by simp [wrA]
theorem wrA_ne (A : Int → Int) {k v x : Int} (h : x ≠ k) : wrA A k v x = A x := by simp [wrA, h]
def ab_fore (A : Int → Int) (p day : Int) : Int := if ab_bar A p day = 1 then 1000000 else ab_rank A p day
/-- the lowest of those below n that wait, its rank -/
def ab_low (A R : Int → Int) : Nat → Int × Int
  | 0 => (-1, 1000000)
  | n + 1 => if R n < (ab_low A R n).2 ∧ A (7 * (n : Int) + 5) = 0 then ((n : Int), R n) else ab_low A R n
def ab_den (A : Int → Int) (th : Int) : Nat → Bool
  | 0 => false
  | n + 1 => ab_den A th n || (A (7 * (n : Int) + 5) == 1 && decide (A 169 - A (7 * (n : Int) + 6) < A 361) && (A (7 * (n : Int) + 1) == th || A (244 + 8 * A (7 * (n : Int) + 1) + th) == 1))
def ab_denied (A : Int → Int) (p : Int) : Bool := ab_den A (A (7 * p + 1)) (A 168).toNat
/-- what is told of those heard: how many, which THINGS, who, the row -/
abbrev ab_H : Type := Int × Int × Int × (Int → Int)
def ab_one (A : Int → Int) (p : Int) : Int → Int := wrA (wrA A (7 * p + 5) (if ab_denied A p = true then 2 else 1)) (7 * p + 6) (A 169)
def ab_hear (R : Int → Int) : Nat → ab_H → ab_H
  | 0, s => s
  | e + 1, s => if (ab_low s.2.2.2 R (s.2.2.2 168).toNat).1 = -1 then s else
      ab_hear R e (if ab_denied s.2.2.2 (ab_low s.2.2.2 R (s.2.2.2 168).toNat).1 = true then s.1 else s.1 + 1,
        if ab_denied s.2.2.2 (ab_low s.2.2.2 R (s.2.2.2 168).toNat).1 = true then s.2.1 else am_or s.2.1 (am_shl 1 (s.2.2.2 (7 * (ab_low s.2.2.2 R (s.2.2.2 168).toNat).1 + 1))),
        am_or s.2.2.1 (am_shl 1 (ab_low s.2.2.2 R (s.2.2.2 168).toNat).1), ab_one s.2.2.2 (ab_low s.2.2.2 R (s.2.2.2 168).toNat).1)
def ab_dawnR (A R : Int → Int) : ab_H := ab_hear R (A 360).toNat (0, 0, 0, wrA A 169 (A 169 + 1))
def ab_dawn (A : Int → Int) : ab_H := ab_dawnR A fun p => ab_fore A p (A 169 + 1)
theorem ab_low_ge {A R : Int → Int} : ∀ n : Nat, (ab_low A R n).1 = -1 ∨ (0 ≤ (ab_low A R n).1 ∧ (ab_low A R n).1 < n ∧ A (7 * (ab_low A R n).1 + 5) = 0) := by
  intro n
  induction n with
  | zero => exact Or.inl rfl
  | succ n ih =>
    unfold ab_low
    split
    · rename_i h; right; exact ⟨by simp only []; omega, by simp only []; omega, h.2⟩
    · rcases ih with ih | ih
      · exact Or.inl ih
      · exact Or.inr ⟨ih.1, by omega, ih.2.2⟩
theorem ab_low_congr {A A' R R' : Int → Int} : ∀ n : Nat, (∀ p : Int, 0 ≤ p → p < n → A' (7 * p + 5) = A (7 * p + 5) ∧ (A (7 * p + 5) = 0 → R' p = R p)) → ab_low A' R' n = ab_low A R n := by
  intro n
  induction n with
  | zero => intro _; rfl
  | succ n ih =>
    intro h
    obtain ⟨h1, h2⟩ := h n (by omega) (by omega)
    unfold ab_low
    rw [ih (fun p h0 h1 => h p h0 (by omega)), h1]
    by_cases c : A (7 * (n : Int) + 5) = 0
    · rw [h2 c]
    · rw [if_neg (by omega), if_neg (by omega)]
/-- what a Book holds besides its Vigil -/
def bk_P (m : am_M) (b : Int) (A : Int → Int) : Prop :=
  am_RF m (b + 1) 1 10 A 363 170 ∧ am_RF m (b + 3) 4 64 A 364 180 ∧ am_RF m (b + 5) 1 6 A 365 316 ∧ am_RF m (b + 7) 2 20 A 366 322 ∧ am_RF m (b + 9) 3 18 A 367 342
  ∧ (∀ i j, 0 ≤ i → i < 8 → 0 ≤ j → j < 8 → (bitI (m (b + 14) i) j ↔ A (244 + 8 * i + j) = 1))
  ∧ (∀ i, 0 ≤ i → i < 8 → 0 ≤ m (b + 14) i ∧ m (b + 14) i < 256 ∧ m (b + 15) i = A (308 + i))
  ∧ (m (b + 16) 1 = A 360 ∧ m (b + 16) 2 = A 361 ∧ m (b + 16) 3 = A 362)
  ∧ (m b 10 = A 368 ∧ m b 11 = A 369)
  ∧ ∀ t cs, 0 ≤ t → t < A 368 → lw_cs A t = .inr cs → pz_PG m (b + 18 + 4 * t) cs
def vg_P (m : am_M) (v : Int) (A : Int → Int) : Prop := am_RF m (v + 1) 7 168 A 168 0 ∧ m v 1 = A 169
theorem rf_of' {m m' : am_M} {r w cap : Int} {A A' : Int → Int} {n0 base : Int} (h : am_RF m r w cap A n0 base) (e : ∀ o k, (o = r ∨ o = r + 1) → m' o k = m o k) (a : ∀ x, (x = n0 ∨ (base ≤ x ∧ x < base + cap)) → A' x = A x) : am_RF m' r w cap A' n0 base :=
  rf_of h (e _ _ (by omega)) (e _ _ (by omega)) (fun x => e _ _ (by omega)) (a _ (by omega)) (fun x h0 h1 => a _ (by omega))
theorem lw_cs_of {A A' : Int → Int} (h : ∀ x, 170 ≤ x → A' x = A x) {t : Int} (ht : 0 ≤ t) : lw_cs A' t = lw_cs A t := by
  unfold lw_cs
  have e1 : lw_c A' t = lw_c A t := by
    funext x
    unfold lw_c
    rw [h (370 + t) (by omega)]
    split
    · exact h _ (by omega)
    · rfl
  have e2 : lw_v A' t = lw_v A t := by
    funext x
    unfold lw_v
    rw [h (370 + t) (by omega)]
    split
    · exact h _ (by omega)
    · rfl
  rw [e1, e2, h (370 + t) (by omega)]
theorem bk_of {m m' : am_M} {b : Int} {A A' : Int → Int} (h : bk_P m b A) (e : ∀ o k, b ≤ o → o < b + 42 → ¬ (b + 11 ≤ o ∧ o ≤ b + 13) → m' o k = m o k) (a : ∀ x, 170 ≤ x → A' x = A x) (h6 : A 368 ≤ 6) : bk_P m' b A' := by
  obtain ⟨h1, h2, h3, h4, h5, h6', h7, h8, h9, h10⟩ := h
  refine ⟨rf_of' h1 (fun o k ho => e o k (by omega) (by omega) (by omega)) (fun x hx => a x (by omega)), rf_of' h2 (fun o k ho => e o k (by omega) (by omega) (by omega)) (fun x hx => a x (by omega)), rf_of' h3 (fun o k ho => e o k (by omega) (by omega) (by omega)) (fun x hx => a x (by omega)), rf_of' h4 (fun o k ho => e o k (by omega) (by omega) (by omega)) (fun x hx => a x (by omega)), rf_of' h5 (fun o k ho => e o k (by omega) (by omega) (by omega)) (fun x hx => a x (by omega)), fun i j i0 i1 j0 j1 => ?_, fun i i0 i1 => ?_, ?_, ?_, fun t cs t0 t1 hc => ?_⟩
  · rw [e _ _ (by omega) (by omega) (by omega), a _ (by omega)]; exact h6' i j i0 i1 j0 j1
  · rw [e _ _ (by omega) (by omega) (by omega), e _ _ (by omega) (by omega) (by omega), a _ (by omega)]; exact h7 i i0 i1
  · rw [e _ _ (by omega) (by omega) (by omega), e _ _ (by omega) (by omega) (by omega), e _ _ (by omega) (by omega) (by omega), a _ (by omega), a _ (by omega), a _ (by omega)]; exact h8
  · rw [e _ _ (by omega) (by omega) (by omega), e _ _ (by omega) (by omega) (by omega), a _ (by omega), a _ (by omega)]; exact h9
  · rw [a _ (by omega)] at t1
    rw [lw_cs_of a t0] at hc
    exact pz_PG_of (h10 t cs t0 t1 hc) (fun o k ho => e o k (by omega) (by omega) (by omega))
theorem vg_of {m m' : am_M} {v : Int} {A A' : Int → Int} (h : vg_P m v A) (e : ∀ o k, v ≤ o → o ≤ v + 2 → m' o k = m o k) (a : ∀ x, x < 170 → A' x = A x) : vg_P m' v A' :=
  ⟨rf_of' h.1 (fun o k ho => e o k (by omega) (by omega)) (fun x hx => a x (by omega)), by rw [e _ _ (by omega) (by omega), a _ (by omega)]; exact h.2⟩
/-- the class's functions of the law leave alone all but these -/
def fr_j (m m' : am_M) : Prop := ∀ o k, ¬ (o = 137 ∨ o = 139) → m' o k = m o k
theorem fr_j_t {a b c : am_M} (h : fr_j a b) (g : fr_j b c) : fr_j a c := fun o k q => by rw [g o k q, h o k q]
theorem rfv18 {t : Int} (h0 : 0 ≤ t) (h6 : t < 6) : am_rfv 18 t = 19 + 4 * t := by
  have : t = 0 ∨ t = 1 ∨ t = 2 ∨ t = 3 ∨ t = 4 ∨ t = 5 := by omega
  rcases this with rfl | rfl | rfl | rfl | rfl | rfl <;> decide +kernel
theorem pg_19 {t : Int} (h0 : 0 ≤ t) (h6 : t < 6) : pz_pg (19 + 4 * t) := by
  have : t = 0 ∨ t = 1 ∨ t = 2 ∨ t = 3 ∨ t = 4 ∨ t = 5 := by omega
  rcases this with rfl | rfl | rfl | rfl | rfl | rfl <;> exact ⟨by decide +kernel, by decide +kernel, by decide +kernel, by decide +kernel, ⟨by decide, by decide, by decide +kernel⟩, by decide, by decide⟩
theorem pg_131 : pz_pg 131 := ⟨by decide +kernel, by decide +kernel, by decide +kernel, by decide +kernel, ⟨by decide, by decide, by decide +kernel⟩, by decide, by decide⟩
theorem lw_cs_ok {A : Int → Int} (hW : lw_W A) {t : Int} {cs : List pz_C} (h0 : 0 ≤ t) (h1 : t < A 368) (h : lw_cs A t = .inr cs) : ∀ x ∈ cs, pz_cok 8 x := by
  obtain ⟨n1, n2, -⟩ := hW.2.2 t h0 h1
  refine ((pz_text_ok (od := 0) (c := lw_c A t) (v := lw_v A t) (N := A (370 + t)) ?_ n1.2 ?_ (Or.inl rfl) rfl 12 0 0 (by omega) n1.1 (by omega) (by omega)).2 cs h).2.2.2
  · unfold lw_c; rw [if_neg (by omega)]
  · intro i
    unfold lw_v
    split
    · exact n2 i (by omega) (by omega)
    · omega
theorem ctells {m : am_M} {A : Int → Int} (hB : bk_P m 1 A) (hW : lw_W A) {kind lo hi w : Int} {env : Int → Int} {K : am_KK} (hlh : lo ≤ hi) (henv : ∀ f, 0 ≤ f → f < 8 → m 137 f = env f) (hE : ∀ f, -1000000000 ≤ env f ∧ env f ≤ 1000000000)
    (hK : ∀ m', (∀ o k, o ≠ 139 → m' o k = m o k) → K (lw_tell A kind lo hi env w) m') : M_X3_tells 136 1 kind w lo hi K m := by
  obtain ⟨-, -, -, -, -, -, -, -, ⟨e10, e11⟩, hL⟩ := hB
  obtain ⟨w1, w2, w3⟩ := id hW
  unfold M_X3_tells M_X0_ruling M_X0_ruling_J1
  simp only [am_rf_all, am_ln_all, e10, e11]
  by_cases c : A 369 = -1
  · have hk := hK m (fun _ _ _ => rfl)
    unfold lw_tell at hk
    rw [if_pos c] at hk
    have c1 : A 369 < 0 := by omega
    have c2 : ¬ (0 : Int) ≤ -1 := by omega
    simp only [c1, true_imp_iff, not_true_eq_false, false_imp_iff, and_true, c2, not_false_eq_true, true_and]
    exact hk
  · obtain ⟨n1, n2, cs, n3⟩ := w3 (A 369) (by omega) (by omega)
    have c1 : ¬ A 369 < 0 := by omega
    have c2 : ¬ A 368 ≤ A 369 := by omega
    have c3 : ¬ 6 ≤ A 369 := by omega
    simp only [c1, c2, c3, false_imp_iff, not_false_eq_true, true_imp_iff, true_and]
    rw [rfv18 (by omega) (by omega)]
    have hp := pg_19 (t := A 369) (by omega) (by omega)
    have c4 : 0 ≤ 19 + 4 * A 369 := by omega
    simp only [c4, true_imp_iff, not_true_eq_false, false_imp_iff, and_true]
    have hG := hL (A 369) cs (by omega) (by omega) n3
    rw [show (1 : Int) + 18 + 4 * A 369 = 19 + 4 * A 369 by omega] at hG
    have c5 : 0 ≤ A 369 ∧ A 369 < 6 := by omega
    refine ⟨c5, hp.2.2.2.2.1, ?_⟩
    rw [hp.2.1, hG.2.2.2.2.1]
    have := hG.2.2.1
    simp only [forall_eq]
    rw [w32_of (by omega) (by omega)]
    refine ctells_L hp hG (lw_cs_ok hW (by omega) (by omega) n3) hlh henv hE (fun m' hm' => ?_)
    have hk := hK m' hm'
    unfold lw_tell at hk
    rw [if_neg c, n3] at hk
    exact hk
theorem term_3 {m : am_M} {A : Int → Int} (hB : bk_P m 1 A) (K : am_KK) : M_X0_term 1 3 K m ↔ K (A 362) m := by
  obtain ⟨-, -, -, -, -, -, -, h, -⟩ := hB
  unfold M_X0_term
  simp [am_rf_all, am_ln_all]
  rw [show m 17 3 = A 362 from h.2.2]
theorem term_2 {m : am_M} {A : Int → Int} (hB : bk_P m 1 A) (K : am_KK) : M_X0_term 1 2 K m ↔ K (A 361) m := by
  obtain ⟨-, -, -, -, -, -, -, h, -⟩ := hB
  unfold M_X0_term
  simp [am_rf_all, am_ln_all]
  rw [show m 17 2 = A 361 from h.2.1]
theorem term_1 {m : am_M} {A : Int → Int} (hB : bk_P m 1 A) (K : am_KK) : M_X0_term 1 1 K m ↔ K (A 360) m := by
  obtain ⟨-, -, -, -, -, -, -, h, -⟩ := hB
  unfold M_X0_term
  simp [am_rf_all, am_ln_all]
  rw [show m 17 1 = A 360 from h.1]
