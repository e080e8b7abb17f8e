/-! ROW: every three of the tape are a try at a prayer. -/
def ab_row (T : Int → Int) (A : Int → Int) : Nat → (Int → Int) × Int × Int
  | 0 => (A, 0, 0)
  | k + 1 => if ab_why (ab_row T A k).1 (T (3 * (k : Int))) (T (3 * (k : Int) + 1)) (T (3 * (k : Int) + 2)) 1 ((ab_row T A k).1 169) = 0 then (ab_say (ab_row T A k).1 (T (3 * (k : Int))) (T (3 * (k : Int) + 1)) (T (3 * (k : Int) + 2)) 1, (ab_row T A k).2.1 + 1, (ab_row T A k).2.2) else ((ab_row T A k).1, (ab_row T A k).2.1, (ab_row T A k).2.2 + 1)
theorem ab_row_P {T A : Int → Int} (hw : wf_A 16 A) (hH : wf_H A) (k : Nat) : (wf_A 16 (ab_row T A k).1 ∧ wf_H (ab_row T A k).1) ∧ (∀ x, 169 ≤ x → (ab_row T A k).1 x = A x) ∧ (0 ≤ (ab_row T A k).2.1 ∧ (ab_row T A k).2.1 ≤ k) ∧ 0 ≤ (ab_row T A k).2.2 ∧ (ab_row T A k).2.2 ≤ k := by
  induction k with
  | zero => exact ⟨⟨hw, hH⟩, fun _ _ => rfl, ⟨Int.le_refl _, Int.le_refl _⟩, Int.le_refl _, Int.le_refl _⟩
  | succ k ih =>
    obtain ⟨⟨i1, i2⟩, i3, i4, i5⟩ := ih
    rw [ab_row]
    by_cases c : ab_why (ab_row T A k).1 (T (3 * (k : Int))) (T (3 * (k : Int) + 1)) (T (3 * (k : Int) + 2)) 1 ((ab_row T A k).1 169) = 0
    · obtain ⟨y1, y2, y3, y4⟩ := why_0 c
      have hn := i1.2.1.1
      rw [if_pos c]
      refine ⟨⟨wf_say (n := 16) i1 (by omega) y4 y2 y1.1 y1.2.1 y1.2.2, wH_say i2 (by omega)⟩, fun x hx => ?_, ?_, ?_⟩
      · show ab_say _ _ _ _ _ x = A x
        rw [ab_say_o (by omega) (by omega)]; exact i3 x hx
      · show 0 ≤ (ab_row T A k).2.1 + 1 ∧ (ab_row T A k).2.1 + 1 ≤ _
        omega
      · show 0 ≤ (ab_row T A k).2.2 ∧ (ab_row T A k).2.2 ≤ _
        omega
    · rw [if_neg c]
      refine ⟨⟨i1, i2⟩, i3, ?_, ?_⟩
      · show 0 ≤ (ab_row T A k).2.1 ∧ (ab_row T A k).2.1 ≤ _
        omega
      · show 0 ≤ (ab_row T A k).2.2 + 1 ∧ (ab_row T A k).2.2 + 1 ≤ _
        omega
/-- bytes with and without a sign are alike here -/
theorem why_byte {A : Int → Int} {a t l day : Int} (h : A 365 ≤ 127) (ha : -128 ≤ a ∧ a ≤ 127) (ht : -128 ≤ t ∧ t ≤ 127) (hl : -128 ≤ l ∧ l ≤ 127) : ab_why A (a % 256) (t % 256) (l % 256) 1 day = ab_why A a t l 1 day := by
  unfold ab_why
  by_cases c1 : (0 ≤ t ∧ t ≤ 7) ∧ 1 ≤ l ∧ l ≤ 99
  · rw [show t % 256 = t by omega, show l % 256 = l by omega]
    by_cases c2 : 0 ≤ a
    · rw [show a % 256 = a by omega]
    · have c3 : ¬ ¬ ((0 ≤ t ∧ t ≤ 7) ∧ (1 ≤ l ∧ l ≤ 99) ∧ (1 : Int) ≤ 1 ∧ (1 : Int) ≤ 6) := fun z => z ⟨c1.1, c1.2, by omega, by omega⟩
      have c4 : ¬ (0 ≤ a % 256 ∧ a % 256 < A 365) := by omega
      have c5 : ¬ (0 ≤ a ∧ a < A 365) := by omega
      rw [if_neg c3, if_neg c3, if_pos c4, if_pos c5]
  · rw [if_pos (by omega), if_pos (by omega)]
theorem say_byte {A : Int → Int} {a t l day : Int} (h : A 365 ≤ 127) (ha : -128 ≤ a ∧ a ≤ 127) (ht : -128 ≤ t ∧ t ≤ 127) (hl : -128 ≤ l ∧ l ≤ 127) (hy : ab_why A a t l 1 day = 0) : a % 256 = a ∧ t % 256 = t ∧ l % 256 = l := by
  obtain ⟨y1, y2, y3, y4⟩ := why_0 hy
  omega
theorem ab_row_s (T A : Int → Int) {i : Int} (h : 0 ≤ i) : ab_row T A (i + 1).toNat = if ab_why (ab_row T A i.toNat).1 (T (3 * i)) (T (3 * i + 1)) (T (3 * i + 2)) 1 ((ab_row T A i.toNat).1 169) = 0 then (ab_say (ab_row T A i.toNat).1 (T (3 * i)) (T (3 * i + 1)) (T (3 * i + 2)) 1, (ab_row T A i.toNat).2.1 + 1, (ab_row T A i.toNat).2.2) else ((ab_row T A i.toNat).1, (ab_row T A i.toNat).2.1, (ab_row T A i.toNat).2.2 + 1) := by
  rw [show (i + 1).toNat = i.toNat + 1 by omega, ab_row, show ((i.toNat : Nat) : Int) = i by omega]
section ROW
variable {m : am_M} {n : Int} {T A : Int → Int}
theorem crow (hw : wf_A 16 A) (hH : wf_H A) (hB : bk_P m 1 A) (hv : vg_P m 12 A) (h129 : rk m 129 1 400) (hn : m 129 2 = n) (h0 : 0 < n ∧ n ≤ 400) (hT : ∀ x, 0 ≤ x → x < n → m 130 x = T x % 256 ∧ -128 ≤ T x ∧ T x ≤ 127) (h148 : rk m 148 1 16) {K : am_KK}
    (hK : ∀ m', vg_P m' 12 (ab_row T A (n / 3).toNat).1 → (∀ o k, ¬ (o = 137 ∨ o = 139 ∨ (o = 13 ∧ k = 2) ∨ o = 14 ∨ (o = 0 ∧ (k = 17 ∨ k = 18)) ∨ (o = 129 ∧ k = 2) ∨ (o = 148 ∧ k = 2)) → m' o k = m o k) → m' 0 17 = 0 → m' 0 18 = (ab_row T A (n / 3).toNat).2.2 + (if n % 3 = 0 then 0 else 1) → m' 129 2 = 0 → m' 148 2 = 0 → K (ab_row T A (n / 3).toNat).2.1 m') : M_X11_row 0 K m := by
  unfold M_X11_row
  simp only [am_rf_all, hn]
  refine ⟨fun _ => ?_, fun q => absurd (by omega) q⟩
  simp only [forall_eq]
  unfold M_X11_row_L1
  have l6 := hw.2.2.1.1.2
  refine ⟨fun j g i m1 => ∃ k e, 0 ≤ k ∧ k ≤ n / 3 ∧ i = 3 * (k + e) ∧ (e = 0 ∨ (e = 1 ∧ k = n / 3 ∧ n % 3 ≠ 0)) ∧ j = (n + 3 - i).toNat ∧ g = (ab_row T A k.toNat).2.1 ∧ (∀ o k, ¬ (o = 137 ∨ o = 139 ∨ (o = 13 ∧ k = 2) ∨ o = 14 ∨ (o = 0 ∧ k = 18)) → m1 o k = m o k) ∧ vg_P m1 12 (ab_row T A k.toNat).1 ∧ m1 0 18 = (ab_row T A k.toNat).2.2 + e, ⟨_, 0, 0, by omega, by omega, by omega, Or.inl rfl, rfl, rfl, fun o k ho => am_st_ne _ (by omega), vg_of hv (fun o k _ _ => am_st_ne _ (by omega)) (fun _ _ => rfl), by rw [am_st_same]; rfl⟩, ?_⟩
  rintro j g i m1 ⟨k, e, k0, k1, rfl, he, rfl, rfl, c1, c2, c3⟩
  obtain ⟨⟨w1, w2⟩, w3, w4, w5⟩ := ab_row_P (T := T) hw hH k.toNat
  have hn1 : m1 129 2 = n := by rw [c1 _ _ (by omega)]; exact hn
  unfold M_X11_row_L1B
  simp only [am_rf_all, hn1]
  refine ⟨fun q => ?_, fun q => ?_⟩
  · have hk : k = n / 3 := by omega
    subst hk
    rw [cut_eq, hn1, if_pos (by omega), cut_eq, am_st_ne (o' := 148) _ (by omega), c1 148 2 (by omega), fine_eq]
    have he2 : e = if n % 3 = 0 then 0 else 1 := by
      split <;> omega
    have h2 := h148.2.2.1
    refine hK _ (vg_of c2 (fun o k _ _ => ?_) (fun _ _ => rfl)) (fun o k ho => ?_) (am_st_same _ _ _ _) ?_ ?_ ?_
    · rw [am_st_ne _ (by omega)]
      split
      · rw [am_st_ne _ (by omega), am_st_ne _ (by omega)]
      · rw [am_st_ne _ (by omega)]
    · rw [am_st_ne _ (by omega)]
      split
      · rw [am_st_ne _ (by omega), am_st_ne _ (by omega)]; exact c1 o k (by omega)
      · rw [am_st_ne _ (by omega)]; exact c1 o k (by omega)
    · rw [am_st_ne _ (by omega), ← he2, ← c3]
      split
      · rw [am_st_ne _ (by omega), am_st_ne _ (by omega)]
      · rw [am_st_ne _ (by omega)]
    · rw [am_st_ne _ (by omega)]
      split
      · rw [am_st_ne _ (by omega), am_st_same]
      · rw [am_st_same]
    · rw [am_st_ne _ (by omega)]
      split
      · rw [am_st_same]
      · rw [am_st_ne _ (by omega), c1 _ _ (by omega)]; omega
  · have he0 : e = 0 := by omega
    subst he0
    rw [Int.add_zero] at q ⊢
    have r1 : rk m1 129 1 400 := rk_of h129 (c1 _ _ (by omega)) (c1 _ _ (by omega))
    rw [get_eq r1, get_eq r1, get_eq r1, w32_of (z := 3 * k + 1) (by omega) (by omega), w32_of (z := 3 * k + 2) (by omega) (by omega)]
    have hB1 : bk_P m1 1 (ab_row T A k.toNat).1 := bk_of hB (fun o k _ _ _ => c1 o k (by omega)) (fun x hx => w3 x (by omega)) l6
    have g0 : rget m1 129 1 (3 * k) 0 = T (3 * k) % 256 := by
      unfold rget
      rw [hn1, if_pos (by omega), show (129 : Int) + 1 = 130 by omega, show 3 * k * 1 + 0 = 3 * k by omega, c1 _ _ (by omega)]
      exact (hT _ (by omega) (by omega)).1
    have hp := w1.1.2.2.1
    have b0 := hT (3 * k) (by omega) (by omega)
    refine ctry (Or.inl rfl) (wf_mono w1 (by omega)) hB1 c2 (fun hy m2 f2 => ?_) (fun hy m2 v2 f2 => ?_)
    · -- a cough
      refine ⟨fun _ => ?_, fun z => absurd hy z⟩
      unfold M_X11_row_J1
      simp only [forall_eq]
      rw [w32_of (z := 3 * k + 3) (by omega) (by omega), f2 0 18 (by omega), c3, w32_of (by omega) (by omega)]
      have f3 : ∀ o k', ¬ (o = 137 ∨ o = 139 ∨ (o = 13 ∧ k' = 2) ∨ o = 14 ∨ (o = 0 ∧ k' = 18)) → am_st m2 0 18 ((ab_row T A k.toNat).2.2 + 0 + 1) o k' = m o k' := fun o k' ho => by rw [am_st_ne _ (by omega), f2 _ _ (by omega)]; exact c1 o k' ho
      have v3 : vg_P (am_st m2 0 18 ((ab_row T A k.toNat).2.2 + 0 + 1)) 12 (ab_row T A k.toNat).1 := vg_of c2 (fun o k _ _ => by rw [am_st_ne _ (by omega), f2 _ _ (by omega)]) (fun _ _ => rfl)
      by_cases ck : 3 * k + 2 < n
      · have g1 : rget m1 129 1 (3 * k + 1) 0 = T (3 * k + 1) % 256 := by
          unfold rget
          rw [hn1, if_pos (by omega), show (129 : Int) + 1 = 130 by omega, show (3 * k + 1) * 1 + 0 = 3 * k + 1 by omega, c1 _ _ (by omega)]
          exact (hT _ (by omega) (by omega)).1
        have g2 : rget m1 129 1 (3 * k + 2) 0 = T (3 * k + 2) % 256 := by
          unfold rget
          rw [hn1, if_pos (by omega), show (129 : Int) + 1 = 130 by omega, show (3 * k + 2) * 1 + 0 = 3 * k + 2 by omega, c1 _ _ (by omega)]
          exact (hT _ (by omega) (by omega)).1
        have b1 := hT (3 * k + 1) (by omega) (by omega)
        have b2 := hT (3 * k + 2) (by omega) (by omega)
        rw [g0, g1, g2, why_byte (by omega) b0.2 b1.2 b2.2] at hy
        refine ⟨_, by omega, k + 1, 0, by omega, by omega, by omega, Or.inl rfl, rfl, ?_, f3, ?_, ?_⟩
        · rw [ab_row_s T A k0, if_neg hy]
        · rw [ab_row_s T A k0, if_neg hy]; exact v3
        · rw [ab_row_s T A k0, if_neg hy, am_st_same]; show _ = (ab_row T A k.toNat).2.2 + 1 + 0; omega
      · refine ⟨_, by omega, k, 1, k0, k1, by omega, Or.inr ⟨rfl, by omega, by omega⟩, rfl, rfl, f3, v3, ?_⟩
        rw [am_st_same]; omega
    · refine ⟨fun z => absurd rfl z, fun _ => ?_⟩
      have ck : 3 * k + 2 < n := by
        obtain ⟨y1, -⟩ := why_0 hy
        refine Classical.byContradiction fun z => ?_
        have g2 : rget m1 129 1 (3 * k + 2) 0 = -1 := by
          unfold rget
          rw [hn1, if_neg (by omega)]
        rw [g2] at y1
        omega
      have g1 : rget m1 129 1 (3 * k + 1) 0 = T (3 * k + 1) % 256 := by
        unfold rget
        rw [hn1, if_pos (by omega), show (129 : Int) + 1 = 130 by omega, show (3 * k + 1) * 1 + 0 = 3 * k + 1 by omega, c1 _ _ (by omega)]
        exact (hT _ (by omega) (by omega)).1
      have g2 : rget m1 129 1 (3 * k + 2) 0 = T (3 * k + 2) % 256 := by
        unfold rget
        rw [hn1, if_pos (by omega), show (129 : Int) + 1 = 130 by omega, show (3 * k + 2) * 1 + 0 = 3 * k + 2 by omega, c1 _ _ (by omega)]
        exact (hT _ (by omega) (by omega)).1
      have b1 := hT (3 * k + 1) (by omega) (by omega)
      have b2 := hT (3 * k + 2) (by omega) (by omega)
      rw [g0, g1, g2, why_byte (by omega) b0.2 b1.2 b2.2] at hy
      obtain ⟨s0, s1, s2⟩ := say_byte (by omega) b0.2 b1.2 b2.2 hy
      rw [g0, g1, g2, s0, s1, s2] at v2
      unfold M_X11_row_J1
      simp only [forall_eq]
      rw [w32_of (z := 3 * k + 3) (by omega) (by omega), w32_of (by omega) (by omega)]
      refine ⟨_, by omega, k + 1, 0, by omega, by omega, by omega, Or.inl rfl, rfl, ?_, fun o k' ho => by rw [f2 _ _ (by omega)]; exact c1 o k' ho, ?_, ?_⟩
      · rw [ab_row_s T A k0, if_pos hy]
      · rw [ab_row_s T A k0, if_pos hy]; exact v2
      · rw [ab_row_s T A k0, if_pos hy, f2 _ _ (by omega), c3]
theorem mrow (hw : wf_A 16 (m 170)) (hH : wf_H (m 170)) (hn : m 168 13 = n) (h0 : 0 < n ∧ n ≤ 400) {K : am_KK}
    (hK : ∀ m', m' 170 = (ab_row (m 175) (m 170) (n / 3).toNat).1 → (∀ o k, ¬ (o = 180 ∨ o = 170 ∨ (o = 168 ∧ (k = 0 ∨ k = 6 ∨ k = 8 ∨ k = 13 ∨ k = 22 ∨ k = 23 ∨ k = 24 ∨ k = 38))) → m' o k = m o k) → m' 168 0 = 0 → m' 168 6 = (ab_row (m 175) (m 170) (n / 3).toNat).2.2 + (if n % 3 = 0 then 0 else 1) → m' 168 13 = 0 → m' 168 38 = 0 → K (ab_row (m 175) (m 170) (n / 3).toNat).2.1 m') : M_X12_row 168 K m := by
  have hT : ∀ mm : am_M, (∀ o k, ¬ (o = 180 ∨ o = 170 ∨ (o = 168 ∧ (k = 6 ∨ k = 8 ∨ k = 13 ∨ k = 22 ∨ k = 23 ∨ k = 24))) → mm o k = m o k) → ∀ x, mm 175 x = m 175 x := fun mm h x => h 175 x (by omega)
  generalize hTT : m 175 = T at *
  generalize hA : m 170 = A at *
  unfold M_X12_row
  simp only [forall_eq, hn]
  refine ⟨fun _ => ?_, fun q => absurd (by omega) q⟩
  have htm : Int.tmod n 3 = n % 3 := Int.tmod_eq_emod_of_nonneg (by omega)
  rw [htm, w32_of (z := n % 3) (by omega) (by omega)]
  have key : ∀ e, (e = if n % 3 = 0 then 0 else 1) → M_X12_row_J1 168 n 0 168 e K (am_st m 168 13 0) := by
    intro e he
    have he2 : e = 0 ∨ e = 1 := by rw [he]; split <;> omega
    unfold M_X12_row_J1 M_X12_row_L1
    simp only [forall_eq]
    refine ⟨fun j g i m1 => ∃ k, 0 ≤ k ∧ k ≤ n / 3 ∧ i = 3 * k ∧ j = (n - i).toNat ∧ g = (ab_row T A k.toNat).2.1 ∧ (∀ o k, ¬ (o = 180 ∨ o = 170 ∨ (o = 168 ∧ (k = 6 ∨ k = 8 ∨ k = 13 ∨ k = 22 ∨ k = 23 ∨ k = 24))) → m1 o k = m o k) ∧ m1 170 = (ab_row T A k.toNat).1 ∧ m1 168 6 = (ab_row T A k.toNat).2.2 + e ∧ m1 168 13 = 0, ⟨_, 0, by omega, by omega, by omega, rfl, rfl, fun o k ho => by rw [am_st_ne _ (by omega), am_st_ne _ (by omega)], ?_, ?_, ?_⟩, ?_⟩
    · rw [st_rne _ _ _ (by omega), st_rne _ _ _ (by omega)]; exact hA
    · rw [am_st_same]; show e = 0 + e; omega
    · rw [am_st_ne _ (by omega), am_st_same]
    rintro j g i m1 ⟨k, k0, k1, rfl, rfl, rfl, c1, c2, c3, c4⟩
    obtain ⟨⟨w1, w2⟩, w3, w4, w5⟩ := ab_row_P (T := T) hw hH k.toNat
    have e175 := hT m1 c1
    unfold M_X12_row_L1B
    simp only [am_rf_all, am_ln_all, settled_eq, e175]
    rw [w32_of (z := 3 * k + 3) (by omega) (by omega), w32_of (z := 3 * k + 1) (by omega) (by omega), w32_of (z := 3 * k + 2) (by omega) (by omega)]
    refine ⟨fun q => ?_, fun q => ?_⟩
    · have hk : k = n / 3 := by omega
      subst hk
      refine hK _ (by rw [st_rne _ _ _ (by omega), st_rne _ _ _ (by omega)]; exact c2) (fun o k ho => by rw [am_st_ne _ (by omega), am_st_ne _ (by omega)]; exact c1 o k (by omega)) (am_st_same _ _ _ _) (by rw [am_st_ne _ (by omega), am_st_ne _ (by omega), c3, he]) (by rw [am_st_ne _ (by omega), am_st_ne _ (by omega)]; exact c4) (by rw [am_st_ne _ (by omega), am_st_same])
    · refine ⟨by omega, by omega, by omega, ?_⟩
      refine mwhy (by rw [c2]; exact wf_mono w1 (by omega)) (fun m2 f2 => ?_)
      rw [c2]
      have g2 : m2 170 = (ab_row T A k.toNat).1 := by rw [fr_law_170 f2]; exact c2
      have c5 : ∀ o k, ¬ (o = 180 ∨ o = 170 ∨ (o = 168 ∧ (k = 6 ∨ k = 8 ∨ k = 13 ∨ k = 22 ∨ k = 23 ∨ k = 24))) → m2 o k = m o k := fun o k ho => by rw [f2 _ _ (by omega)]; exact c1 o k ho
      have e175' := hT m2 c5
      unfold M_X12_row_J2 M_X12_row_J3 M_X12_row_J4 M_X12_row_J5
      simp only [am_rf_all, am_ln_all, forall_eq, e175']
      rw [w32_of (z := 3 * k + 3) (by omega) (by omega), w32_of (z := 3 * k + 1) (by omega) (by omega), w32_of (z := 3 * k + 2) (by omega) (by omega)]
      refine ⟨fun hy => ⟨fun _ => ⟨fun _ => ⟨fun _ => ?_, fun z => (by first | exact absurd rfl z | exact absurd trivial z | exact absurd z (by decide) | exact z.elim)⟩, fun z => (by first | exact absurd rfl z | exact absurd trivial z | exact absurd z (by decide) | exact z.elim)⟩, fun z => (by first | exact absurd rfl z | exact absurd trivial z | exact absurd z (by decide) | exact z.elim)⟩, fun hy => ⟨fun z => (by first | exact absurd rfl z | exact absurd trivial z | exact absurd z (by decide) | exact z.elim), fun _ => ⟨by omega, by omega, by omega, ?_⟩⟩⟩
      · rw [f2 168 6 (by omega), c3, w32_of (by omega) (by omega), w32_of (by omega) (by omega)]
        refine ⟨_, by omega, k + 1, by omega, by omega, by omega, rfl, ?_, fun o k ho => by rw [am_st_ne _ (by omega)]; exact c5 o k ho, ?_, ?_, ?_⟩
        · rw [ab_row_s T A k0, if_neg hy]; show _ = (ab_row T A k.toNat).2.1; omega
        · rw [ab_row_s T A k0, if_neg hy, st_rne _ _ _ (by omega)]; exact g2
        · rw [ab_row_s T A k0, if_neg hy, am_st_same]; show _ = (ab_row T A k.toNat).2.2 + 1 + e; omega
        · rw [am_st_ne _ (by omega), f2 _ _ (by omega)]; exact c4
      · have hy' : ab_why (ab_row T A k.toNat).1 (T (3 * k)) (T (3 * k + 1)) (T (3 * k + 2)) 1 ((ab_row T A k.toNat).1 169) = 0 := Classical.not_not.mp hy
        obtain ⟨y1, y2, y3, y4⟩ := why_0 hy'
        have hnn := w1.2.1.1
        rw [msays (by rw [g2]; omega), g2]
        refine ⟨fun z => (by first | exact absurd rfl z | exact absurd trivial z | exact absurd z (by decide) | exact z.elim), fun _ => ⟨fun z => (by first | exact absurd rfl z | exact absurd trivial z | exact absurd z (by decide) | exact z.elim), fun _ => ?_⟩⟩
        rw [row_ne _ _ _ (by omega), f2 168 6 (by omega), c3, w32_of (by omega) (by omega), w32_of (by omega) (by omega)]
        refine ⟨_, by omega, k + 1, by omega, by omega, by omega, rfl, ?_, fun o k ho => by rw [am_st_ne _ (by omega), row_ne _ _ _ (by omega)]; exact c5 o k ho, ?_, ?_, ?_⟩
        · rw [ab_row_s T A k0, if_pos hy']
        · rw [ab_row_s T A k0, if_pos hy', st_rne _ _ _ (by omega)]; funext x; exact row_eq _ _ _ _
        · rw [ab_row_s T A k0, if_pos hy', am_st_same]; show _ = (ab_row T A k.toNat).2.2 + e; omega
        · rw [am_st_ne _ (by omega), row_ne _ _ _ (by omega), f2 _ _ (by omega)]; exact c4
  refine ⟨fun q => key 1 (by rw [if_neg q]), fun q => key 0 (by rw [if_pos (by omega)])⟩
end ROW
theorem ab_row_T {T T' A : Int → Int} {n : Int} (h : ∀ x, 0 ≤ x → x < n → T x = T' x) (k : Nat) (hk : 3 * (k : Int) ≤ n) : ab_row T A k = ab_row T' A k := by
  induction k with
  | zero => rfl
  | succ k ih =>
    have e := ih (by omega)
    rw [ab_row, ab_row, e, h _ (by omega) (by omega), h _ (by omega) (by omega), h _ (by omega) (by omega)]
theorem j_row : Joint (M_X11_row 0) (M_X12_row 168) := by
  intro m h K hK
  have hb := h.1.1
  have hv := h.1.2.1
  have hf := h.1.2.2.1
  have hH := h.1.2.2.2
  have hud := h.2.2.2.2.2.1
  have l6 := hf.2.2.1.1.2
  obtain ⟨t1, t2, t3, t4⟩ := h.2.2.1
  by_cases c : m 168 13 = 0
  · unfold M_X11_row M_X12_row
    simp only [am_rf_all, t2, c, forall_eq]
    refine ⟨fun q => absurd rfl q, fun _ => ?_⟩
    rw [refuse_eq (Or.inr (Or.inr (Or.inr (Or.inr rfl)))), am_st_ne (o' := 168) (k' := 13) _ (by omega), am_st_ne (o' := 168) (k' := 13) _ (by omega), c]
    refine ⟨fun q => absurd rfl q, fun _ => ?_⟩
    have es : am_st (am_st (am_st m 0 17 (-6)) 167 (- -6) (w32 (m 167 (- -6) + 1))) 168 13 0 = am_st (am_st m 0 17 (-6)) 167 (- -6) (w32 (m 167 (- -6) + 1)) := by
      funext o k
      rw [am_st_eq _ 168 13]
      split
      · rename_i q
        rw [q.1, q.2, am_st_ne _ (by omega), am_st_ne _ (by omega), c]
      · rfl
    rw [es, refuses_eq (Or.inr (Or.inr (Or.inr (Or.inr rfl))))]
    exact refuses_end (Or.inr (Or.inr (Or.inr (Or.inr rfl)))) h hK
  · refine crow (T := m 175) hf hH hb hv t1 t2 (by omega) t4 hud.1 (fun m1 v1 f1 a1 a2 a3 a4 => ?_)
    have e170 : m1 170 = m 170 := funext fun x => f1 _ _ (by omega)
    have e175 : m1 175 = m 175 := funext fun x => f1 _ _ (by omega)
    refine mrow (n := m 168 13) (by rw [e170]; exact hf) (by rw [e170]; exact hH) (f1 _ _ (by omega)) (by omega) (fun m2 g1 f2 b1 b2 b3 b4 => ?_)
    rw [e170, e175] at g1 b2 ⊢
    obtain ⟨⟨w1, w2⟩, w3, w4, w5⟩ := ab_row_P (T := m 175) hf hH (m 168 13 / 3).toNat
    have e : ∀ o k, ¬ (o = 137 ∨ o = 139 ∨ (o = 13 ∧ k = 2) ∨ o = 14 ∨ (o = 0 ∧ (k = 17 ∨ k = 18)) ∨ (o = 129 ∧ k = 2) ∨ (o = 148 ∧ k = 2) ∨ o = 180 ∨ o = 170 ∨ (o = 168 ∧ (k = 0 ∨ k = 6 ∨ k = 8 ∨ k = 13 ∨ k = 22 ∨ k = 23 ∨ k = 24 ∨ k = 38))) → m2 o k = m o k := fun o k ho => by rw [f2 o k (by omega)]; exact f1 o k (by omega)
    have z1 : m2 129 2 = 0 := by rw [f2 _ _ (by omega)]; exact a3
    have z2 : m2 148 2 = 0 := by rw [f2 _ _ (by omega)]; exact a4
    refine hK _ _ (Rel_mk h (fun o k ho => e o k (by omega)) ?_ ?_ (by rw [g1]; exact w1) (by rw [g1]; exact w2) ⟨rk_to t1 (e _ _ (by omega)) (by rw [z1]; omega), by rw [z1, b3], by rw [b3]; omega, fun x x0 x1 => by omega⟩ ⟨?_, ?_, ?_, ?_⟩ (ud_clear (rk_to hud.1 (e _ _ (by omega)) (by rw [z2]; omega)) z2 b4) (fun q hq => by have := wd_ne q hq; exact e _ _ (by omega)) (ww_of h.2.2.2.2.2.2.2.2 (e _ _ (by omega)) (e _ _ (by omega)) (fun _ => e _ _ (by omega)) (fun _ _ _ => e _ _ (by omega))))
    · rw [g1]; exact bk_of hb (fun o k _ _ _ => e o k (by omega)) (fun x hx => w3 x (by omega)) l6
    · rw [g1]; exact vg_of v1 (fun o k _ _ => f2 o k (by omega)) (fun _ _ => rfl)
    · rw [f2 _ _ (by omega), a1, b1]
    · rw [f2 _ _ (by omega), a2, b2]
    · rw [e _ _ (by omega), e _ _ (by omega)]; exact h.2.2.2.1.2.2.1
    · rw [e _ _ (by omega), e _ _ (by omega)]; exact h.2.2.2.1.2.2.2
