/-! A DAWN comes on the Vigil. -/
theorem bool01 (b : Bool) (p q : Prop) : (((if b = true then (1 : Int) else 0) = 0 → p) ∧ (¬ (if b = true then (1 : Int) else 0) = 0 → q)) ↔ if b = true then q else p := by cases b <;> simp
section HEA
variable {m : am_M} {A : Int → Int} {v p day dawn : Int}
theorem cforeseeAll {dawns : Int} (hvv : vg_v v) (hw : wf_A 24 A) (hB : bk_P m 1 A) (hv : vg_P m v A) (hdn : dawns ≤ 20) {K : am_KK}
    (hK : ∀ m', (∀ o k, ¬ (o = 137 ∨ o = 139 ∨ o = 141) → m' o k = m o k) → (∀ i q, 1 ≤ i → i ≤ dawns → 0 ≤ q → q < A 168 → A (7 * q + 5) = 0 → m' 141 (i * 24 + q) = ab_fore A q (A 169 + i)) → K 0 m') : M_X2_foreseeAll 140 1 v dawns K m := by
  have h6 := hw.2.2.1.1.2
  have h24 := hw.2.1.1
  have hday := hw.2.1.2.1
  unfold M_X2_foreseeAll M_X2_foreseeAll_L1
  refine ⟨fun j d m1 => 1 ≤ d ∧ d ≤ 21 ∧ j = (21 - d).toNat ∧ (∀ o k, ¬ (o = 137 ∨ o = 139 ∨ o = 141) → m1 o k = m o k) ∧ ∀ i q, 1 ≤ i → i < d → 0 ≤ q → q < A 168 → A (7 * q + 5) = 0 → m1 141 (i * 24 + q) = ab_fore A q (A 169 + i), ⟨_, by omega, by omega, rfl, fun _ _ _ => rfl, fun i q h1 h2 => by omega⟩, ?_⟩
  rintro j d m1 ⟨d1, d21, rfl, f1, f2⟩
  unfold M_X2_foreseeAll_L1B
  refine ⟨fun hd => hK m1 f1 (fun i q h1 h2 => f2 i q h1 (by omega)), fun hd => ?_⟩
  unfold M_X2_foreseeAll_L2
  refine ⟨fun j' q m2 => 0 ≤ q ∧ q ≤ A 168 ∧ j' = (A 168 - q).toNat ∧ (∀ o k, ¬ (o = 137 ∨ o = 139 ∨ o = 141) → m2 o k = m o k) ∧ ∀ i x, 1 ≤ i → (i < d ∨ (i = d ∧ x < q)) → 0 ≤ x → x < A 168 → A (7 * x + 5) = 0 → m2 141 (i * 24 + x) = ab_fore A x (A 169 + i), ⟨_, by omega, by omega, rfl, f1, fun i x h1 h2 h3 h4 h5 => f2 i x h1 (by omega) h3 h4 h5⟩, ?_⟩
  rintro j' q m2 ⟨q0, q1, rfl, g1, g2⟩
  have hB2 : bk_P m2 1 A := bk_of hB (fun o k _ _ _ => g1 o k (by omega)) (fun _ _ => rfl) h6
  have hv2 : vg_P m2 v A := vg_of hv (fun o k _ _ => g1 o k (by rcases hvv with rfl | rfl <;> omega)) (fun _ _ => rfl)
  unfold M_X2_foreseeAll_L2B M_X2_foreseeAll_J1
  rw [vg_rf hvv, hv2.1.2.1]
  refine ⟨fun hq => ?_, fun hq => ?_⟩
  · intro d' hd'
    rw [w32_of (by omega) (by omega)] at hd'
    subst hd'
    exact ⟨_, by omega, by omega, by omega, rfl, g1, fun i x h1 h2 h3 h4 h5 => g2 i x h1 (by omega) h3 h4 h5⟩
  · rw [vg_waits hvv hv2 q0 (by omega)]
    simp only [forall_eq, b01]
    rw [w32_of (z := q + 1) (by omega) (by omega)]
    refine ⟨fun hs => ?_, fun hs => ?_⟩
    · exact ⟨_, by omega, by omega, by omega, rfl, g1, fun i x h1 h2 h3 h4 h5 => g2 i x h1 (by
        by_cases e : x = q
        · subst e; exact absurd h5 hs
        · omega) h3 h4 h5⟩
    · rw [hv2.2, w32_of (z := A 169 + d) (by omega) (by omega)]
      refine cforesee hvv hw hB2 hv2 q0 (by omega) (by omega) (by omega) (fun m3 f3 => ?_)
      refine ⟨_, ?_, by omega, by omega, rfl, fun o k h => ?_, fun i x h1 h2 h3 h4 h5 => ?_⟩
      · omega
      · rw [f3 o k (by omega), am_st_ne _ (by omega)]; exact g1 o k h
      · rw [f3 _ _ (by omega)]
        by_cases e : i = d ∧ x = q
        · obtain ⟨rfl, rfl⟩ := e
          exact am_st_same _ _ _ _
        · rw [am_st_ne _ (by omega)]
          exact g2 i x h1 (by omega) h3 h4 h5
theorem clowest (hvv : vg_v v) (hw : wf_A 24 A) (hv : vg_P m v A) (hdn : 0 ≤ dawn ∧ dawn ≤ 20) {K : am_KK} (hK : K (ab_low A (fun q => m 141 (dawn * 24 + q)) (A 168).toNat).1 m) : M_X2_lowest 140 v dawn K m := by
  have h24 := hw.2.1.1
  have r0 : am_rfv 140 0 = 141 := by decide +kernel
  have l1 : am_len 141 = 504 := by decide +kernel
  unfold M_X2_lowest M_X2_lowest_L1
  refine ⟨fun j a b i m1 => 0 ≤ i ∧ i ≤ A 168 ∧ j = (A 168 - i).toNat ∧ m1 = m ∧ (a, b) = ab_low A (fun q => m 141 (dawn * 24 + q)) i.toNat, ⟨_, by omega, by omega, rfl, rfl, rfl⟩, ?_⟩
  rintro j a b i m1 ⟨i0, i1, rfl, rfl, hab⟩
  unfold M_X2_lowest_L1B M_X2_lowest_J1 M_X2_isForeseen
  rw [vg_rf hvv, hv.1.2.1]
  refine ⟨fun hi => ?_, fun hi => ?_⟩
  · have : i = A 168 := by omega
    subst this
    rw [← hab] at hK
    exact hK
  · have hs : ab_low A (fun q => m1 141 (dawn * 24 + q)) (i + 1).toNat = if m1 141 (dawn * 24 + i) < b ∧ A (7 * i + 5) = 0 then (i, m1 141 (dawn * 24 + i)) else (a, b) := by
      rw [show (i + 1).toNat = i.toNat + 1 by omega, ab_low, ← hab, show (i.toNat : Int) = i by omega]
    have nx : ∀ a' b' : Int, (a', b') = ab_low A (fun q => m1 141 (dawn * 24 + q)) (i + 1).toNat → (fun (v3' v4' v5' : Int) (m' : am_M) => ∃ j', j' < (A 168 - i).toNat ∧ 0 ≤ v5' ∧ v5' ≤ A 168 ∧ j' = (A 168 - v5').toNat ∧ m' = m1 ∧ (v3', v4') = ab_low A (fun q => m1 141 (dawn * 24 + q)) v5'.toNat) a' b' (i + 1) m1 := fun a' b' h => ⟨_, by omega, by omega, by omega, rfl, rfl, h⟩
    generalize (fun (v3' v4' v5' : Int) (m' : am_M) => ∃ j', j' < (A 168 - i).toNat ∧ 0 ≤ v5' ∧ v5' ≤ A 168 ∧ j' = (A 168 - v5').toNat ∧ m' = m1 ∧ (v3', v4') = ab_low A (fun q => m1 141 (dawn * 24 + q)) v5'.toNat) = C at nx ⊢
    rw [hs] at nx
    simp only [within_eq, b01]
    have c1 : 0 ≤ i ∧ i ≤ 23 := by omega
    have c2 : 0 ≤ dawn ∧ dawn ≤ 20 := hdn
    have c3 : ¬ ((1 : Int) = 0) := by decide
    simp only [c1, c2, not_true_eq_false, false_imp_iff, true_imp_iff, not_false_eq_true, true_and, and_true, and_self, c3, r0, l1, forall_eq]
    rw [w32_of (z := dawn * 24) (by omega) (by omega), w32_of (z := dawn * 24 + i) (by omega) (by omega), w32_of (z := i + 1) (by omega) (by omega), vg_waits hvv hv i0 (by omega)]
    refine ⟨by omega, fun hb => nx _ _ (by rw [if_neg (by omega)]), fun hb => ?_⟩
    by_cases hn : A (7 * i + 5) = 0
    · rw [if_pos hn]
      exact ⟨fun h => by omega, fun _ => nx _ _ (by rw [if_pos (by omega)])⟩
    · rw [if_neg hn]
      exact ⟨fun _ => nx _ _ (by rw [if_neg (by omega)]), fun h => absurd rfl h⟩
theorem ckeptOff (hvv : vg_v v) (hw : wf_A 24 A) (hB : bk_P m 1 A) (hv : vg_P m v A) (h0 : 0 ≤ p) (h1 : p < A 168) {K : am_KK} (hK : K (if ab_denied A p = true then 1 else 0) m) : M_X2_isKeptOff 1 v p K m := by
  have h24 := hw.2.1.1
  have hpp := (hw.2.1.2.2 p h0 h1).2.1
  have hcl := hw.1.2.2.2.2.2.1
  have hB6 := hB.2.2.2.2.2.1
  have hB7 := hB.2.2.2.2.2.2.1
  unfold M_X2_isKeptOff
  rw [vg_rf hvv, vg_get hv h0 h1 (by omega)]
  unfold M_X0_keptOffBy
  simp only [isThing_eq, b01, am_rf_all, am_ln_all]
  have c1 : 0 ≤ A (7 * p + 1) ∧ A (7 * p + 1) ≤ 7 := hpp
  have c2 : A (7 * p + 1) < 8 := by omega
  simp only [c1, c2, not_true_eq_false, false_imp_iff, true_imp_iff, not_false_eq_true, true_and, and_self]
  obtain ⟨k0, k256, -⟩ := hB7 (A (7 * p + 1)) (by omega) (by omega)
  have hB6' := fun t => hB6 (A (7 * p + 1)) t (by omega) (by omega)
  rw [show (1 : Int) + 14 = 15 by omega] at k0 k256 hB6'
  have hsh := bit_shl_le (i := A (7 * p + 1)) (n := 8) (by omega) (by omega)
  have hor := bit_or_le (n := 8) (x := m 15 (A (7 * p + 1))) (y := am_shl 1 (A (7 * p + 1))) (by omega) ⟨k0, k256⟩ (by omega)
  unfold M_X2_isKeptOff_L1
  refine ⟨fun j i m1 => 0 ≤ i ∧ i ≤ A 168 ∧ j = (A 168 - i).toNat ∧ m1 = m ∧ ab_den A (A (7 * p + 1)) i.toNat = false, ⟨_, by omega, by omega, rfl, rfl, rfl⟩, ?_⟩
  rintro j i m1 ⟨i0, i1, rfl, rfl, hden⟩
  unfold M_X2_isKeptOff_L1B M_X2_isKeptOff_J1
  rw [vg_rf hvv, hv.1.2.1]
  refine ⟨fun hi => ?_, fun hi => ?_⟩
  · have : i = A 168 := by omega
    subst this
    unfold ab_denied at hK
    rw [hden] at hK
    exact hK
  · have hii := hw.2.1.2.2 i i0 (by omega)
    simp only [vg_get hv i0 (show i < A 168 by omega) (show 0 ≤ (5 : Int) ∧ (5 : Int) < 7 by omega), vg_get hv i0 (show i < A 168 by omega) (show 0 ≤ (1 : Int) ∧ (1 : Int) < 7 by omega), vg_get hv i0 (show i < A 168 by omega) (show 0 ≤ (6 : Int) ∧ (6 : Int) < 7 by omega), term_2 hB, forall_eq]
    have hn : ab_den A (A (7 * p + 1)) (i + 1).toNat = (A (7 * i + 5) == 1 && decide (A 169 - A (7 * i + 6) < A 361) && (A (7 * i + 1) == A (7 * p + 1) || A (244 + 8 * A (7 * i + 1) + A (7 * p + 1)) == 1)) := by
      rw [show (i + 1).toNat = i.toNat + 1 by omega, ab_den, hden, Bool.false_or, show (i.toNat : Int) = i by omega]
    have next : ab_den A (A (7 * p + 1)) (i + 1).toNat = false → ∃ j', j' < (A 168 - i).toNat ∧ 0 ≤ w32 (i + 1) ∧ w32 (i + 1) ≤ A 168 ∧ j' = (A 168 - w32 (i + 1)).toNat ∧ True ∧ ab_den A (A (7 * p + 1)) (w32 (i + 1)).toNat = false := by
      intro h
      rw [w32_of (by omega) (by omega)]
      exact ⟨_, by omega, by omega, by omega, rfl, trivial, h⟩
    have dn : ab_den A (A (7 * p + 1)) (i + 1).toNat = true → ab_denied A p = true := by
      intro h
      unfold ab_denied
      have mono : ∀ d n : Nat, ab_den A (A (7 * p + 1)) n = true → ab_den A (A (7 * p + 1)) (n + d) = true := by
        intro d
        induction d with
        | zero => intro n h; exact h
        | succ d ih => intro n h; rw [Nat.add_succ, ab_den, ih n h, Bool.true_or]
      have := mono ((A 168).toNat - (i + 1).toNat) _ h
      rwa [show (i + 1).toNat + ((A 168).toNat - (i + 1).toNat) = (A 168).toNat by omega] at this
    have tt := hii.2.1
    have sy := (hcl (A (7 * i + 1)) (A (7 * p + 1)) (by omega) (by omega) (by omega) (by omega)).2.1
    have bt : ∀ [Decidable (bitI (am_or (m1 15 (A (7 * p + 1))) (am_shl 1 (A (7 * p + 1)))) (A (7 * i + 1)))], am_and (am_shr (am_or (m1 15 (A (7 * p + 1))) (am_shl 1 (A (7 * p + 1)))) (A (7 * i + 1))) 1 = if bitI (am_or (m1 15 (A (7 * p + 1))) (am_shl 1 (A (7 * p + 1)))) (A (7 * i + 1)) then 1 else 0 := bit_test (by omega) (by omega)
    have bi : bitI (am_or (m1 15 (A (7 * p + 1))) (am_shl 1 (A (7 * p + 1)))) (A (7 * i + 1)) ↔ (A (7 * i + 1) = A (7 * p + 1) ∨ A (244 + 8 * A (7 * i + 1) + A (7 * p + 1)) = 1) := by
      rw [bit_or (by omega) (by omega), bit_shl (by omega) (by omega), hB6' (A (7 * i + 1)) (by omega) (by omega), sy]
      constructor
      · rintro (h | h)
        · exact Or.inr h
        · exact Or.inl h.symm
      · rintro (h | h)
        · exact Or.inr h.symm
        · exact Or.inl h
    haveI : Decidable (bitI (am_or (m1 15 (A (7 * p + 1))) (am_shl 1 (A (7 * p + 1)))) (A (7 * i + 1))) := decidable_of_iff _ bi.symm
    rw [bt]
    refine ⟨fun hs => next (by rw [hn]; simp [hs]), fun hs => ?_⟩
    have hs : A (7 * i + 5) = 1 := by omega
    refine ⟨fun hb => next ?_, fun hb => ?_⟩
    · have hb' : ¬ bitI (am_or (m1 15 (A (7 * p + 1))) (am_shl 1 (A (7 * p + 1)))) (A (7 * i + 1)) := fun q => by rw [if_pos q] at hb; exact hb rfl
      rw [bi] at hb'
      rw [hn]
      have u1 : (A (7 * i + 1) == A (7 * p + 1)) = false := by rw [beq_eq_false_iff_ne]; exact fun q => hb' (Or.inl q)
      have u2 : (A (244 + 8 * A (7 * i + 1) + A (7 * p + 1)) == 1) = false := by rw [beq_eq_false_iff_ne]; exact fun q => hb' (Or.inr q)
      rw [u1, u2]; simp
    · have hb' : A (7 * i + 1) = A (7 * p + 1) ∨ A (244 + 8 * A (7 * i + 1) + A (7 * p + 1)) = 1 := by
        rw [← bi]
        by_cases q : bitI (am_or (m1 15 (A (7 * p + 1))) (am_shl 1 (A (7 * p + 1)))) (A (7 * i + 1))
        · exact q
        · rw [if_neg q] at hb; exact absurd (by decide) hb
      have hw6 := hii.2.2.2.2.2.2
      have hday := hw.2.1.2.1
      rw [hv.2, w32_of (z := A 169 - A (7 * i + 6)) (by omega) (by omega)]
      refine ⟨fun ht => next ?_, fun ht => ?_⟩
      · rw [hn]
        have : decide (A 169 - A (7 * i + 6) < A 361) = false := by simp; omega
        rw [this]; simp
      · have : ab_denied A p = true := dn (by
          rw [hn]
          have u1 : decide (A 169 - A (7 * i + 6) < A 361) = true := by simp; omega
          rw [u1, hs]
          simpa using hb')
        rw [if_pos this] at hK
        exact hK
end HEA
