/-! WORDINGS on the one side: what is told of them. -/
section CSY
variable {m : am_M} {A : Int → Int}
theorem clengthFor (hA : wg_A A) (hE : cw_E m A) {t : Int} (ht : 0 ≤ t ∧ t < 8) (K : am_KK) : M_X10_lengthFor 152 t K m ↔ K (if wg_n A 8 t = wg_I then -1 else wg_n A 8 t / 10000) m := by
  unfold M_X10_lengthFor
  simp only [am_rf_all, am_ln_all, isThing_eq, (hE t ht.1 ht.2).1]
  rw [if_pos (show 0 ≤ t ∧ t ≤ 7 by omega)]
  by_cases c : wg_n A 8 t = wg_I
  · rw [if_pos c, if_pos c]
    have h1 : am_cmp (-1) (-1) = 0 := (cmp_5 _ _).mpr rfl
    simp [ht.1, ht.2, h1]
  · rw [if_neg c, if_neg c]
    have hl := wg_le (wg_n_ok hA 8) ht c
    have h1 : ¬ am_cmp (wg_n A 8 t) (-1) = 0 := fun z => by have := (cmp_5 _ _).mp z; omega
    rw [Int.tdiv_eq_ediv_of_nonneg (by omega), w64_in (by omega) (by omega), l2i_of (by omega) (by omega)]
    simp [ht.1, ht.2, h1]
theorem crulesFor (hA : wg_A A) (hE : cw_E m A) {t : Int} (ht : 0 ≤ t ∧ t < 8) (K : am_KK) : M_X10_rulesFor 152 t K m ↔ K (if wg_n A 8 t = wg_I then -1 else wg_n A 8 t % 10000) m := by
  unfold M_X10_rulesFor
  simp only [am_rf_all, am_ln_all, isThing_eq, (hE t ht.1 ht.2).1]
  rw [if_pos (show 0 ≤ t ∧ t ≤ 7 by omega)]
  by_cases c : wg_n A 8 t = wg_I
  · rw [if_pos c, if_pos c]
    have h1 : am_cmp (-1) (-1) = 0 := (cmp_5 _ _).mpr rfl
    simp [ht.1, ht.2, h1]
  · rw [if_neg c, if_neg c]
    have hl := wg_le (wg_n_ok hA 8) ht c
    have h1 : ¬ am_cmp (wg_n A 8 t) (-1) = 0 := fun z => by have := (cmp_5 _ _).mp z; omega
    rw [Int.tmod_eq_emod_of_nonneg (by omega), w64_in (by omega) (by omega), l2i_of (by omega) (by omega)]
    simp [ht.1, ht.2, h1]
theorem cwordsFor (hA : wg_A A) (hE : cw_E m A) {t : Int} (ht : 0 ≤ t ∧ t < 8) (K : am_KK) : M_X10_wordsFor 152 t K m ↔ K (if wg_n A 8 t = wg_I then -1 else tv A (wg_n A 8) 8 t) m := by
  unfold M_X10_wordsFor
  simp only [am_rf_all, am_ln_all, isThing_eq, (hE t ht.1 ht.2).1]
  rw [if_pos (show 0 ≤ t ∧ t ≤ 7 by omega), (hE t ht.1 ht.2).2.2, wv_eight hA (wg_n_ok hA 8) ht]
  by_cases c : wg_n A 8 t = wg_I
  · rw [if_pos c, if_pos c]
    have h1 : am_cmp (-1) (-1) = 0 := (cmp_5 _ _).mpr rfl
    simp [ht.1, ht.2, h1]
  · rw [if_neg c, if_neg c]
    have hl := wg_le (wg_n_ok hA 8) ht c
    have h1 : ¬ am_cmp (wg_n A 8 t) (-1) = 0 := fun z => by have := (cmp_5 _ _).mp z; omega
    simp [ht.1, ht.2, h1]
/-- where one goes on, or the word -/
def wa_S (A : Int → Int) (RES : Int) (k : Nat) (p l : Int) : Prop := (0 ≤ p ∧ p < 10 ∧ p = RES) ∨ (10 ≤ p ∧ p ≤ 17 ∧ wg_n A 8 (p - 10) < wg_T ∧ wg_k (wg_n A 8) (p - 10) < k ∧ 0 ≤ l ∧ l < tv A (wg_n A 8) 8 (p - 10) ∧ wa_at A (wg_n A 8) (tv A (wg_n A 8) 8) k (p - 10) l = RES)
/-- a part of the rule taken, with what is left within it -/
theorem wa_step (hA : wg_A A) {RES t l c : Int} {k : Nat} (ht : 0 ≤ t ∧ t < 8) (hh : 0 ≤ wg_h A (wg_n A 8) t) (hk : wg_k (wg_n A 8) t < k + 1) (hc : c = 1 ∨ c = 2 ∨ c = 3) (hl : 0 ≤ l ∧ l < wv_p (tv A (wg_n A 8) 8) (A (180 + 4 * wg_h A (wg_n A 8) t + c))) (e : wa_nx (wa_at A (wg_n A 8) (tv A (wg_n A 8) 8) k) (A (180 + 4 * wg_h A (wg_n A 8) t + c)) l = RES) : wa_S A RES k (A (180 + 4 * wg_h A (wg_n A 8) t + c)) l := by
  rcases wg_h_p (w := wg_n A 8) hA t with ⟨h1, -⟩ | ⟨h1, h2, -⟩
  · omega
  obtain ⟨g1, g2, -⟩ := (hA.2 _ h1 h2).2.2 c hc
  unfold wa_nx at e
  unfold wv_p at hl
  by_cases p1 : A (180 + 4 * wg_h A (wg_n A 8) t + c) = -1
  · rw [if_pos p1] at hl; omega
  · rw [if_neg p1] at hl
    by_cases p2 : A (180 + 4 * wg_h A (wg_n A 8) t + c) < 10
    · rw [if_pos p2] at e
      exact Or.inl ⟨by omega, p2, e⟩
    · rw [if_neg p2] at e hl
      obtain ⟨q1, q2, q3⟩ := wg_h_q hA (wg_n_ok hA 8) hh hc (show 10 ≤ A (180 + 4 * wg_h A (wg_n A 8) t + c) by omega)
      exact Or.inr ⟨by omega, g2, q2, by omega, hl.1, hl.2, e⟩
theorem cwordAt (hA : wg_A A) (hB : bk_P m 1 A) (hE : cw_E m A) {t l : Int} (ht : 0 ≤ t ∧ t < 8) {K : am_KK} (hK : K (if 0 ≤ l ∧ wg_n A 8 t ≠ wg_I ∧ l < tv A (wg_n A 8) 8 t then wa_at A (wg_n A 8) (tv A (wg_n A 8) 8) 9 t l else -1) m) : M_X10_wordAt 152 1 t l K m := by
  have okW := wg_n_ok hA 8
  have eW := wg_eight hA
  have htl := tv_le (w := wg_n A 8) hA 8 t
  have h38 : p3_ 8 = 6561 := by decide
  have hv : ∀ s, 0 ≤ s → s < 8 → m 155 s = tv A (wg_n A 8) 8 s := fun s s0 s1 => by rw [(hE s s0 s1).2.2]; exact wv_eight hA okW ⟨s0, s1⟩
  unfold M_X10_wordAt
  refine ⟨fun c => ?_, fun c => ?_⟩
  · rw [if_neg (by omega)] at hK; exact hK
  rw [cwordsFor hA hE ht]
  by_cases ci : wg_n A 8 t = wg_I
  · rw [if_neg (fun z => z.2.1 ci)] at hK
    rw [if_pos ci]
    exact ⟨fun q => by omega, fun _ => hK⟩
  rw [if_neg ci]
  refine ⟨fun cl => ?_, fun cl => ?_⟩
  case refine_2 =>
    rw [if_neg (fun z => cl z.2.2)] at hK
    exact hK
  rw [if_pos ⟨by omega, ci, cl⟩] at hK
  generalize hR : wa_at A (wg_n A 8) (tv A (wg_n A 8) 8) 9 t l = RES at hK
  have h7 := wg_k_7 (w := wg_n A 8) ht
  have hlW := wg_le okW ht ci
  intro p hp
  rw [w32_of (by omega) (by omega)] at hp
  subst hp
  unfold M_X10_wordAt_L1
  refine ⟨fun j p l x m1 => m1 = m ∧ ∃ k : Nat, k ≤ 9 ∧ x = 9 - (k : Int) ∧ k = j ∧ wa_S A RES k p l, ⟨9, rfl, 9, by omega, by omega, rfl, Or.inr ⟨by omega, by omega, by rw [show t + 10 - 10 = t by omega]; exact hlW.2.2, by rw [show t + 10 - 10 = t by omega]; omega, by omega, by rw [show t + 10 - 10 = t by omega]; exact cl, by rw [show t + 10 - 10 = t by omega]; exact hR⟩⟩, ?_⟩
  rintro j p l x m1 ⟨rfl, k, hk, rfl, rfl, hS⟩
  unfold M_X10_wordAt_L1B
  simp only [am_rf_all, am_ln_all]
  rcases hS with ⟨p0, p1, rfl⟩ | ⟨p0, p1, fT, fk, l0, l1, fe⟩
  · refine ⟨fun _ => hK, fun _ => ?_⟩
    rw [isThing10 (by omega), if_neg (by omega)]
    exact ⟨fun _ => hK, fun y => absurd rfl y⟩
  obtain ⟨k, rfl⟩ : ∃ q, k = q + 1 := ⟨k - 1, by omega⟩
  refine ⟨fun c8 => by omega, fun _ => ?_⟩
  rw [isThing10 (by omega), if_pos p0]
  refine ⟨fun y => absurd y (by decide), fun _ => ⟨by rw [w32_of (by omega) (by omega)]; omega, ?_⟩⟩
  rw [w32_of (z := p - 10) (by omega) (by omega)]
  have ht2 : 0 ≤ p - 10 ∧ p - 10 < 8 := by omega
  generalize hq : p - 10 = q at *
  have hh := wg_h_fin hA okW eW ht2 fT
  rcases wg_h_p (w := wg_n A 8) hA q with ⟨h1, -⟩ | ⟨h1, h2, -⟩
  · omega
  have g := (hA.2 _ h1 h2).2.2
  have hsum := tv_eq hA okW ht2 hh
  unfold wv_s at hsum
  rw [wa_at] at fe
  intro r hr
  rw [(hE q ht2.1 ht2.2).2.1] at hr
  subst hr
  have J1 : ∀ (c l' : Int), (c = 1 ∨ c = 2 ∨ c = 3) → wa_S A RES k (A (180 + 4 * wg_h A (wg_n A 8) q + c)) l' → M_X10_wordAt_J1 152 1 l' (9 - ((k + 1 : Nat) : Int)) (wg_h A (wg_n A 8) q) c (fun v4' v5' v6' m' => ∃ j', j' < k + 1 ∧ m' = m1 ∧ ∃ k : Nat, k ≤ 9 ∧ v6' = 9 - (k : Int) ∧ k = j' ∧ wa_S A RES k v4' v5') K m1 := by
    intro c l' hc hs
    unfold M_X10_wordAt_J1
    simp only [am_rf_all]
    rw [rule_get hB ⟨h1, h2⟩ (by omega)]
    intro y hy
    rw [w32_of (by omega) (by omega)] at hy
    subst hy
    exact ⟨k, by omega, rfl, k, by omega, by omega, rfl, hs⟩
  have step := fun (c l' : Int) => wa_step (RES := RES) (l := l') (c := c) (k := k) hA ht2 hh (by omega)
  unfold M_X10_wordAt_L2
  refine ⟨fun j l' c m2 => m2 = m1 ∧ ((c = 1 ∧ l' = l ∧ j = 2) ∨ (c = 2 ∧ l' = l - wv_p (tv A (wg_n A 8) 8) (A (180 + 4 * wg_h A (wg_n A 8) q + 1)) ∧ 0 ≤ l' ∧ j = 1) ∨ (c = 3 ∧ l' = l - wv_p (tv A (wg_n A 8) 8) (A (180 + 4 * wg_h A (wg_n A 8) q + 1)) - wv_p (tv A (wg_n A 8) 8) (A (180 + 4 * wg_h A (wg_n A 8) q + 2)) ∧ 0 ≤ l - wv_p (tv A (wg_n A 8) 8) (A (180 + 4 * wg_h A (wg_n A 8) q + 1)) ∧ 0 ≤ l' ∧ j = 0)), ⟨2, rfl, Or.inl ⟨rfl, rfl, rfl⟩⟩, ?_⟩
  have htq := tv_le (w := wg_n A 8) hA 8 q
  have b1 := wv_p_b (w := wg_n A 8) hA (A (180 + 4 * wg_h A (wg_n A 8) q + 1))
  have b2 := wv_p_b (w := wg_n A 8) hA (A (180 + 4 * wg_h A (wg_n A 8) q + 2))
  rintro j l' c m2 ⟨rfl, ⟨rfl, rfl, rfl⟩ | ⟨rfl, rfl, z0, rfl⟩ | ⟨rfl, rfl, z0, z1, rfl⟩⟩
  · unfold M_X10_wordAt_L2B
    simp only [am_rf_all]
    refine ⟨fun y => absurd y (by decide), fun _ => ?_⟩
    rw [rule_get hB ⟨h1, h2⟩ (by omega), cwordsIn hv ⟨(g 1 (Or.inl rfl)).1, (g 1 (Or.inl rfl)).2.1⟩]
    refine ⟨fun cc => ?_, fun cc => ?_⟩
    · rw [if_pos cc] at fe
      exact J1 1 _ (Or.inl rfl) (step 1 _ (Or.inl rfl) ⟨l0, cc⟩ fe)
    · rw [rule_get hB ⟨h1, h2⟩ (by omega), cwordsIn hv ⟨(g 1 (Or.inl rfl)).1, (g 1 (Or.inl rfl)).2.1⟩]
      intro y hy z hz
      rw [w32_of (by omega) (by omega)] at hy hz
      subst hy hz
      exact ⟨1, by omega, rfl, Or.inr (Or.inl ⟨rfl, rfl, by omega, rfl⟩)⟩
  · rw [if_neg (by omega)] at fe
    unfold M_X10_wordAt_L2B
    simp only [am_rf_all]
    refine ⟨fun y => absurd y (by decide), fun _ => ?_⟩
    rw [rule_get hB ⟨h1, h2⟩ (by omega), cwordsIn hv ⟨(g 2 (Or.inr (Or.inl rfl))).1, (g 2 (Or.inr (Or.inl rfl))).2.1⟩]
    refine ⟨fun cc => ?_, fun cc => ?_⟩
    · rw [if_pos cc] at fe
      exact J1 2 _ (Or.inr (Or.inl rfl)) (step 2 _ (Or.inr (Or.inl rfl)) ⟨z0, cc⟩ fe)
    · rw [rule_get hB ⟨h1, h2⟩ (by omega), cwordsIn hv ⟨(g 2 (Or.inr (Or.inl rfl))).1, (g 2 (Or.inr (Or.inl rfl))).2.1⟩]
      intro y hy z hz
      rw [w32_of (by omega) (by omega)] at hy hz
      subst hy hz
      exact ⟨0, by omega, rfl, Or.inr (Or.inr ⟨rfl, rfl, z0, by omega, rfl⟩)⟩
  · rw [if_neg (by omega), if_neg (by omega)] at fe
    unfold M_X10_wordAt_L2B
    refine ⟨fun _ => ?_, fun y => absurd (by decide) y⟩
    exact J1 3 _ (Or.inr (Or.inr rfl)) (step 3 _ (Or.inr (Or.inr rfl)) ⟨z1, by omega⟩ fe)
end CSY
