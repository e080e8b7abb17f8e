/-! WORDINGS on the one side. -/
def wg_s (A w : Int → Int) (r : Int) : Nat → Int
  | 0 => 1
  | k + 1 => wg_s A w r k + wg_p A w (A (180 + 4 * r + ((k : Int) + 1)))
theorem wg_s_3 (A w : Int → Int) (r : Int) : wg_s A w r 3 = wg_c A w r := by
  show 1 + wg_p A w (A (180 + 4 * r + (((0 : Nat) : Int) + 1))) + wg_p A w (A (180 + 4 * r + (((1 : Nat) : Int) + 1))) + wg_p A w (A (180 + 4 * r + (((2 : Nat) : Int) + 1))) = wg_c A w r
  rw [show (((0 : Nat) : Int) + 1) = 1 by decide, show (((1 : Nat) : Int) + 1) = 2 by decide, show (((2 : Nat) : Int) + 1) = 3 by decide]
  rfl
theorem w32_3 (a b c : Int) : w32 (w32 (w32 (0 + a) + b) + c) = w32 (w32 (a + b) + c) := by
  unfold w32
  omega
section WGB
variable {A w : Int → Int}
theorem wg_le (h : wg_ok A w) {t : Int} (ht : 0 ≤ t ∧ t < 8) (hf : w t ≠ wg_I) : 0 < w t ∧ w t ≤ 600000000 ∧ w t < wg_T := by
  rcases h.2 t ht.1 ht.2 with hi | ⟨f1, f2, -⟩
  · exact absurd hi hf
  · have := tl_7 (wg_k_7 (w := w) ht)
    exact ⟨f1.1, by omega, f1.2⟩
/-- a part weighs little, or it is a thing that can't be said -/
theorem wg_pb (hA : wg_A A) (h : wg_ok A w) {r k : Int} (hr : 0 ≤ r ∧ r < A 364) (hk : k = 1 ∨ k = 2 ∨ k = 3) : (0 ≤ wg_p A w (A (180 + 4 * r + k)) ∧ wg_p A w (A (180 + 4 * r + k)) ≤ 600000000) ∨ (10 ≤ A (180 + 4 * r + k) ∧ w (A (180 + 4 * r + k) - 10) = wg_I ∧ wg_p A w (A (180 + 4 * r + k)) = wg_I) := by
  obtain ⟨g1, g2, g3⟩ := (hA.2 r hr.1 hr.2).2.2 k hk
  unfold wg_p
  by_cases p1 : A (180 + 4 * r + k) = -1
  · rw [if_pos p1]; left; omega
  · rw [if_neg p1]
    by_cases p2 : A (180 + 4 * r + k) < 10
    · rw [if_pos p2]; have := g3 (by omega) p2; left; omega
    · rw [if_neg p2]
      by_cases c : w (A (180 + 4 * r + k) - 10) = wg_I
      · exact Or.inr ⟨by omega, c, c⟩
      · have := wg_le h ⟨by omega, by omega⟩ c
        left; omega
theorem wg_inf (hA : wg_A A) (h : wg_ok A w) {r k : Int} (hr : 0 ≤ r ∧ r < A 364) (hk : k = 1 ∨ k = 2 ∨ k = 3) (hi : wg_p A w (A (180 + 4 * r + k)) = wg_I) : ¬ wg_c A w r < wg_T := by
  have h1 := wg_p_0 hA (wg_ok_0 h) hr (Or.inl rfl)
  have h2 := wg_p_0 hA (wg_ok_0 h) hr (Or.inr (Or.inl rfl))
  have h3 := wg_p_0 hA (wg_ok_0 h) hr (Or.inr (Or.inr rfl))
  have e : wg_T < wg_I := by decide
  unfold wg_c
  rcases hk with rfl | rfl | rfl <;> omega
end WGB
section CW
variable {m : am_M} {A w : Int → Int}
def cw_S (m : am_M) (w : Int → Int) : Prop := ∀ t, 0 ≤ t → t < 8 → m 153 t = if w t = wg_I then -1 else w t
theorem rule_get (hB : bk_P m 1 A) {r k : Int} (hr : 0 ≤ r ∧ r < A 364) (hk : 0 ≤ k ∧ k < 4) (K : am_KK) : M_X7_get 4 r k K m ↔ K (A (180 + 4 * r + k)) m := by
  have R2 := (bk_rows hB).2.1
  rw [get_eq R2.1, rf_get R2, if_pos ⟨hr, hk⟩, show 180 + (r * 4 + k) = 180 + 4 * r + k by omega]
theorem word_get (hB : bk_P m 1 A) {p : Int} (hp : 0 ≤ p ∧ p < A 363) (K : am_KK) : M_X7_get 2 p 0 K m ↔ K (A (170 + p)) m := by
  have R1 := (bk_rows hB).1
  rw [get_eq R1.1, rf_get R1, if_pos ⟨hp, by omega, by omega⟩, show 170 + (p * 1 + 0) = 170 + p by omega]
theorem isThing10 {p : Int} (hp : -1 ≤ p ∧ p ≤ 17) (K : am_KK) (m : am_M) : M_X11_isThing (w32 (p - 10)) K m ↔ K (if 10 ≤ p then 1 else 0) m := by
  rw [w32_of (by omega) (by omega), isThing_eq]
  by_cases c : 10 ≤ p
  · rw [if_pos c, if_pos (by omega)]
  · rw [if_neg c, if_neg (by omega)]
theorem cweigh (hA : wg_A A) (hWA : am_WA A) (hB : bk_P m 1 A) (h : wg_ok A w) (hs : cw_S m w) {r : Int} (hr : 0 ≤ r ∧ r < A 364) {K : am_KK} (hK : K (if wg_c A w r < wg_T then wg_c A w r else -1) m) : M_X10_weigh 152 1 r K m := by
  unfold M_X10_weigh M_X10_weigh_L1
  refine ⟨fun j v x m1 => m1 = m ∧ ∃ k : Nat, k ≤ 3 ∧ x = (k : Int) + 1 ∧ j = 3 - k ∧ v = wg_s A w r k ∧ 1 ≤ v ∧ v ≤ 1 + 600000000 * k, ⟨_, rfl, 0, by omega, by omega, rfl, rfl, by omega, by omega⟩, ?_⟩
  rintro j v x m1 ⟨rfl, k, hk, rfl, rfl, rfl, b0, b1⟩
  unfold M_X10_weigh_L1B
  simp only [am_rf_all, am_ln_all]
  refine ⟨fun c => ?_, fun c => ?_⟩
  · have : k = 3 := by omega
    subst this
    have eT : wg_T = 1000000000000 := rfl
    rw [wg_s_3] at b1 ⊢
    rw [if_pos (by omega)] at hK
    exact hK
  · have hk3 : ((k : Int) + 1 = 1 ∨ (k : Int) + 1 = 2 ∨ (k : Int) + 1 = 3) := by omega
    obtain ⟨g1, g2, g3⟩ := (hA.2 r hr.1 hr.2).2.2 ((k : Int) + 1) hk3
    have go : ∀ z, z = wg_p A w (A (180 + 4 * r + ((k : Int) + 1))) → 0 ≤ z → z ≤ 600000000 → M_X10_weigh_J1 152 1 r (wg_s A w r k + z) ((k : Int) + 1) (fun v3' v5' m' => ∃ j', j' < 3 - k ∧ m' = m1 ∧ ∃ k : Nat, k ≤ 3 ∧ v5' = (k : Int) + 1 ∧ j' = 3 - k ∧ v3' = wg_s A w r k ∧ 1 ≤ v3' ∧ v3' ≤ 1 + 600000000 * k) K m1 := by
      intro z hz z0 z1
      unfold M_X10_weigh_J1
      intro y hy
      rw [w32_of (by omega) (by omega)] at hy
      subst hy
      exact ⟨3 - (k + 1), by omega, rfl, k + 1, by omega, by omega, rfl, by rw [wg_s, hz], by omega, by omega⟩
    rw [rule_get hB hr (by omega), isThing10 ⟨g1, g2⟩]
    refine is_br (fun c10 => ?_) (fun c10 => ?_)
    · refine ⟨fun c1 => ?_, fun c1 => ?_⟩
      · have e0 : wg_p A w (A (180 + 4 * r + ((k : Int) + 1))) = 0 := by unfold wg_p; rw [if_pos c1]
        have := go 0 e0.symm (by omega) (by omega)
        rw [Int.add_zero] at this
        exact this
      · have g4 := g3 (by omega) (by omega)
        have e0 : wg_p A w (A (180 + 4 * r + ((k : Int) + 1))) = 10000 * A (170 + A (180 + 4 * r + ((k : Int) + 1))) := by unfold wg_p; rw [if_neg c1, if_pos (by omega)]
        have hw : A (180 + 4 * r + ((k : Int) + 1)) < A 363 := by
          obtain ⟨-, ⟨-, -, b3⟩, -⟩ := hWA
          obtain ⟨-, q1, q2, q3⟩ := b3 r hr.1 hr.2
          rcases hk3 with q | q | q
          · rw [q] at c10 ⊢; exact q1.2.2 (by omega)
          · rw [q] at c10 ⊢; exact q2.2.2 (by omega)
          · rw [q] at c10 ⊢; exact q3.2.2 (by omega)
        rw [word_get hB ⟨by omega, hw⟩, w64_in (z := A (170 + A (180 + 4 * r + ((k : Int) + 1))) * 10000) (by omega) (by omega), w64_in (z := wg_s A w r k + A (170 + A (180 + 4 * r + ((k : Int) + 1))) * 10000) (by omega) (by omega)]
        intro z hz
        subst hz
        exact go _ (by rw [e0]; omega) (by omega) (by omega)
    · have e0 : wg_p A w (A (180 + 4 * r + ((k : Int) + 1))) = w (A (180 + 4 * r + ((k : Int) + 1)) - 10) := by unfold wg_p; rw [if_neg (by omega), if_neg (by omega)]
      rw [w32_of (z := A (180 + 4 * r + ((k : Int) + 1)) - 10) (by omega) (by omega), hs _ (by omega) (by omega)]
      refine ⟨by omega, fun c1 => ?_, fun c1 => ?_⟩
      · have c1 := (cmp_3 _ _).mp c1
        have hf : w (A (180 + 4 * r + ((k : Int) + 1)) - 10) ≠ wg_I := fun z => by rw [if_pos z] at c1; exact c1 rfl
        have hl := wg_le h (t := A (180 + 4 * r + ((k : Int) + 1)) - 10) ⟨by omega, by omega⟩ hf
        rw [if_neg hf, w64_in (by omega) (by omega)]
        refine ⟨by omega, ?_⟩
        intro z hz
        subst hz
        exact go _ e0.symm (by omega) (by omega)
      · have hi : w (A (180 + 4 * r + ((k : Int) + 1)) - 10) = wg_I := by
          by_cases z : w (A (180 + 4 * r + ((k : Int) + 1)) - 10) = wg_I
          · exact z
          · rw [if_neg z] at c1
            have hl := wg_le h (t := A (180 + 4 * r + ((k : Int) + 1)) - 10) ⟨by omega, by omega⟩ z
            exact absurd ((cmp_3 _ _).mpr (by omega)) c1
        rw [if_neg (wg_inf hA h hr hk3 (by rw [e0]; exact hi))] at hK
        exact hK
theorem cimprove (hA : wg_A A) (hWA : am_WA A) (hB : bk_P m 1 A) (h : wg_ok A w) (hs : cw_S m w) {r : Int} (hr : 0 ≤ r ∧ r < A 364) {K : am_KK} (hK : ∀ m', (∀ o k, o ≠ 153 → m' o k = m o k) → cw_S m' (wg_x A w r) → K 0 m') : M_X10_improve 152 1 r K m := by
  have hh := (hA.2 r hr.1 hr.2).1
  have eT : wg_T = 1000000000000 := rfl
  have eI : wg_I = 10000000000000 := rfl
  have h0 := wg_c_0 hA (wg_ok_0 h) hr
  have keep : ¬ (wg_c A w r < wg_T ∧ wg_c A w r < w (A (180 + 4 * r))) → K 0 m := fun c => hK m (fun _ _ _ => rfl) (by unfold wg_x; rw [if_neg c]; exact hs)
  have put : (wg_c A w r < wg_T ∧ wg_c A w r < w (A (180 + 4 * r))) → M_X10_improve_J1 152 (A (180 + 4 * r)) (wg_c A w r) K m := fun c => by
    unfold M_X10_improve_J1
    simp only [am_rf_all, am_ln_all, forall_eq]
    refine ⟨by omega, hK _ (fun o k ho => am_st_ne _ (by omega)) (fun t t0 t1 => ?_)⟩
    unfold wg_x
    rw [if_pos c]
    by_cases e : t = A (180 + 4 * r)
    · rw [e, am_st_same, wrA_same, if_neg (by omega)]
    · rw [am_st_ne _ (by omega), wrA_ne _ e]; exact hs t t0 t1
  unfold M_X10_improve
  simp only [am_rf_all, am_ln_all]
  have hg := rule_get (k := 0) hB hr (by omega)
  rw [Int.add_zero] at hg
  rw [hg]
  refine cweigh hA hWA hB h hs hr ?_
  rw [isThing_eq]
  refine is_br (fun c => absurd hh (by omega)) (fun _ => ?_)
  rw [hs _ hh.1 (by omega)]
  by_cases cT : wg_c A w r < wg_T
  · rw [if_pos cT]
    refine ⟨fun c => ?_, fun _ => ⟨by omega, fun c => ?_, fun c => ⟨by omega, fun c2 => ?_, fun c2 => ?_⟩⟩⟩
    · have := (cmp_5 _ _).mp c; omega
    · have c := (cmp_5 _ _).mp c
      by_cases z : w (A (180 + 4 * r)) = wg_I
      · exact put ⟨cT, by omega⟩
      · rw [if_neg z] at c
        have := wg_le h (t := A (180 + 4 * r)) ⟨hh.1, by omega⟩ z
        omega
    · by_cases z : w (A (180 + 4 * r)) = wg_I
      · rw [if_pos z] at c; exact absurd ((cmp_5 _ _).mpr rfl) c
      · rw [if_neg z] at c2
        have := (cmp_2 _ _).mp c2
        exact keep (fun q => by omega)
    · by_cases z : w (A (180 + 4 * r)) = wg_I
      · rw [if_pos z] at c; exact absurd ((cmp_5 _ _).mpr rfl) c
      · rw [if_neg z] at c2
        have := mt (cmp_2 _ _).mpr c2
        exact put ⟨cT, by omega⟩
  · rw [if_neg cT]
    refine ⟨fun _ => keep (fun q => cT q.1), fun c => absurd ((cmp_5 _ _).mpr rfl) c⟩
theorem cwordsIn {v : Int → Int} (hv : ∀ t, 0 ≤ t → t < 8 → m 155 t = v t) {p : Int} (hp : -1 ≤ p ∧ p ≤ 17) (K : am_KK) : M_X10_wordsIn 152 p K m ↔ K (wv_p v p) m := by
  unfold M_X10_wordsIn wv_p
  simp only [am_rf_all, am_ln_all, isThing10 hp]
  by_cases c1 : p = -1
  · rw [if_pos c1]; simp [c1]
  · rw [if_neg c1]
    by_cases c2 : 10 ≤ p
    · rw [if_pos c2, if_neg (by omega), w32_of (by omega) (by omega), hv _ (by omega) (by omega)]
      have q1 : 0 ≤ p - 10 := by omega
      have q2 : p - 10 < 8 := by omega
      simp [c1, c2, q1, q2]
    · rw [if_neg c2, if_pos (by omega)]
      simp [c1]
theorem ccount {v : Int → Int} (hA : wg_A A) (hB : bk_P m 1 A) (hv : ∀ t, 0 ≤ t → t < 8 → m 155 t = v t) {t : Int} {K : am_KK} (hK : K (wv_t A w v t) m) : M_X10_countWords 152 1 (wg_h A w t) K m := by
  unfold M_X10_countWords M_X10_countWords_L1
  unfold wv_t at hK
  have R2 := (bk_rows hB).2.1
  rcases wg_h_p (w := w) hA t with ⟨h1, -⟩ | ⟨h1, h2, -⟩
  · rw [h1, if_pos rfl] at hK
    rw [h1]
    refine ⟨fun j s x m1 => m1 = m ∧ s = 0 ∧ 1 ≤ x ∧ x ≤ 4 ∧ j = (4 - x).toNat, ⟨_, rfl, rfl, by omega, by omega, rfl⟩, ?_⟩
    rintro j s x m1 ⟨rfl, rfl, x1, x4, rfl⟩
    unfold M_X10_countWords_L1B
    simp only [am_rf_all]
    refine ⟨fun c => hK, fun c => ?_⟩
    rw [get_eq R2.1, rf_get R2, if_neg (by omega), cwordsIn hv (by omega)]
    intro s hs y hy
    rw [show wv_p v (-1) = 0 by unfold wv_p; rw [if_pos rfl], show w32 (0 + 0) = 0 by decide] at hs
    rw [w32_of (by omega) (by omega)] at hy
    subst hs hy
    exact ⟨_, by omega, rfl, rfl, by omega, by omega, rfl⟩
  · rw [if_neg (by omega)] at hK
    have g := (hA.2 _ h1 h2).2.2
    generalize wg_h A w t = r at *
    refine ⟨fun j s x m1 => m1 = m ∧ ((x = 1 ∧ s = 0 ∧ j = 3) ∨ (x = 2 ∧ s = w32 (0 + wv_p v (A (180 + 4 * r + 1))) ∧ j = 2) ∨ (x = 3 ∧ s = w32 (w32 (0 + wv_p v (A (180 + 4 * r + 1))) + wv_p v (A (180 + 4 * r + 2))) ∧ j = 1) ∨ (x = 4 ∧ s = w32 (w32 (w32 (0 + wv_p v (A (180 + 4 * r + 1))) + wv_p v (A (180 + 4 * r + 2))) + wv_p v (A (180 + 4 * r + 3))) ∧ j = 0)), ⟨3, rfl, Or.inl ⟨rfl, rfl, rfl⟩⟩, ?_⟩
    rintro j s x m1 ⟨rfl, ⟨rfl, rfl, rfl⟩ | ⟨rfl, rfl, rfl⟩ | ⟨rfl, rfl, rfl⟩ | ⟨rfl, rfl, rfl⟩⟩
    · unfold M_X10_countWords_L1B
      simp only [am_rf_all]
      refine ⟨fun c => absurd c (by decide), fun c => ?_⟩
      rw [rule_get hB ⟨h1, h2⟩ (by omega), cwordsIn hv ⟨(g 1 (Or.inl rfl)).1, (g 1 (Or.inl rfl)).2.1⟩]
      intro s hs y hy
      rw [w32_of (by omega) (by omega)] at hy
      exact ⟨2, by omega, rfl, Or.inr (Or.inl ⟨hy, hs, rfl⟩)⟩
    · unfold M_X10_countWords_L1B
      simp only [am_rf_all]
      refine ⟨fun c => absurd c (by decide), fun c => ?_⟩
      rw [rule_get hB ⟨h1, h2⟩ (by omega), cwordsIn hv ⟨(g 2 (Or.inr (Or.inl rfl))).1, (g 2 (Or.inr (Or.inl rfl))).2.1⟩]
      intro s hs y hy
      rw [w32_of (by omega) (by omega)] at hy
      exact ⟨1, by omega, rfl, Or.inr (Or.inr (Or.inl ⟨hy, hs, rfl⟩))⟩
    · unfold M_X10_countWords_L1B
      simp only [am_rf_all]
      refine ⟨fun c => absurd c (by decide), fun c => ?_⟩
      rw [rule_get hB ⟨h1, h2⟩ (by omega), cwordsIn hv ⟨(g 3 (Or.inr (Or.inr rfl))).1, (g 3 (Or.inr (Or.inr rfl))).2.1⟩]
      intro s hs y hy
      rw [w32_of (by omega) (by omega)] at hy
      exact ⟨0, by omega, rfl, Or.inr (Or.inr (Or.inr ⟨hy, hs, rfl⟩))⟩
    · unfold M_X10_countWords_L1B
      simp only [am_rf_all]
      refine ⟨fun c => ?_, fun c => absurd (by decide) c⟩
      rw [w32_3]
      exact hK
/-- what a finding leaves -/
def cw_E (m : am_M) (A : Int → Int) : Prop := ∀ t, 0 ≤ t → t < 8 → m 153 t = (if wg_n A 8 t = wg_I then -1 else wg_n A 8 t) ∧ m 154 t = wg_h A (wg_n A 8) t ∧ m 155 t = wv_n A (wg_n A 8) 8 t
theorem cfind_56 (hA : wg_A A) (l6 : A 368 ≤ 6) (hB : bk_P m 1 A) (h3 : ∀ t, 0 ≤ t → t < 8 → m 154 t = wg_h A w t) (h5 : ∀ t, 0 ≤ t → t < 8 → m 155 t = 0) {K : am_KK} (hK : ∀ m', (∀ o k, o ≠ 155 → m' o k = m o k) → (∀ t, 0 ≤ t → t < 8 → m' 155 t = wv_n A w 8 t) → K 0 m') : M_X10_find_L5 152 1 0 K m := by
  unfold M_X10_find_L5
  refine ⟨fun j x m1 => ∃ k : Nat, k ≤ 8 ∧ x = k ∧ j = 8 - k ∧ (∀ o k, o ≠ 155 → m1 o k = m o k) ∧ ∀ t, 0 ≤ t → t < 8 → m1 155 t = wv_n A w k t, ⟨_, 0, by omega, rfl, rfl, fun _ _ _ => rfl, h5⟩, ?_⟩
  rintro j x m1 ⟨k, hk, rfl, rfl, f1, e1⟩
  unfold M_X10_find_L5B
  refine ⟨fun c => ?_, fun c => ?_⟩
  · have : k = 8 := by omega
    subst this
    exact hK m1 f1 e1
  · unfold M_X10_find_L6
    refine ⟨fun j x m2 => ∃ i : Nat, i ≤ 8 ∧ x = i ∧ j = 8 - i ∧ (∀ o k, o ≠ 155 → m2 o k = m o k) ∧ ∀ t, 0 ≤ t → t < 8 → m2 155 t = wv_r A w i (wv_n A w k) t, ⟨_, 0, by omega, rfl, rfl, f1, e1⟩, ?_⟩
    rintro j x m2 ⟨i, hi, rfl, rfl, f2, e2⟩
    unfold M_X10_find_L6B
    simp only [am_rf_all, am_ln_all, forall_eq]
    refine ⟨fun c2 => ?_, fun c2 => ⟨by omega, ?_⟩⟩
    · have : i = 8 := by omega
      subst this
      rw [w32_of (by omega) (by omega)]
      exact ⟨8 - (k + 1), by omega, k + 1, by omega, by omega, rfl, f2, e2⟩
    · rw [f2 154 _ (by omega), h3 _ (by omega) (by omega)]
      refine ccount (v := wv_r A w i (wv_n A w k)) hA (bk_of hB (fun o k _ _ _ => f2 o k (by omega)) (fun _ _ => rfl) l6) e2 ?_
      refine ⟨by omega, ?_⟩
      rw [w32_of (by omega) (by omega)]
      refine ⟨8 - (i + 1), by omega, i + 1, by omega, by omega, rfl, fun o k ho => by rw [am_st_ne _ (by omega)]; exact f2 o k ho, fun t t0 t1 => ?_⟩
      rw [wv_r]
      by_cases e : t = i
      · rw [e, am_st_same, wrA_same]
      · rw [am_st_ne _ (by omega), wrA_ne _ e]; exact e2 t t0 t1
theorem cfind (hA : wg_A A) (hWA : am_WA A) (hB : bk_P m 1 A) {K : am_KK} (hK : ∀ m', (∀ o k, ¬ (o = 153 ∨ o = 154 ∨ o = 155) → m' o k = m o k) → cw_E m' A → K 0 m') : M_X10_find 152 1 K m := by
  have hN := hA.1
  have l6 : A 368 ≤ 6 := hWA.2.2.2.2.2.2.2.2.2.2.1.2
  have okW := wg_n_ok hA 8
  have fB : ∀ m1 : am_M, (∀ o k, ¬ (o = 153 ∨ o = 154 ∨ o = 155) → m1 o k = m o k) → bk_P m1 1 A := fun m1 f => bk_of hB (fun o k _ _ _ => f o k (by omega)) (fun _ _ => rfl) l6
  have key4 : ∀ m1 : am_M, (∀ o k, ¬ (o = 153 ∨ o = 154 ∨ o = 155) → m1 o k = m o k) → cw_S m1 (wg_n A 8) → (∀ t, 0 ≤ t → t < 8 → m1 154 t = -1) → (∀ t, 0 ≤ t → t < 8 → m1 155 t = 0) → M_X10_find_L4 152 1 (A 364 - 1) K m1 := by
    intro m1 f1 s1 z4 z5
    unfold M_X10_find_L4
    refine ⟨fun j x m2 => (-1 ≤ x ∧ x < A 364) ∧ j = (x + 1).toNat ∧ (∀ o k, o ≠ 154 → m2 o k = m1 o k) ∧ ∀ t, 0 ≤ t → t < 8 → m2 154 t = wg_ch A (wg_n A 8) t (A 364 - (x + 1)).toNat (x + 1), ⟨_, by omega, rfl, fun _ _ _ => rfl, fun t t0 t1 => by rw [z4 t t0 t1, show (A 364 - (A 364 - 1 + 1)).toNat = 0 by omega, wg_ch]⟩, ?_⟩
    rintro j x m2 ⟨bx, rfl, f2, e2⟩
    have g2 : ∀ o k, ¬ (o = 153 ∨ o = 154 ∨ o = 155) → m2 o k = m o k := fun o k ho => by rw [f2 o k (by omega)]; exact f1 o k ho
    have s2 : cw_S m2 (wg_n A 8) := fun t t0 t1 => by rw [f2 _ _ (by omega)]; exact s1 t t0 t1
    unfold M_X10_find_L4B
    refine ⟨fun c => ?_, fun c => ?_⟩
    · have : x = -1 := by omega
      subst this
      refine cfind_56 (w := wg_n A 8) hA l6 (fB m2 g2) (fun t t0 t1 => ?_) (fun t t0 t1 => by rw [f2 _ _ (by omega)]; exact z5 t t0 t1) (fun m3 f3 e3 => hK m3 (fun o k ho => by rw [f3 o k (by omega)]; exact g2 o k ho) (fun t t0 t1 => ⟨by rw [f3 _ _ (by omega)]; exact s2 t t0 t1, ?_, e3 t t0 t1⟩))
      · rw [e2 t t0 t1, show A 364 - (-1 + 1) = A 364 by omega]; rfl
      · rw [f3 _ _ (by omega), e2 t t0 t1, show A 364 - (-1 + 1) = A 364 by omega]; rfl
    · have hx : 0 ≤ x ∧ x < A 364 := by omega
      have hh := (hA.2 x hx.1 hx.2).1
      have hch : ∀ t, wg_ch A (wg_n A 8) t (A 364 - x).toNat x = if A (180 + 4 * x) = t ∧ wg_n A 8 t < wg_T ∧ wg_c A (wg_n A 8) x = wg_n A 8 t then x else wg_ch A (wg_n A 8) t (A 364 - (x + 1)).toNat (x + 1) := fun t => by
        rw [show (A 364 - x).toNat = (A 364 - (x + 1)).toNat + 1 by omega, wg_ch]
      have J : ∀ m3 : am_M, (∀ o k, o ≠ 154 → m3 o k = m1 o k) → (∀ t, 0 ≤ t → t < 8 → m3 154 t = wg_ch A (wg_n A 8) t (A 364 - x).toNat x) → M_X10_find_J1 152 1 x (fun v2' m' => ∃ j', j' < (x + 1).toNat ∧ (-1 ≤ v2' ∧ v2' < A 364) ∧ j' = (v2' + 1).toNat ∧ (∀ o k, o ≠ 154 → m' o k = m1 o k) ∧ ∀ t, 0 ≤ t → t < 8 → m' 154 t = wg_ch A (wg_n A 8) t (A 364 - (v2' + 1)).toNat (v2' + 1)) K m3 := by
        intro m3 f3 e3
        unfold M_X10_find_J1
        intro y hy
        rw [show x + -1 = x - 1 by omega, w32_of (by omega) (by omega)] at hy
        subst hy
        exact ⟨_, by omega, by omega, rfl, f3, fun t t0 t1 => by rw [show x - 1 + 1 = x by omega]; exact e3 t t0 t1⟩
      have eT : wg_T = 1000000000000 := rfl
      have eI : wg_I = 10000000000000 := rfl
      have skip : ¬ (wg_n A 8 (A (180 + 4 * x)) < wg_T ∧ wg_c A (wg_n A 8) x = wg_n A 8 (A (180 + 4 * x))) → ∀ t, 0 ≤ t → t < 8 → m2 154 t = wg_ch A (wg_n A 8) t (A 364 - x).toNat x := fun q t t0 t1 => by
        rw [hch t, if_neg (by rintro ⟨q1, q2, q3⟩; rw [q1] at q; exact q ⟨q2, q3⟩)]
        exact e2 t t0 t1
      have hg := rule_get (k := 0) (fB m2 g2) hx (by omega)
      rw [Int.add_zero] at hg
      simp only [am_rf_all, am_ln_all]
      rw [hg, isThing_eq]
      refine is_br (fun c2 => absurd hh (by omega)) (fun _ => ?_)
      rw [s2 _ hh.1 (by omega)]
      refine ⟨by omega, fun c2 => ?_, fun c2 => ⟨by omega, ?_⟩⟩
      · have c2 := (cmp_5 _ _).mp c2
        refine J m2 f2 (skip (fun q => ?_))
        have hne : wg_n A 8 (A (180 + 4 * x)) ≠ wg_I := by omega
        rw [if_neg hne] at c2
        have := wg_le okW (t := A (180 + 4 * x)) ⟨hh.1, by omega⟩ hne
        omega
      · have hne : wg_n A 8 (A (180 + 4 * x)) ≠ wg_I := fun z => by rw [if_pos z] at c2; exact c2 ((cmp_5 _ _).mpr rfl)
        have hl := wg_le okW (t := A (180 + 4 * x)) ⟨hh.1, by omega⟩ hne
        rw [if_neg hne]
        refine cweigh hA hWA (fB m2 g2) okW s2 hx ?_
        refine ⟨fun c3 => ?_, fun c3 => ⟨by omega, ?_⟩⟩
        · have c3 := (cmp_3 _ _).mp c3
          refine J m2 f2 (skip (fun q => ?_))
          rw [if_pos (by omega)] at c3
          omega
        · have c3 : wg_n A 8 (A (180 + 4 * x)) = (if wg_c A (wg_n A 8) x < wg_T then wg_c A (wg_n A 8) x else -1) := Classical.not_not.mp (mt (cmp_3 _ _).mpr c3)
          have cT : wg_c A (wg_n A 8) x < wg_T := by
            by_cases z : wg_c A (wg_n A 8) x < wg_T
            · exact z
            · rw [if_neg z] at c3; omega
          rw [if_pos cT] at c3
          intro m3 hm3
          subst hm3
          refine J _ (fun o k ho => by rw [am_st_ne _ (by omega)]; exact f2 o k ho) (fun t t0 t1 => ?_)
          rw [hch t]
          by_cases e : A (180 + 4 * x) = t
          · rw [if_pos ⟨e, by rw [← e]; exact hl.2.2, by rw [← e, c3]⟩, ← e, am_st_same]
          · rw [if_neg (fun q => e q.1), am_st_ne _ (by omega)]
            exact e2 t t0 t1
  unfold M_X10_find M_X10_find_L1
  refine ⟨fun j x m1 => (0 ≤ x ∧ x ≤ 8) ∧ j = (8 - x).toNat ∧ (∀ o k, ¬ (o = 153 ∨ o = 154 ∨ o = 155) → m1 o k = m o k) ∧ ∀ t, 0 ≤ t → t < x → m1 153 t = -1 ∧ m1 154 t = -1 ∧ m1 155 t = 0, ⟨_, by omega, rfl, fun _ _ _ => rfl, fun t t0 t1 => by omega⟩, ?_⟩
  rintro j x m1 ⟨bx, rfl, f1, e1⟩
  unfold M_X10_find_L1B
  simp only [am_rf_all, am_ln_all, forall_eq]
  rw [w32_of (z := x + 1) (by omega) (by omega)]
  refine ⟨fun c => ?_, fun c => ⟨by omega, by omega, by omega, _, ?_, by omega, rfl, fun o k ho => by rw [am_st_ne _ (by omega), am_st_ne _ (by omega), am_st_ne _ (by omega)]; exact f1 o k ho, fun t t0 t1 => ?_⟩⟩
  rotate_left
  · omega
  · by_cases e : t = x
    · rw [e]
      refine ⟨by rw [am_st_ne _ (by omega), am_st_ne _ (by omega), am_st_same], by rw [am_st_ne _ (by omega), am_st_same], am_st_same _ _ _ _⟩
    · rw [am_st_ne _ (by omega), am_st_ne _ (by omega), am_st_ne _ (by omega), am_st_ne _ (by omega), am_st_ne _ (by omega), am_st_ne _ (by omega), am_st_ne _ (by omega), am_st_ne _ (by omega), am_st_ne _ (by omega)]
      exact e1 t t0 (by omega)
  -- the rounds
  unfold M_X10_find_L2
  refine ⟨fun j x m2 => ∃ k : Nat, k ≤ 8 ∧ x = k ∧ j = 8 - k ∧ (∀ o k, o ≠ 153 → m2 o k = m1 o k) ∧ cw_S m2 (wg_n A k), ⟨_, 0, by omega, rfl, rfl, fun _ _ _ => rfl, fun t t0 t1 => by rw [(e1 t t0 (by omega)).1]; exact (if_pos rfl).symm⟩, ?_⟩
  rintro j x m2 ⟨k, hk, rfl, rfl, f2, s2⟩
  have g2 : ∀ o k, ¬ (o = 153 ∨ o = 154 ∨ o = 155) → m2 o k = m o k := fun o k ho => by rw [f2 o k (by omega)]; exact f1 o k ho
  have n364 : ∀ m3 : am_M, (∀ o k, ¬ (o = 153 ∨ o = 154 ∨ o = 155) → m3 o k = m o k) → m3 4 2 = A 364 := fun m3 f3 => (bk_rows (fB m3 f3)).2.1.2.1
  unfold M_X10_find_L2B
  simp only [am_rf_all, am_ln_all, n364 m2 g2, forall_eq]
  refine ⟨fun c => ?_, fun c => ?_⟩
  · have : k = 8 := by omega
    subst this
    rw [w32_of (by omega) (by omega)]
    exact key4 m2 g2 s2 (fun t t0 t1 => by rw [f2 _ _ (by omega)]; exact (e1 t t0 (by omega)).2.1) (fun t t0 t1 => by rw [f2 _ _ (by omega)]; exact (e1 t t0 (by omega)).2.2)
  · unfold M_X10_find_L3
    refine ⟨fun j x m3 => ∃ i : Nat, (i : Int) ≤ A 364 ∧ x = i ∧ j = (A 364 - i).toNat ∧ (∀ o k, o ≠ 153 → m3 o k = m1 o k) ∧ cw_S m3 (wg_r A i (wg_n A k)), ⟨_, 0, by omega, rfl, rfl, f2, s2⟩, ?_⟩
    rintro j x m3 ⟨i, hi, rfl, rfl, f3, s3⟩
    have g3 : ∀ o k, ¬ (o = 153 ∨ o = 154 ∨ o = 155) → m3 o k = m o k := fun o k ho => by rw [f3 o k (by omega)]; exact f1 o k ho
    unfold M_X10_find_L3B
    simp only [am_rf_all, am_ln_all, n364 m3 g3, forall_eq]
    refine ⟨fun c2 => ?_, fun c2 => ?_⟩
    · have : i = (A 364).toNat := by omega
      subst this
      rw [w32_of (by omega) (by omega)]
      exact ⟨8 - (k + 1), by omega, k + 1, by omega, by omega, rfl, f3, s3⟩
    · refine cimprove hA hWA (fB m3 g3) (wg_r_ok hA (wg_n_ok hA k) i hi).1 s3 (by omega) (fun m4 f4 s4 => ?_)
      rw [w32_of (by omega) (by omega)]
      exact ⟨_, by omega, i + 1, by omega, by omega, rfl, fun o k ho => by rw [f4 o k ho]; exact f3 o k ho, s4⟩
end CW
