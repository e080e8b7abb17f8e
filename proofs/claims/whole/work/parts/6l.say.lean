/-! SAY: both sides. -/
section SAYB
variable {m : am_M} {A : Int → Int}
theorem mwordIn (hA : wg_A A) (h170 : m 170 = A) (hE : mw_E m A) {t l RES : Int} (ht : 0 ≤ t ∧ t < 8) (hT : wg_n A 8 t < wg_T) (hl : 0 ≤ l ∧ l < tv A (wg_n A 8) 8 t) (hR : wa_at A (wg_n A 8) (tv A (wg_n A 8) 8) 9 t l = RES) {K : am_KK} (hK : K RES m) : M_X12_wordIn 168 t l K m := by
  have hN := hA.1
  have okW := wg_n_ok hA 8
  have eW := wg_eight hA
  have hv : ∀ s, 0 ≤ s → s < 8 → m 186 s = tv A (wg_n A 8) 8 s := fun s s0 s1 => by rw [(hE.2 s s0 s1).2]; exact wv_eight hA okW ⟨s0, s1⟩
  have h7 := wg_k_7 (w := wg_n A 8) ht
  unfold M_X12_wordIn M_X12_wordIn_L1
  refine ⟨fun j t l m1 => m1 = m ∧ ∃ k : Nat, k ≤ 9 ∧ k = j ∧ (0 ≤ t ∧ t < 8) ∧ wg_n A 8 t < wg_T ∧ wg_k (wg_n A 8) t < k ∧ (0 ≤ l ∧ l < tv A (wg_n A 8) 8 t) ∧ wa_at A (wg_n A 8) (tv A (wg_n A 8) 8) k t l = RES, ⟨9, rfl, 9, by omega, rfl, ht, hT, by omega, hl, hR⟩, ?_⟩
  rintro j q l m1 ⟨rfl, k, hk, rfl, ht2, fT, fk, hl2, fe⟩
  obtain ⟨k, rfl⟩ : ∃ i, k = i + 1 := ⟨k - 1, by omega⟩
  have hh := wg_h_fin hA okW eW ht2 fT
  rcases wg_h_p (w := wg_n A 8) hA q with ⟨h1, -⟩ | ⟨h1, h2, -⟩
  · omega
  have g := (hA.2 _ h1 h2).2.2
  have hsum := tv_eq hA okW ht2 hh
  unfold wv_s at hsum
  rw [wa_at] at fe
  have step := fun (c l' : Int) => wa_step (RES := RES) (l := l') (c := c) (k := k) hA ht2 hh (by omega)
  unfold M_X12_wordIn_L1B
  simp only [am_rf_all, am_ln_all]
  refine ⟨by omega, ?_⟩
  intro a ha
  rw [(hE.2 q ht2.1 ht2.2).1, row_at ⟨h1, by omega⟩ (by omega)] at ha
  subst ha
  have htq := tv_le (w := wg_n A 8) hA 8 q
  have h38 : p3_ 8 = 6561 := by decide
  have b1 := wv_p_b (w := wg_n A 8) hA (A (180 + 4 * wg_h A (wg_n A 8) q + 1))
  have b2 := wv_p_b (w := wg_n A 8) hA (A (180 + 4 * wg_h A (wg_n A 8) q + 2))
  -- a part that what is left lies in
  have take : ∀ (c l' : Int), (c = 1 ∨ c = 2 ∨ c = 3) → wa_S A RES k (A (180 + 4 * wg_h A (wg_n A 8) q + c)) l' → ((10 ≤ A (180 + 4 * wg_h A (wg_n A 8) q + c)) → (0 ≤ 180 + 4 * wg_h A (wg_n A 8) q + c ∧ 180 + 4 * wg_h A (wg_n A 8) q + c < 5977) ∧ ∀ v3_3 : Int, v3_3 = w32 (A (180 + 4 * wg_h A (wg_n A 8) q + c) - 10) → (∃ j', j' < k + 1 ∧ m1 = m1 ∧ ∃ k : Nat, k ≤ 9 ∧ k = j' ∧ (0 ≤ v3_3 ∧ v3_3 < 8) ∧ wg_n A 8 v3_3 < wg_T ∧ wg_k (wg_n A 8) v3_3 < k ∧ (0 ≤ l' ∧ l' < tv A (wg_n A 8) 8 v3_3) ∧ wa_at A (wg_n A 8) (tv A (wg_n A 8) 8) k v3_3 l' = RES)) ∧ (¬ (10 ≤ A (180 + 4 * wg_h A (wg_n A 8) q + c)) → (0 ≤ 180 + 4 * wg_h A (wg_n A 8) q + c ∧ 180 + 4 * wg_h A (wg_n A 8) q + c < 5977) ∧ K (A (180 + 4 * wg_h A (wg_n A 8) q + c)) m1) := by
    intro c l' hc hS
    rcases hS with ⟨p0, p1, pe⟩ | ⟨p0, p1, s1, s2, s3, s4, s5⟩
    · refine ⟨fun z => by omega, fun _ => ⟨by omega, ?_⟩⟩
      rw [pe]; exact hK
    · refine ⟨fun _ => ⟨by omega, ?_⟩, fun z => absurd p0 z⟩
      intro y hy
      rw [w32_of (by omega) (by omega)] at hy
      subst hy
      exact ⟨k, by omega, rfl, k, by omega, rfl, ⟨by omega, by omega⟩, s1, s2, ⟨s3, s4⟩, s5⟩
  unfold M_X12_wordIn_L2
  refine ⟨fun j l' a m2 => m2 = m1 ∧ ((a = 180 + 4 * wg_h A (wg_n A 8) q + 1 ∧ l' = l ∧ j = 2) ∨ (a = 180 + 4 * wg_h A (wg_n A 8) q + 2 ∧ l' = l - wv_p (tv A (wg_n A 8) 8) (A (180 + 4 * wg_h A (wg_n A 8) q + 1)) ∧ 0 ≤ l' ∧ j = 1) ∨ (a = 180 + 4 * wg_h A (wg_n A 8) q + 3 ∧ l' = l - wv_p (tv A (wg_n A 8) 8) (A (180 + 4 * wg_h A (wg_n A 8) q + 1)) - wv_p (tv A (wg_n A 8) 8) (A (180 + 4 * wg_h A (wg_n A 8) q + 2)) ∧ 0 ≤ l - wv_p (tv A (wg_n A 8) 8) (A (180 + 4 * wg_h A (wg_n A 8) q + 1)) ∧ 0 ≤ l' ∧ j = 0)), ⟨2, rfl, Or.inl ⟨rfl, rfl, rfl⟩⟩, ?_⟩
  rintro j l' a m2 ⟨rfl, ⟨rfl, rfl, rfl⟩ | ⟨rfl, rfl, z0, rfl⟩ | ⟨rfl, rfl, z0, z1, rfl⟩⟩
  · unfold M_X12_wordIn_L2B
    simp only [am_rf_all, am_ln_all, h170]
    refine ⟨by omega, ?_⟩
    rw [mwordsOf hv ⟨(g 1 (Or.inl rfl)).1, (g 1 (Or.inl rfl)).2.1⟩, h170]
    refine ⟨fun cc => ⟨by omega, ?_⟩, fun cc => ⟨by omega, ?_⟩⟩
    · rw [if_pos cc] at fe
      exact take 1 _ (Or.inl rfl) (step 1 _ (Or.inl rfl) ⟨hl2.1, cc⟩ fe)
    · rw [mwordsOf hv ⟨(g 1 (Or.inl rfl)).1, (g 1 (Or.inl rfl)).2.1⟩]
      intro y hy z hz
      rw [w32_of (by omega) (by omega)] at hy hz
      subst hy hz
      exact ⟨1, by omega, rfl, Or.inr (Or.inl ⟨by omega, rfl, by omega, rfl⟩)⟩
  · rw [if_neg (by omega)] at fe
    unfold M_X12_wordIn_L2B
    simp only [am_rf_all, am_ln_all, h170]
    refine ⟨by omega, ?_⟩
    rw [mwordsOf hv ⟨(g 2 (Or.inr (Or.inl rfl))).1, (g 2 (Or.inr (Or.inl rfl))).2.1⟩, h170]
    refine ⟨fun cc => ⟨by omega, ?_⟩, fun cc => ⟨by omega, ?_⟩⟩
    · rw [if_pos cc] at fe
      exact take 2 _ (Or.inr (Or.inl rfl)) (step 2 _ (Or.inr (Or.inl rfl)) ⟨z0, cc⟩ fe)
    · rw [mwordsOf hv ⟨(g 2 (Or.inr (Or.inl rfl))).1, (g 2 (Or.inr (Or.inl rfl))).2.1⟩]
      intro y hy z hz
      rw [w32_of (by omega) (by omega)] at hy hz
      subst hy hz
      exact ⟨0, by omega, rfl, Or.inr (Or.inr ⟨by omega, rfl, z0, by omega, rfl⟩)⟩
  · rw [if_neg (by omega), if_neg (by omega)] at fe
    have b3 := wv_p_b (w := wg_n A 8) hA (A (180 + 4 * wg_h A (wg_n A 8) q + 3))
    unfold M_X12_wordIn_L2B
    simp only [am_rf_all, am_ln_all, h170]
    refine ⟨by omega, ?_⟩
    rw [mwordsOf hv ⟨(g 3 (Or.inr (Or.inr rfl))).1, (g 3 (Or.inr (Or.inr rfl))).2.1⟩, h170]
    refine ⟨fun cc => ⟨by omega, ?_⟩, fun cc => by omega⟩
    exact take 3 _ (Or.inr (Or.inr rfl)) (step 3 _ (Or.inr (Or.inr rfl)) ⟨z1, by omega⟩ fe)
end SAYB
theorem j_say (t v : Int) (hv32 : v < 2147483648) : Joint (M_X11_say 0 t v) (M_X12_say 168 t v) := by
  intro m h K hK
  have hb := h.1.1
  have hf := h.1.2.2.1
  have hA := wg_A_of hf.1
  have okW := wg_n_ok hA 8
  unfold M_X11_say M_X12_say M_X12_isThing
  simp only [am_rf_all, am_ln_all, isThing_eq, lies_eq]
  by_cases c1 : 0 ≤ t ∧ t ≤ 7
  case neg =>
    rw [if_neg c1]
    exact ⟨fun _ => ⟨fun _ => hK _ _ h, fun z => absurd rfl z⟩, fun z => absurd rfl z⟩
  rw [if_pos c1]
  refine ⟨fun z => absurd z (by decide), fun _ => ⟨fun c2 => ?_, fun c2 => ?_⟩⟩
  case refine_2 => exact ⟨fun z => absurd z (by decide), fun _ => ⟨fun z => absurd z c2, fun _ => hK _ _ h⟩⟩
  have ht : 0 ≤ t ∧ t < 8 := by omega
  have e3 : w32 (v - 3) = v - 3 := w32_of (by omega) (by omega)
  rw [e3]
  refine cfind hA hf.1 hb (fun m1 f1 E1 => ?_)
  have e170 : m1 170 = m 170 := funext fun x => f1 _ _ (by omega)
  have hB1 : bk_P m1 1 (m 170) := bk_of hb (fun o k _ _ _ => f1 o k (by omega)) (fun _ _ => rfl) hf.2.2.1.1.2
  have htl := tv_le (w := wg_n (m 170) 8) hA 8 t
  have h38 : p3_ 8 = 6561 := by decide
  -- the other side, once what is to be told is known
  have other : ∀ r : Int, (r = if wg_n (m 170) 8 t = wg_I then -1 else if v = 0 then wg_n (m 170) 8 t / 10000 else if v = 1 then tv (m 170) (wg_n (m 170) 8) 8 t else if v = 2 then wg_n (m 170) 8 t % 10000 else if v - 3 < tv (m 170) (wg_n (m 170) 8) 8 t then wa_at (m 170) (wg_n (m 170) 8) (tv (m 170) (wg_n (m 170) 8) 8) 9 t (v - 3) else -1) →
      (((1 : Int) = 0 → K r (-1) m1) ∧ (¬ ((1 : Int) = 0) → ((0 ≤ v) → M_X12_wordings 168 (fun _ m_5 => ((0 : Int) ≤ t ∧ t < 8) ∧ (((m_5 183 t) < 1000000000) → ((3 ≤ v) → ((0 : Int) ≤ t ∧ t < 8) ∧ (((m_5 186 t) ≤ (v - 3)) → K r (-1) m_5) ∧ (¬ ((m_5 186 t) ≤ (v - 3)) → M_X12_wordIn 168 t (v - 3) (fun r_6 m_7 => K r r_6 m_7) m_5)) ∧ (¬ (3 ≤ v) → ((v ≠ 0) → ((v ≠ 1) → ((0 : Int) ≤ t ∧ t < 8) ∧ K r (m_5 184 t) m_5) ∧ (¬ (v ≠ 1) → ((0 : Int) ≤ t ∧ t < 8) ∧ K r (m_5 186 t) m_5)) ∧ (¬ (v ≠ 0) → ((0 : Int) ≤ t ∧ t < 8) ∧ K r (m_5 183 t) m_5))) ∧ (¬ ((m_5 183 t) < 1000000000) → K r (-1) m_5)) m1) ∧ (¬ (0 ≤ v) → K r (-1) m1))) := by
    intro r hr
    refine ⟨fun z => absurd z (by decide), fun _ => ⟨fun _ => ?_, fun z => absurd c2 z⟩⟩
    refine mwordings hA e170 (fun m2 f2 E2 => ?_)
    have fin : Rel m2 := Rel_of h (fun o k ho => by
      unfold rl_s at ho
      rw [f2 o k (by omega)]
      exact f1 o k (by omega))
    obtain ⟨s1, s2⟩ := E2.1 t ht.1 ht.2
    have s4 : m2 186 t = tv (m 170) (wg_n (m 170) 8) 8 t := by rw [(E2.2 t ht.1 ht.2).2]; exact wv_eight hA okW ht
    refine ⟨ht, ?_⟩
    rw [s1, s2, s4]
    by_cases ci : wg_n (m 170) 8 t = wg_I
    · rw [if_pos ci] at hr
      rw [if_pos ci, hr]
      exact ⟨fun z => absurd z (by decide), fun _ => hK _ _ fin⟩
    · have hl := wg_le okW ht ci
      rw [if_neg ci] at hr
      rw [if_neg ci, if_neg ci]
      refine ⟨fun _ => ⟨fun c3 => ⟨ht, ?_⟩, fun c3 => ?_⟩, fun z => by omega⟩
      · rw [if_neg (by omega), if_neg (by omega), if_neg (by omega)] at hr
        refine ⟨fun c4 => ?_, fun c4 => ?_⟩
        · rw [if_neg (by omega)] at hr
          rw [hr]; exact hK _ _ fin
        · rw [if_pos (by omega)] at hr
          exact mwordIn hA (by rw [← e170]; exact funext fun x => f2 _ _ (by omega)) E2 ht hl.2.2 ⟨by omega, by omega⟩ hr.symm (hK _ _ fin)
      · refine ⟨fun c4 => ⟨fun c5 => ⟨ht, ?_⟩, fun c5 => ⟨ht, ?_⟩⟩, fun c4 => ⟨ht, ?_⟩⟩
        · rw [if_neg c4, if_neg c5, if_pos (by omega)] at hr
          rw [hr]; exact hK _ _ fin
        · rw [if_neg c4, if_pos (by omega)] at hr
          rw [hr]; exact hK _ _ fin
        · rw [if_pos (by omega)] at hr
          rw [hr]; exact hK _ _ fin
  refine ⟨fun c3 => ⟨fun c4 => ⟨fun c5 => ?_, fun c5 => ?_⟩, fun c4 => ?_⟩, fun c3 => ?_⟩
  · refine cwordAt hA hB1 E1 ht ?_
    refine other _ ?_
    by_cases ci : wg_n (m 170) 8 t = wg_I
    · rw [if_pos ci, if_neg (fun z => z.2.1 ci)]
    · rw [if_neg ci, if_neg c3, if_neg c4, if_neg c5]
      by_cases cl : v - 3 < tv (m 170) (wg_n (m 170) 8) 8 t
      · rw [if_pos cl, if_pos ⟨by omega, ci, cl⟩]
      · rw [if_neg cl, if_neg (fun z => cl z.2.2)]
  · rw [crulesFor hA E1 ht]
    refine other _ ?_
    rw [if_neg c3, if_neg c4, if_pos (Classical.not_not.mp c5)]
  · rw [cwordsFor hA E1 ht]
    refine other _ ?_
    rw [if_neg c3, if_pos (Classical.not_not.mp c4)]
  · rw [clengthFor hA E1 ht]
    refine other _ ?_
    rw [if_pos (Classical.not_not.mp c3)]
