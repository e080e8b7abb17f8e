/-! SEASON: all DAYS, on the one side. -/
section SEP
variable {m : am_M}
theorem cseason {A0 W0 T : Int → Int} {s0 P n : Int} (hw : wf_A 16 A0) (hB : bk_P m 1 A0) (hv : vg_P m 142 A0) (hk : rk m 164 4 24) (hP : m 164 2 = P) (hPA : P = A0 365) (h1 : 1 ≤ P) (hs : m 163 1 = s0) (h0 : 0 ≤ s0 ∧ s0 < 1000003) (hn : 1 ≤ n ∧ n ≤ 60) (hW : ∀ p, 0 ≤ p → p < P → m 165 (p * 4 + 0) = W0 p) (hT : sn_C m P T) {K : am_KK}
    (hK : ∀ m', (∀ o k, ¬ (o = 137 ∨ o = 139 ∨ o = 141 ∨ o = 144 ∨ (o = 142 ∧ k = 1) ∨ (o = 143 ∧ k = 2) ∨ (o = 140 ∧ (k = 2 ∨ k = 3)) ∨ (o = 163 ∧ k = 1) ∨ o = 165 ∨ (o = 0 ∧ k = 17)) → m' o k = m o k) → m' 0 17 = 0 → (∀ p, 0 ≤ p → p < P → m' 165 (p * 4 + 0) = (sn_F P n.toNat s0 A0 W0 0).2.1 p) → sn_C m' P (sn_A (sn_F P n.toNat s0 A0 W0 0).1 ((sn_F P n.toNat s0 A0 W0 0).1 168).toNat T) → K (sn_F P n.toNat s0 A0 W0 0).2.2 m') : M_X11_season_L1 0 n 0 0 K m := by
  have l6 := hw.2.2.1.1.2
  unfold M_X11_season_L1
  refine ⟨fun j g i m1 => 0 ≤ i ∧ i ≤ n ∧ j = (n - i).toNat ∧ fr_s m m1 ∧ ∃ s A W, m1 163 1 = s ∧ (0 ≤ s ∧ s < 1000003) ∧ wf_A 16 A ∧ (∀ x, 170 ≤ x → A x = A0 x) ∧ vg_P m1 142 A ∧ (∀ p, 0 ≤ p → p < P → m1 165 (p * 4 + 0) = W p) ∧ sn_C m1 P T ∧ sn_F P (n - i).toNat s A W g = sn_F P n.toNat s0 A0 W0 0, ⟨_, by omega, by omega, rfl, fun _ _ _ => rfl, s0, A0, W0, hs, h0, hw, fun _ _ => rfl, hv, hW, hT, by rw [Int.sub_zero]⟩, ?_⟩
  rintro j g i m1 ⟨i0, i1, rfl, f1, s, A, W, e1, b1, w1, hA, v1, hW1, hT1, e⟩
  have fin : ∀ (m2 : am_M) (A2 W2 : Int → Int), fr_s m m2 → wf_A 16 A2 → (∀ x, 170 ≤ x → A2 x = A0 x) → vg_P m2 142 A2 → (∀ p, 0 ≤ p → p < P → m2 165 (p * 4 + 0) = W2 p) → sn_C m2 P T → sn_F P n.toNat s0 A0 W0 0 = (A2, W2, g) → M_X11_season_J2 0 g K m2 := by
    intro m2 A2 W2 f2 w2 hA2 v2 hW2 hT2 e2
    unfold M_X11_season_J2
    simp only [am_rf_all]
    have h16 := w2.2.1.1
    refine cstanding v2 (by omega) (fun x x0 x1 => ?_) (rk_of hk (f2 _ _ (by omega)) (f2 _ _ (by omega))) (by rw [f2 _ _ (by omega)]; exact hP) hT2 (fun m3 f3 z3 t3 => ?_)
    · obtain ⟨q1, -, -, -, -, q2, -⟩ := w2.2.1.2.2 x x0 x1
      rw [hA2 365 (by omega), ← hPA] at q1
      exact ⟨q1, q2⟩
    · rw [fine_eq]
      have hr := hK (am_st m3 0 17 0) (fun o k ho => by rw [am_st_ne _ (by omega), f3 _ _ (by omega)]; exact f2 o k (by omega)) (am_st_same _ _ _ _)
      rw [e2] at hr
      exact hr (fun p p0 p1 => by rw [am_st_ne _ (by omega), z3 p p0 p1]; exact hW2 p p0 p1) (fun p p0 p1 => by rw [am_st_ne _ (by omega), am_st_ne _ (by omega), am_st_ne _ (by omega)]; exact t3 p p0 p1)
  have hB1 : ∀ (m2 : am_M) (A2 : Int → Int), fr_s m m2 → (∀ x, 170 ≤ x → A2 x = A0 x) → bk_P m2 1 A2 := fun m2 A2 f2 h2 => bk_of hB (fun o k _ _ _ => f2 o k (by omega)) h2 l6
  have hpp : P = A 365 := by rw [hA _ (by omega)]; exact hPA
  unfold M_X11_season_L1B
  refine ⟨fun q => ?_, fun q => ?_⟩
  · rw [show (n - i).toNat = 0 by omega, sn_F] at e
    exact fin m1 A W f1 w1 hA v1 hW1 hT1 e.symm
  rw [show (n - i).toNat = (n - (i + 1)).toNat + 1 by omega, sn_F] at e
  have day : ∀ (m2 : am_M) (A2 W2 : Int → Int), fr_s m m2 → m2 163 1 = sn_N (sn_N (sn_N s)) → wf_A 16 A2 → (∀ x, 170 ≤ x → A2 x = A0 x) → vg_P m2 142 A2 → (∀ p, 0 ≤ p → p < P → m2 165 (p * 4 + 0) = W2 p) → sn_C m2 P T → ((if A2 169 < 999 then sn_F P (n - (i + 1)).toNat (sn_N (sn_N (sn_N s))) (ab_dawn A2).2.2.2 W2 (w32 (g + (ab_dawn A2).1)) else (A2, W2, g)) = sn_F P n.toNat s0 A0 W0 0) →
      (((m2 142 1 < 999) → M_X2_foreseeAll 140 1 142 1 (fun _ m_8 => M_X2_hear 140 1 142 1 (fun r_9 m_10 => ∀ v3_11 : Int, v3_11 = w32 (g + r_9) → ∀ v4_12 : Int, v4_12 = w32 (i + 1) → ∃ j', j' < (n - i).toNat ∧ 0 ≤ v4_12 ∧ v4_12 ≤ n ∧ j' = (n - v4_12).toNat ∧ fr_s m m_10 ∧ ∃ s A W, m_10 163 1 = s ∧ (0 ≤ s ∧ s < 1000003) ∧ wf_A 16 A ∧ (∀ x, 170 ≤ x → A x = A0 x) ∧ vg_P m_10 142 A ∧ (∀ p, 0 ≤ p → p < P → m_10 165 (p * 4 + 0) = W p) ∧ sn_C m_10 P T ∧ sn_F P (n - v4_12).toNat s A W v3_11 = sn_F P n.toNat s0 A0 W0 0) m_8) m2) ∧ (¬ (m2 142 1 < 999) → M_X11_season_J2 0 g K m2)) := by
    intro m2 A2 W2 f2 e2 w2 hA2 v2 hW2 hT2 ee
    rw [v2.2]
    refine ⟨fun c => ?_, fun c => ?_⟩
    · rw [if_pos c] at ee
      refine cdawn (Or.inr rfl) (wf_mono w2 (by omega)) c (hB1 m2 A2 f2 hA2) v2 (fun m3 f3 v3 _ _ => ?_)
      intro v hv' v4 hv4
      rw [w32_of (by omega) (by omega)] at hv4
      subst hv4
      obtain ⟨d1, d2, d3⟩ := ab_dawn_hi (wf_mono w2 (show (16 : Int) ≤ 24 by omega)) c
      refine ⟨_, by omega, by omega, by omega, rfl, fun o k ho => by rw [f3 o k (by omega)]; exact f2 o k ho, _, _, W2, by rw [f3 _ _ (by omega)]; exact e2, sn_le _, (ab_dawnR_wf (R := fun p => ab_fore A2 p (A2 169 + 1)) w2 (by omega) c).1, fun x hx => by rw [show (ab_dawnR A2 fun p => ab_fore A2 p (A2 169 + 1)) = ab_dawn A2 from rfl, d2 x (by omega) (by omega)]; exact hA2 x hx, v3, fun p p0 p1 => by rw [f3 _ _ (by omega)]; exact hW2 p p0 p1, fun p p0 p1 => by rw [f3 _ _ (by omega), f3 _ _ (by omega), f3 _ _ (by omega)]; exact hT2 p p0 p1, by rw [hv']; exact ee⟩
    · rw [if_neg c] at ee
      exact fin m2 A2 W2 f2 w2 hA2 v2 hW2 hT2 ee.symm
  simp only [am_rf_all]
  refine csaid w1 (hB1 m1 A f1 hA) v1 (rk_of hk (f1 _ _ (by omega)) (f1 _ _ (by omega))) (by rw [f1 _ _ (by omega)]; exact hP) hpp h1 e1 b1 hW1 hT1 (fun hy m2 f2 e2 v2 hW2 hT2 => ?_) (fun hy m2 f2 e2 v2 hW2 hT2 => ?_)
  · rw [if_pos hy] at e
    obtain ⟨y1, y2, y3, y4⟩ := why_0 hy
    have h16 := w1.2.1.1
    have wS := wf_say (n := 16) w1 (by omega) y4 y2 y1.1 y1.2.1 y1.2.2
    have hS : ∀ x, 169 ≤ x → ab_say A (sn_N s % P) (sn_N (sn_N s) % 8) (sn_N (sn_N (sn_N s)) % 40 + 1) 1 x = A x := fun x hx => ab_say_o (by omega) (by omega)
    exact day m2 _ _ (fun o k ho => by rw [f2 o k ho]; exact f1 o k ho) e2 wS (fun x hx => by rw [hS x (by omega)]; exact hA x hx) v2 hW2 hT2 (by rw [hS 169 (by omega)]; exact e)
  · rw [if_neg hy] at e
    exact day m2 _ _ (fun o k ho => by rw [f2 o k ho]; exact f1 o k ho) e2 w1 hA v2 hW2 hT2 e
end SEP
