/-! SEASON: all DAYS, on the other side; both sides. -/
section SEQ
variable {m : am_M}
/-- what the other side's season leaves alone -/
def fr_t (m m' : am_M) : Prop := ∀ o k, ¬ (o = 170 ∨ o = 180 ∨ o = 187 ∨ o = 188 ∨ o = 198 ∨ (o = 168 ∧ (k = 8 ∨ k = 22 ∨ k = 23 ∨ k = 24 ∨ k = 34 ∨ k = 35 ∨ k = 59))) → m' o k = m o k
def sn_I (m : am_M) (A0 W0 : Int → Int) (s0 P n : Int) (j : Nat) (g q i : Int) (m1 : am_M) : Prop := 0 ≤ i ∧ i ≤ n ∧ fr_t m m1 ∧ ∃ s A W, m1 168 59 = s ∧ (0 ≤ s ∧ s < 1000003) ∧ wf_A 16 A ∧ (∀ x, ¬ (0 ≤ x ∧ x < 170) → A x = A0 x) ∧ m1 170 = A ∧ m1 198 = W ∧ ((q = 1 ∧ j = (n - i).toNat + 1 ∧ sn_F P (n - i).toNat s A W g = sn_F P n.toNat s0 A0 W0 0) ∨ (q = 0 ∧ j = 0 ∧ (A, W, g) = sn_F P n.toNat s0 A0 W0 0))
theorem mseason {A0 W0 T : Int → Int} {s0 P n : Int} (hw : wf_A 16 A0) (hA0 : m 170 = A0) (hP : m 168 58 = P) (hPA : P = A0 365) (h1 : 1 ≤ P) (hs : m 168 59 = s0) (h0 : 0 ≤ s0 ∧ s0 < 1000003) (hn : 1 ≤ n ∧ n ≤ 60) (hW : m 198 = W0) (hT : m 199 = T) (h173 : ∀ x, 0 ≤ x → x < 170 → m 173 x = A0 x) {K : am_KK}
    (hK : ∀ m', (∀ o x, ¬ (o = 170 ∨ o = 180 ∨ o = 187 ∨ o = 188 ∨ o = 198 ∨ o = 199 ∨ (o = 168 ∧ (x = 0 ∨ x = 8 ∨ x = 22 ∨ x = 23 ∨ x = 24 ∨ x = 34 ∨ x = 35 ∨ x = 59))) → m' o x = m o x) → m' 170 = A0 → m' 168 0 = 0 → m' 198 = (sn_F P n.toNat s0 A0 W0 0).2.1 → m' 199 = sn_A (sn_F P n.toNat s0 A0 W0 0).1 ((sn_F P n.toNat s0 A0 W0 0).1 168).toNat T → K (sn_F P n.toNat s0 A0 W0 0).2.2 m') : M_X12_season_L3 168 n 0 1 0 K m := by
  have l6 := hw.2.2.1.1.2
  have hp := hw.1.2.2.1
  unfold M_X12_season_L3
  refine ⟨sn_I m A0 W0 s0 P n, ⟨_, by omega, by omega, fun _ _ _ => rfl, s0, A0, W0, hs, h0, hw, fun _ _ => rfl, hA0, hW, Or.inl ⟨rfl, rfl, by rw [Int.sub_zero]⟩⟩, ?_⟩
  rintro j g q i m1 ⟨i0, i1, f1, s, A, W, e1, b1, w1, hA, a1, u1, hh⟩
  have fin : ∀ (m2 : am_M) (A2 W2 : Int → Int), fr_t m m2 → wf_A 16 A2 → (∀ x, ¬ (0 ≤ x ∧ x < 170) → A2 x = A0 x) → m2 170 = A2 → m2 198 = W2 → (A2, W2, g) = sn_F P n.toNat s0 A0 W0 0 → M_X12_season_J5 168 g K m2 := by
    intro m2 A2 W2 f2 w2 hA2 a2 u2 e2
    unfold M_X12_season_J5
    have h16 := w2.2.1.1
    refine mstanding (A0 := A0) a2 (by omega) (fun x x0 x1 => ?_) hA2 (fun x x0 x1 => by rw [f2 _ _ (by omega)]; exact h173 x x0 x1) (fun m3 f3 r3 z3 t3 => ?_)
    · obtain ⟨q1, -, -, -, -, q2, -⟩ := w2.2.1.2.2 x x0 x1
      rw [hA2 365 (by omega)] at q1
      exact ⟨⟨q1.1, by omega⟩, q2⟩
    · have hr := hK m3 (fun o k ho => by rw [f3 _ _ (by omega) (by omega) (by omega)]; exact f2 o k (by omega)) r3 z3
      rw [← e2] at hr
      refine hr ?_ ?_
      · rw [← u2]; exact funext fun x => f3 _ _ (by omega) (by omega) (by omega)
      · rw [t3, ← hT]; congr 1; exact funext fun x => f2 _ _ (by omega)
  unfold M_X12_season_L3B
  rcases hh with ⟨rfl, rfl, e⟩ | ⟨rfl, rfl, e⟩
  case inr =>
    exact ⟨fun _ => fin m1 A W f1 w1 hA a1 u1 e, fun _ => ⟨fun _ => fin m1 A W f1 w1 hA a1 u1 e, fun z => absurd rfl z⟩⟩
  refine ⟨fun z => ?_, fun z => ⟨fun y => absurd y (by decide), fun _ => ?_⟩⟩
  · rw [show (n - i).toNat = 0 by omega, sn_F] at e
    exact fin m1 A W f1 w1 hA a1 u1 e
  rw [show (n - i).toNat = (n - (i + 1)).toNat + 1 by omega, sn_F] at e
  have d1 := sn_le s
  have d2 := sn_le (sn_N s)
  have d3 := sn_le (sn_N (sn_N s))
  have q1 : 0 ≤ sn_N s % P ∧ sn_N s % P < P := ⟨Int.emod_nonneg _ (by omega), Int.emod_lt_of_pos _ (by omega)⟩
  have day : ∀ (m2 : am_M) (A2 W2 : Int → Int), fr_t m m2 → m2 168 59 = sn_N (sn_N (sn_N s)) → wf_A 16 A2 → (∀ x, ¬ (0 ≤ x ∧ x < 170) → A2 x = A0 x) → m2 170 = A2 → m2 198 = W2 → ((if A2 169 < 999 then sn_F P (n - (i + 1)).toNat (sn_N (sn_N (sn_N s))) (ab_dawn A2).2.2.2 W2 (w32 (g + (ab_dawn A2).1)) else (A2, W2, g)) = sn_F P n.toNat s0 A0 W0 0) →
      M_X12_season_J2 168 n g i (fun v3' v4' v5' m' => ∃ j', j' < (n - i).toNat + 1 ∧ sn_I m A0 W0 s0 P n j' v3' v4' v5' m') K m2 := by
    intro m2 A2 W2 f2 e2 w2 hA2 a2 u2 ee
    unfold M_X12_season_J2 M_X12_season_J3 M_X12_season_J4
    simp only [am_rf_all, am_ln_all, a2]
    refine ⟨by omega, fun c => ⟨fun _ => ?_, fun y => absurd trivial y⟩, fun c => ⟨fun y => absurd y (by decide), fun _ => ?_⟩⟩
    · rw [if_neg (by omega)] at ee
      intro v hv
      rw [w32_of (by omega) (by omega)] at hv
      subst hv
      exact ⟨0, by omega, by omega, by omega, f2, _, A2, W2, e2, sn_le _, w2, hA2, a2, u2, Or.inr ⟨rfl, rfl, ee⟩⟩
    · rw [if_pos (by omega)] at ee
      refine mdawns (by rw [a2]; exact wf_mono w2 (by omega)) (by rw [a2]; omega) (fun m3 f3 r3 _ => ?_)
      rw [a2] at r3 ⊢
      intro v hv v5 hv5
      rw [w32_of (by omega) (by omega)] at hv5
      subst hv5
      obtain ⟨y1, y2, y3⟩ := ab_dawn_hi (wf_mono w2 (show (16 : Int) ≤ 24 by omega)) (show A2 169 < 999 by omega)
      refine ⟨(n - (i + 1)).toNat + 1, by omega, by omega, by omega, fun o k ho => by rw [f3 o k (by omega)]; exact f2 o k ho, _, _, W2, by rw [f3 _ _ (by omega)]; exact e2, sn_le _, (ab_dawnR_wf (R := fun p => ab_fore A2 p (A2 169 + 1)) w2 (by omega) (by omega)).1, fun x hx => ?_, r3, by rw [← u2]; exact funext fun x => f3 _ _ (by omega), Or.inl ⟨rfl, rfl, by rw [hv]; exact ee⟩⟩
      show (ab_dawn A2).2.2.2 x = A0 x
      by_cases cx : x < 0
      · rw [ab_dawn_neg cx]; exact hA2 x hx
      · rw [y2 x (by omega) (by omega)]; exact hA2 x hx
  have hPm : m1 168 58 = P := by rw [f1 _ _ (by omega)]; exact hP
  rw [hPm, mdraws e1 b1 (by omega)]
  rw [mdraws (s := sn_N s) (am_st_same _ _ _ _) d1 (by omega)]
  rw [mdraws (s := sn_N (sn_N s)) (am_st_same _ _ _ _) d2 (by omega)]
  simp only [forall_eq]
  rw [w32_of (z := sn_N (sn_N (sn_N s)) % 40 + 1) (by omega) (by omega)]
  generalize hm2 : am_st (am_st (am_st m1 168 59 (sn_N s)) 168 59 (sn_N (sn_N s))) 168 59 (sn_N (sn_N (sn_N s))) = m2
  have f2 : ∀ o k, ¬ (o = 168 ∧ k = 59) → m2 o k = m1 o k := fun o k ho => by rw [← hm2, am_st_ne _ ho, am_st_ne _ ho, am_st_ne _ ho]
  have e2 : m2 168 59 = sn_N (sn_N (sn_N s)) := by rw [← hm2, am_st_same]
  clear hm2
  have a2 : m2 170 = A := by rw [← a1]; exact funext fun x => f2 _ _ (by omega)
  have u2 : m2 198 = W := by rw [← u1]; exact funext fun x => f2 _ _ (by omega)
  have w24 := wf_mono w1 (show (16 : Int) ≤ 24 by omega)
  refine mwhy (by rw [a2]; exact w24) (fun m3 f3 => ?_)
  rw [a2]
  have a3 : m3 170 = A := by rw [← a2]; exact fr_law_170 f3
  have u3 : m3 198 = W := by rw [← u2]; exact funext fun x => f3 _ _ (by omega)
  have g3 : fr_t m m3 := fun o k ho => by rw [f3 o k (by omega), f2 o k (by omega)]; exact f1 o k ho
  have e3 : m3 168 59 = sn_N (sn_N (sn_N s)) := by rw [f3 _ _ (by omega)]; exact e2
  refine ⟨fun c => ?_, fun c => ?_⟩
  · rw [if_neg c] at e
    exact day m3 A W g3 e3 w1 hA a3 u3 e
  · have c := Classical.not_not.mp c
    rw [if_pos c] at e
    obtain ⟨y1, y2, y3, y4⟩ := why_0 c
    have h16 := w1.2.1.1
    have wS := wf_say (n := 16) w1 (by omega) y4 y2 y1.1 y1.2.1 y1.2.2
    have hS : ∀ x, (x < 0 ∨ 169 ≤ x) → ab_say A (sn_N s % P) (sn_N (sn_N s) % 8) (sn_N (sn_N (sn_N s)) % 40 + 1) 1 x = A x := fun x hx => ab_say_o (by omega) (by omega)
    rw [msays (by rw [a3]; omega), a3]
    simp only [am_rf_all, am_ln_all, forall_eq]
    rw [row_ne _ _ _ (by omega), u3]
    refine ⟨by omega, by omega, ?_⟩
    refine day _ (ab_say A (sn_N s % P) (sn_N (sn_N s) % 8) (sn_N (sn_N (sn_N s)) % 40 + 1) 1) (wrA W (sn_N s % P) (w32 (W (sn_N s % P) + 1))) (fun o k ho => ?_) ?_ wS (fun x hx => ?_) ?_ ?_ (by rw [hS 169 (by omega)]; exact e)
    · rw [am_st_ne _ (by omega), row_ne _ _ _ (by omega)]; exact g3 o k ho
    · rw [am_st_ne _ (by omega), row_ne _ _ _ (by omega)]; exact e3
    · rw [hS x (by omega)]; exact hA x hx
    · rw [st_rne _ _ _ (by omega)]; exact funext fun x => row_eq _ _ _ _
    · rw [st_row]; congr 1
theorem mnoughts {n : Int} {K : am_KK} (hK : ∀ m', (∀ o x, ¬ (o = 173 ∨ o = 198 ∨ o = 199) → m' o x = m o x) → (∀ x, 0 ≤ x → x < 6 → m' 198 x = 0) → (∀ x, 0 ≤ x → x < 18 → m' 199 x = 0) → (∀ x, 0 ≤ x → x < 170 → m' 173 x = m 170 x) → M_X12_season_L3 168 n 0 1 0 K m') : M_X12_season_L1 168 n 0 K m := by
  unfold M_X12_season_L1
  refine ⟨fun j i m1 => 0 ≤ i ∧ i ≤ 6 ∧ j = (6 - i).toNat ∧ (∀ o x, ¬ (o = 198) → m1 o x = m o x) ∧ ∀ x, 0 ≤ x → x < i → m1 198 x = 0, ⟨_, by omega, by omega, rfl, fun _ _ _ => rfl, fun x x0 x1 => by omega⟩, ?_⟩
  rintro j i m1 ⟨i0, i1, rfl, f1, z1⟩
  unfold M_X12_season_L1B
  simp only [am_rf_all, am_ln_all, forall_eq]
  rw [w32_of (z := i + 1) (by omega) (by omega)]
  refine ⟨fun q => ?_, fun q => ⟨by omega, _, ?_, by omega, by omega, rfl, fun o x ho => by rw [am_st_ne _ (by omega)]; exact f1 o x ho, fun x x0 x1 => ?_⟩⟩
  rotate_left
  · omega
  · by_cases c : x = i
    · subst c; rw [am_st_same]
    · rw [am_st_ne _ (by omega)]; exact z1 x x0 (by omega)
  unfold M_X12_season_L2
  refine ⟨fun j i m2 => 0 ≤ i ∧ i ≤ 18 ∧ j = (18 - i).toNat ∧ (∀ o x, ¬ (o = 199) → m2 o x = m1 o x) ∧ ∀ x, 0 ≤ x → x < i → m2 199 x = 0, ⟨_, by omega, by omega, rfl, fun _ _ _ => rfl, fun x x0 x1 => by omega⟩, ?_⟩
  rintro j i m2 ⟨i2, i3, rfl, f2, z2⟩
  unfold M_X12_season_L2B
  simp only [am_rf_all, am_ln_all, forall_eq]
  rw [w32_of (z := i + 1) (by omega) (by omega)]
  refine ⟨fun q => ?_, fun q => ⟨by omega, _, ?_, by omega, by omega, rfl, fun o x ho => by rw [am_st_ne _ (by omega)]; exact f2 o x ho, fun x x0 x1 => ?_⟩⟩
  rotate_left
  · omega
  · by_cases c : x = i
    · subst c; rw [am_st_same]
    · rw [am_st_ne _ (by omega)]; exact z2 x x0 (by omega)
  refine mlays (fun m3 f3 s3 => ?_)
  refine hK m3 (fun o x ho => by rw [f3 _ _ (by omega), f2 _ _ (by omega)]; exact f1 _ _ (by omega)) (fun x x0 x1 => by rw [f3 _ _ (by omega), f2 _ _ (by omega)]; exact z1 x x0 (by omega)) (fun x x0 x1 => by rw [f3 _ _ (by omega)]; exact z2 x x0 (by omega)) (fun x x0 x1 => by rw [s3 x x0 x1, f2 _ _ (by omega), f1 _ _ (by omega)])
end SEQ
/-- the fold does not look at tallies beyond the PEOPLE -/
theorem sn_Fw {P : Int} (hP : 1 ≤ P) : ∀ (n : Nat) (s : Int) (A W W' : Int → Int) (g : Int), (∀ p, 0 ≤ p → p < P → W p = W' p) → (sn_F P n s A W g).1 = (sn_F P n s A W' g).1 ∧ (sn_F P n s A W g).2.2 = (sn_F P n s A W' g).2.2 ∧ ∀ p, 0 ≤ p → p < P → (sn_F P n s A W g).2.1 p = (sn_F P n s A W' g).2.1 p := by
  intro n
  induction n with
  | zero => intro s A W W' g h; exact ⟨rfl, rfl, h⟩
  | succ n ih =>
    intro s A W W' g h
    have q1 : 0 ≤ sn_N s % P ∧ sn_N s % P < P := ⟨Int.emod_nonneg _ (by omega), Int.emod_lt_of_pos _ (by omega)⟩
    have h2 : ∀ p, 0 ≤ p → p < P → wrA W (sn_N s % P) (w32 (W (sn_N s % P) + 1)) p = wrA W' (sn_N s % P) (w32 (W' (sn_N s % P) + 1)) p := fun p p0 p1 => by
      by_cases c : p = sn_N s % P
      · rw [c, wrA_same, wrA_same, h _ q1.1 q1.2]
      · rw [wrA_ne _ c, wrA_ne _ c]; exact h p p0 p1
    rw [sn_F, sn_F]
    split
    · split
      · exact ih _ _ _ _ _ h2
      · exact ⟨rfl, rfl, h2⟩
    · split
      · exact ih _ _ _ _ _ h
      · exact ⟨rfl, rfl, h⟩
theorem sn_Ct {P : Int} {A T T' : Int → Int} : ∀ n : Nat, (∀ i, 0 ≤ i → i < (n : Int) → (0 ≤ A (7 * i) ∧ A (7 * i) < P) ∧ 0 ≤ A (7 * i + 5) ∧ A (7 * i + 5) ≤ 2) → (∀ x, 0 ≤ x → x < 3 * P → T x = T' x) → ∀ x, 0 ≤ x → x < 3 * P → sn_A A n T x = sn_A A n T' x := by
  intro n
  induction n with
  | zero => intro _ h; exact h
  | succ n ih =>
    intro hA h x x0 x1
    have hh := ih (fun i i0 i1 => hA i i0 (by omega)) h
    obtain ⟨p1, p2⟩ := hA n (by omega) (by omega)
    rw [sn_A, sn_A, hh (3 * A (7 * (n : Int)) + A (7 * (n : Int) + 5)) (by omega) (by omega)]
    by_cases c : x = 3 * A (7 * (n : Int)) + A (7 * (n : Int) + 5)
    · rw [c, wrA_same, wrA_same]
    · rw [wrA_ne _ c, wrA_ne _ c]; exact hh x x0 x1
theorem j_season (v n : Int) : Joint (M_X11_season 0 v n) (M_X12_season 168 v n) := by
  intro m h K hK
  obtain ⟨⟨hb, hv, hf, hH⟩, ⟨i0, i1⟩, htp, hsc, hre, hud, hse, hwd, h133⟩ := id h
  have l6 := hf.2.2.1.1.2
  have hp := hf.1.2.2.1
  have h16 := hf.2.1.1
  obtain ⟨-, -, R3, -⟩ := bk_rows hb
  unfold M_X11_season M_X12_season M_X11_season_J1 M_X12_season_J1
  simp only [within_eq, lies_eq, am_rf_all, am_ln_all, forall_eq, R3.2.1]
  by_cases c1 : 0 ≤ v ∧ v ≤ 1000000
  case neg =>
    rw [if_neg c1]
    refine ⟨fun _ => ?_, fun z => absurd rfl z⟩
    rw [refuse_eq (Or.inl rfl)]
    refine ⟨fun _ => ?_, fun z => absurd rfl z⟩
    rw [refuses_eq (Or.inl rfl)]
    exact refuses_end (Or.inl rfl) h hK
  by_cases c2 : 1 ≤ n ∧ n ≤ 60
  case neg =>
    rw [if_pos c1, if_neg c2]
    refine ⟨fun z => absurd z (by decide), fun _ => ⟨fun z => absurd rfl z, fun _ => ?_⟩⟩
    rw [refuse_eq (Or.inl rfl)]
    refine ⟨fun z => absurd z (by decide), fun _ => ⟨fun z => absurd rfl z, fun _ => ?_⟩⟩
    rw [refuses_eq (Or.inl rfl)]
    exact refuses_end (Or.inl rfl) h hK
  rw [if_pos c1, if_pos c2]
  refine ⟨fun z => absurd z (by decide), fun _ => ⟨fun _ => ⟨fun c3 => ?_, fun c3 => ?_⟩, fun z => absurd (by decide) z⟩⟩
  case refine_2 =>
    rw [refuse_eq (Or.inr (Or.inr (Or.inl rfl)))]
    refine ⟨fun z => absurd z (by decide), fun _ => ⟨fun _ => ⟨by omega, fun z => absurd z ?_, fun _ => ?_⟩, fun z => absurd (by decide) z⟩⟩
    · rw [am_st_ne _ (by omega), am_st_ne _ (by omega)]; exact c3
    · rw [refuses_eq (Or.inr (Or.inr (Or.inl rfl)))]
      exact refuses_end (Or.inr (Or.inr (Or.inl rfl))) h hK
  have hP1 : 1 ≤ m 170 365 := by omega
  refine cbegin hse.1 (by omega) (fun m1 f1 s1 k1 p1 z1 => ?_)
  have hwd1 : wd_P m1 := wd_of hwd (fun q hq => by have := wd_ne q hq; exact f1 _ _ (by omega))
  have v1 : vg_P m1 12 (m 170) := vg_of hv (fun o k _ _ => f1 o k (by omega)) (fun _ _ => rfl)
  refine paper_take hwd1 v1 (by omega) (fun m2 v2 f2 => ?_)
  have hB2 : bk_P m2 1 (m 170) := bk_of hb (fun o k _ _ _ => by rw [f2 o k (by omega)]; exact f1 o k (by omega)) (fun _ _ => rfl) l6
  refine cseason (s0 := v) (T := fun _ => 0) (W0 := fun _ => 0) hf hB2 v2 (rk_of k1 (f2 _ _ (by omega)) (f2 _ _ (by omega))) (by rw [f2 _ _ (by omega)]; exact p1) rfl hP1 (by rw [f2 _ _ (by omega)]; exact s1) (by omega) c2 (fun p p0 p1 => by rw [f2 _ _ (by omega)]; exact z1 _ (by omega) (by omega)) (fun p p0 p1 => ⟨by rw [f2 _ _ (by omega)]; exact z1 _ (by omega) (by omega), by rw [f2 _ _ (by omega)]; exact z1 _ (by omega) (by omega), by rw [f2 _ _ (by omega)]; exact z1 _ (by omega) (by omega)⟩) (fun m3 f3 z3 w3 t3 => ?_)
  have g3 : ∀ o k, ¬ (o = 137 ∨ o = 139 ∨ o = 141 ∨ o = 144 ∨ (o = 142 ∧ k = 1) ∨ (o = 143 ∧ k = 2) ∨ (o = 140 ∧ (k = 2 ∨ k = 3)) ∨ (o = 163 ∧ k = 1) ∨ o = 165 ∨ (o = 164 ∧ k = 2) ∨ (o = 0 ∧ k = 17)) → m3 o k = m o k := fun o k ho => by rw [f3 o k (by omega), f2 o k (by omega)]; exact f1 o k (by omega)
  have p3 : m3 164 2 = m 170 365 := by rw [f3 _ _ (by omega), f2 _ _ (by omega)]; exact p1
  have k3 : rk m3 164 4 24 := rk_of k1 (by rw [f3 _ _ (by omega), f2 _ _ (by omega)]) (by rw [f3 _ _ (by omega), f2 _ _ (by omega)])
  have e3 : m3 170 = m 170 := funext fun x => g3 _ _ (by omega)
  refine ⟨fun z => absurd z (by decide), fun _ => ⟨fun _ => ⟨by omega, fun _ => ⟨by omega, ?_⟩, fun z => absurd c3 (by rw [e3] at z; exact z)⟩, fun z => absurd (by decide) z⟩⟩
  refine mnoughts (fun m6 f6 w6 t6 s6 => ?_)
  have e5 : (am_st (am_st m3 168 59 v) 168 58 (am_st m3 168 59 v 170 365)) 170 = m 170 := by rw [st_rne _ _ _ (by omega), st_rne _ _ _ (by omega)]; exact e3
  have e6 : m6 170 = m 170 := by rw [← e5]; exact funext fun x => f6 _ _ (by omega)
  rw [e5] at s6
  have e58 : m6 168 58 = m 170 365 := by rw [f6 _ _ (by omega), am_st_same, am_st_ne _ (by omega), e3]
  have e59 : m6 168 59 = v := by rw [f6 _ _ (by omega), am_st_ne _ (by omega), am_st_same]
  have g6 : ∀ o k, ¬ (o = 137 ∨ o = 139 ∨ o = 141 ∨ o = 144 ∨ (o = 142 ∧ k = 1) ∨ (o = 143 ∧ k = 2) ∨ (o = 140 ∧ (k = 2 ∨ k = 3)) ∨ (o = 163 ∧ k = 1) ∨ o = 165 ∨ (o = 164 ∧ k = 2) ∨ (o = 0 ∧ k = 17) ∨ o = 173 ∨ o = 198 ∨ o = 199 ∨ (o = 168 ∧ (k = 58 ∨ k = 59))) → m6 o k = m o k := fun o k ho => by rw [f6 o k (by omega), am_st_ne _ (by omega), am_st_ne _ (by omega)]; exact g3 o k (by omega)
  have l6c : ∀ o, (o = 164 ∨ o = 165 ∨ o = 0) → ∀ k, m6 o k = m3 o k := fun o ho k => by rw [f6 o k (by omega), am_st_ne _ (by omega), am_st_ne _ (by omega)]
  refine mseason (W0 := m6 198) (T := m6 199) hf e6 e58 rfl hP1 e59 (by omega) c2 rfl rfl s6 (fun m7 f7 r7 z7 w7 t7 => ?_)
  obtain ⟨x1, x2, x3⟩ := sn_Fw hP1 n.toNat v (m 170) (m6 198) (fun _ => 0) 0 (fun p p0 p1 => w6 p p0 (by omega))
  rw [x2]
  rw [x1] at t7
  obtain ⟨y1, y2⟩ := sn_W (P := m 170 365) n.toNat v (m 170) (fun _ => 0) 0 hf
  have y16 := y1.2.1.1
  have y3 := sn_Ct (P := m 170 365) (A := (sn_F (m 170 365) n.toNat v (m 170) (fun _ => 0) 0).1) (T := m6 199) (T' := fun _ => 0) ((sn_F (m 170 365) n.toNat v (m 170) (fun _ => 0) 0).1 168).toNat (fun i i0 i1 => by
    obtain ⟨q1, -, -, -, -, q2, -⟩ := y1.2.1.2.2 i i0 (by omega)
    rw [y2 365 (by omega)] at q1
    exact ⟨q1, q2⟩) (fun x x0 x1 => t6 x x0 (by omega))
  rw [← t7] at y3
  have e : ∀ o k, ¬ (o = 137 ∨ o = 139 ∨ o = 141 ∨ o = 144 ∨ (o = 142 ∧ k = 1) ∨ (o = 143 ∧ k = 2) ∨ (o = 140 ∧ (k = 2 ∨ k = 3)) ∨ (o = 163 ∧ k = 1) ∨ o = 165 ∨ (o = 164 ∧ k = 2) ∨ (o = 0 ∧ k = 17) ∨ o = 173 ∨ o = 180 ∨ o = 187 ∨ o = 188 ∨ o = 198 ∨ o = 199 ∨ (o = 168 ∧ (k = 58 ∨ k = 59 ∨ k = 0 ∨ k = 8 ∨ k = 22 ∨ k = 23 ∨ k = 24 ∨ k = 34 ∨ k = 35))) → m7 o k = m o k := fun o k ho => by
    by_cases c : o = 170
    · rw [c, r7]
    · rw [f7 o k (by omega)]; exact g6 o k (by omega)
  have l7 : ∀ o, (o = 164 ∨ o = 165 ∨ o = 0) → ∀ k, m7 o k = m3 o k := fun o ho k => by rw [f7 o k (by omega)]; exact l6c o ho k
  have e7 : m7 168 58 = m 170 365 := by rw [f7 _ _ (by omega)]; exact e58
  clear f7 g6 f6 g3 f3 f2 f1
  refine hK _ _ ⟨⟨?_, ?_, by rw [r7]; exact hf, by rw [r7]; exact hH⟩, ⟨im_of (Or.inl rfl) i0 (fun o k ho => e _ _ (by omega)), im_of (Or.inr rfl) i1 (fun o k ho => e _ _ (by omega))⟩, tp_of htp (fun o k ho => e _ _ (by omega)), ⟨?_, ?_, ?_, ?_⟩, re_of hre (fun o k ho => e _ _ (by omega)), ud_of hud (fun o k ho => e _ _ (by omega)) (by rw [r7]; exact Int.le_refl _), ⟨?_, ?_, ?_, ?_⟩, wd_of hwd (fun q hq => ?_), ww_of h133 (e _ _ (by omega)) (e _ _ (by omega)) (fun _ => e _ _ (by omega)) (fun _ _ _ => e _ _ (by omega))⟩
  · rw [r7]; exact bk_of hb (fun o k _ _ _ => e _ _ (by omega)) (fun _ _ => rfl) l6
  · rw [r7]; exact vg_of hv (fun o k _ _ => e _ _ (by omega)) (fun _ _ => rfl)
  · rw [l7 _ (by omega), z3, z7]
  · rw [e _ _ (by omega), e _ _ (by omega)]; exact hsc.2.1
  · rw [e _ _ (by omega), e _ _ (by omega)]; exact hsc.2.2.1
  · rw [e _ _ (by omega), e _ _ (by omega)]; exact hsc.2.2.2
  · exact rk_of k3 (l7 _ (by omega) _) (l7 _ (by omega) _)
  · rw [l7 _ (by omega), p3, e7]
  · rw [e7]; omega
  · intro p p0 p1
    rw [e7] at p1
    obtain ⟨u1, u2, u3⟩ := t3 p p0 p1
    rw [l7 165 (by omega), l7 165 (by omega), l7 165 (by omega), l7 165 (by omega), u1, u2, u3, w3 p p0 p1, w7, x3 p p0 p1, y3 _ (by omega) (by omega), y3 _ (by omega) (by omega), y3 _ (by omega) (by omega)]
    exact ⟨rfl, rfl, rfl, rfl⟩
  · have := wd_ne q hq
    exact e _ _ (by omega)
