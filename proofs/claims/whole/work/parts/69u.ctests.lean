/-! THE READER follows the parser: PARTS, TESTS. -/
section CDT
variable {m : am_M} {B : Int → Int} {n od : Int}
theorem cd_num {i l z lo hi : Int} (H : cd_S m B n od i l z) (hlo : 0 ≤ lo) (hhi : hi ≤ 1000) {K : am_KK} (hK : K (if tz_c B n i = 50 ∧ lo ≤ tz_v B n i ∧ tz_v B n i ≤ hi then tz_v B n i else -1) m) : M_X5_number 135 lo hi K m := rd_num H.1 H.2.2.1 H.2.2.2.1 hlo hhi hK
theorem cd_pass {i l z t q : Int} (H : cd_S m B n od i l z) (hi : 0 ≤ i) (ht : 0 ≤ t ∧ t < 38) (hq : tz_cd.getD t.toNat 0 = q) {K : am_KK} (k1 : tz_c B n i = q → ∀ m', (∀ o k, ¬ (o = 135 ∧ (k = 3 ∨ k = 4)) → m' o k = m o k) → cd_S m' B n od (i + 1) l z → K 1 m') (k0 : tz_c B n i ≠ q → ∀ m', cd_F m m' → m' 135 6 = tz_p B n i → K 0 m') : M_X5_pass 135 t K m := by
  unfold M_X5_pass
  refine cd_is H ht hq (is_br' (fun c => ?_) (fun c => ?_))
  · exact cd_adv H hi (fun m' f S => k1 c m' f S)
  · exact cd_fail H (fun m' f S => k0 c m' f S)
theorem cd_open {i l z d : Int} (H : cd_S m B n od i l z) (hi : 0 ≤ i) {K : am_KK} (k1 : d < 8 → ∀ m', (∀ o k, ¬ (o = 135 ∧ (k = 3 ∨ k = 4)) → m' o k = m o k) → cd_S m' B n od (i + 1) l z → K 1 m') (k0 : ¬ d < 8 → ∀ m', cd_F m m' → m' 135 6 = tz_p B n i → K 0 m') : M_X5_openBracket 135 d K m := by
  unfold M_X5_openBracket
  exact ⟨fun c => cd_adv H hi (fun m' f S => k1 c m' f S), fun c => cd_fail H (fun m' f S => k0 c m' f S)⟩
theorem fr_34 {m' : am_M} (f : ∀ o k, ¬ (o = 135 ∧ (k = 3 ∨ k = 4)) → m' o k = m o k) : cd_F m m' := fun o k ho => f o k (by omega)
theorem cd_leaf (hod : od = 0 ∨ od = 1) {R : Nat → am_PT} {i l z : Int} {K : am_KK} (S : cd_S m B n od i l z) (hi : 0 ≤ i) (hiN : i ≤ tz_N B n) (hl : 0 ≤ l) (h50 : l ≤ 50) (hz : 0 ≤ z) (hzi : z ≤ i)
    (k1 : ∀ r, pz_leaf od (tz_c B n) (tz_v B n) i l = .inr r → ∀ m', cd_F m m' → cd_S m' B n od r.1 r.2.1 (z + (r.2.2.1.length : Int)) → pz_at (m' 132) z r.2.2.1 → (∀ x, x < z → m' 132 x = m 132 x) → K 1 m')
    (k0 : ∀ e, pz_leaf od (tz_c B n) (tz_v B n) i l = .inl e → ∀ m', cd_F m m' → m' 135 6 = tz_p B n e → K 0 m') :
    M_X5_number 135 0 1000 (fun r_20 m_21 => ((r_20 = (-1)) → (((m_21 135 2) = 0) → M_X5_lawFact 135 (fun r_22 m_23 => M_X5_part_J1 R 135 r_20 r_22 K m_23) m_21) ∧ (¬ ((m_21 135 2) = 0) → M_X5_orderFact 135 (fun r_24 m_25 => M_X5_part_J1 R 135 r_20 r_24 K m_25) m_21)) ∧ (¬ (r_20 = (-1)) → M_X5_part_J1 R 135 r_20 (-1) K m_21)) m := by
  have hN := cd_n S.1
  have hv := hN.2.2
  unfold pz_leaf at k1 k0
  have J3 : (∀ e, (.inl i : pz_R) = .inl e → ∀ m', cd_F m m' → m' 135 6 = tz_p B n e → K 0 m') → M_X5_part_J3 R 135 K m := by
    intro h
    unfold M_X5_part_J3
    exact cd_fail S (fun m' F E => h i rfl m' F E)
  -- the end: one step more
  have J4 : ∀ (m1 : am_M) (j l1 x value fact : Int), cd_F m m1 → cd_S m1 B n od j l1 z → z < 400 → (∀ x, x < z → m1 132 x = m 132 x) → ((fact ≠ -1 ∧ x = w32 (2048 + fact)) ∨ (fact = -1 ∧ x = w32 (0 + value))) → (∀ m', cd_F m m' → cd_S m' B n od j l1 (z + (([x] : List Int).length : Int)) → pz_at (m' 132) z [x] → (∀ x, x < z → m' 132 x = m 132 x) → K 1 m') → M_X5_part_J4 R 135 value fact K m1 := by
    intro m1 j l1 x value fact F1 S1 hz4 E1 hx hK
    have go : M_X4_add 131 x (fun _ m_2 => K 1 m_2) m1 := by
      rw [cd_add S1.2.2.2.2.2.2 ⟨hz, hz4⟩]
      refine hK _ (cd_F_t F1 cd_F_add) (cd_S_add S1) (pz_at_one.mpr (by rw [am_st_ne _ (by omega), am_st_same])) (fun y hy => ?_)
      rw [am_st_ne _ (by omega), am_st_ne _ (by omega)]
      exact E1 y hy
    unfold M_X5_part_J4 M_X5_part_J5
    rw [rf_135]
    rcases hx with ⟨h1, rfl⟩ | ⟨h1, rfl⟩
    · exact ⟨fun _ => go, fun y => absurd h1 y⟩
    · exact ⟨fun y => absurd h1 y, fun _ => go⟩
  have J2n : ∀ (value fact : Int), ¬ 50 ≤ l → i < tz_N B n → (0 ≤ fact ∨ fact = -1) → fact < 8 → (∀ x, ((fact ≠ -1 ∧ x = w32 (2048 + fact)) ∨ (fact = -1 ∧ x = w32 (0 + value))) → ∀ m', cd_F m m' → cd_S m' B n od (i + 1) (l + 1) (z + (([x] : List Int).length : Int)) → pz_at (m' 132) z [x] → (∀ x, x < z → m' 132 x = m 132 x) → K 1 m') → M_X5_part_J2 R 135 value fact K m := by
    intro value fact hl5 hlt hf hf8 hK
    unfold M_X5_part_J2
    rw [S.2.2.2.2.1]
    refine ⟨fun _ => ?_, fun y => absurd (by omega) y⟩
    intro m6 hm6
    rw [w32_of (by omega) (by omega)] at hm6
    have S6 : cd_S m6 B n od i (l + 1) z := by
      obtain ⟨h1, h2, h3, h4, h5, h6, h7⟩ := S
      subst hm6
      refine ⟨rd_H_of h1 (fun o k ho => by rw [am_st_ne _ (by omega)]), ?_, ?_, ?_, am_st_same _ _ _ _, ?_, ?_⟩
      all_goals rw [am_st_ne _ (by omega)]; assumption
    have F6 : cd_F m m6 := fun o k ho => by rw [hm6, am_st_ne _ (by omega)]
    refine cd_adv S6 hi (fun m8 f8 S8 => ⟨fun _ => ?_, fun y => absurd hf8 y⟩)
    have hx : ∃ x, ((fact ≠ -1 ∧ x = w32 (2048 + fact)) ∨ (fact = -1 ∧ x = w32 (0 + value))) := by
      by_cases c : fact = -1
      · exact ⟨_, Or.inr ⟨c, rfl⟩⟩
      · exact ⟨_, Or.inl ⟨c, rfl⟩⟩
    obtain ⟨x, hx⟩ := hx
    exact J4 m8 (i + 1) (l + 1) x value fact (cd_F_t F6 (fr_34 f8)) S8 (by omega) (fun y hy => by rw [f8 _ _ (by omega), hm6, am_st_ne _ (by omega)]) hx (hK x hx)
  have wlt : pz_wd od (tz_c B n i) → 8 ≤ tz_c B n i ∧ tz_c B n i ≤ 20 := fun h => by
    unfold pz_wd at h
    rcases hod with rfl | rfl
    · simp at h; omega
    · simp at h; omega
  have wl20 : pz_wd od (tz_c B n i) → (tz_c B n i = 19 ∨ tz_c B n i = 20) → od = 1 := fun h h2 => by
    unfold pz_wd at h
    rcases hod with rfl | rfl
    · simp at h; omega
    · rfl
  refine cd_num S (by omega) (by omega) ?_
  by_cases c1 : tz_c B n i = 50 ∧ 0 ≤ tz_v B n i ∧ tz_v B n i ≤ 1000
  · rw [if_pos c1]
    have hlt := cd_lt S.1 hiN (by rw [c1.1]; decide)
    refine ⟨fun y => by omega, fun _ => ?_⟩
    unfold M_X5_part_J1
    refine ⟨fun _ => ?_, fun y => absurd (by omega) y⟩
    rw [if_pos (Or.inl ⟨c1.1, c1.2.2⟩)] at k1 k0
    by_cases c5 : 50 ≤ l
    · rw [if_pos c5] at k0
      unfold M_X5_part_J2
      rw [S.2.2.2.2.1]
      exact ⟨fun y => by omega, fun _ => J3 k0⟩
    · rw [if_neg c5, if_neg (by omega), if_pos c1.1] at k1
      refine J2n _ _ c5 hlt (Or.inr rfl) (by omega) (fun x hx m' F' S' A' E' => ?_)
      rcases hx with ⟨h1, -⟩ | ⟨-, rfl⟩
      · exact absurd rfl h1
      · rw [w32_of (by omega) (by omega), Int.zero_add] at S' A'
        exact k1 _ rfl m' F' S' A' E'
  · rw [if_neg c1]
    refine ⟨fun _ => ?_, fun y => absurd rfl y⟩
    have hv0 := hv i
    -- what is asked for the words
    have words : M_X5_part_J1 R 135 (-1) (if pz_wd od (tz_c B n i) then pz_fc od (tz_c B n i) else -1) K m := by
      unfold M_X5_part_J1
      refine ⟨fun y => absurd rfl y, fun _ => ?_⟩
      by_cases cw : pz_wd od (tz_c B n i)
      · rw [if_pos cw]
        have hb := wlt cw
        have hlt := cd_lt S.1 hiN (by omega)
        rw [if_pos (Or.inr cw)] at k1 k0
        have hfc : 0 ≤ pz_fc od (tz_c B n i) ∧ ((tz_c B n i = 19 ∨ tz_c B n i = 20) ∨ pz_fc od (tz_c B n i) < 8) ∧ ((tz_c B n i = 19 ∨ tz_c B n i = 20) → 8 ≤ pz_fc od (tz_c B n i)) ∧ pz_fc od (tz_c B n i) ≤ 16 := by
          unfold pz_wd at cw
          unfold pz_fc
          rcases hod with rfl | rfl
          · simp only [if_true] at cw ⊢
            split
            · omega
            · split <;> omega
          · simp only [show ((1 : Int) = 0) ↔ False by decide, if_false] at cw ⊢
            split
            · omega
            · split <;> omega
        generalize hf : pz_fc od (tz_c B n i) = f at *
        refine ⟨fun y => by omega, fun _ => ?_⟩
        by_cases c5 : 50 ≤ l
        · rw [if_pos c5] at k0
          unfold M_X5_part_J2
          rw [S.2.2.2.2.1]
          exact ⟨fun y => by omega, fun _ => J3 k0⟩
        · rw [if_neg c5] at k1 k0
          by_cases c20 : tz_c B n i = 19 ∨ tz_c B n i = 20
          · rw [if_pos c20] at k1 k0
            have hf8 := hfc.2.2.1 c20
            unfold M_X5_part_J2
            rw [S.2.2.2.2.1]
            refine ⟨fun _ => ?_, fun y => absurd (by omega) y⟩
            intro m6 hm6
            rw [w32_of (by omega) (by omega)] at hm6
            have S6 : cd_S m6 B n od i (l + 1) z := by
              obtain ⟨h1, h2, h3, h4, h5, h6, h7⟩ := S
              subst hm6
              refine ⟨rd_H_of h1 (fun o k ho => by rw [am_st_ne _ (by omega)]), ?_, ?_, ?_, am_st_same _ _ _ _, ?_, ?_⟩
              all_goals rw [am_st_ne _ (by omega)]; assumption
            have F6 : cd_F m m6 := fun o k ho => by rw [hm6, am_st_ne _ (by omega)]
            refine cd_adv S6 hi (fun m8 f8 S8 => ⟨fun y => by omega, fun _ => ?_⟩)
            refine cd_num S8 (by omega) (by omega) ?_
            by_cases c7 : tz_c B n (i + 1) = 50 ∧ tz_v B n (i + 1) ≤ 7
            · rw [if_pos c7] at k1
              have hv1 := hv (i + 1)
              rw [if_pos ⟨c7.1, hv1, c7.2⟩]
              refine ⟨fun _ => ?_, fun y => absurd (by omega) y⟩
              intro v11 hv11
              rw [w32_of (by omega) (by omega)] at hv11
              subst hv11
              refine cd_adv S8 (by omega) (fun m13 f13 S13 => ?_)
              refine J4 m13 (i + 1 + 1) (l + 1) (2048 + (f + tz_v B n (i + 1))) _ _ (cd_F_t (cd_F_t F6 (fr_34 f8)) (fr_34 f13)) S13 (by omega) (fun y hy => by rw [f13 _ _ (by omega), f8 _ _ (by omega), hm6, am_st_ne _ (by omega)]) (Or.inl ⟨by omega, by rw [w32_of (by omega) (by omega)]⟩) (fun m' F' S' A' E' => ?_)
              exact k1 _ rfl m' F' (by rw [show i + 2 = i + 1 + 1 by omega]; exact S') A' E'
            · rw [if_neg c7] at k0
              rw [if_neg (fun z => c7 ⟨z.1, z.2.2⟩)]
              refine ⟨fun y => absurd rfl y, fun _ => ?_⟩
              exact cd_fail S8 (fun m' F' E' => k0 _ rfl m' (cd_F_t (cd_F_t F6 (fr_34 f8)) F') E')
          · rw [if_neg c20, if_neg (by omega)] at k1
            refine J2n _ _ c5 hlt (Or.inl hfc.1) (by omega) (fun x hx m' F' S' A' E' => ?_)
            rcases hx with ⟨-, rfl⟩ | ⟨h1, -⟩
            · rw [w32_of (by omega) (by omega)] at S' A'
              exact k1 _ rfl m' F' S' A' E'
            · omega
      · rw [if_neg cw]
        rw [if_neg (by rintro (h | h); exact c1 ⟨h.1, hv0, h.2⟩; exact cw h)] at k0
        exact ⟨fun _ => J3 k0, fun y => absurd rfl y⟩
    rw [S.2.1]
    rcases hod with rfl | rfl
    · exact ⟨fun _ => cd_lawFact S words, fun y => absurd rfl y⟩
    · exact ⟨fun y => absurd y (by decide), fun _ => cd_orderFact S words⟩
theorem cd_partOf {lim d : Int} (hod : od = 0 ∨ od = 1) {S : Option (Int → Int → pz_R)} {R : Nat → am_PT} (hd : 0 ≤ d ∧ d ≤ 8) (hS : ∀ P, S = some P → d < 8 ∧ pz_ok lim pz_val (tz_N B n) P ∧ cd_P B n od P (R 0) (d + 1)) (hS0 : S = none → d = 8) : cd_P B n od (pz_part od (tz_c B n) (tz_v B n) S) (N_X5_part R) d := by
  intro m i l z K H hi hiN hl h50 hz hzi k1 k0
  refine ⟨am_ob135, ?_⟩
  unfold M_X5_part
  unfold pz_part at k1 k0
  refine cd_is H (q := 191) (by omega) rfl (is_br (fun c => ?_) (fun c => ?_))
  · rw [if_neg c] at k1 k0
    exact cd_leaf hod H hi hiN hl h50 hz hzi k1 k0
  · rw [if_pos c] at k1 k0
    have hlt := cd_lt H.1 hiN (by rw [c]; decide)
    refine cd_open H hi (fun d8 m1 f1 S1 => ?_) (fun d8 m1 F1 E1 => ?_)
    · refine ⟨fun y => absurd y (by decide), fun _ => ?_⟩
      cases hSS : S with
      | none => have := hS0 hSS; omega
      | some P =>
        obtain ⟨-, hok, hP⟩ := hS P hSS
        subst hSS
        unfold pz_in at k1 k0
        simp only [] at k1 k0
        rw [w32_of (by omega) (by omega)]
        refine hP m1 (i + 1) l z _ S1 (by omega) (by omega) hl h50 hz (by omega) (fun a ha m2 F2 S2 A2 E2 => ?_) (fun e he m2 F2 E2 => ?_)
        · rw [ha] at k1 k0
          simp only [pz_bd] at k1 k0
          have ho := ((hok (i + 1) l (by omega) (by omega) hl h50).2 a ha).1
          refine ⟨fun y => absurd y (by decide), fun _ => ?_⟩
          refine cd_pass S2 (q := 193) (by omega) (by omega) rfl (fun c3 m3 f3 S3 => ?_) (fun c3 m3 F3 E3 => ?_)
          · rw [if_pos c3] at k1
            refine ⟨fun y => absurd y (by decide), fun _ => ?_⟩
            exact k1 _ rfl m3 (cd_F_t (cd_F_t (fr_34 f1) F2) (fr_34 f3)) S3 (pz_at_of A2 (fun x _ _ => f3 _ _ (by omega))) (fun x hx => by rw [f3 _ _ (by omega), E2 x hx]; exact f1 _ _ (by omega))
          · rw [if_neg c3] at k0
            exact ⟨fun _ => k0 _ rfl m3 (cd_F_t (cd_F_t (fr_34 f1) F2) F3) E3, fun y => absurd rfl y⟩
        · rw [he] at k0
          simp only [pz_bd] at k0
          exact ⟨fun _ => k0 _ rfl m2 (cd_F_t (fr_34 f1) F2) E2, fun y => absurd rfl y⟩
    · refine ⟨fun _ => ?_, fun y => absurd rfl y⟩
      cases hSS : S with
      | none =>
        subst hSS
        exact k0 i rfl m1 F1 E1
      | some P => have := (hS P hSS).1; omega
theorem cd_sum_ok {lim : Int} (hod : od = 0 ∨ od = 1) (hlim : lim = if od = 0 then 8 else 24) (H0 : rd_H m B n) : ∀ (k F : Nat), k ≤ 8 → 3 * (k + 1) ≤ F → cd_P B n od (pz_sum od (tz_c B n) (tz_v B n) k) (R_X5_sum F 0) (8 - k) := by
  obtain ⟨hN, h400, hv⟩ := cd_n H0
  intro k
  induction k with
  | zero =>
    intro F _ hF
    obtain ⟨f, rfl⟩ : ∃ f, F = f + 3 := ⟨F - 3, by omega⟩
    have hpo := pz_part_ok (S := none) hN hv hod hlim (fun P h => by cases h)
    have hto := pz_term_ok (S := none) hN hv hod hlim (fun P h => by cases h)
    exact cd_sumOf (R := R_X5_sum (f + 2)) (cd_termOf (R := R_X5_sum (f + 1)) (cd_partOf (lim := lim) (R := R_X5_sum f) hod (by omega) (fun P h => by cases h) (fun _ => by omega)) hpo) hto
  | succ k ih =>
    intro F hk hF
    obtain ⟨f, rfl⟩ : ∃ f, F = f + 3 := ⟨F - 3, by omega⟩
    have hso := pz_sum_ok hN hv hod hlim k
    have hpo := pz_part_ok (S := some (pz_sum od (tz_c B n) (tz_v B n) k)) hN hv hod hlim (fun P h => by cases h; exact hso)
    have hto := pz_term_ok (S := some (pz_sum od (tz_c B n) (tz_v B n) k)) hN hv hod hlim (fun P h => by cases h; exact hso)
    have hi := ih f (by omega) (by omega)
    refine cd_sumOf (R := R_X5_sum (f + 2)) (cd_termOf (R := R_X5_sum (f + 1)) (cd_partOf (lim := lim) (R := R_X5_sum f) hod (by omega) (fun P h => ?_) (fun h => by cases h)) hpo) hto
    cases h
    exact ⟨by omega, hso, by rw [show (8 : Int) - ((k + 1 : Nat) : Int) + 1 = 8 - (k : Int) by omega]; exact hi⟩
end CDT
