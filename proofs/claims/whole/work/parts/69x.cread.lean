/-! THE READER follows the parser: CLAUSES, the TEXT. -/
theorem sg_ss_0 (od : Int) (c v : Int → Int) (i l : Int) : sg_ss od c v 0 3 0 i l [] = .inr (i, l, [pz_one, pz_one, pz_one]) := by
  simp [sg_ss]
theorem sg_ss_1 (od : Int) (c v : Int → Int) (i l : Int) : sg_ss od c v 1 3 0 i l [] = pz_bd (pz_sum od c v 8 i l) fun r => .inr (r.1, r.2.1, [r.2.2, pz_one, pz_one]) := by
  simp [sg_ss]
theorem sg_ss_3 (c v : Int → Int) (i l : Int) : sg_ss 1 c v 3 3 0 i l [] = pz_bd (pz_pray c v i l) fun r => .inr (r.1, r.2.1, [r.2.2.1, r.2.2.2.1, r.2.2.2.2]) := by
  unfold pz_pray
  rw [sg_ss, if_neg (by decide), if_pos (by decide)]
  cases pz_sum 1 c v 8 i l with
  | inl e => rfl
  | inr r =>
    simp only [pz_bd]
    rw [sg_ss, if_neg (by decide), if_neg (by decide), show (if (0 : Int) + 1 ≠ 1 then (23 : Int) else 22) = 22 by decide]
    by_cases c1 : c r.1 = 22
    · rw [if_pos c1, if_pos c1]
      cases pz_sum 1 c v 8 (r.1 + 1) r.2.1 with
      | inl e => rfl
      | inr q =>
        simp only [pz_bd]
        rw [sg_ss, if_neg (by decide), if_neg (by decide), show (if (0 : Int) + 1 + 1 ≠ 1 then (23 : Int) else 22) = 23 by decide]
        by_cases c2 : c q.1 = 23
        · rw [if_pos c2, if_pos c2]
          cases pz_sum 1 c v 8 (q.1 + 1) q.2.1 with
          | inl e => rfl
          | inr p => simp [pz_bd, sg_ss]
        · rw [if_neg c2, if_neg c2]
    · rw [if_neg c1, if_neg c1]
/-- kinds of clauses: their words, how many SUMS -/
def ck_K (od x kind w : Int) : Prop := (od = 0 ∧ x = 1 ∧ kind = 0 ∧ w = 1) ∨ (od = 0 ∧ x = 2 ∧ kind = 1 ∧ w = 1) ∨ (od = 0 ∧ x = 3 ∧ kind = 2 ∧ w = 0) ∨ (od = 1 ∧ x = 21 ∧ kind = 3 ∧ w = 3) ∨ (od = 1 ∧ x = 24 ∧ kind = 4 ∧ w = 0)
theorem ck_cl {od kind w : Int} {c v : Int → Int} {i l : Int} (h : ck_K od (c i) kind w) : (∀ e, sg_ss od c v w 3 0 (i + 1) l [] = .inl e → pz_clause od c v i l = .inl e) ∧ ∀ r s0 s1 s2, sg_ss od c v w 3 0 (i + 1) l [] = .inr r → r.2.2 = [s0, s1, s2] → pz_clause od c v i l = pz_tail od c v kind s0 s1 s2 r.1 r.2.1 := by
  unfold pz_clause
  rcases h with ⟨rfl, hx, rfl, rfl⟩ | ⟨rfl, hx, rfl, rfl⟩ | ⟨rfl, hx, rfl, rfl⟩ | ⟨rfl, hx, rfl, rfl⟩ | ⟨rfl, hx, rfl, rfl⟩
  · rw [if_pos rfl, sg_ss_1]
    unfold pz_law
    rw [if_pos (Or.inl hx), hx]
    cases pz_sum 0 c v 8 (i + 1) l with
    | inl e => exact ⟨fun e' h => (by cases h; rfl), fun r s0 s1 s2 h => (by cases h)⟩
    | inr r => exact ⟨fun e h => (by cases h), fun r s0 s1 s2 h hs => by cases h; cases hs; rfl⟩
  · rw [if_pos rfl, sg_ss_1]
    unfold pz_law
    rw [if_pos (Or.inr hx), hx]
    cases pz_sum 0 c v 8 (i + 1) l with
    | inl e => exact ⟨fun e' h => (by cases h; rfl), fun r s0 s1 s2 h => (by cases h)⟩
    | inr r => exact ⟨fun e h => (by cases h), fun r s0 s1 s2 h hs => by cases h; cases hs; rfl⟩
  · rw [if_pos rfl, sg_ss_0]
    unfold pz_law
    rw [if_neg (by omega), if_pos hx]
    exact ⟨fun e h => (by cases h), fun r s0 s1 s2 h hs => by cases h; cases hs; rfl⟩
  · rw [if_neg (by decide), sg_ss_3]
    unfold pz_order
    rw [if_pos hx]
    cases pz_pray c v (i + 1) l with
    | inl e => exact ⟨fun e' h => (by cases h; rfl), fun r s0 s1 s2 h => (by cases h)⟩
    | inr r => exact ⟨fun e h => (by cases h), fun r s0 s1 s2 h hs => by cases h; cases hs; rfl⟩
  · rw [if_neg (by decide), sg_ss_0]
    unfold pz_order
    rw [if_neg (by omega), if_pos hx]
    exact ⟨fun e h => (by cases h), fun r s0 s1 s2 h hs => by cases h; cases hs; rfl⟩
section CRD
variable {m : am_M} {B : Int → Int} {n od : Int}
theorem cd_kind (hod : od = 0 ∨ od = 1) {i l z : Int} (S : cd_S m B n od i l z) {K : am_KK} (k1 : ∀ kind w, ck_K od (tz_c B n i) kind w → K kind m) (k0 : (∀ v, pz_clause od (tz_c B n) v i l = .inl i) → K (-1) m) : M_X5_clauseKind 135 K m := by
  unfold M_X5_clauseKind
  rw [S.2.1]
  unfold pz_clause pz_law pz_order at k0
  rcases hod with rfl | rfl
  · refine ⟨fun _ => ?_, fun y => absurd rfl y⟩
    refine cd_is S (q := 1) (by omega) rfl (is_br (fun c1 => ?_) (fun c1 => ?_))
    rotate_left
    · exact k1 0 1 (Or.inl ⟨rfl, c1, rfl, rfl⟩)
    refine cd_is S (q := 2) (by omega) rfl (is_br (fun c2 => ?_) (fun c2 => ?_))
    rotate_left
    · exact k1 1 1 (Or.inr (Or.inl ⟨rfl, c2, rfl, rfl⟩))
    refine cd_is S (q := 3) (by omega) rfl (is_br (fun c3 => ?_) (fun c3 => ?_))
    rotate_left
    · exact k1 2 0 (Or.inr (Or.inr (Or.inl ⟨rfl, c3, rfl, rfl⟩)))
    refine k0 (fun v => ?_)
    rw [if_pos rfl, if_neg (by omega), if_neg c3]
  · refine ⟨fun y => absurd y (by decide), fun _ => ?_⟩
    refine cd_is S (q := 21) (by omega) rfl (is_br (fun c1 => ?_) (fun c1 => ?_))
    rotate_left
    · exact k1 3 3 (Or.inr (Or.inr (Or.inr (Or.inl ⟨rfl, c1, rfl, rfl⟩))))
    refine cd_is S (q := 24) (by omega) rfl (is_br (fun c2 => ?_) (fun c2 => ?_))
    rotate_left
    · exact k1 4 0 (Or.inr (Or.inr (Or.inr (Or.inr ⟨rfl, c2, rfl, rfl⟩))))
    refine k0 (fun v => ?_)
    rw [if_neg (by decide), if_neg c1, if_neg c2]
theorem cd_tail {lim : Int} (hod : od = 0 ∨ od = 1) (hlim : lim = if od = 0 then 8 else 24) {i l z q kind : Int} {s0 s1 s2 : pz_S} {K : am_KK} (S : cd_S m B n od i l z) (hk : rk m 133 7 84) (h2 : m 133 2 = q + 1) (hq : 0 ≤ q ∧ q < 12) (hi : 0 ≤ i) (hiN : i ≤ tz_N B n) (hl : 0 ≤ l) (h50 : l ≤ 50) (hz : 0 ≤ z) (hzi : z ≤ i) (ht1 : m 134 (q * 7 + 1) = 1)
    (k1 : ∀ r t s, pz_tail od (tz_c B n) (tz_v B n) kind s0 s1 s2 i l = .inr r → r.2.2 = (kind, t, s0, s1, s2, s) → ∀ m', (∀ o k, ¬ ((o = 135 ∧ (k = 3 ∨ k = 4 ∨ k = 5 ∨ k = 6)) ∨ (o = 131 ∧ k = 1) ∨ (o = 132 ∧ z ≤ k) ∨ (o = 134 ∧ (k = q * 7 + 1 ∨ k = q * 7 + 6))) → m' o k = m o k) → cd_S m' B n od r.1 r.2.1 (z + (s.1.length : Int)) → m' 134 (q * 7 + 1) = t → m' 134 (q * 7 + 6) = z + (s.1.length : Int) → pz_at (m' 132) z s.1 → K 1 m')
    (k0 : ∀ e, pz_tail od (tz_c B n) (tz_v B n) kind s0 s1 s2 i l = .inl e → ∀ m', ck_F m m' → rk m' 133 7 84 → m' 135 6 = tz_p B n e → K 0 m') :
    (((m 135 2) = 0) → M_X5_clause_J2 135 K m) ∧ (¬ ((m 135 2) = 0) → M_X5_is 135 27 (fun r_20 m_21 => ((r_20 = 0) → M_X5_clause_J2 135 K m_21) ∧ (¬ (r_20 = 0) → M_X5_advance 135 (fun _ m_24 => M_X5_number 135 1 20 (fun r_25 m_26 => ((r_25 ≠ (-1)) → M_X7_set (am_rfv (am_rfv 135 1) 2) q 1 r_25 (fun _ m_28 => M_X5_advance 135 (fun _ m_30 => M_X5_clause_J2 135 K m_30) m_28) m_26) ∧ (¬ (r_25 ≠ (-1)) → M_X5_fail 135 (fun r_31 m_32 => K r_31 m_32) m_26)) m_24) m_21)) m) := by
  obtain ⟨hN, h400, hv⟩ := cd_n S.1
  have htest := cd_test_ok (lim := lim) hod hlim S.1 8 301 (by omega) (by omega)
  rw [show (8 : Int) - ((8 : Nat) : Int) = 0 by omega] at htest
  unfold pz_tail at k1 k0
  have J2 : ∀ (m1 : am_M) (j t : Int), (∀ o k, ¬ ((o = 135 ∧ (k = 3 ∨ k = 4 ∨ k = 5 ∨ k = 6)) ∨ (o = 134 ∧ k = q * 7 + 1)) → m1 o k = m o k) → cd_S m1 B n od j l z → i ≤ j → j ≤ tz_N B n → m1 134 (q * 7 + 1) = t → (if od = 0 then (.inr (i, 1) : Sum Int (Int × Int)) else pz_times (tz_c B n) (tz_v B n) i) = .inr (j, t) → M_X5_clause_J2 135 K m1 := by
    intro m1 j t F1 S1 hij hjN ht e
    rw [e] at k1 k0
    simp only [pz_bd] at k1 k0
    have J3 : ∀ (m2 : am_M) (i2 l2 : Int) (s : pz_S), cd_F m1 m2 → (∀ x, x < z → m2 132 x = m1 132 x) → cd_S m2 B n od i2 l2 (z + (s.1.length : Int)) → pz_at (m2 132) z s.1 → pz_if od (tz_c B n) (tz_v B n) j l = .inr (i2, l2, s) → M_X5_clause_J3 135 K m2 := by
      intro m2 i2 l2 s F2 E2 S2 A2 e2
      rw [e2] at k1
      unfold M_X5_clause_J3
      rw [rf_135, cd_mark (q := q) (rk_of hk (by rw [F2 _ _ (by omega), F1 _ _ (by omega)]) (by rw [F2 _ _ (by omega), F1 _ _ (by omega)])) (by rw [F2 _ _ (by omega), F1 _ _ (by omega)]; exact h2) S2.2.2.2.2.2.2 hq (by omega)]
      refine k1 _ t s rfl rfl _ (fun o k ho => ?_) (cd_S_of S2 (fun o k ho => am_st_ne _ (by omega))) ?_ ?_ (pz_at_of A2 (fun x _ _ => am_st_ne _ (by omega)))
      · rw [am_st_ne _ (by omega)]
        by_cases c : o = 132
        · subst c; rw [E2 k (by omega)]; exact F1 _ _ (by omega)
        · rw [F2 o k (by omega)]; exact F1 o k (by omega)
      · rw [am_st_ne _ (by omega), F2 _ _ (by omega)]; exact ht
      · rw [show q * 7 + 6 = q * 7 + (2 + 4) by omega, am_st_same]
    unfold M_X5_clause_J2
    refine cd_is S1 (q := 4) (by omega) rfl (is_br (fun c => ?_) (fun c => ?_))
    · refine J3 m1 j l pz_one (cd_F_refl m1) (fun _ _ => rfl) ?_ (fun x hx => by simp [pz_one] at hx) (by unfold pz_if; rw [if_neg c])
      simp only [pz_one, List.length_nil]
      rw [show z + ((0 : Nat) : Int) = z by omega]
      exact S1
    · have hlt := cd_lt S1.1 hjN (by rw [c]; decide)
      refine cd_adv S1 (by omega) (fun m2 f2 S2 => ?_)
      refine htest m2 (j + 1) l z _ S2 (by omega) (by omega) hl h50 hz (by omega) (fun a ha m3 F3 S3 A3 E3 => ?_) (fun f hf m3 F3 E3 => ?_)
      · refine ⟨fun _ => ?_, fun y => absurd (by decide) y⟩
        exact J3 m3 a.1 a.2.1 a.2.2 (cd_F_t (fr_34 f2) F3) (fun x hx => by rw [E3 x hx]; exact f2 _ _ (by omega)) S3 A3 (by unfold pz_if; rw [if_pos c, ha]; rfl)
      · refine ⟨fun y => absurd rfl y, fun _ => ?_⟩
        refine k0 f ?_ m3 (fun o k ho => by rw [F3 o k (by omega), f2 o k (by omega)]; exact F1 o k (by omega)) (rk_of hk (by rw [F3 _ _ (by omega), f2 _ _ (by omega), F1 _ _ (by omega)]) (by rw [F3 _ _ (by omega), f2 _ _ (by omega), F1 _ _ (by omega)])) E3
        unfold pz_if
        rw [if_pos c, hf]
        rfl
  rw [S.2.1]
  refine ⟨fun c => ?_, fun c => ?_⟩
  · exact J2 m i 1 (fun _ _ _ => rfl) S (Int.le_refl _) hiN ht1 (by rw [if_pos c])
  · rw [if_neg c] at J2 k0
    unfold pz_times at J2 k0
    refine cd_is S (q := 25) (by omega) rfl (is_br (fun c1 => ?_) (fun c1 => ?_))
    · exact J2 m i 1 (fun _ _ _ => rfl) S (Int.le_refl _) hiN ht1 (by rw [if_neg c1])
    · rw [if_pos c1] at J2 k0
      have hlt := cd_lt S.1 hiN (by rw [c1]; decide)
      refine cd_adv S hi (fun m1 f1 S1 => ?_)
      refine cd_num S1 (by omega) (by omega) ?_
      by_cases c2 : tz_c B n (i + 1) = 50 ∧ 1 ≤ tz_v B n (i + 1) ∧ tz_v B n (i + 1) ≤ 20
      · rw [if_pos c2]
        rw [if_pos c2] at J2
        have hlt2 := cd_lt S1.1 (show i + 1 ≤ tz_N B n by omega) (by rw [c2.1]; decide)
        refine ⟨fun _ => ?_, fun y => absurd (by omega) y⟩
        rw [rf_135, show am_rfv 131 2 = 133 by decide +kernel, set_eq' (rk_of hk (f1 _ _ (by omega)) (f1 _ _ (by omega))) (by rw [f1 _ _ (by omega)]; exact h2) hq.1 (by omega)]
        have S2 : cd_S (am_st m1 (133 + 1) (q * 7 + 1) (tz_v B n (i + 1))) B n od (i + 1) l z := cd_S_of S1 (fun o k ho => am_st_ne _ (by omega))
        refine cd_adv S2 (by omega) (fun m3 f3 S3 => ?_)
        refine J2 m3 (i + 2) (tz_v B n (i + 1)) (fun o k ho => by rw [f3 o k (by omega), am_st_ne _ (by omega)]; exact f1 o k (by omega)) (by rw [show i + 2 = i + 1 + 1 by omega]; exact S3) (by omega) (by omega) ?_ rfl
        rw [f3 _ _ (by omega), show (133 : Int) + 1 = 134 by omega, am_st_same]
      · rw [if_neg c2]
        rw [if_neg c2] at k0
        refine ⟨fun y => absurd rfl y, fun _ => ?_⟩
        exact cd_fail S1 (fun m' F' E' => k0 _ rfl m' (ck_of (cd_F_t (fr_34 f1) F')) (rk_of hk (by rw [F' _ _ (by omega), f1 _ _ (by omega)]) (by rw [F' _ _ (by omega), f1 _ _ (by omega)])) E')
theorem cd_clause {lim : Int} (hod : od = 0 ∨ od = 1) (hlim : lim = if od = 0 then 8 else 24) {i l z q : Int} {K : am_KK} (S : cd_S m B n od i l z) (hk : rk m 133 7 84) (h2 : m 133 2 = q) (hq : 0 ≤ q ∧ q ≤ 12) (hi : 0 ≤ i) (hiN : i ≤ tz_N B n) (hl : 0 ≤ l) (h50 : l ≤ 50) (hz : 0 ≤ z) (hzi : z ≤ i)
    (k1 : ∀ r, pz_clause od (tz_c B n) (tz_v B n) i l = .inr r → q < 12 → ∀ m', ck_F m m' → (∀ x, x < z → m' 132 x = m 132 x) → (∀ x, x < q * 7 → m' 134 x = m 134 x) → cd_S m' B n od r.1 r.2.1 (z + ((pz_steps r.2.2).length : Int)) → rk m' 133 7 84 → m' 133 2 = q + 1 → (∀ cl st : Int → Int, cl = m' 134 → st = m' 132 → pz_pr cl st [r.2.2] q z) → K 1 m')
    (k0 : ∀ e, (q < 12 ∧ pz_clause od (tz_c B n) (tz_v B n) i l = .inl e ∨ 12 ≤ q ∧ e = i) → ∀ m', ck_F m m' → rk m' 133 7 84 → m' 135 6 = tz_p B n e → K 0 m') :
    M_X5_clause 135 K m := by
  have rf2 : am_rfv 131 2 = 133 := by decide +kernel
  unfold M_X5_clause M_X5_clause_J1
  refine cd_kind hod S (fun kind w hkw => ?_) (fun hno => ?_)
  · have hkd : 0 ≤ kind ∧ kind ≤ 4 := by unfold ck_K at hkw; omega
    refine ⟨fun _ => ?_, fun y => by omega⟩
    rw [rf_135, rf2, open_eq hk, h2]
    by_cases cq : q < 12
    · rw [if_pos (by omega)]
      refine ⟨fun _ => ?_, fun y => by omega⟩
      obtain ⟨w1, w2⟩ := ck_cl (v := tz_v B n) (l := l) hkw
      have hlt := cd_lt (i := i) S.1 hiN (by unfold ck_K at hkw; omega)
      have q1 : rk (am_st m 133 2 (q + 1)) 133 7 84 := rk_opened hk h2 (by omega)
      rw [set_eq' q1 (am_st_same _ _ _ _) hq.1 (by omega), show (133 : Int) + 1 = 134 by omega, set_eq' (rk_st q1 (by omega)) (by rw [am_st_ne _ (by omega), am_st_same]) hq.1 (by omega), show (133 : Int) + 1 = 134 by omega]
      have q3 : rk (am_st (am_st (am_st m 133 2 (q + 1)) 134 (q * 7 + 0) kind) 134 (q * 7 + 1) 1) 133 7 84 := rk_st (rk_st q1 (by omega)) (by omega)
      have S3 : cd_S (am_st (am_st (am_st m 133 2 (q + 1)) 134 (q * 7 + 0) kind) 134 (q * 7 + 1) 1) B n od i l z := cd_S_of S (fun o k ho => by rw [am_st_ne _ (by omega), am_st_ne _ (by omega), am_st_ne _ (by omega)])
      have f3 : ∀ o k, ¬ ((o = 133 ∧ k = 2) ∨ (o = 134 ∧ (k = q * 7 ∨ k = q * 7 + 1))) → am_st (am_st (am_st m 133 2 (q + 1)) 134 (q * 7 + 0) kind) 134 (q * 7 + 1) 1 o k = m o k := fun o k ho => by rw [am_st_ne _ (by omega), am_st_ne _ (by omega), am_st_ne _ (by omega)]
      have e0 : am_st (am_st (am_st m 133 2 (q + 1)) 134 (q * 7 + 0) kind) 134 (q * 7 + 1) 1 134 (q * 7) = kind := by rw [am_st_ne _ (by omega), Int.add_zero, am_st_same]
      have e1 : am_st (am_st (am_st m 133 2 (q + 1)) 134 (q * 7 + 0) kind) 134 (q * 7 + 1) 1 134 (q * 7 + 1) = 1 := am_st_same _ _ _ _
      have e2 : am_st (am_st (am_st m 133 2 (q + 1)) 134 (q * 7 + 0) kind) 134 (q * 7 + 1) 1 133 2 = q + 1 := by rw [am_st_ne _ (by omega), am_st_ne _ (by omega), am_st_same]
      generalize am_st (am_st (am_st m 133 2 (q + 1)) 134 (q * 7 + 0) kind) 134 (q * 7 + 1) 1 = m3 at *
      refine cd_adv S3 hi (fun m4 f4 S4 => ?_)
      have q4 : rk m4 133 7 84 := rk_of q3 (f4 _ _ (by omega)) (f4 _ _ (by omega))
      have go : M_X5_sums_L1 135 w 0 (fun r_17 m_18 => ((r_17 ≠ 0) → (((m_18 135 2) = 0) → M_X5_clause_J2 135 K m_18) ∧ (¬ ((m_18 135 2) = 0) → M_X5_is 135 27 (fun r_20 m_21 => ((r_20 = 0) → M_X5_clause_J2 135 K m_21) ∧ (¬ (r_20 = 0) → M_X5_advance 135 (fun _ m_24 => M_X5_number 135 1 20 (fun r_25 m_26 => ((r_25 ≠ (-1)) → M_X7_set (am_rfv (am_rfv 135 1) 2) q 1 r_25 (fun _ m_28 => M_X5_advance 135 (fun _ m_30 => M_X5_clause_J2 135 K m_30) m_28) m_26) ∧ (¬ (r_25 ≠ (-1)) → M_X5_fail 135 (fun r_31 m_32 => K r_31 m_32) m_26)) m_24) m_21)) m_18)) ∧ (¬ (r_17 ≠ 0) → K 0 m_18)) m4 := by
        refine cd_sums hod hlim S4 q4 (by rw [f4 _ _ (by omega)]; exact e2) ⟨hq.1, cq⟩ (by omega) (by omega) hl h50 hz (by omega) (fun r hr hb m5 f5 S5 A5 M5 e5 E5 => ?_) (fun e he m5 F5 E5 => ?_)
        · refine ⟨fun _ => ?_, fun y => absurd (by decide) y⟩
          obtain ⟨s0, s1, s2, hs⟩ : ∃ s0 s1 s2, r.2.2 = [s0, s1, s2] := by
            have h3 := hb.2.2.2.2.1
            rcases hh : r.2.2 with _ | ⟨a, _ | ⟨b, _ | ⟨c, _ | ⟨d, ds⟩⟩⟩⟩
            · rw [hh] at h3; simp at h3
            · rw [hh] at h3; simp at h3
            · rw [hh] at h3; simp at h3
            · exact ⟨a, b, c, rfl⟩
            · rw [hh] at h3; simp at h3
          have hcl := w2 r s0 s1 s2 hr hs
          have q5 : rk m5 133 7 84 := rk_of q4 (f5 _ _ (by omega)) (f5 _ _ (by omega))
          have h25 : m5 133 2 = q + 1 := by rw [f5 _ _ (by omega), f4 _ _ (by omega)]; exact e2
          have hlen0 := sg_len_0 r.2.2
          refine cd_tail (kind := kind) (s0 := s0) (s1 := s1) (s2 := s2) hod hlim S5 q5 h25 ⟨hq.1, cq⟩ (by omega) hb.2.1 hb.2.2.1 hb.2.2.2.1 (by omega) (by omega) (by rw [f5 _ _ (by omega), f4 _ _ (by omega)]; exact e1) (fun r' t s hr' hx m6 f6 S6 t6 t7 A6 => ?_) (fun e he m6 F6 q6 E6 => ?_)
          · have hsl : sg_len r.2.2 = (s0.1.length : Int) + (s1.1.length : Int) + (s2.1.length : Int) := by rw [hs]; simp only [sg_len]; omega
            have hst : ((pz_steps r'.2.2).length : Int) = sg_len r.2.2 + (s.1.length : Int) := by rw [hx, hsl]; simp only [pz_steps, List.length_append]; omega
            refine k1 r' (by rw [hcl]; exact hr') cq m6 (fun o k ho => ?_) (fun x hx => ?_) (fun x hx => ?_) (by rw [hst, ← Int.add_assoc]; exact S6) (rk_of q5 (f6 _ _ (by omega)) (f6 _ _ (by omega))) (by rw [f6 _ _ (by omega)]; exact h25) (fun cl st hcl' hst' => ?_)
            · rw [f6 o k (by omega), f5 o k (by omega), f4 o k (by omega)]; exact f3 o k (by omega)
            · rw [f6 _ _ (by omega), E5 x hx, f4 _ _ (by omega)]; exact f3 _ _ (by omega)
            · rw [f6 _ _ (by omega), f5 _ _ (by omega), f4 _ _ (by omega)]; exact f3 _ _ (by omega)
            · subst hcl' hst'
              rw [hs] at M5
              obtain ⟨y0, y1, y2, -⟩ := M5
              have g : ∀ x, q * 7 ≤ x → x ≤ q * 7 + 5 → x ≠ q * 7 + 1 → m6 134 x = m5 134 x := fun x _ _ _ => f6 _ _ (by omega)
              rw [hs] at A5
              refine ⟨?_, ?_, trivial⟩
              · rw [hst, hx]
                simp only []
                rw [show 7 * q = q * 7 by omega]
                refine ⟨?_, t6, ?_, ?_, ?_, ?_, ?_⟩
                · rw [g _ (by omega) (by omega) (by omega), f5 _ _ (by omega), f4 _ _ (by omega)]; exact e0
                · rw [g _ (by omega) (by omega) (by omega)]; exact y0
                · rw [g _ (by omega) (by omega) (by omega), show q * 7 + 3 = q * 7 + 2 + 1 by omega]; exact y1
                · rw [g _ (by omega) (by omega) (by omega), show q * 7 + 4 = q * 7 + 2 + 1 + 1 by omega]; exact y2
                · rw [g _ (by omega) (by omega) (by omega), e5, hsl]; omega
                · rw [t7]; omega
              · rw [hx]
                show pz_at (m6 132) z (s0.1 ++ s1.1 ++ s2.1 ++ s.1)
                have A5' : pz_at (m6 132) z (s0.1 ++ s1.1 ++ s2.1) := by
                  simp only [sg_st, List.append_nil] at A5
                  rw [List.append_assoc]
                  refine pz_at_of A5 (fun x x0 x1 => ?_)
                  simp only [List.length_append] at x1
                  exact f6 _ _ (by omega)
                refine pz_at_app.mpr ⟨A5', ?_⟩
                simp only [List.length_append]
                rw [show z + ((s0.1.length + s1.1.length + s2.1.length : Nat) : Int) = z + sg_len r.2.2 by rw [hsl]; omega]
                exact A6
          · refine k0 e (Or.inl ⟨cq, by rw [hcl]; exact he⟩) m6 (fun o k ho => ?_) q6 E6
            rw [F6 o k (by omega), f5 o k (by omega), f4 o k (by omega)]; exact f3 o k (by omega)
        · refine ⟨fun y => absurd rfl y, fun _ => ?_⟩
          exact k0 e (Or.inl ⟨cq, w1 e he⟩) m5 (fun o k ho => by rw [F5 o k (by omega), f4 o k (by omega)]; exact f3 o k (by omega)) (rk_of q4 (F5 _ _ (by omega)) (F5 _ _ (by omega))) E5
      unfold M_X5_sums M_X5_sums_J1 M_X5_sums_J2
      rcases hkw with ⟨-, -, rfl, rfl⟩ | ⟨-, -, rfl, rfl⟩ | ⟨-, -, rfl, rfl⟩ | ⟨-, -, rfl, rfl⟩ | ⟨-, -, rfl, rfl⟩
      · exact ⟨fun _ => ⟨fun _ => go, fun y => absurd rfl y⟩, fun y => absurd (by decide) y⟩
      · exact ⟨fun _ => ⟨fun y => absurd y (by decide), fun _ => ⟨fun y => absurd rfl y, fun _ => go⟩⟩, fun y => absurd (by decide) y⟩
      · exact ⟨fun _ => ⟨fun y => absurd y (by decide), fun _ => ⟨fun _ => go, fun y => absurd (by decide) y⟩⟩, fun y => absurd (by decide) y⟩
      · exact ⟨fun y => absurd rfl y, fun _ => go⟩
      · exact ⟨fun _ => ⟨fun y => absurd y (by decide), fun _ => ⟨fun _ => go, fun y => absurd (by decide) y⟩⟩, fun y => absurd (by decide) y⟩
    · rw [if_neg (by omega)]
      refine ⟨fun y => absurd rfl y, fun _ => ?_⟩
      exact cd_fail S (fun m' F' E' => k0 i (Or.inr ⟨by omega, rfl⟩) m' (ck_of F') (rk_of hk (F' _ _ (by omega)) (F' _ _ (by omega))) E')
  · refine ⟨fun y => absurd rfl y, fun _ => ⟨fun y => absurd rfl y, fun _ => ?_⟩⟩
    refine cd_fail S (fun m' F' E' => k0 i ?_ m' (ck_of F') (rk_of hk (F' _ _ (by omega)) (F' _ _ (by omega))) E')
    by_cases c : q < 12
    · exact Or.inl ⟨c, hno _⟩
    · exact Or.inr ⟨by omega, rfl⟩
end CRD
