/-! THE ROW's reader follows the parser: TESTS. -/
section MDT
variable {m : am_M} {B : Int → Int} {n od : Int}
theorem md_bothOf {lim d : Int} {P : Int → Int → pz_R} {R : Nat → am_PT} (H : md_H m B n od) (hP : md_P m B n P (R 2) d) (hok : pz_ok lim pz_bool (tz_N B n) P) : md_P m B n (pz_lchain 6 3 P (tz_c B n)) (N_X12_readBoth R) d := by
  have bad : ∀ (C : am_M → Prop) (t l b : Int) (K : am_KK), b ≠ -1 → K 0 (md_st m t l b) → M_X12_readBoth_L1B R 168 d C K (md_st m t l b) := by
    intro C t l b K hb hK
    unfold M_X12_readBoth_L1B
    rw [mtakes0_b hb]
    exact ⟨fun _ => hK, fun y => absurd rfl y⟩
  have badL : ∀ (t l b : Int) (K : am_KK), b ≠ -1 → K 0 (md_st m t l b) → M_X12_readBoth_L1 R 168 d K (md_st m t l b) := by
    intro t l b K hb hK
    unfold M_X12_readBoth_L1
    refine ⟨fun j m1 => m1 = md_st m t l b, ⟨0, rfl⟩, ?_⟩
    rintro j m1 rfl
    exact bad _ t l b K hb hK
  constructor
  · intro i l K hi hiN hl h50 k1 k0
    refine ⟨am_ob168, ?_⟩
    unfold M_X12_readBoth
    unfold pz_lchain at k1 k0
    refine hP.1 i l _ hi hiN hl h50 (fun r hr => ?_) (fun e he t l' => ?_)
    · rw [hr] at k1 k0
      simp only [pz_bd] at k1 k0
      have ho := ((hok i l hi hiN hl h50).2 r hr).1
      unfold M_X12_readBoth_L1
      refine md_loop (go := fun x => x = 6) (L := fun C K m => M_X12_readBoth_L1B R 168 d C K m) (F := pz_lloop 6 3 P (tz_c B n)) H hP hok (by decide) (fun _ _ _ _ => rfl) (fun k i l st v hg => ⟨fun r => (st ++ [3 * 2048 + (r.2.2.1.length : Int)] ++ r.2.2.1, pz_lj 3 v r.2.2.2), by rw [pz_lloop, if_pos hg]⟩) (fun k i l st v hg => by rw [pz_lloop, if_neg hg]) (fun C i l h0 hN q1 q2 => ?_) (fun C t l b hb hK => bad C t l b K hb hK) (by omega) (by omega) rfl k1 k0
      unfold M_X12_readBoth_L1B
      rw [mtakes0 H h0 hN]
      by_cases c : tz_c B n i = 6
      · rw [if_pos c]
        exact ⟨fun y => absurd y (by decide), fun _ => q2 c⟩
      · rw [if_neg c]
        exact ⟨fun _ => q1 c, fun y => absurd rfl y⟩
    · rw [he] at k0
      exact badL t l' _ K (md_pe H e) (k0 e rfl t l')
  · intro t l b K hb hK
    refine ⟨am_ob168, ?_⟩
    unfold M_X12_readBoth
    exact hP.2 t l b _ hb (badL t l b K hb hK)
theorem md_testOf {lim d : Int} {P : Int → Int → pz_R} {R : Nat → am_PT} (H : md_H m B n od) (hP : md_P m B n P (R 1) d) (hok : pz_ok lim pz_bool (tz_N B n) P) : md_P m B n (pz_lchain 5 4 P (tz_c B n)) (N_X12_readTest R) d := by
  have bad : ∀ (C : am_M → Prop) (t l b : Int) (K : am_KK), b ≠ -1 → K 0 (md_st m t l b) → M_X12_readTest_L1B R 168 d C K (md_st m t l b) := by
    intro C t l b K hb hK
    unfold M_X12_readTest_L1B
    rw [mtakes0_b hb]
    exact ⟨fun _ => hK, fun y => absurd rfl y⟩
  have badL : ∀ (t l b : Int) (K : am_KK), b ≠ -1 → K 0 (md_st m t l b) → M_X12_readTest_L1 R 168 d K (md_st m t l b) := by
    intro t l b K hb hK
    unfold M_X12_readTest_L1
    refine ⟨fun j m1 => m1 = md_st m t l b, ⟨0, rfl⟩, ?_⟩
    rintro j m1 rfl
    exact bad _ t l b K hb hK
  constructor
  · intro i l K hi hiN hl h50 k1 k0
    refine ⟨am_ob168, ?_⟩
    unfold M_X12_readTest
    unfold pz_lchain at k1 k0
    refine hP.1 i l _ hi hiN hl h50 (fun r hr => ?_) (fun e he t l' => ?_)
    · rw [hr] at k1 k0
      simp only [pz_bd] at k1 k0
      have ho := ((hok i l hi hiN hl h50).2 r hr).1
      unfold M_X12_readTest_L1
      refine md_loop (go := fun x => x = 5) (L := fun C K m => M_X12_readTest_L1B R 168 d C K m) (F := pz_lloop 5 4 P (tz_c B n)) H hP hok (by decide) (fun _ _ _ _ => rfl) (fun k i l st v hg => ⟨fun r => (st ++ [4 * 2048 + (r.2.2.1.length : Int)] ++ r.2.2.1, pz_lj 4 v r.2.2.2), by rw [pz_lloop, if_pos hg]⟩) (fun k i l st v hg => by rw [pz_lloop, if_neg hg]) (fun C i l h0 hN q1 q2 => ?_) (fun C t l b hb hK => bad C t l b K hb hK) (by omega) (by omega) rfl k1 k0
      unfold M_X12_readTest_L1B
      rw [mtakes0 H h0 hN]
      by_cases c : tz_c B n i = 5
      · rw [if_pos c]
        exact ⟨fun y => absurd y (by decide), fun _ => q2 c⟩
      · rw [if_neg c]
        exact ⟨fun _ => q1 c, fun y => absurd rfl y⟩
    · rw [he] at k0
      exact badL t l' _ K (md_pe H e) (k0 e rfl t l')
  · intro t l b K hb hK
    refine ⟨am_ob168, ?_⟩
    unfold M_X12_readTest
    exact hP.2 t l b _ hb (badL t l b K hb hK)
theorem md_plainOf {lim d : Int} {k : Nat} (H : md_H m B n od) (hlim : lim = if od = 0 then 8 else 24) {T : Option (Int → Int → pz_R)} {R : Nat → am_PT} (hk : k ≤ 8) (hd : d = 8 - (k : Int)) (hT : ∀ P, T = some P → d < 8 ∧ pz_ok lim pz_bool (tz_N B n) P ∧ md_P m B n P (R 0) (d + 1)) (hT0 : T = none → d = 8) : md_P m B n (pz_plain (tz_c B n) (pz_sum od (tz_c B n) (tz_v B n) k) T) (N_X12_readPlain R) d := by
  obtain ⟨hN, h400, hv⟩ := md_n H
  have hsum : md_P m B n (pz_sum od (tz_c B n) (tz_v B n) k) (R_X12_readSum 301 0) d := by rw [hd]; exact md_sum_ok H hlim k 301 hk (by omega)
  have hso := pz_sum_ok (lim := lim) (c := tz_c B n) (v := tz_v B n) hN hv H.2.1 hlim k
  constructor
  · intro i l K hi hiN hl h50 k1 k0
    refine ⟨am_ob168, ?_⟩
    have hno := pz_nots_at (c := tz_c B n) 400 i
    have hnl := pz_nots_le (c := tz_c B n) hN 400 i hiN
    unfold pz_plain at k1 k0
    generalize hq : pz_nots (tz_c B n) 400 i = q at *
    -- whatever "not" stands ahead
    have g1 : ∀ r, pz_pos (tz_c B n) (pz_sum od (tz_c B n) (tz_v B n) k) T (i + q) l = .inr r → K 0 (md_st m r.1 r.2.1 (-1)) := fun r hr => by
      rw [hr] at k1
      simp only [pz_bd] at k1
      by_cases c : q % 2 = 1
      · rw [if_pos c] at k1; exact k1 (r.1, r.2.1, r.2.2.1 ++ [4096], pz_not r.2.2.2) rfl
      · rw [if_neg c] at k1; exact k1 _ rfl
    have g0 : ∀ e, pz_pos (tz_c B n) (pz_sum od (tz_c B n) (tz_v B n) k) T (i + q) l = .inl e → ∀ t l', K 0 (md_st m t l' (tz_p B n e)) := fun e he t l' => by
      rw [he] at k0
      exact k0 e rfl t l'
    clear k1 k0
    unfold pz_pos at g1 g0
    have hq4 : q ≤ 400 := by omega
    have c7 : tz_c B n (i + q) ≠ 7 := by
      rcases hno.2.2 with h | h
      · exact h
      · intro z
        have : i + q = tz_N B n := by omega
        rw [this, hN] at z
        exact absurd z (by decide)
    -- behind them
    have body : ∀ C : Int → am_M → Prop, M_X12_readPlain_L1B R 168 d 0 C K (md_st m (i + q) l (-1)) := by
      intro C
      have r := md_row (l := l) (b := -1) H (show 0 ≤ i + q by omega) hnl.2
      unfold M_X12_readPlain_L1B
      refine ⟨fun _ => ?_, fun y => absurd rfl y⟩
      rw [mfine, if_pos rfl]
      refine ⟨fun _ => ?_, fun y => absurd (by decide) y⟩
      simp only [am_rf_all, am_ln_all, md_19, r.1, forall_eq]
      refine ⟨⟨by omega, by omega⟩, ?_⟩
      rw [sgn_40]
      refine ⟨fun c => ?_, fun c => ?_⟩
      · rw [if_neg c] at g1 g0
        unfold pz_comp at g1 g0
        refine hsum.1 (i + q) l _ (by omega) hnl.2 hl h50 (fun a ha => ?_) (fun e he t l' => ?_)
        · rw [ha] at g1 g0
          simp only [pz_bd] at g1 g0
          have ho := ((hso (i + q) l (by omega) hnl.2 hl h50).2 a ha).1
          have J2 : ∀ h, pz_cmp (tz_c B n a.1) = some h → a.1 < tz_N B n → M_X12_readPlain_J2 R 168 d K (md_st m (a.1 + 1) a.2.1 (-1)) := by
            intro h hh hlt
            rw [hh] at g1 g0
            simp only [] at g1 g0
            unfold M_X12_readPlain_J2
            refine hsum.1 (a.1 + 1) a.2.1 _ (by omega) (by omega) (by omega) (by omega) (fun b hb => ?_) (fun e he t l' => ?_)
            · rw [hb] at g1
              exact g1 (b.1, b.2.1, a.2.2.1 ++ b.2.2.1 ++ [h * 2048], pz_jn h a.2.2.2 b.2.2.2) rfl
            · rw [he] at g0
              exact g0 e rfl t l'
          rw [sgn_60, mtakes0 H (by omega) ho.2.1]
          by_cases c1 : tz_c B n a.1 = 160
          · rw [if_pos c1]
            exact ⟨fun _ => J2 5 (by unfold pz_cmp; rw [if_pos c1]) (md_lt H ho.2.1 (by rw [c1]; decide)), fun y => absurd (by decide) y⟩
          rw [if_neg c1]
          refine ⟨fun y => absurd rfl y, fun _ => ?_⟩
          rw [sgn_62, mtakes0 H (by omega) ho.2.1]
          by_cases c2 : tz_c B n a.1 = 162
          · rw [if_pos c2]
            exact ⟨fun _ => J2 6 (by unfold pz_cmp; rw [if_neg c1, if_pos c2]) (md_lt H ho.2.1 (by rw [c2]; decide)), fun y => absurd (by decide) y⟩
          rw [if_neg c2]
          refine ⟨fun y => absurd rfl y, fun _ => ?_⟩
          rw [sgn_61, mmust H (by omega) ho.2.1]
          by_cases c3 : tz_c B n a.1 = 161
          · rw [if_pos c3]
            exact J2 7 (by unfold pz_cmp; rw [if_neg c1, if_neg c2, if_pos c3]) (md_lt H ho.2.1 (by rw [c3]; decide))
          · rw [if_neg c3]
            have hcm : pz_cmp (tz_c B n a.1) = none := by unfold pz_cmp; rw [if_neg c1, if_neg c2, if_neg c3]
            rw [hcm] at g0
            unfold M_X12_readPlain_J2
            exact hsum.2 _ _ _ _ (md_pe H a.1) (g0 _ rfl _ _)
        · rw [he] at g0
          have he1 := md_pe H e
          have hb := g0 e rfl t l'
          rw [sgn_60, mtakes0_b he1]
          refine ⟨fun y => absurd rfl y, fun _ => ?_⟩
          rw [sgn_62, mtakes0_b he1]
          refine ⟨fun y => absurd rfl y, fun _ => ?_⟩
          rw [sgn_61, mmust_b he1]
          unfold M_X12_readPlain_J2
          exact hsum.2 _ _ _ _ he1 hb
      · have c := Classical.not_not.mp c
        rw [if_pos c] at g1 g0
        have hlt := md_lt H hnl.2 (by rw [c]; decide)
        unfold M_X12_readPlain_J1
        refine ⟨fun c8 => ?_, fun c8 => ?_⟩
        · rw [mfine, if_pos rfl]
          refine ⟨fun _ => ?_, fun y => absurd (by decide) y⟩
          simp only [md_19, md_s19, forall_eq]
          rw [w32_of (z := i + q + 1) (by omega) (by omega), w32_of (z := d + 1) (by omega) (by omega)]
          cases hTT : T with
          | none => have := hT0 hTT; exact absurd this c8
          | some P =>
            obtain ⟨-, hok, hP⟩ := hT P hTT
            subst hTT
            unfold pz_in at g1 g0
            simp only [] at g1 g0
            refine hP.1 (i + q + 1) l _ (by omega) (by omega) hl h50 (fun a ha => ?_) (fun e he t l' => ?_)
            · rw [ha] at g1 g0
              simp only [pz_bd] at g1 g0
              have ho := ((hok (i + q + 1) l (by omega) (by omega) hl h50).2 a ha).1
              rw [sgn_41, mmust H (by omega) (by omega)]
              by_cases c3 : tz_c B n a.1 = 141
              · rw [if_pos c3] at g1
                rw [if_pos c3]
                exact g1 (a.1 + 1, a.2) rfl
              · rw [if_neg c3] at g0
                rw [if_neg c3]
                exact g0 _ rfl _ _
            · rw [he] at g0
              rw [sgn_41, mmust_b (md_pe H e)]
              exact g0 e rfl t l'
        · rw [mfaults H (by omega) hnl.2, mfine, if_neg (md_pe H (i + q))]
          refine ⟨fun y => absurd rfl y, fun _ => ?_⟩
          cases hTT : T with
          | none => subst hTT; exact g0 (i + q) rfl _ _
          | some P => have := (hT P hTT).1; exact absurd (Classical.not_not.mp c8) (by omega)
    unfold M_X12_readPlain M_X12_readPlain_L1
    refine ⟨fun j v2 m1 => (v2 = 1 ∧ ∃ x, 0 ≤ x ∧ x ≤ q ∧ m1 = md_st m (i + x) l (-1) ∧ j = (q - x).toNat + 1) ∨ (v2 = 0 ∧ m1 = md_st m (i + q) l (-1) ∧ j = 0), ⟨_, Or.inl ⟨rfl, 0, by omega, by omega, by rw [Int.add_zero], rfl⟩⟩, ?_⟩
    rintro j v2 m1 (⟨rfl, x, x0, x1, rfl, rfl⟩ | ⟨rfl, rfl, rfl⟩)
    · unfold M_X12_readPlain_L1B
      refine ⟨fun y => absurd y (by decide), fun _ => ?_⟩
      rw [mtakes0 H (by omega) (by omega)]
      by_cases c : tz_c B n (i + x) = 7
      · rw [if_pos c]
        have : x < q := by
          by_cases e : x = q
          · rw [e] at c; exact absurd c c7
          · omega
        exact ⟨(q - (x + 1)).toNat + 1, by omega, Or.inl ⟨rfl, x + 1, by omega, by omega, by rw [show i + (x + 1) = i + x + 1 by omega], rfl⟩⟩
      · rw [if_neg c]
        have : x = q := by
          by_cases e : x < q
          · exact absurd (hno.2.1 x x0 e) c
          · omega
        subst this
        exact ⟨0, by omega, Or.inr ⟨rfl, rfl, rfl⟩⟩
    · exact body _
  · intro t l b K hb hK
    refine ⟨am_ob168, ?_⟩
    unfold M_X12_readPlain M_X12_readPlain_L1
    refine ⟨fun j v2 m1 => m1 = md_st m t l b ∧ (v2 = 1 ∧ j = 1 ∨ v2 = 0 ∧ j = 0), ⟨1, rfl, Or.inl ⟨rfl, rfl⟩⟩, ?_⟩
    rintro j v2 m1 ⟨rfl, ⟨rfl, rfl⟩ | ⟨rfl, rfl⟩⟩
    · unfold M_X12_readPlain_L1B
      refine ⟨fun y => absurd y (by decide), fun _ => ?_⟩
      rw [mtakes0_b hb]
      exact ⟨0, by omega, rfl, Or.inr ⟨rfl, rfl⟩⟩
    · unfold M_X12_readPlain_L1B
      refine ⟨fun _ => ?_, fun y => absurd rfl y⟩
      rw [mfine, if_neg hb]
      exact ⟨fun y => absurd rfl y, fun _ => hK⟩
theorem md_test_ok {lim : Int} (H : md_H m B n od) (hlim : lim = if od = 0 then 8 else 24) : ∀ (k F : Nat), k ≤ 8 → 3 * (k + 1) ≤ F → md_P m B n (pz_test od (tz_c B n) (tz_v B n) k) (R_X12_readTest F 0) (8 - k) := by
  obtain ⟨hN, h400, hv⟩ := md_n H
  have hod := H.2.1
  intro k
  induction k with
  | zero =>
    intro F _ hF
    obtain ⟨f, rfl⟩ : ∃ f, F = f + 3 := ⟨F - 3, by omega⟩
    have hso := pz_sum_ok (lim := lim) (c := tz_c B n) (v := tz_v B n) hN hv hod hlim 0
    have hpl := pz_plain_ok (T := none) hN hso (fun P h => by cases h)
    have hbo := pz_both_ok (T := none) hN (by omega) hso (fun P h => by cases h)
    exact md_testOf (R := R_X12_readTest (f + 2)) H (md_bothOf (R := R_X12_readTest (f + 1)) H (md_plainOf (lim := lim) (R := R_X12_readTest f) H hlim (by omega) rfl (fun P h => by cases h) (fun _ => by omega)) hpl) hbo
  | succ k ih =>
    intro F hk hF
    obtain ⟨f, rfl⟩ : ∃ f, F = f + 3 := ⟨F - 3, by omega⟩
    have hso := pz_sum_ok (lim := lim) (c := tz_c B n) (v := tz_v B n) hN hv hod hlim (k + 1)
    have hto := pz_test_ok (lim := lim) (c := tz_c B n) (v := tz_v B n) hN (by omega) hv hod hlim k
    have hpl := pz_plain_ok (T := some (pz_test od (tz_c B n) (tz_v B n) k)) hN hso (fun P h => by cases h; exact hto)
    have hbo := pz_both_ok (T := some (pz_test od (tz_c B n) (tz_v B n) k)) hN (by omega) hso (fun P h => by cases h; exact hto)
    have hi := ih f (by omega) (by omega)
    refine md_testOf (R := R_X12_readTest (f + 2)) H (md_bothOf (R := R_X12_readTest (f + 1)) H (md_plainOf (lim := lim) (R := R_X12_readTest f) H hlim hk rfl (fun P h => ?_) (fun h => by cases h)) hpl) hbo
    cases h
    exact ⟨by omega, hto, by rw [show (8 : Int) - ((k + 1 : Nat) : Int) + 1 = 8 - (k : Int) by omega]; exact hi⟩
end MDT
