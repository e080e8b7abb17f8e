/-! THE READER follows the parser: TESTS, joined. -/
section CDV
variable {m : am_M} {B : Int → Int} {n od : Int}
theorem cd_skip {z p : Int} (h : m 131 1 = z) (hp : 0 ≤ p ∧ p < z) (hz : z ≤ 400) (K : am_KK) : M_X4_skipFrom 131 p K m ↔ K 0 (am_st m 132 p (w32 (m 132 p + (z - p - 1)))) := by
  unfold M_X4_skipFrom
  simp only [am_rf_all, am_ln_all, forall_eq, h]
  rw [w32_of (z := z - p) (by omega) (by omega), w32_of (z := z - p - 1) (by omega) (by omega)]
  have h1 : ¬ p < 0 := by omega
  have h2 : ¬ z ≤ p := by omega
  have h3 : p < 400 := by omega
  simp [h1, h2, h3, hp.1]
theorem cd_lloop {lim d : Int} {Q : am_Val → Prop} {op how t : Int} {P : Int → Int → pz_R} {X : am_PT} {L : Int → (Int → am_M → Prop) → am_KK → am_M → Prop} {K : am_KK} (hP : cd_P B n od P X d) (hok : pz_ok lim Q (tz_N B n) P) (h00 : op ≠ 0) (hh : how = 3 ∨ how = 4) (hQ : ∀ d e, Q d → Q e → Q (pz_lj how d e)) (ht : 0 ≤ t ∧ t < 38) (hq : tz_cd.getD t.toNat 0 = op)
    (hL : ∀ v2 (C : Int → am_M → Prop) m, ((400 ≤ v2) → K 1 m) ∧ (¬ (400 ≤ v2) → M_X5_is 135 t (fun r_1 m_2 => ((r_1 = 0) → K 1 m_2) ∧ (¬ (r_1 = 0) → ∀ v3_4 : Int, v3_4 = m_2 (am_rfv 135 1) 1 → M_X4_add (am_rfv 135 1) (how * 2048) (fun _ m_6 => M_X5_advance 135 (fun _ m_8 => X [135, d] (fun r_9 m_10 => ((r_9 ≠ 0) → M_X4_skipFrom (am_rfv 135 1) v3_4 (fun _ m_13 => ∀ v2_14 : Int, v2_14 = w32 (v2 + 1) → C v2_14 m_13) m_10) ∧ (¬ (r_9 ≠ 0) → K 0 m_10)) m_8) m_6) m_2)) m) → L v2 C K m)
    {m0 : am_M} {i0 l0 z0 : Int} {RES : pz_R} (hi0 : 0 ≤ i0) (hl0 : 0 ≤ l0) (hz0 : 0 ≤ z0 ∧ z0 ≤ i0) {a : Int × Int × List Int × am_Val} (hpost : pz_post lim Q (tz_N B n) i0 l0 a) (hres : pz_lloop op how P (tz_c B n) 400 a.1 a.2.1 a.2.2.1 a.2.2.2 = RES) (hF : cd_F m0 m) (hS : cd_S m B n od a.1 a.2.1 (z0 + (a.2.2.1.length : Int))) (hA : pz_at (m 132) z0 a.2.2.1) (hE : ∀ x, x < z0 → m 132 x = m0 132 x)
    (k1 : ∀ r, RES = .inr r → ∀ m', cd_F m0 m' → cd_S m' B n od r.1 r.2.1 (z0 + (r.2.2.1.length : Int)) → pz_at (m' 132) z0 r.2.2.1 → (∀ x, x < z0 → m' 132 x = m0 132 x) → K 1 m')
    (k0 : ∀ e, RES = .inl e → ∀ m', cd_F m0 m' → m' 135 6 = tz_p B n e → K 0 m') :
    ∃ I : Nat → Int → am_M → Prop, (∃ j, I j 0 m) ∧ ∀ j v2 m, I j v2 m → L v2 (fun v2' m' => ∃ j', j' < j ∧ I j' v2' m') K m := by
  obtain ⟨hN, h400, hv⟩ := cd_n hS.1
  refine ⟨fun j v2 m1 => (0 ≤ v2 ∧ v2 ≤ 400) ∧ j = (400 - v2).toNat ∧ ∃ a : Int × Int × List Int × am_Val, pz_post lim Q (tz_N B n) i0 l0 a ∧ pz_lloop op how P (tz_c B n) (400 - v2).toNat a.1 a.2.1 a.2.2.1 a.2.2.2 = RES ∧ cd_F m0 m1 ∧ cd_S m1 B n od a.1 a.2.1 (z0 + (a.2.2.1.length : Int)) ∧ pz_at (m1 132) z0 a.2.2.1 ∧ ∀ x, x < z0 → m1 132 x = m0 132 x, ⟨_, by omega, rfl, a, hpost, hres, hF, hS, hA, hE⟩, ?_⟩
  rintro j v2 m1 ⟨b, rfl, a, hp, e, F1, S1, A1, E1⟩
  obtain ⟨p1, p2, p3, p4, p5⟩ := id hp
  refine hL v2 _ m1 ⟨fun c => ?_, fun c => ?_⟩
  · rw [show (400 - v2).toNat = 0 by omega, pz_lloop] at e
    exact k1 _ e.symm m1 F1 S1 A1 E1
  · rw [show (400 - v2).toNat = (400 - (v2 + 1)).toNat + 1 by omega, pz_lloop] at e
    refine cd_is S1 ht hq (is_br (fun q => ?_) (fun q => ?_))
    · rw [if_neg q] at e
      exact k1 _ e.symm m1 F1 S1 A1 E1
    · rw [if_pos q] at e
      have hlt := cd_lt S1.1 p1.2.1 (by rw [q]; exact h00)
      intro p hpp
      rw [rf_135, S1.2.2.2.2.2.2] at hpp
      rw [rf_135, cd_add S1.2.2.2.2.2.2 (by omega)]
      have S2 := cd_S_add (x := how * 2048) S1
      have A2 : pz_at (am_st (am_st m1 132 (z0 + (a.2.2.1.length : Int)) (how * 2048)) 131 1 (z0 + (a.2.2.1.length : Int) + 1) 132) z0 (a.2.2.1 ++ [how * 2048]) := cd_at_add A1 rfl
      have E2 : ∀ x, x < z0 + (a.2.2.1.length : Int) → am_st (am_st m1 132 (z0 + (a.2.2.1.length : Int)) (how * 2048)) 131 1 (z0 + (a.2.2.1.length : Int) + 1) 132 x = m1 132 x := fun x hx => by rw [am_st_ne _ (by omega), am_st_ne _ (by omega)]
      have V2 : am_st (am_st m1 132 (z0 + (a.2.2.1.length : Int)) (how * 2048)) 131 1 (z0 + (a.2.2.1.length : Int) + 1) 132 (z0 + (a.2.2.1.length : Int)) = how * 2048 := by rw [am_st_ne _ (by omega), am_st_same]
      have F2 : cd_F m1 (am_st (am_st m1 132 (z0 + (a.2.2.1.length : Int)) (how * 2048)) 131 1 (z0 + (a.2.2.1.length : Int) + 1)) := cd_F_add
      generalize am_st (am_st m1 132 (z0 + (a.2.2.1.length : Int)) (how * 2048)) 131 1 (z0 + (a.2.2.1.length : Int) + 1) = m2 at *
      refine cd_adv S2 (by omega) (fun m3 f3 S3 => ?_)
      refine hP m3 (a.1 + 1) a.2.1 (z0 + (a.2.2.1.length : Int) + 1) _ S3 (by omega) (by omega) (by omega) (by omega) (by omega) (by omega) (fun r hr m4 F4 S4 A4 E4 => ?_) (fun f hf m4 F4 E4 => ?_)
      · refine ⟨fun _ => ?_, fun y => absurd (by decide) y⟩
        rw [hr] at e
        simp only [pz_bd] at e
        have ho := (hok (a.1 + 1) a.2.1 (by omega) (by omega) (by omega) (by omega)).2 r hr
        obtain ⟨q1, q2, q3, q4, q5⟩ := ho
        rw [hpp, cd_skip S4.2.2.2.2.2.2 (by omega) (by omega)]
        have ev : m4 132 (z0 + (a.2.2.1.length : Int)) = how * 2048 := by rw [E4 _ (by omega), f3 _ _ (by omega)]; exact V2
        rw [ev, show z0 + (a.2.2.1.length : Int) + 1 + (r.2.2.1.length : Int) - (z0 + (a.2.2.1.length : Int)) - 1 = (r.2.2.1.length : Int) by omega, w32_of (z := how * 2048 + (r.2.2.1.length : Int)) (by omega) (by omega)]
        intro v hv2
        rw [w32_of (by omega) (by omega)] at hv2
        subst hv2
        refine ⟨_, by omega, by omega, rfl, (r.1, r.2.1, a.2.2.1 ++ [how * 2048 + (r.2.2.1.length : Int)] ++ r.2.2.1, pz_lj how a.2.2.2 r.2.2.2), ?_, e, ?_, ?_, ?_, fun x hx => ?_⟩
        · refine ⟨⟨by simp only []; omega, by simp only []; omega, by simp only []; omega, by simp only []; omega⟩, ?_, ?_, hQ _ _ p4 q4, ?_⟩
          · simp only [List.length_append, List.length_cons, List.length_nil]; omega
          · have := pz_run_lj (by omega) (by omega) hh (by omega) p3 q3
            simp only []
            rwa [show a.2.1 - l0 + (r.2.1 - a.2.1) = r.2.1 - l0 by omega] at this
          · intro x hx
            simp only [List.mem_append, List.mem_cons, List.not_mem_nil, or_false] at hx
            rcases hx with (hx | hx) | hx
            · exact p5 x hx
            · omega
            · exact q5 x hx
        · exact cd_F_t (cd_F_t F1 F2) (cd_F_t (fr_34 f3) (cd_F_t F4 (fun o k ho => am_st_ne _ (by omega))))
        · have := cd_S_of S4 (m' := am_st m4 132 (z0 + (a.2.2.1.length : Int)) (how * 2048 + (r.2.2.1.length : Int))) (fun o k ho => am_st_ne _ (by omega))
          simp only [List.length_append, List.length_cons, List.length_nil]
          rw [show z0 + (((a.2.2.1.length + (0 + 1) + r.2.2.1.length : Nat)) : Int) = z0 + (a.2.2.1.length : Int) + 1 + (r.2.2.1.length : Int) by omega]
          exact this
        · show pz_at (am_st m4 132 (z0 + (a.2.2.1.length : Int)) (how * 2048 + (r.2.2.1.length : Int)) 132) z0 (a.2.2.1 ++ [how * 2048 + (r.2.2.1.length : Int)] ++ r.2.2.1)
          refine pz_at_app.mpr ⟨pz_at_app.mpr ⟨pz_at_of A1 (fun x x0 x1 => ?_), pz_at_one.mpr (am_st_same _ _ _ _)⟩, pz_at_of (f := m4 132) ?_ (fun x x0 x1 => ?_)⟩
          · rw [am_st_ne _ (by omega), E4 x (by omega), f3 _ _ (by omega)]; exact E2 x (by omega)
          · simp only [List.length_append, List.length_cons, List.length_nil]
            rw [show z0 + (((a.2.2.1.length + (0 + 1) : Nat)) : Int) = z0 + (a.2.2.1.length : Int) + 1 by omega]
            exact A4
          · simp only [List.length_append, List.length_cons, List.length_nil] at x0
            exact am_st_ne _ (by omega)
        · rw [am_st_ne _ (by omega), E4 x (by omega), f3 _ _ (by omega), E2 x (by omega)]
          exact E1 x hx
      · refine ⟨fun y => absurd rfl y, fun _ => ?_⟩
        rw [hf] at e
        simp only [pz_bd] at e
        exact k0 f e.symm m4 (cd_F_t (cd_F_t F1 F2) (cd_F_t (fr_34 f3) F4)) E4
theorem cd_bothOf {lim d : Int} {P : Int → Int → pz_R} {R : Nat → am_PT} (hP : cd_P B n od P (R 2) d) (hok : pz_ok lim pz_bool (tz_N B n) P) : cd_P B n od (pz_lchain 6 3 P (tz_c B n)) (N_X5_both R) d := by
  intro m i l z K S hi hiN hl h50 hz hzi k1 k0
  refine ⟨am_ob135, ?_⟩
  unfold M_X5_both
  refine hP m i l z _ S hi hiN hl h50 hz hzi (fun a ha m1 F1 S1 A1 E1 => ?_) (fun e he m1 F1 E1 => ?_)
  · refine ⟨fun _ => ?_, fun y => absurd (by decide) y⟩
    unfold pz_lchain at k1 k0
    rw [ha] at k1 k0
    simp only [pz_bd] at k1 k0
    unfold M_X5_both_L1
    exact cd_lloop (t := 35) (L := fun v2 C K m => M_X5_both_L1B R 135 d v2 C K m) hP hok (by decide) (Or.inl rfl) (fun d e => pz_bool_lj) (by omega) rfl (fun v2 C m h => h) hi hl ⟨hz, hzi⟩ ((hok i l hi hiN hl h50).2 a ha) rfl F1 S1 A1 E1 k1 k0
  · refine ⟨fun y => absurd rfl y, fun _ => k0 e ?_ m1 F1 E1⟩
    unfold pz_lchain
    rw [he]
    rfl
theorem cd_testOf {lim d : Int} {P : Int → Int → pz_R} {R : Nat → am_PT} (hP : cd_P B n od P (R 1) d) (hok : pz_ok lim pz_bool (tz_N B n) P) : cd_P B n od (pz_lchain 5 4 P (tz_c B n)) (N_X5_test R) d := by
  intro m i l z K S hi hiN hl h50 hz hzi k1 k0
  refine ⟨am_ob135, ?_⟩
  unfold M_X5_test
  refine hP m i l z _ S hi hiN hl h50 hz hzi (fun a ha m1 F1 S1 A1 E1 => ?_) (fun e he m1 F1 E1 => ?_)
  · refine ⟨fun _ => ?_, fun y => absurd (by decide) y⟩
    unfold pz_lchain at k1 k0
    rw [ha] at k1 k0
    simp only [pz_bd] at k1 k0
    unfold M_X5_test_L1
    exact cd_lloop (t := 36) (L := fun v2 C K m => M_X5_test_L1B R 135 d v2 C K m) hP hok (by decide) (Or.inr rfl) (fun d e => pz_bool_lj) (by omega) rfl (fun v2 C m h => h) hi hl ⟨hz, hzi⟩ ((hok i l hi hiN hl h50).2 a ha) rfl F1 S1 A1 E1 k1 k0
  · refine ⟨fun y => absurd rfl y, fun _ => k0 e ?_ m1 F1 E1⟩
    unfold pz_lchain
    rw [he]
    rfl
theorem cd_plainOf {lim d : Int} {k : Nat} (hod : od = 0 ∨ od = 1) (hlim : lim = if od = 0 then 8 else 24) (H0 : rd_H m B n) {T : Option (Int → Int → pz_R)} {R : Nat → am_PT} (hk : k ≤ 8) (hd : d = 8 - (k : Int)) (hT : ∀ P, T = some P → d < 8 ∧ pz_ok lim pz_bool (tz_N B n) P ∧ cd_P B n od P (R 0) (d + 1)) (hT0 : T = none → d = 8) : cd_P B n od (pz_plain (tz_c B n) (pz_sum od (tz_c B n) (tz_v B n) k) T) (N_X5_plain R) d := by
  obtain ⟨hN, h400, hv⟩ := cd_n H0
  have hsum : cd_P B n od (pz_sum od (tz_c B n) (tz_v B n) k) (R_X5_sum 301 0) d := by rw [hd]; exact cd_sum_ok hod hlim H0 k 301 hk (by omega)
  have hso := pz_sum_ok (lim := lim) (c := tz_c B n) (v := tz_v B n) hN hv hod hlim k
  intro m i l z K S hi hiN hl h50 hz hzi k1 k0
  refine ⟨am_ob135, ?_⟩
  have hno := pz_nots_at (c := tz_c B n) 400 i
  have hnl := pz_nots_le (c := tz_c B n) hN 400 i hiN
  unfold pz_plain at k1 k0
  generalize hq : pz_nots (tz_c B n) 400 i = q at *
  -- the end, with its "not"
  have J3 : ∀ (m1 : am_M) (r : Int × Int × List Int × am_Val), cd_F m m1 → cd_S m1 B n od r.1 r.2.1 (z + (r.2.2.1.length : Int)) → pz_at (m1 132) z r.2.2.1 → (∀ x, x < z → m1 132 x = m 132 x) → (r.2.2.1.length : Int) ≤ r.1 - (i + q) → r.1 ≤ tz_N B n → (∀ r', (if q % 2 = 1 then (.inr (r.1, r.2.1, r.2.2.1 ++ [4096], pz_not r.2.2.2) : pz_R) else .inr r) = .inr r' → ∀ m', cd_F m m' → cd_S m' B n od r'.1 r'.2.1 (z + (r'.2.2.1.length : Int)) → pz_at (m' 132) z r'.2.2.1 → (∀ x, x < z → m' 132 x = m 132 x) → K 1 m') → M_X5_plain_J3 R 135 q K m1 := by
    intro m1 r F1 S1 A1 E1 hlen hrN hK
    unfold M_X5_plain_J3
    rw [Int.tmod_eq_emod_of_nonneg hno.1, w32_of (z := q % 2) (by omega) (by omega)]
    by_cases c : q % 2 = 1
    · rw [if_pos c] at hK
      refine ⟨fun y => absurd c y, fun _ => ?_⟩
      rw [rf_135, cd_add S1.2.2.2.2.2.2 (by omega)]
      refine hK _ rfl _ (cd_F_t F1 cd_F_add) ?_ (cd_at_add A1 rfl) (fun x hx => ?_)
      · have := cd_S_add (x := 4096) S1
        simp only [List.length_append, List.length_cons, List.length_nil]
        rw [show z + (((r.2.2.1.length + (0 + 1) : Nat)) : Int) = z + (r.2.2.1.length : Int) + 1 by omega]
        exact this
      · rw [am_st_ne _ (by omega), am_st_ne _ (by omega)]
        exact E1 x hx
    · rw [if_neg c] at hK
      exact ⟨fun _ => hK r rfl m1 F1 S1 A1 E1, fun y => absurd c y⟩
  have J1 : ∀ m1 : am_M, cd_F m m1 → cd_S m1 B n od (i + q) l z → (∀ x, x < z → m1 132 x = m 132 x) → M_X5_plain_J1 R 135 d q K m1 := by
    intro m1 F1 S1 E1
    unfold M_X5_plain_J1
    unfold pz_pos at k1 k0
    refine cd_is S1 (q := 140) (by omega) rfl (is_br (fun c => ?_) (fun c => ?_))
    · rw [if_neg c] at k1 k0
      unfold pz_comp at k1 k0
      refine hsum m1 (i + q) l z _ S1 (by omega) (by omega) hl h50 hz (by omega) (fun a ha m2 F2 S2 A2 E2 => ?_) (fun e he m2 F2 E2 => ?_)
      · rw [ha] at k1 k0
        simp only [pz_bd] at k1 k0
        refine ⟨fun _ => ?_, fun y => absurd (by decide) y⟩
        obtain ⟨a1, a2, a3, a4, a5⟩ := (hso (i + q) l (by omega) (by omega) hl h50).2 a ha
        -- the comparison
        have J2 : ∀ h : Int, (0 ≤ h ∧ h ≤ 12) → pz_cmp (tz_c B n a.1) = some h → a.1 < tz_N B n → M_X5_plain_J2 R 135 d q h K m2 := by
          intro h hh hcm hlt
          rw [hcm] at k1 k0
          simp only [] at k1 k0
          unfold M_X5_plain_J2
          refine ⟨fun _ => ?_, fun y => absurd (by omega) y⟩
          refine cd_adv S2 (by omega) (fun m3 f3 S3 => ?_)
          refine hsum m3 (a.1 + 1) a.2.1 _ _ S3 (by omega) (by omega) (by omega) (by omega) (by omega) (by omega) (fun b hb m4 F4 S4 A4 E4 => ?_) (fun e he m4 F4 E4 => ?_)
          · rw [hb] at k1 k0
            simp only [pz_bd] at k1 k0
            obtain ⟨b1, b2, b3, b4, b5⟩ := (hso (a.1 + 1) a.2.1 (by omega) (by omega) (by omega) (by omega)).2 b hb
            refine ⟨fun _ => ?_, fun y => absurd (by decide) y⟩
            rw [rf_135, cd_add S4.2.2.2.2.2.2 (by omega), w32_of (z := h * 2048) (by omega) (by omega)]
            refine J3 _ (b.1, b.2.1, a.2.2.1 ++ b.2.2.1 ++ [h * 2048], pz_jn h a.2.2.2 b.2.2.2) (cd_F_t F1 (cd_F_t F2 (cd_F_t (fr_34 f3) (cd_F_t F4 cd_F_add)))) ?_ ?_ (fun x hx => ?_) ?_ (by simp only []; omega) k1
            · have := cd_S_add (x := h * 2048) S4
              simp only [List.length_append, List.length_cons, List.length_nil]
              rw [show z + (((a.2.2.1.length + b.2.2.1.length + (0 + 1) : Nat)) : Int) = z + (a.2.2.1.length : Int) + (b.2.2.1.length : Int) + 1 by omega]
              exact this
            · show pz_at _ z (a.2.2.1 ++ b.2.2.1 ++ [h * 2048])
              refine cd_at_add (pz_at_app.mpr ⟨pz_at_of A2 (fun x x0 x1 => ?_), A4⟩) ?_
              · rw [E4 x (by omega)]; exact f3 _ _ (by omega)
              · simp only [List.length_append]; omega
            · rw [am_st_ne _ (by omega), am_st_ne _ (by omega), E4 x (by omega), f3 _ _ (by omega), E2 x hx]
              exact E1 x hx
            · simp only [List.length_append, List.length_cons, List.length_nil]; omega
          · rw [he] at k0
            simp only [pz_bd] at k0
            exact ⟨fun y => absurd rfl y, fun _ => k0 e rfl m4 (cd_F_t F1 (cd_F_t F2 (cd_F_t (fr_34 f3) F4))) E4⟩
        refine cd_is S2 (q := 160) (by omega) rfl (is_br (fun c1 => ?_) (fun c1 => ?_))
        rotate_left
        · exact J2 5 (by omega) (by unfold pz_cmp; rw [if_pos c1]) (cd_lt S2.1 (by omega) (by rw [c1]; decide))
        refine cd_is S2 (q := 162) (by omega) rfl (is_br (fun c2 => ?_) (fun c2 => ?_))
        rotate_left
        · exact J2 6 (by omega) (by unfold pz_cmp; rw [if_neg c1, if_pos c2]) (cd_lt S2.1 (by omega) (by rw [c2]; decide))
        refine cd_is S2 (q := 161) (by omega) rfl (is_br (fun c3 => ?_) (fun c3 => ?_))
        rotate_left
        · exact J2 7 (by omega) (by unfold pz_cmp; rw [if_neg c1, if_neg c2, if_pos c3]) (cd_lt S2.1 (by omega) (by rw [c3]; decide))
        have hcm : pz_cmp (tz_c B n a.1) = none := by unfold pz_cmp; rw [if_neg c1, if_neg c2, if_neg c3]
        rw [hcm] at k0
        simp only [] at k0
        unfold M_X5_plain_J2
        exact ⟨fun y => absurd rfl y, fun _ => cd_fail S2 (fun m' F' E' => k0 _ rfl m' (cd_F_t F1 (cd_F_t F2 F')) E')⟩
      · rw [he] at k0
        simp only [pz_bd] at k0
        exact ⟨fun y => absurd rfl y, fun _ => k0 e rfl m2 (cd_F_t F1 F2) E2⟩
    · rw [if_pos c] at k1 k0
      have hlt := cd_lt (i := i + q) S1.1 (by omega) (by rw [c]; decide)
      refine cd_open S1 (by omega) (fun d8 m2 f2 S2 => ?_) (fun d8 m2 F2 E2 => ?_)
      · refine ⟨fun y => absurd y (by decide), fun _ => ?_⟩
        cases hTT : T with
        | none => have := hT0 hTT; omega
        | some P =>
          obtain ⟨-, hok, hP⟩ := hT P hTT
          subst hTT
          unfold pz_in at k1 k0
          simp only [] at k1 k0
          rw [w32_of (by omega) (by omega)]
          refine hP m2 (i + q + 1) l z _ S2 (by omega) (by omega) hl h50 hz (by omega) (fun a ha m3 F3 S3 A3 E3 => ?_) (fun e he m3 F3 E3 => ?_)
          · rw [ha] at k1 k0
            simp only [pz_bd] at k1 k0
            obtain ⟨a1, a2, a3, a4, a5⟩ := (hok (i + q + 1) l (by omega) (by omega) hl h50).2 a ha
            refine ⟨fun y => absurd y (by decide), fun _ => ?_⟩
            refine cd_pass S3 (q := 141) (by omega) (by omega) rfl (fun c3 m4 f4 S4 => ?_) (fun c3 m4 F4 E4 => ?_)
            · rw [if_pos c3] at k1
              simp only [] at k1
              have := cd_lt S3.1 (by omega) (show tz_c B n a.1 ≠ 0 by rw [c3]; decide)
              refine ⟨fun _ => ?_, fun y => absurd (by decide) y⟩
              exact J3 m4 (a.1 + 1, a.2) (cd_F_t F1 (cd_F_t (fr_34 f2) (cd_F_t F3 (fr_34 f4)))) S4 (pz_at_of A3 (fun x _ _ => f4 _ _ (by omega))) (fun x hx => by rw [f4 _ _ (by omega), E3 x hx, f2 _ _ (by omega)]; exact E1 x hx) (by simp only []; omega) (by simp only []; omega) k1
            · rw [if_neg c3] at k0
              exact ⟨fun y => absurd rfl y, fun _ => k0 _ rfl m4 (cd_F_t F1 (cd_F_t (fr_34 f2) (cd_F_t F3 F4))) E4⟩
          · rw [he] at k0
            simp only [pz_bd] at k0
            exact ⟨fun _ => k0 _ rfl m3 (cd_F_t F1 (cd_F_t (fr_34 f2) F3)) E3, fun y => absurd rfl y⟩
      · refine ⟨fun _ => ?_, fun y => absurd rfl y⟩
        cases hTT : T with
        | none =>
          subst hTT
          exact k0 (i + q) rfl m2 (cd_F_t F1 F2) E2
        | some P => have := (hT P hTT).1; omega
  unfold M_X5_plain M_X5_plain_L1
  refine ⟨fun j v2 m1 => (0 ≤ v2 ∧ v2 ≤ q) ∧ j = (400 - v2).toNat ∧ cd_F m m1 ∧ cd_S m1 B n od (i + v2) l z ∧ ∀ x, x < z → m1 132 x = m 132 x, ⟨_, by omega, rfl, cd_F_refl m, by rw [Int.add_zero]; exact S, fun _ _ => rfl⟩, ?_⟩
  rintro j v2 m1 ⟨b, rfl, F1, S1, E1⟩
  have hq4 : q ≤ 400 := by omega
  unfold M_X5_plain_L1B
  refine ⟨fun c => ?_, fun c => ?_⟩
  · have : v2 = q := by omega
    subst this
    exact J1 m1 F1 S1 E1
  · refine cd_is S1 (q := 7) (by omega) rfl (is_br (fun c7 => ?_) (fun c7 => ?_))
    · have : v2 = q := by
        by_cases cv : v2 < q
        · exact absurd (hno.2.1 v2 b.1 cv) c7
        · omega
      subst this
      exact J1 m1 F1 S1 E1
    · have hvq : v2 < q := by
        by_cases cv : v2 < q
        · exact cv
        · have : v2 = q := by omega
          subst this
          rcases hno.2.2 with h | h
          · exact absurd c7 h
          · omega
      intro v hv2
      rw [w32_of (by omega) (by omega)] at hv2
      subst hv2
      refine cd_adv S1 (by omega) (fun m2 f2 S2 => ⟨_, by omega, by omega, rfl, cd_F_t F1 (fr_34 f2), by rw [show i + (v2 + 1) = i + v2 + 1 by omega]; exact S2, fun x hx => by rw [f2 _ _ (by omega)]; exact E1 x hx⟩)
theorem cd_test_ok {lim : Int} (hod : od = 0 ∨ od = 1) (hlim : lim = if od = 0 then 8 else 24) (H0 : rd_H m B n) : ∀ (k F : Nat), k ≤ 8 → 3 * (k + 1) ≤ F → cd_P B n od (pz_test od (tz_c B n) (tz_v B n) k) (R_X5_test F 0) (8 - k) := by
  obtain ⟨hN, h400, hv⟩ := cd_n H0
  intro k
  induction k with
  | zero =>
    intro F _ hF
    obtain ⟨f, rfl⟩ : ∃ f, F = f + 3 := ⟨F - 3, by omega⟩
    have hso := pz_sum_ok (lim := lim) (c := tz_c B n) (v := tz_v B n) hN hv hod hlim 0
    have hpl := pz_plain_ok (T := none) hN hso (fun P h => by cases h)
    have hbo := pz_both_ok (T := none) hN (by omega) hso (fun P h => by cases h)
    exact cd_testOf (R := R_X5_test (f + 2)) (cd_bothOf (R := R_X5_test (f + 1)) (cd_plainOf (lim := lim) (R := R_X5_test f) hod hlim H0 (by omega) rfl (fun P h => by cases h) (fun _ => by omega)) hpl) hbo
  | succ k ih =>
    intro F hk hF
    obtain ⟨f, rfl⟩ : ∃ f, F = f + 3 := ⟨F - 3, by omega⟩
    have hso := pz_sum_ok (lim := lim) (c := tz_c B n) (v := tz_v B n) hN hv hod hlim (k + 1)
    have hto := pz_test_ok (lim := lim) (c := tz_c B n) (v := tz_v B n) hN (by omega) hv hod hlim k
    have hpl := pz_plain_ok (T := some (pz_test od (tz_c B n) (tz_v B n) k)) hN hso (fun P h => by cases h; exact hto)
    have hbo := pz_both_ok (T := some (pz_test od (tz_c B n) (tz_v B n) k)) hN (by omega) hso (fun P h => by cases h; exact hto)
    have hi := ih f (by omega) (by omega)
    refine cd_testOf (R := R_X5_test (f + 2)) (cd_bothOf (R := R_X5_test (f + 1)) (cd_plainOf (lim := lim) (R := R_X5_test f) hod hlim H0 hk rfl (fun P h => ?_) (fun h => by cases h)) hpl) hbo
    cases h
    exact ⟨by omega, hto, by rw [show (8 : Int) - ((k + 1 : Nat) : Int) + 1 = 8 - (k : Int) by omega]; exact hi⟩
end CDV
