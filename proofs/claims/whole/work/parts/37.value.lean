/-! THE STACK OF THE RECKONER, and what it tells of a clause. -/
theorem join_eq {h a b : Int} (ha : -1000001000 ≤ a ∧ a ≤ 1000001000) (hb : -1000001000 ≤ b ∧ b ≤ 1000001000) (K : am_KK) (m : am_M) : M_X6_join h a b K m ↔ K ((am_jn h a b).getD (-2000000000)) m := by
  have hm : -1000002000001000000 ≤ a * b ∧ a * b ≤ 1000002000001000000 := by
    have h1 : (a * b).natAbs = a.natAbs * b.natAbs := Int.natAbs_mul a b
    have h2 : a.natAbs * b.natAbs ≤ 1000001000 * 1000001000 := Nat.mul_le_mul (by omega) (by omega)
    omega
  have hd : -1000001000 ≤ Int.tdiv a b ∧ Int.tdiv a b ≤ 1000001000 := by
    have h1 : (Int.tdiv a b).natAbs = a.natAbs / b.natAbs := Int.natAbs_tdiv a b
    have h2 : a.natAbs / b.natAbs ≤ a.natAbs := Nat.div_le_self _ _
    omega
  have he : -1000001000 ≤ Int.tmod a b ∧ Int.tmod a b ≤ 1000001000 := by
    have h1 : (Int.tmod a b).natAbs = a.natAbs % b.natAbs := Int.natAbs_tmod a b
    have h2 : a.natAbs % b.natAbs ≤ a.natAbs := Nat.mod_le _ _
    omega
  have hJ : ∀ z : Int, -2000000000000000000 ≤ z ∧ z ≤ 2000000000000000000 → (M_X6_join_J3 (w64 z) K m ↔ K ((am_bd z).getD (-2000000000)) m) := by
    intro z hz
    unfold M_X6_join_J3 M_X6_join_J4
    rw [w64_of (by omega) (by omega)]
    simp only [cmp_1, cmp_2]
    unfold am_bd
    by_cases c1 : 1000000000 < z
    · simp [c1]
    · by_cases c2 : z < -1000000000
      · have c3 : ¬ (-1000000000 ≤ z) := by omega
        simp [c1, c2, c3]
      · have c3 : -1000000000 ≤ z := by omega
        simp [c1, c2, c3, am_l2i_id (z := z) (by unfold R32; omega)]
  have hB : M_X6_join_J3 (-2000000000) K m ↔ K (-2000000000) m := by
    unfold M_X6_join_J3 M_X6_join_J4
    simp [cmp_1, cmp_2]
  unfold M_X6_join M_X6_join_J1 M_X6_join_J2
  simp only [forall_eq, cmp_2, cmp_3, cmp_4]
  unfold am_jn
  by_cases c5 : h = 5
  · subst c5
    by_cases c : a < b
    · have : ¬ b ≤ a := by omega
      simp [c, this]
    · have : b ≤ a := by omega
      simp [c, this]
  by_cases c6 : h = 6
  · subst c6
    by_cases c : b < a
    · have : ¬ a ≤ b := by omega
      simp [c, this]
    · have : a ≤ b := by omega
      simp [c, this]
  by_cases c7 : h = 7
  · subst c7
    by_cases c : a = b
    · simp [c]
    · simp [c]
  by_cases c8 : h = 8
  · subst c8
    simp [hJ (a + b) (by omega)]
  by_cases c9 : h = 9
  · subst c9
    simp [hJ (a - b) (by omega)]
  by_cases c10 : h = 10
  · subst c10
    simp [hJ (a * b) (by omega)]
  by_cases c11 : h = 11
  · subst c11
    by_cases c : b = 0
    · simp [c, hB]
    · simp [c, hJ (Int.tdiv a b) (by omega)]
  by_cases c12 : h = 12
  · subst c12
    by_cases c : b = 0
    · simp [c, hB]
    · simp [c, hJ (Int.tmod a b) (by omega)]
  have c13 : h < 5 ∨ 12 < h := by omega
  simp [c5, c6, c7, c8, c9, c10, c11, c12, c13, hB]
theorem am_jn_le {h a b x : Int} (e : am_jn h a b = some x) : -1000000000 ≤ x ∧ x ≤ 1000000000 := by
  unfold am_jn at e
  repeat' split at e
  all_goals first | exact (am_bd_le e).2 | (cases e; omega) | (cases e; split <;> omega) | cases e
/-- the stack, its top ahead -/
def am_sk (f : Int → Int) : List Int → Prop
  | [] => True
  | a :: S => f S.length = a ∧ am_sk f S
theorem am_sk_of {f g : Int → Int} : ∀ {S : List Int}, am_sk f S → (∀ x, 0 ≤ x → x < S.length → g x = f x) → am_sk g S := by
  intro S
  induction S with
  | nil => intro _ _; trivial
  | cons a S ih =>
    intro h he
    refine ⟨?_, ih h.2 (fun x h0 h1 => he x h0 (by simp only [List.length_cons]; omega))⟩
    rw [he S.length (by omega) (by simp only [List.length_cons]; omega)]
    exact h.1
section VAL
variable {m0 : am_M} {p fa lim to z0 : Int} {env prog : Int → Int}
theorem cvalue_loop (hp : am_rfv p 0 = p + 1 ∧ am_len (p + 1) = 400 ∧ p + 1 ≠ 139) (hf : am_len fa = lim ∧ fa ≠ 139) (hs : ∀ i, z0 ≤ i → i < to → m0 (p + 1) i = prog i) (hP : ∀ i, 0 ≤ prog i) (hPm : ∀ i, prog i ≤ 1000000) (h0 : 0 ≤ z0 ∧ z0 ≤ 400) (hto : to ≤ 400) (henv : ∀ f, 0 ≤ f → f < lim → m0 fa f = env f) (hE : ∀ f, -1000000000 ≤ env f ∧ env f ≤ 1000000000) {n : Nat} (hn : (to - z0).toNat < n) {K : am_KK}
    (hK : ∀ m', (∀ o k, o ≠ 139 → m' o k = m0 o k) → K ((am_rn env prog lim to n z0 []).getD (-2000000000)) m') : M_X6_value_L1 138 p fa to 0 z0 K m0 := by
  unfold M_X6_value_L1
  refine ⟨fun j v7 v8 m => ∃ S : List Int, v7 = S.length ∧ v7 ≤ 64 ∧ z0 ≤ v8 ∧ v8 ≤ 1000000000 ∧ (∀ o k, o ≠ 139 → m o k = m0 o k) ∧ am_sk (m 139) S ∧ (∀ a ∈ S, -1000000000 - (if v8 < 400 then v8 else 400) ≤ a ∧ a ≤ 1000000000 + (if v8 < 400 then v8 else 400)) ∧ am_rn env prog lim to n v8 S = am_rn env prog lim to n z0 [] ∧ j = (to - v8).toNat, ⟨_, [], rfl, by omega, by omega, by omega, fun o k h => rfl, trivial, fun a h => (by cases h), rfl, rfl⟩, ?_⟩
  rintro j v7 v8 m ⟨S, rfl, h64, hz, hz9, hm, hS, hB, hR, rfl⟩
  unfold M_X6_value_L1B
  by_cases c1 : to ≤ v8
  · simp only [c1, true_imp_iff, not_true_eq_false, false_imp_iff, and_true]
    obtain ⟨n, rfl⟩ : ∃ q, n = q + 1 := ⟨n - 1, by omega⟩
    rw [pz_rn_s, if_pos c1] at hR
    have hKm := hK m hm
    rw [← hR] at hKm
    match S, hS, hKm with
    | [], _, hKm => simp; simpa using hKm
    | [a], hS, hKm =>
      have : m 139 0 = a := by have := hS.1; simpa using this
      simp [am_rf_all, am_ln_all, this]
      simpa using hKm
    | a :: b :: S, _, hKm =>
      have : ¬ ((a :: b :: S).length : Int) = 1 := by simp only [List.length_cons]; omega
      simp only [ne_eq, this, not_false_eq_true, true_imp_iff, not_true_eq_false, false_imp_iff, and_true]
      simpa using hKm
  · simp only [c1, false_imp_iff, not_false_eq_true, true_imp_iff, true_and]
    have hb1 : 0 ≤ v8 ∧ v8 < 400 := by omega
    have hpr : m (p + 1) v8 = prog v8 := by rw [hm _ _ hp.2.2, hs v8 hz (by omega)]
    have q0 := hP v8
    have q1 := hPm v8
    obtain ⟨how, hhow⟩ : ∃ how, how = prog v8 / 2048 := ⟨_, rfl⟩
    obtain ⟨told, htold⟩ : ∃ told, told = prog v8 % 2048 := ⟨_, rfl⟩
    obtain ⟨d1, d2⟩ := pz_dm (x := prog v8) (h := how) (k := told) (by omega) (by omega) (by omega)
    have b0 : 0 ≤ how ∧ how ≤ 500 ∧ 0 ≤ told ∧ told < 2048 := by omega
    have u0 : 0 ≤ v8 := by omega
    simp only [hp.1, hp.2.1, hpr, d1, d2, forall_eq, u0, hb1.2, true_and]
    rw [w32_of (z := how) (by omega) (by omega), w32_of (z := told) (by omega) (by omega)]
    obtain ⟨n', rfl⟩ : ∃ q, n = q + 1 := ⟨n - 1, by omega⟩
    have hfu : ∀ (d : Int) (T : List Int), 1 ≤ d → am_rn env prog lim to n' (v8 + d) T = am_rn env prog lim to (n' + 1) (v8 + d) T := fun d T hd => am_rn_fuel hP _ _ _ _ (by omega) (by omega)
    have hR' := hR
    rw [pz_rn_s, if_neg c1, d1, d2] at hR'
    simp only [hfu 1 _ (Int.le_refl 1)] at hR'
    have hbr : am_rn env prog lim to (n' + 1) z0 [] = none → K (-2000000000) m := by
      intro h
      have := hK m hm
      rw [h] at this
      exact this
    -- the step ahead
    have J8 : ∀ (T : List Int) (mm : am_M) (d : Int), 0 ≤ d → d < 4000 → (T.length : Int) ≤ 64 → (∀ o k, o ≠ 139 → mm o k = m0 o k) → am_sk (mm 139) T → (∀ a ∈ T, -1000000000 - v8 - 1 ≤ a ∧ a ≤ 1000000000 + v8 + 1) → am_rn env prog lim to (n' + 1) (v8 + d + 1) T = am_rn env prog lim to (n' + 1) z0 [] → M_X6_value_J8 138 p fa to T.length (v8 + d) (fun v7' v8' m' => ∃ j', j' < (to - v8).toNat ∧ ∃ S : List Int, v7' = S.length ∧ v7' ≤ 64 ∧ z0 ≤ v8' ∧ v8' ≤ 1000000000 ∧ (∀ o k, o ≠ 139 → m' o k = m0 o k) ∧ am_sk (m' 139) S ∧ (∀ a ∈ S, -1000000000 - (if v8' < 400 then v8' else 400) ≤ a ∧ a ≤ 1000000000 + (if v8' < 400 then v8' else 400)) ∧ am_rn env prog lim to (n' + 1) v8' S = am_rn env prog lim to (n' + 1) z0 [] ∧ j' = (to - v8').toNat) K mm := by
      intro T mm d hd hd4 hT64 hmm hsk hTB hTR
      unfold M_X6_value_J8
      intro v' hv'
      rw [w32_of (by omega) (by omega)] at hv'
      subst hv'
      refine ⟨_, ?_, T, rfl, hT64, by omega, by omega, hmm, hsk, fun a ha => ?_, hTR, rfl⟩
      · omega
      · have := hTB a ha
        split <;> omega
    generalize (fun (v7' v8' : Int) (m' : am_M) => ∃ j', j' < (to - v8).toNat ∧ ∃ S : List Int, v7' = S.length ∧ v7' ≤ 64 ∧ z0 ≤ v8' ∧ v8' ≤ 1000000000 ∧ (∀ o k, o ≠ 139 → m' o k = m0 o k) ∧ am_sk (m' 139) S ∧ (∀ a ∈ S, -1000000000 - (if v8' < 400 then v8' else 400) ≤ a ∧ a ≤ 1000000000 + (if v8' < 400 then v8' else 400)) ∧ am_rn env prog lim to (n' + 1) v8' S = am_rn env prog lim to (n' + 1) z0 [] ∧ j' = (to - v8').toNat) = C at J8 ⊢
    have hB' : ∀ a ∈ S, -1000000000 - v8 ≤ a ∧ a ≤ 1000000000 + v8 := fun a ha => by
      have := hB a ha
      rw [if_pos hb1.2] at this
      exact this
    have push : ∀ x, (S.length : Int) < 64 → -1000000000 ≤ x ∧ x ≤ 1000000000 → am_rn env prog lim to (n' + 1) (v8 + 1) (x :: S) = am_rn env prog lim to (n' + 1) z0 [] → M_X6_value_J4 138 p fa to S.length v8 139 S.length x C K m := by
      intro x hx64 hxb hx
      unfold M_X6_value_J4
      refine ⟨by simp [am_ln_all]; omega, ?_⟩
      intro mm hmm v' hv'
      rw [w32_of (by omega) (by omega)] at hv'
      subst hv' hmm
      have := J8 (x :: S) (am_st m 139 S.length x) 0 (by omega) (by omega) (by simp only [List.length_cons]; omega) (fun o k ho => by rw [am_st_ne _ (by omega)]; exact hm o k ho) ⟨am_st_same _ _ _ _, am_sk_of hS (fun y y0 y1 => am_st_ne _ (by omega))⟩ (fun a ha => by
        rcases List.mem_cons.mp ha with rfl | ha
        · omega
        · have := hB' a ha; omega) (by rw [Int.add_zero]; exact hx)
      rw [Int.add_zero] at this
      simpa using this
    by_cases k0 : how = 0
    · subst k0
      rw [if_pos rfl] at hR'
      simp only [true_imp_iff, not_true_eq_false, false_imp_iff, and_true]
      unfold M_X6_value_J1 M_X6_value_J2 M_X6_value_J3
      simp only [am_rf_all, am_ln_all]
      by_cases f : (64 : Int) ≤ S.length
      · rw [if_pos (by omega)] at hR'
        simp only [f, true_imp_iff, not_true_eq_false, false_imp_iff, and_true]
        exact hbr hR'.symm
      · rw [if_neg (by omega)] at hR'
        simp [f]
        exact push told (by omega) (by omega) hR'
    by_cases k1 : how = 1
    · subst k1
      rw [if_neg (by decide), if_pos rfl] at hR'
      unfold M_X6_value_J1 M_X6_value_J2 M_X6_value_J3
      simp only [am_rf_all, am_ln_all, hf.1]
      by_cases f : (64 : Int) ≤ S.length
      · rw [if_pos (by omega)] at hR'
        simp [f]
        exact hbr hR'.symm
      · by_cases f2 : told < lim
        · rw [if_neg (by omega)] at hR'
          have e1 : m fa told = env told := by rw [hm _ _ hf.2, henv told (by omega) f2]
          simp [f, f2, e1, b0.2.2.1]
          exact push (env told) (by omega) (hE _) hR'
        · rw [if_pos (by omega)] at hR'
          simp [f, f2]
          exact hbr hR'.symm
    rw [if_neg k0, if_neg k1] at hR'
    have g1 : ¬ how = 0 := k0
    have g2 : how ≠ 1 := k1
    simp only [g1, g2, false_imp_iff, not_false_eq_true, true_imp_iff, true_and, ne_eq, not_true_eq_false, and_true]
    match S, hS, hB', hR', h64 with
    | [], _, _, hR', _ =>
      have : ¬ ((1 : Int) ≤ (([] : List Int).length : Int)) := by simp
      simp only [this, false_imp_iff, not_false_eq_true, true_imp_iff, true_and]
      exact hbr hR'.symm
    | a :: S1, hS, hB', hR', h64 =>
      dsimp only at hR'
      have hlen : ((a :: S1).length : Int) = (S1.length : Int) + 1 := by simp
      have : (1 : Int) ≤ ((a :: S1).length : Int) := by omega
      simp only [this, true_imp_iff, not_true_eq_false, false_imp_iff, and_true]
      have t1 : w32 ((S1.length : Int) + 1 - 1) = S1.length := by rw [w32_of (by omega) (by omega)]; omega
      have t2 : w32 ((S1.length : Int) + 1 + -1) = S1.length := by rw [w32_of (by omega) (by omega)]; omega
      have ta : m 139 S1.length = a := hS.1
      have ba := hB' a (List.mem_cons_self)
      simp only [hlen, t1, t2, am_rf_all, am_ln_all, ta]
      have r1 : (0 : Int) ≤ S1.length ∧ (S1.length : Int) < 64 := by omega
      by_cases k2 : how = 2
      · subst k2
        simp only [if_true] at hR'
        simp only [not_true_eq_false, false_imp_iff, true_and, not_false_eq_true, true_imp_iff, r1, and_true, and_self]
        rw [w32_of (z := 1 - a) (by omega) (by omega)]
        have := J8 ((1 - a) :: S1) (am_st m 139 S1.length (1 - a)) 0 (by omega) (by omega) (by simp only [List.length_cons]; omega) (fun o k ho => by rw [am_st_ne _ (by omega)]; exact hm o k ho) ⟨am_st_same _ _ _ _, am_sk_of hS.2 (fun y y0 y1 => am_st_ne _ (by omega))⟩ (fun x hx => by
          rcases List.mem_cons.mp hx with rfl | hx
          · omega
          · have := hB' x (List.mem_cons_of_mem _ hx); omega) (by rw [Int.add_zero]; exact hR')
        rw [Int.add_zero] at this
        simpa using this
      · rw [if_neg k2] at hR'
        by_cases k34 : how = 3 ∨ how = 4
        · rw [if_pos k34] at hR'
          have J5 : M_X6_value_J5 138 p fa to ((S1.length : Int) + 1) v8 how told C K m := by
            unfold M_X6_value_J5 M_X6_value_J6
            simp only [t1, t2, am_rf_all, am_ln_all, ta, forall_eq]
            refine ⟨r1, ?_⟩
            rw [w32_of (z := v8 + told) (by omega) (by omega)]
            have skip : a = (if how = 4 then 1 else 0) → M_X6_value_J8 138 p fa to ((S1.length : Int) + 1) (v8 + told) C K m := by
              intro ea
              rw [if_pos ea, show v8 + told + 1 = v8 + (told + 1) by omega, hfu _ _ (by omega)] at hR'
              have := J8 (a :: S1) m told (by omega) (by omega) (by simp only [List.length_cons]; omega) hm hS (fun x hx => by have := hB' x hx; omega) (by rw [← hR']; congr 1; omega)
              simpa using this
            have popd : ¬ a = (if how = 4 then 1 else 0) → M_X6_value_J8 138 p fa to (S1.length : Int) v8 C K m := by
              intro ea
              rw [if_neg ea] at hR'
              have := J8 S1 m 0 (by omega) (by omega) (by omega) hm hS.2 (fun x hx => by have := hB' x (List.mem_cons_of_mem _ hx); omega) (by rw [Int.add_zero]; exact hR')
              rwa [Int.add_zero] at this
            by_cases k4 : how = 4
            · rw [if_pos k4] at skip popd
              simp only [k4, ne_eq, not_true_eq_false, false_imp_iff, true_and, not_false_eq_true, true_imp_iff]
              exact ⟨popd, fun h => skip (by omega)⟩
            · rw [if_neg k4] at skip popd
              simp only [k4, ne_eq, not_true_eq_false, false_imp_iff, and_true, not_false_eq_true, true_imp_iff]
              exact ⟨popd, fun h => skip (by omega)⟩
          have k2' : ¬ how = 2 := k2
          simp only [k2', not_false_eq_true, true_imp_iff, not_true_eq_false, false_imp_iff, and_true]
          refine ⟨fun _ => J5, fun h3 => ⟨fun h4 => by omega, fun _ => J5⟩⟩
        · rw [if_neg k34] at hR'
          have k2' : ¬ how = 2 := k2
          have k3' : ¬ how = 3 := by omega
          have k4' : ¬ how = 4 := by omega
          simp only [k2', k3', k4', not_false_eq_true, true_imp_iff, not_true_eq_false, false_imp_iff, and_true, true_and, forall_eq]
          match S1, hS, hB', hR', r1, ta, ba with
          | [], _, _, hR', _, _, _ =>
            simp only [] at hR'
            have u1 : ¬ ((1 : Int) ≤ (([] : List Int).length : Int)) := by simp
            simp only [u1, false_imp_iff, not_false_eq_true, true_imp_iff, true_and]
            unfold M_X6_value_J7
            simp only [ne_eq, not_true_eq_false, false_imp_iff, true_and, not_false_eq_true, true_imp_iff]
            exact hbr hR'.symm
          | b :: S2, hS, hB', hR', r1, ta, ba =>
            simp only [] at hR'
            have hlen2 : ((b :: S2).length : Int) = (S2.length : Int) + 1 := by simp
            have u1 : (1 : Int) ≤ ((b :: S2).length : Int) := by omega
            have t3 : w32 ((S2.length : Int) + 1 - 1) = S2.length := by rw [w32_of (by omega) (by omega)]; omega
            have tb : m 139 S2.length = b := hS.2.1
            have bb := hB' b (by simp)
            simp only [u1, true_imp_iff, not_true_eq_false, false_imp_iff, and_true]
            simp only [hlen2] at r1 ta ⊢
            simp only [t3, ta, tb]
            refine ⟨by omega, r1, ?_⟩
            rw [join_eq (by omega) (by omega)]
            unfold M_X6_value_J7
            simp only [am_rf_all, am_ln_all, t3]
            cases e : am_jn how b a with
            | none =>
              rw [e] at hR'
              simp only [Option.getD_none, ne_eq, not_true_eq_false, false_imp_iff, true_and, not_false_eq_true, true_imp_iff]
              exact hbr hR'.symm
            | some x =>
              rw [e] at hR'
              simp only [hfu 1 _ (Int.le_refl 1)] at hR'
              have hx := am_jn_le e
              have hx2 : x ≠ -2000000000 := by omega
              simp only [Option.getD_some, ne_eq, hx2, not_false_eq_true, true_imp_iff, not_true_eq_false, false_imp_iff, and_true]
              refine ⟨by omega, ?_⟩
              rintro _ rfl
              have := J8 (x :: S2) (am_st m 139 S2.length x) 0 (by omega) (by omega) (by simp only [List.length_cons]; omega) (fun o k ho => by rw [am_st_ne _ (by omega)]; exact hm o k ho) ⟨am_st_same _ _ _ _, am_sk_of hS.2.2 (fun y y0 y1 => am_st_ne _ (by omega))⟩ (fun w hw => by
                rcases List.mem_cons.mp hw with rfl | hw
                · omega
                · have := hB' w (by simp [hw]); omega) (by rw [Int.add_zero]; exact hR')
              rw [Int.add_zero] at this
              simpa using this
end VAL
