/-! THE ROW's reader follows the parser. -/
def md_st (m : am_M) (i l b : Int) : am_M := am_st (am_st (am_st m 168 19 i) 168 20 l) 168 21 b
theorem md_eq (m : am_M) (i l b o k : Int) : md_st m i l b o k = if o = 168 ∧ k = 21 then b else if o = 168 ∧ k = 20 then l else if o = 168 ∧ k = 19 then i else m o k := rfl
theorem md_19 (m : am_M) (i l b : Int) : md_st m i l b 168 19 = i := by rw [md_eq, if_neg (by omega), if_neg (by omega), if_pos (by omega)]
theorem md_20 (m : am_M) (i l b : Int) : md_st m i l b 168 20 = l := by rw [md_eq, if_neg (by omega), if_pos (by omega)]
theorem md_21 (m : am_M) (i l b : Int) : md_st m i l b 168 21 = b := by rw [md_eq, if_pos (by omega)]
theorem md_o (m : am_M) (i l b o k : Int) (h : ¬ (o = 168 ∧ (k = 19 ∨ k = 20 ∨ k = 21))) : md_st m i l b o k = m o k := by rw [md_eq, if_neg (by omega), if_neg (by omega), if_neg (by omega)]
theorem md_s19 (m : am_M) (i l b x : Int) : am_st (md_st m i l b) 168 19 x = md_st m x l b := by
  funext o k
  rw [am_st_eq, md_eq, md_eq]
  by_cases h1 : o = 168 ∧ k = 19
  · rw [if_pos h1, if_neg (by omega), if_neg (by omega), if_pos h1]
  · rw [if_neg h1, if_neg h1, if_neg h1]
theorem md_s20 (m : am_M) (i l b x : Int) : am_st (md_st m i l b) 168 20 x = md_st m i x b := by
  funext o k
  rw [am_st_eq, md_eq, md_eq]
  by_cases h1 : o = 168 ∧ k = 20
  · rw [if_pos h1, if_neg (by omega), if_pos h1]
  · rw [if_neg h1, if_neg h1, if_neg h1]
theorem md_s21 (m : am_M) (i l b x : Int) : am_st (md_st m i l b) 168 21 x = md_st m i l x := by
  funext o k
  rw [am_st_eq, md_eq, md_eq]
  by_cases h1 : o = 168 ∧ k = 21
  · rw [if_pos h1, if_pos h1]
  · rw [if_neg h1, if_neg h1, if_neg h1]
def md_H (m : am_M) (B : Int → Int) (n od : Int) : Prop := (0 ≤ n ∧ n ≤ 400) ∧ (od = 0 ∨ od = 1) ∧ (m 168 8 = if od = 0 then 8 else 15) ∧ (m 168 9 = if od = 0 then 15 else 20) ∧ m 168 10 = od ∧ m 168 18 = tz_N B n ∧ ∀ i, 0 ≤ i → i ≤ tz_N B n → m 177 i = tz_c B n i ∧ m 178 i = tz_v B n i ∧ m 179 i = tz_p B n i
def md_P (m : am_M) (B : Int → Int) (n : Int) (P : Int → Int → pz_R) (X : am_PT) (d : Int) : Prop :=
  (∀ (i l : Int) (K : am_KK), 0 ≤ i → i ≤ tz_N B n → 0 ≤ l → l ≤ 50 → (∀ r, P i l = .inr r → K 0 (md_st m r.1 r.2.1 (-1))) → (∀ e, P i l = .inl e → ∀ t l', K 0 (md_st m t l' (tz_p B n e))) → X [168, d] K (md_st m i l (-1))) ∧
  (∀ (t l b : Int) (K : am_KK), b ≠ -1 → K 0 (md_st m t l b) → X [168, d] K (md_st m t l b))
section MDS
variable {m : am_M} {B : Int → Int} {n od : Int}
theorem md_n (H : md_H m B n od) : tz_c B n (tz_N B n) = 0 ∧ (0 ≤ tz_N B n ∧ tz_N B n ≤ 400) ∧ ∀ i, 0 ≤ tz_v B n i := by
  have h := tz_N_p (B := B) H.1.1
  have := H.1
  exact ⟨tz_c_0 (h.2.2 _ (Int.le_refl _)), by omega, fun i => (tz_v_le H.1.1 i).1⟩
theorem md_pe (H : md_H m B n od) (e : Int) : tz_p B n e ≠ -1 := by have := tz_p_le (B := B) H.1.1 e; omega
theorem md_lt (H : md_H m B n od) {i : Int} (h : i ≤ tz_N B n) (hc : tz_c B n i ≠ 0) : i < tz_N B n := by
  by_cases e : i = tz_N B n
  · rw [e] at hc; exact absurd (md_n H).1 hc
  · omega
theorem md_row (H : md_H m B n od) {i l b : Int} (h0 : 0 ≤ i) (hN : i ≤ tz_N B n) : md_st m i l b 177 i = tz_c B n i ∧ md_st m i l b 178 i = tz_v B n i ∧ md_st m i l b 179 i = tz_p B n i := by
  rw [md_o _ _ _ _ _ _ (by omega), md_o _ _ _ _ _ _ (by omega), md_o _ _ _ _ _ _ (by omega)]
  exact H.2.2.2.2.2.2 i h0 hN
theorem mfine (i l b : Int) (K : am_KK) : M_X12_fine 168 K (md_st m i l b) ↔ K (if b = -1 then 1 else 0) (md_st m i l b) := by
  unfold M_X12_fine
  rw [md_21]
  by_cases c : b = -1
  · rw [if_pos c]; simp [c]
  · rw [if_neg c]; simp [c]
theorem mtakes0 (H : md_H m B n od) {i l x : Int} (h0 : 0 ≤ i) (hN : i ≤ tz_N B n) (K : am_KK) : M_X12_takes0 168 x K (md_st m i l (-1)) ↔ if tz_c B n i = x then K 1 (md_st m (i + 1) l (-1)) else K 0 (md_st m i l (-1)) := by
  have h4 := (md_n H).2.1
  unfold M_X12_takes0 M_X12_takes0_J1 M_X12_takes0_J2
  rw [mfine, if_pos rfl]
  simp only [am_rf_all, am_ln_all, md_19, (md_row (l := l) (b := -1) H h0 hN).1, md_s19, forall_eq]
  rw [w32_of (z := i + 1) (by omega) (by omega)]
  have h1 : i < 401 := by omega
  by_cases c : tz_c B n i = x
  · simp [c, h0, h1]
  · simp [c, h0, h1]
theorem mtakes0_b {t l b x : Int} (hb : b ≠ -1) (K : am_KK) : M_X12_takes0 168 x K (md_st m t l b) ↔ K 0 (md_st m t l b) := by
  unfold M_X12_takes0 M_X12_takes0_J1 M_X12_takes0_J2
  rw [mfine, if_neg hb]
  simp
theorem mfaults (H : md_H m B n od) {i l : Int} (h0 : 0 ≤ i) (hN : i ≤ tz_N B n) (K : am_KK) : M_X12_faults 168 K (md_st m i l (-1)) ↔ K 0 (md_st m i l (tz_p B n i)) := by
  have h4 := (md_n H).2.1
  unfold M_X12_faults
  rw [mfine, if_pos rfl]
  simp only [am_rf_all, am_ln_all, md_19, (md_row (l := l) (b := -1) H h0 hN).2.2, md_s21, forall_eq]
  have h1 : i < 401 := by omega
  simp [h0, h1]
theorem mfaults_b {t l b : Int} (hb : b ≠ -1) (K : am_KK) : M_X12_faults 168 K (md_st m t l b) ↔ K 0 (md_st m t l b) := by
  unfold M_X12_faults
  rw [mfine, if_neg hb]
  simp
theorem mmust (H : md_H m B n od) {i l x : Int} (h0 : 0 ≤ i) (hN : i ≤ tz_N B n) (K : am_KK) : M_X12_must 168 x K (md_st m i l (-1)) ↔ if tz_c B n i = x then K 0 (md_st m (i + 1) l (-1)) else K 0 (md_st m i l (tz_p B n i)) := by
  unfold M_X12_must
  rw [mtakes0 H h0 hN]
  by_cases c : tz_c B n i = x
  · rw [if_pos c, if_pos c]; simp
  · rw [if_neg c, if_neg c]; simp [mfaults H h0 hN]
theorem mmust_b {t l b x : Int} (hb : b ≠ -1) (K : am_KK) : M_X12_must 168 x K (md_st m t l b) ↔ K 0 (md_st m t l b) := by
  unfold M_X12_must
  rw [mtakes0_b hb]
  simp [mfaults_b hb]
theorem mmustN (H : md_H m B n od) {i l lo hi : Int} (h0 : 0 ≤ i) (hN : i ≤ tz_N B n) (K : am_KK) : M_X12_mustNumber 168 lo hi K (md_st m i l (-1)) ↔ if tz_c B n i = 50 ∧ lo ≤ tz_v B n i ∧ tz_v B n i ≤ hi then K 0 (md_st m (i + 1) l (-1)) else K 0 (md_st m i l (tz_p B n i)) := by
  have h4 := (md_n H).2.1
  have hp := md_pe H i
  have r := md_row (l := l) (b := -1) H h0 hN
  unfold M_X12_mustNumber M_X12_mustNumber_J1
  rw [mfine, if_pos rfl, mfaults H h0 hN]
  have J1 : M_X12_mustNumber_J2 168 K (md_st m i l (tz_p B n i)) ↔ K 0 (md_st m i l (tz_p B n i)) := by
    unfold M_X12_mustNumber_J2
    rw [mfine, if_neg hp]
    simp
  have J2 : M_X12_mustNumber_J2 168 K (md_st m i l (-1)) ↔ K 0 (md_st m (i + 1) l (-1)) := by
    unfold M_X12_mustNumber_J2
    rw [mfine, if_pos rfl]
    simp only [md_19, md_s19, forall_eq]
    rw [w32_of (z := i + 1) (by omega) (by omega)]
    simp
  simp only [am_rf_all, am_ln_all, md_19, r.1, r.2.1, lies_eq, mfaults H h0 hN, J1, J2]
  have h1 : i < 401 := by omega
  by_cases c : tz_c B n i = 50
  · by_cases c2 : lo ≤ tz_v B n i ∧ tz_v B n i ≤ hi
    · simp [c, c2, h0, h1]
    · rw [if_neg c2, if_neg (fun q => c2 q.2)]
      simp [c, h0, h1]
  · simp [c, h0, h1]
theorem mmustN_b {t l b lo hi : Int} (hb : b ≠ -1) (K : am_KK) : M_X12_mustNumber 168 lo hi K (md_st m t l b) ↔ K 0 (md_st m t l b) := by
  unfold M_X12_mustNumber M_X12_mustNumber_J2
  rw [mfine, if_neg hb]
  simp [mfine, hb]
theorem mleaf (H : md_H m B n od) {i l : Int} (h0 : 0 ≤ i) (hN : i ≤ tz_N B n) (hl : 0 ≤ l ∧ l ≤ 50) (K : am_KK) : M_X12_leaf 168 K (md_st m i l (-1)) ↔ if 50 ≤ l then K 0 (md_st m i (l + 1) (tz_p B n i)) else K 0 (md_st m (i + 1) (l + 1) (-1)) := by
  have h4 := (md_n H).2.1
  have hp := md_pe H i
  unfold M_X12_leaf
  rw [md_20, mfaults H h0 hN]
  have J1 : M_X12_leaf_J1 168 K (md_st m i l (tz_p B n i)) ↔ K 0 (md_st m i (l + 1) (tz_p B n i)) := by
    unfold M_X12_leaf_J1
    simp only [md_20, md_s20, forall_eq]
    rw [w32_of (z := l + 1) (by omega) (by omega), mfine, if_neg hp]
    simp
  have J2 : M_X12_leaf_J1 168 K (md_st m i l (-1)) ↔ K 0 (md_st m (i + 1) (l + 1) (-1)) := by
    unfold M_X12_leaf_J1
    simp only [md_20, md_s20, forall_eq]
    rw [w32_of (z := l + 1) (by omega) (by omega), mfine, if_pos rfl]
    simp only [md_19, md_s19, forall_eq]
    rw [w32_of (z := i + 1) (by omega) (by omega)]
    simp
  rw [J1, J2]
  by_cases c : 50 ≤ l
  · have : l = 50 := by omega
    rw [if_pos c]; simp [this]
  · have : l ≠ 50 := by omega
    rw [if_neg c]; simp [this]
/-- a loop that goes on as long as a word stands there -/
theorem md_loop {lim d : Int} {Q : am_Val → Prop} {go : Int → Prop} {P : Int → Int → pz_R} {X : am_PT} {L : (am_M → Prop) → am_KK → am_M → Prop} {K : am_KK} {F : Nat → Int → Int → List Int → am_Val → pz_R} (H : md_H m B n od) (hP : md_P m B n P X d) (hok : pz_ok lim Q (tz_N B n) P) (h00 : ¬ go 0) (hF0 : ∀ i l st d, F 0 i l st d = .inr (i, l, st, d))
    (hF1 : ∀ k i l st d, go (tz_c B n i) → ∃ g : Int × Int × List Int × am_Val → List Int × am_Val, F (k + 1) i l st d = pz_bd (P (i + 1) l) fun r => F k r.1 r.2.1 (g r).1 (g r).2) (hF2 : ∀ k i l st d, ¬ go (tz_c B n i) → F (k + 1) i l st d = .inr (i, l, st, d))
    (hL1 : ∀ C i l, 0 ≤ i → i ≤ tz_N B n → (¬ go (tz_c B n i) → K 0 (md_st m i l (-1))) → (go (tz_c B n i) → X [168, d] (fun _ m' => C m') (md_st m (i + 1) l (-1))) → L C K (md_st m i l (-1)))
    (hL2 : ∀ C t l b, b ≠ -1 → K 0 (md_st m t l b) → L C K (md_st m t l b))
    {RES : pz_R} {i l : Int} {st : List Int} {v : am_Val} (hi : 1 ≤ i ∧ i ≤ tz_N B n) (hl : 0 ≤ l ∧ l ≤ 50) (hres : F 400 i l st v = RES)
    (k1 : ∀ r, RES = .inr r → K 0 (md_st m r.1 r.2.1 (-1))) (k0 : ∀ e, RES = .inl e → ∀ t l', K 0 (md_st m t l' (tz_p B n e))) :
    ∃ I : Nat → am_M → Prop, (∃ j, I j (md_st m i l (-1))) ∧ ∀ j m1, I j m1 → L (fun m' => ∃ j', j' < j ∧ I j' m') K m1 := by
  have h4 := (md_n H).2.1
  refine ⟨fun j m1 => (∃ (k : Nat) (i l : Int) (st : List Int) (v : am_Val), m1 = md_st m i l (-1) ∧ F k i l st v = RES ∧ (1 ≤ i ∧ i ≤ tz_N B n) ∧ (0 ≤ l ∧ l ≤ 50) ∧ 401 ≤ i + k ∧ j = k + 1) ∨ (∃ t l e, m1 = md_st m t l (tz_p B n e) ∧ RES = .inl e ∧ j = 0), ⟨_, Or.inl ⟨400, i, l, st, v, rfl, hres, hi, hl, by omega, rfl⟩⟩, ?_⟩
  rintro j m1 (⟨k, i, l, st, v, rfl, e, hi, hl, hk, rfl⟩ | ⟨t, l, e, rfl, he, rfl⟩)
  · obtain ⟨k, rfl⟩ : ∃ q, k = q + 1 := ⟨k - 1, by omega⟩
    refine hL1 _ i l (by omega) hi.2 (fun c => ?_) (fun c => ?_)
    · rw [hF2 k i l st v c] at e
      exact k1 _ e.symm
    · have hlt := md_lt H hi.2 (fun q => by rw [q] at c; exact h00 c)
      obtain ⟨g, hg⟩ := hF1 k i l st v c
      rw [hg] at e
      refine hP.1 (i + 1) l _ (by omega) (by omega) hl.1 hl.2 (fun r hr => ?_) (fun f hf t l' => ?_)
      · rw [hr] at e
        simp only [pz_bd] at e
        have ho := ((hok (i + 1) l (by omega) (by omega) hl.1 hl.2).2 r hr).1
        exact ⟨k + 1, by omega, Or.inl ⟨k, r.1, r.2.1, _, _, rfl, e, by omega, by omega, by omega, rfl⟩⟩
      · rw [hf] at e
        simp only [pz_bd] at e
        exact ⟨0, by omega, Or.inr ⟨t, l', f, rfl, e.symm, rfl⟩⟩
  · exact hL2 _ t l _ (md_pe H e) (k0 e he t l)
theorem md_sumOf {lim d : Int} {P : Int → Int → pz_R} {R : Nat → am_PT} (H : md_H m B n od) (hP : md_P m B n P (R 1) d) (hok : pz_ok lim pz_val (tz_N B n) P) : md_P m B n (pz_chain pz_adds P (tz_c B n)) (N_X12_readSum R) d := by
  have bad : ∀ (C : am_M → Prop) (t l b : Int) (K : am_KK), b ≠ -1 → K 0 (md_st m t l b) → M_X12_readSum_L1B R 168 d C K (md_st m t l b) := by
    intro C t l b K hb hK
    unfold M_X12_readSum_L1B
    rw [sgn_43, mtakes0_b hb, sgn_45, mtakes0_b hb]
    exact ⟨fun y => absurd rfl y, fun _ => ⟨fun _ => hK, fun y => absurd rfl y⟩⟩
  have badL : ∀ (t l b : Int) (K : am_KK), b ≠ -1 → K 0 (md_st m t l b) → M_X12_readSum_L1 R 168 d K (md_st m t l b) := by
    intro t l b K hb hK
    unfold M_X12_readSum_L1
    refine ⟨fun j m1 => m1 = md_st m t l b, ⟨0, rfl⟩, ?_⟩
    rintro j m1 rfl
    exact bad _ t l b K hb hK
  constructor
  · intro i l K hi hiN hl h50 k1 k0
    refine ⟨am_ob168, ?_⟩
    unfold M_X12_readSum
    unfold pz_chain at k1 k0
    refine hP.1 i l _ hi hiN hl h50 (fun r hr => ?_) (fun e he t l' => ?_)
    · rw [hr] at k1 k0
      simp only [pz_bd] at k1 k0
      have ho := ((hok i l hi hiN hl h50).2 r hr).1
      unfold M_X12_readSum_L1
      refine md_loop (go := fun x => ∃ h, pz_adds x = some h) (L := fun C K m => M_X12_readSum_L1B R 168 d C K m) (F := pz_loop pz_adds P (tz_c B n)) H hP hok (by rintro ⟨h, hh⟩; cases hh) (fun _ _ _ _ => rfl) (fun k i l st v hg => ?_) (fun k i l st v hg => ?_) (fun C i l h0 hN q1 q2 => ?_) (fun C t l b hb hK => bad C t l b K hb hK) (by omega) (by omega) rfl k1 k0
      · obtain ⟨h, hh⟩ := hg
        refine ⟨fun r => (st ++ r.2.2.1 ++ [h * 2048], pz_jn h v r.2.2.2), ?_⟩
        rw [pz_loop, hh]
      · rw [pz_loop]
        cases hh : pz_adds (tz_c B n i) with
        | none => rfl
        | some h => exact absurd ⟨h, hh⟩ hg
      · unfold M_X12_readSum_L1B M_X12_readSum_J1
        rw [sgn_43, mtakes0 H h0 hN]
        unfold pz_adds at q1 q2
        by_cases c : tz_c B n i = 143
        · rw [if_pos c]
          exact ⟨fun _ => q2 ⟨8, by rw [if_pos c]⟩, fun y => absurd (by decide) y⟩
        · rw [if_neg c]
          refine ⟨fun y => absurd rfl y, fun _ => ?_⟩
          rw [sgn_45, mtakes0 H h0 hN]
          by_cases c2 : tz_c B n i = 145
          · rw [if_pos c2]
            exact ⟨fun y => absurd y (by decide), fun _ => q2 ⟨9, by rw [if_neg c, if_pos c2]⟩⟩
          · rw [if_neg c2]
            exact ⟨fun _ => q1 (by rw [if_neg c, if_neg c2]; rintro ⟨h, hh⟩; cases hh), fun y => absurd rfl y⟩
    · rw [he] at k0
      exact badL t l' _ K (md_pe H e) (k0 e rfl t l')
  · intro t l b K hb hK
    refine ⟨am_ob168, ?_⟩
    unfold M_X12_readSum
    exact hP.2 t l b _ hb (badL t l b K hb hK)
theorem md_termOf {lim d : Int} {P : Int → Int → pz_R} {R : Nat → am_PT} (H : md_H m B n od) (hP : md_P m B n P (R 2) d) (hok : pz_ok lim pz_val (tz_N B n) P) : md_P m B n (pz_chain pz_muls P (tz_c B n)) (N_X12_readTerm R) d := by
  have bad : ∀ (C : am_M → Prop) (t l b : Int) (K : am_KK), b ≠ -1 → K 0 (md_st m t l b) → M_X12_readTerm_L1B R 168 d C K (md_st m t l b) := by
    intro C t l b K hb hK
    unfold M_X12_readTerm_L1B
    rw [sgn_42, mtakes0_b hb, sgn_47, mtakes0_b hb, sgn_37, mtakes0_b hb]
    exact ⟨fun y => absurd rfl y, fun _ => ⟨fun y => absurd rfl y, fun _ => ⟨fun _ => hK, fun y => absurd rfl y⟩⟩⟩
  have badL : ∀ (t l b : Int) (K : am_KK), b ≠ -1 → K 0 (md_st m t l b) → M_X12_readTerm_L1 R 168 d K (md_st m t l b) := by
    intro t l b K hb hK
    unfold M_X12_readTerm_L1
    refine ⟨fun j m1 => m1 = md_st m t l b, ⟨0, rfl⟩, ?_⟩
    rintro j m1 rfl
    exact bad _ t l b K hb hK
  constructor
  · intro i l K hi hiN hl h50 k1 k0
    refine ⟨am_ob168, ?_⟩
    unfold M_X12_readTerm
    unfold pz_chain at k1 k0
    refine hP.1 i l _ hi hiN hl h50 (fun r hr => ?_) (fun e he t l' => ?_)
    · rw [hr] at k1 k0
      simp only [pz_bd] at k1 k0
      have ho := ((hok i l hi hiN hl h50).2 r hr).1
      unfold M_X12_readTerm_L1
      refine md_loop (go := fun x => ∃ h, pz_muls x = some h) (L := fun C K m => M_X12_readTerm_L1B R 168 d C K m) (F := pz_loop pz_muls P (tz_c B n)) H hP hok (by rintro ⟨h, hh⟩; cases hh) (fun _ _ _ _ => rfl) (fun k i l st v hg => ?_) (fun k i l st v hg => ?_) (fun C i l h0 hN q1 q2 => ?_) (fun C t l b hb hK => bad C t l b K hb hK) (by omega) (by omega) rfl k1 k0
      · obtain ⟨h, hh⟩ := hg
        refine ⟨fun r => (st ++ r.2.2.1 ++ [h * 2048], pz_jn h v r.2.2.2), ?_⟩
        rw [pz_loop, hh]
      · rw [pz_loop]
        cases hh : pz_muls (tz_c B n i) with
        | none => rfl
        | some h => exact absurd ⟨h, hh⟩ hg
      · unfold M_X12_readTerm_L1B M_X12_readTerm_J1
        rw [sgn_42, mtakes0 H h0 hN]
        unfold pz_muls at q1 q2
        by_cases c : tz_c B n i = 142
        · rw [if_pos c]
          exact ⟨fun _ => q2 ⟨10, by rw [if_pos c]⟩, fun y => absurd (by decide) y⟩
        · rw [if_neg c]
          refine ⟨fun y => absurd rfl y, fun _ => ?_⟩
          rw [sgn_47, mtakes0 H h0 hN]
          by_cases c2 : tz_c B n i = 147
          · rw [if_pos c2]
            exact ⟨fun _ => q2 ⟨11, by rw [if_neg c, if_pos c2]⟩, fun y => absurd (by decide) y⟩
          · rw [if_neg c2]
            refine ⟨fun y => absurd rfl y, fun _ => ?_⟩
            rw [sgn_37, mtakes0 H h0 hN]
            by_cases c3 : tz_c B n i = 137
            · rw [if_pos c3]
              exact ⟨fun y => absurd y (by decide), fun _ => q2 ⟨12, by rw [if_neg c, if_neg c2, if_pos c3]⟩⟩
            · rw [if_neg c3]
              exact ⟨fun _ => q1 (by rw [if_neg c, if_neg c2, if_neg c3]; rintro ⟨h, hh⟩; cases hh), fun y => absurd rfl y⟩
    · rw [he] at k0
      exact badL t l' _ K (md_pe H e) (k0 e rfl t l')
  · intro t l b K hb hK
    refine ⟨am_ob168, ?_⟩
    unfold M_X12_readTerm
    exact hP.2 t l b _ hb (badL t l b K hb hK)
theorem md_partOf {lim d : Int} {S : Option (Int → Int → pz_R)} {R : Nat → am_PT} (H : md_H m B n od) (hd : 0 ≤ d ∧ d ≤ 8) (hS : ∀ P, S = some P → d < 8 ∧ pz_ok lim pz_val (tz_N B n) P ∧ md_P m B n P (R 0) (d + 1)) (hS0 : S = none → d = 8) : md_P m B n (pz_part od (tz_c B n) (tz_v B n) S) (N_X12_readPart R) d := by
  obtain ⟨hN0, h4, hv⟩ := md_n H
  constructor
  · intro i l K hi hiN hl h50 k1 k0
    refine ⟨am_ob168, ?_⟩
    have r := md_row (l := l) (b := -1) H hi hiN
    have h1 : i < 401 := by omega
    unfold M_X12_readPart
    rw [mfine, if_pos rfl]
    refine ⟨fun _ => ?_, fun y => absurd (by decide) y⟩
    simp only [am_rf_all, am_ln_all, md_19, r.1, r.2.1, forall_eq]
    refine ⟨⟨hi, h1⟩, ?_⟩
    rw [sgn_91]
    unfold pz_part at k1 k0
    refine ⟨fun c => ?_, fun c => ?_⟩
    · rw [if_neg c] at k1 k0
      unfold pz_leaf at k1 k0
      -- a leaf
      have J3 : ((tz_c B n i = 50 ∧ tz_v B n i ≤ 1000) ∨ pz_wd od (tz_c B n i)) → M_X12_readPart_J3 R 168 (tz_c B n i) K (md_st m i l (-1)) := by
        intro hq
        rw [if_pos hq] at k1 k0
        unfold M_X12_readPart_J3 M_X12_readPart_J4
        rw [mleaf H hi hiN ⟨hl, h50⟩]
        by_cases c5 : 50 ≤ l
        · rw [if_pos c5] at k0
          rw [if_pos c5]
          simp only [mmustN_b (md_pe H i)]
          have := k0 i rfl i (l + 1)
          exact ⟨fun _ => this, fun _ => ⟨fun _ => this, fun _ => this⟩⟩
        · rw [if_neg c5] at k1 k0
          rw [if_neg c5]
          have hlt : i < tz_N B n := md_lt H hiN (by
            rcases hq with hq | hq
            · omega
            · unfold pz_wd at hq; rcases H.2.1 with h | h <;> subst h <;> simp at hq <;> omega)
          have h19 : (tz_c B n i = 19 ∨ tz_c B n i = 20) → M_X12_mustNumber 168 0 7 (fun _ m_4 => K 0 m_4) (md_st m (i + 1) (l + 1) (-1)) := by
            intro h2
            rw [if_pos h2] at k1 k0
            rw [mmustN H (by omega) (by omega)]
            by_cases c7 : tz_c B n (i + 1) = 50 ∧ tz_v B n (i + 1) ≤ 7
            · rw [if_pos c7] at k1
              rw [if_pos ⟨c7.1, hv _, c7.2⟩]
              have := k1 _ rfl
              simp only [] at this
              rw [show i + 2 = i + 1 + 1 by omega] at this
              exact this
            · rw [if_neg c7] at k0
              rw [if_neg (fun z => c7 ⟨z.1, z.2.2⟩)]
              exact k0 _ rfl _ _
          refine ⟨fun h2 => h19 (Or.inl h2), fun h2 => ⟨fun h3 => ?_, fun h3 => h19 (Or.inr (Classical.not_not.mp h3))⟩⟩
          rw [if_neg (by omega)] at k1
          by_cases c50 : tz_c B n i = 50
          · rw [if_pos c50] at k1; exact k1 _ rfl
          · rw [if_neg c50] at k1; exact k1 _ rfl
      have J5 : ¬ ((tz_c B n i = 50 ∧ tz_v B n i ≤ 1000) ∨ pz_wd od (tz_c B n i)) → M_X12_readPart_J5 R 168 K (md_st m i l (-1)) := by
        intro hq
        rw [if_neg hq] at k0
        unfold M_X12_readPart_J5
        rw [mfaults H hi hiN]
        exact k0 i rfl _ _
      have J2 : ¬ (tz_c B n i = 50 ∧ tz_v B n i ≤ 1000) → M_X12_readPart_J2 R 168 (tz_c B n i) K (md_st m i l (-1)) := by
        intro hq
        have hw : pz_wd od (tz_c B n i) ↔ (¬ tz_c B n i < md_st m i l (-1) 168 8) ∧ ¬ md_st m i l (-1) 168 9 < tz_c B n i := by
          unfold pz_wd
          rw [md_o _ _ _ _ _ _ (by omega), md_o _ _ _ _ _ _ (by omega), H.2.2.1, H.2.2.2.1]
          omega
        unfold M_X12_readPart_J2
        refine ⟨fun q => J5 ?_, fun q => ⟨fun q2 => J5 ?_, fun q2 => J3 (Or.inr (hw.mpr ⟨q, q2⟩))⟩⟩
        · rintro (z | z)
          · exact hq z
          · exact (hw.mp z).1 q
        · rintro (z | z)
          · exact hq z
          · exact (hw.mp z).2 q2
      refine ⟨fun c50 => J2 (fun z => c50 z.1), fun c50 => ⟨⟨hi, h1⟩, fun cv => J3 (Or.inl ⟨Classical.not_not.mp c50, by rw [md_19, r.2.1] at cv; exact cv⟩), fun cv => J2 (fun z => cv (by rw [md_19, r.2.1]; exact z.2))⟩⟩
    · have c := Classical.not_not.mp c
      rw [if_pos c] at k1 k0
      have hlt := md_lt H hiN (by rw [c]; decide)
      unfold M_X12_readPart_J1
      refine ⟨fun c8 => ?_, fun c8 => ?_⟩
      · rw [mfine, if_pos rfl]
        refine ⟨fun _ => ?_, fun y => absurd (by decide) y⟩
        simp only [md_19, md_s19, forall_eq]
        rw [w32_of (z := i + 1) (by omega) (by omega), w32_of (z := d + 1) (by omega) (by omega)]
        cases hSS : S with
        | none => have := hS0 hSS; exact absurd this c8
        | some P =>
          obtain ⟨-, hok, hP⟩ := hS P hSS
          subst hSS
          unfold pz_in at k1 k0
          simp only [] at k1 k0
          refine hP.1 (i + 1) l _ (by omega) (by omega) hl h50 (fun a ha => ?_) (fun e he t l' => ?_)
          · rw [ha] at k1 k0
            simp only [pz_bd] at k1 k0
            have ho := ((hok (i + 1) l (by omega) (by omega) hl h50).2 a ha).1
            rw [sgn_93, mmust H (by omega) (by omega)]
            by_cases c3 : tz_c B n a.1 = 193
            · rw [if_pos c3] at k1
              rw [if_pos c3]
              exact k1 _ rfl
            · rw [if_neg c3] at k0
              rw [if_neg c3]
              exact k0 _ rfl _ _
          · rw [he] at k0
            rw [sgn_93, mmust_b (md_pe H e)]
            exact k0 e rfl t l'
      · rw [mfaults H hi hiN, mfine, if_neg (md_pe H i)]
        refine ⟨fun y => absurd rfl y, fun _ => ?_⟩
        cases hSS : S with
        | none => subst hSS; exact k0 i rfl _ _
        | some P => have := (hS P hSS).1; exact absurd (Classical.not_not.mp c8) (by omega)
  · intro t l b K hb hK
    refine ⟨am_ob168, ?_⟩
    unfold M_X12_readPart
    rw [mfine, if_neg hb]
    exact ⟨fun y => absurd rfl y, fun _ => hK⟩
theorem md_sum_ok {lim : Int} (H : md_H m B n od) (hlim : lim = if od = 0 then 8 else 24) : ∀ (k F : Nat), k ≤ 8 → 3 * (k + 1) ≤ F → md_P m B n (pz_sum od (tz_c B n) (tz_v B n) k) (R_X12_readSum F 0) (8 - k) := by
  obtain ⟨hN, h400, hv⟩ := md_n H
  have hod := H.2.1
  intro k
  induction k with
  | zero =>
    intro F _ hF
    obtain ⟨f, rfl⟩ : ∃ f, F = f + 3 := ⟨F - 3, by omega⟩
    have hpo := pz_part_ok (S := none) hN hv hod hlim (fun P h => by cases h)
    have hto := pz_term_ok (S := none) hN hv hod hlim (fun P h => by cases h)
    exact md_sumOf (R := R_X12_readSum (f + 2)) H (md_termOf (R := R_X12_readSum (f + 1)) H (md_partOf (lim := lim) (R := R_X12_readSum f) H (by omega) (fun P h => by cases h) (fun _ => by omega)) hpo) hto
  | succ k ih =>
    intro F hk hF
    obtain ⟨f, rfl⟩ : ∃ f, F = f + 3 := ⟨F - 3, by omega⟩
    have hso := pz_sum_ok hN hv hod hlim k
    have hpo := pz_part_ok (S := some (pz_sum od (tz_c B n) (tz_v B n) k)) hN hv hod hlim (fun P h => by cases h; exact hso)
    have hto := pz_term_ok (S := some (pz_sum od (tz_c B n) (tz_v B n) k)) hN hv hod hlim (fun P h => by cases h; exact hso)
    have hi := ih f (by omega) (by omega)
    refine md_sumOf (R := R_X12_readSum (f + 2)) H (md_termOf (R := R_X12_readSum (f + 1)) H (md_partOf (lim := lim) (R := R_X12_readSum f) H (by omega) (fun P h => ?_) (fun h => by cases h)) hpo) hto
    cases h
    exact ⟨by omega, hso, by rw [show (8 : Int) - ((k + 1 : Nat) : Int) + 1 = 8 - (k : Int) by omega]; exact hi⟩
end MDS
