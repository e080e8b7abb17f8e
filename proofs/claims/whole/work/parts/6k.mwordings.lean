/-! WORDINGS on the other side: rounds, rules taken, words. -/
theorem wg_fix8 {A : Int → Int} (hA : wg_A A) {i : Nat} (e : wg_d A (wg_n A i) = wg_n A i) : wg_n A i = wg_n A 8 := by
  have up : ∀ a : Nat, wg_d A (wg_n A a) = wg_n A a → ∀ j : Nat, a ≤ j → wg_n A j = wg_n A a := by
    intro a ea j hj
    induction j with
    | zero => rw [show a = 0 by omega]
    | succ j ih =>
      by_cases c : a = j + 1
      · rw [c]
      · rw [wg_n, ih (by omega)]; exact ea
  by_cases c : i ≤ 8
  · exact (up i e 8 c).symm
  · exact up 8 (wg_eight hA) i (by omega)
section MWG
variable {m : am_M} {A w : Int → Int}
def mw_E (m : am_M) (A : Int → Int) : Prop := mw_S m (wg_n A 8) ∧ ∀ t, 0 ≤ t → t < 8 → m 185 t = wg_h A (wg_n A 8) t ∧ m 186 t = wv_n A (wg_n A 8) 8 t
theorem mw_S_of {m' : am_M} (h : mw_S m w) (e : ∀ o x, (o = 183 ∨ o = 184) → m' o x = m o x) : mw_S m' w := fun t t0 t1 => by rw [e _ _ (by omega), e _ _ (by omega)]; exact h t t0 t1
/-- the words, round after round -/
theorem mwords_67 (hA : wg_A A) (h170 : m 170 = A) (h5 : ∀ t, 0 ≤ t → t < 8 → m 185 t = wg_h A w t) (h6 : ∀ t, 0 ≤ t → t < 8 → m 186 t = 0) {K : am_KK} (hK : ∀ m', (∀ o x, o ≠ 186 → m' o x = m o x) → (∀ t, 0 ≤ t → t < 8 → m' 186 t = wv_n A w 8 t) → K 0 m') : M_X12_wordings_L6 168 0 K m := by
  have hN := hA.1
  unfold M_X12_wordings_L6
  refine ⟨fun j x m1 => ∃ k : Nat, k ≤ 8 ∧ x = k ∧ j = 8 - k ∧ (∀ o x, o ≠ 186 → m1 o x = m o x) ∧ ∀ t, 0 ≤ t → t < 8 → m1 186 t = wv_n A w k t, ⟨_, 0, by omega, rfl, rfl, fun _ _ _ => rfl, h6⟩, ?_⟩
  rintro j x m1 ⟨k, hk, rfl, rfl, f1, e1⟩
  unfold M_X12_wordings_L6B
  refine ⟨fun c => ?_, fun c => ?_⟩
  · have : k = 8 := by omega
    subst this
    exact hK m1 f1 e1
  · unfold M_X12_wordings_L7
    refine ⟨fun j x m2 => ∃ i : Nat, i ≤ 8 ∧ x = i ∧ j = 8 - i ∧ (∀ o x, o ≠ 186 → m2 o x = m o x) ∧ ∀ t, 0 ≤ t → t < 8 → m2 186 t = wv_r A w i (wv_n A w k) t, ⟨_, 0, by omega, rfl, rfl, f1, e1⟩, ?_⟩
    rintro j x m2 ⟨i, hi, rfl, rfl, f2, e2⟩
    have e170 : m2 170 = A := by rw [← h170]; exact funext fun x => f2 _ _ (by omega)
    unfold M_X12_wordings_L7B M_X12_wordings_J4
    simp only [am_rf_all, am_ln_all]
    refine ⟨fun c2 => ?_, fun c2 => ⟨by omega, ?_⟩⟩
    · have : i = 8 := by omega
      subst this
      intro y hy
      rw [w32_of (by omega) (by omega)] at hy
      subst hy
      exact ⟨8 - (k + 1), by omega, k + 1, by omega, by omega, rfl, f2, e2⟩
    · intro r hr
      rw [f2 185 _ (by omega), h5 _ (by omega) (by omega)] at hr
      subst hr
      rcases wg_h_p (w := w) hA (i : Int) with ⟨q1, -⟩ | ⟨q1, q2, -⟩
      · refine ⟨fun _ => ?_, fun c3 => absurd q1 c3⟩
        intro y hy
        rw [w32_of (by omega) (by omega)] at hy
        subst hy
        refine ⟨8 - (i + 1), by omega, i + 1, by omega, by omega, rfl, f2, fun t t0 t1 => ?_⟩
        rw [e2 t t0 t1, wv_r]
        by_cases e : t = i
        · rw [e, wrA_same, wv_t, if_pos q1]; exact wv_none q1
        · rw [wrA_ne _ e]
      · refine ⟨fun c3 => by omega, fun _ => ?_⟩
        have g := (hA.2 _ q1 q2).2.2
        rw [row_at (k := 1) ⟨q1, by omega⟩ (by omega), row_at (k := 2) ⟨q1, by omega⟩ (by omega), row_at (k := 3) ⟨q1, by omega⟩ (by omega), e170, mwordsOf e2 ⟨(g 1 (Or.inl rfl)).1, (g 1 (Or.inl rfl)).2.1⟩, e170, mwordsOf e2 ⟨(g 2 (Or.inr (Or.inl rfl))).1, (g 2 (Or.inr (Or.inl rfl))).2.1⟩, e170, mwordsOf e2 ⟨(g 3 (Or.inr (Or.inr rfl))).1, (g 3 (Or.inr (Or.inr rfl))).2.1⟩]
        refine ⟨by omega, by omega, by omega, by omega, ?_⟩
        intro m3 hm3 y hy
        rw [w32_of (by omega) (by omega)] at hy
        subst hm3 hy
        refine ⟨8 - (i + 1), by omega, i + 1, by omega, by omega, rfl, fun o x ho => by rw [am_st_ne _ (by omega)]; exact f2 o x ho, fun t t0 t1 => ?_⟩
        rw [wv_r]
        by_cases e : t = i
        · rw [e, am_st_same, wrA_same, wv_t, if_neg (by omega)]
        · rw [am_st_ne _ (by omega), wrA_ne _ e]; exact e2 t t0 t1
/-- the rule that is taken, thing after thing -/
theorem mwords_45 (hA : wg_A A) (h : wg_ok A w) (hs : mw_S m w) (h170 : m 170 = A) (h5 : ∀ t, 0 ≤ t → t < 8 → m 185 t = -1) (h6 : ∀ t, 0 ≤ t → t < 8 → m 186 t = 0) {K : am_KK} (hK : ∀ m', (∀ o x, ¬ (o = 185 ∨ o = 186) → m' o x = m o x) → (∀ t, 0 ≤ t → t < 8 → m' 185 t = wg_h A w t ∧ m' 186 t = wv_n A w 8 t) → K 0 m') : M_X12_wordings_L4 168 0 K m := by
  have hN := hA.1
  have eT : wg_T = 1000000000000 := rfl
  have eI : wg_I = 10000000000000 := rfl
  unfold M_X12_wordings_L4
  refine ⟨fun j x m1 => (0 ≤ x ∧ x ≤ 8) ∧ j = (8 - x).toNat ∧ (∀ o y, o ≠ 185 → m1 o y = m o y) ∧ ∀ t, 0 ≤ t → t < 8 → m1 185 t = if t < x then wg_h A w t else -1, ⟨_, by omega, rfl, fun _ _ _ => rfl, fun t t0 t1 => by rw [if_neg (by omega)]; exact h5 t t0 t1⟩, ?_⟩
  rintro j x m1 ⟨bx, rfl, f1, e1⟩
  unfold M_X12_wordings_L4B
  simp only [am_rf_all, am_ln_all]
  refine ⟨fun c => ?_, fun c => ⟨by omega, ?_⟩⟩
  · refine mwords_67 hA (by rw [← h170]; exact funext fun x => f1 _ _ (by omega)) (fun t t0 t1 => by rw [e1 t t0 t1, if_pos (by omega)]) (fun t t0 t1 => by rw [f1 _ _ (by omega)]; exact h6 t t0 t1) (fun m2 f2 e2 => hK m2 (fun o y ho => by rw [f2 o y (by omega)]; exact f1 o y (by omega)) (fun t t0 t1 => ⟨by rw [f2 _ _ (by omega), e1 t t0 t1, if_pos (by omega)], e2 t t0 t1⟩))
  · intro n hn
    rw [f1 170 _ (by omega), h170, w32_of (by omega) (by omega)] at hn
    subst hn
    unfold M_X12_wordings_L5
    refine ⟨fun j r m2 => (-1 ≤ r ∧ r < A 364) ∧ j = (r + 1).toNat ∧ (∀ o y, o ≠ 185 → m2 o y = m o y) ∧ ∀ t, 0 ≤ t → t < 8 → m2 185 t = if t < x then wg_h A w t else if t = x then wg_ch A w x (A 364 - (r + 1)).toNat (r + 1) else -1, ⟨_, by omega, rfl, f1, fun t t0 t1 => ?_⟩, ?_⟩
    · rw [e1 t t0 t1, show (A 364 - (A 364 - 1 + 1)).toNat = 0 by omega, wg_ch]
      split
      · rfl
      · split <;> rfl
    rintro j r m2 ⟨br, rfl, f2, e2⟩
    have e170 : m2 170 = A := by rw [← h170]; exact funext fun x => f2 _ _ (by omega)
    have s2 : mw_S m2 w := mw_S_of hs (fun o y ho => f2 o y (by omega))
    unfold M_X12_wordings_L5B
    simp only [am_rf_all, am_ln_all]
    refine ⟨fun c2 => ?_, fun c2 => ?_⟩
    · have : r = -1 := by omega
      subst this
      intro y hy
      rw [w32_of (by omega) (by omega)] at hy
      subst hy
      refine ⟨_, by omega, by omega, rfl, f2, fun t t0 t1 => ?_⟩
      rw [e2 t t0 t1]
      by_cases c3 : t < x
      · rw [if_pos c3, if_pos (by omega)]
      · rw [if_neg c3]
        by_cases c4 : t = x
        · rw [if_pos c4, if_pos (by omega), c4, show A 364 - (-1 + 1) = A 364 by omega]; rfl
        · rw [if_neg c4, if_neg (by omega)]
    · have hr : 0 ≤ r ∧ r < A 364 := by omega
      have hh := (hA.2 r hr.1 hr.2).1
      have hch : wg_ch A w x (A 364 - r).toNat r = if A (180 + 4 * r) = x ∧ w x < wg_T ∧ wg_c A w r = w x then r else wg_ch A w x (A 364 - (r + 1)).toNat (r + 1) := by
        rw [show (A 364 - r).toNat = (A 364 - (r + 1)).toNat + 1 by omega, wg_ch]
      have J : ∀ m3 : am_M, (∀ o y, o ≠ 185 → m3 o y = m o y) → (∀ t, 0 ≤ t → t < 8 → m3 185 t = if t < x then wg_h A w t else if t = x then wg_ch A w x (A 364 - r).toNat r else -1) → M_X12_wordings_J3 168 x r (fun v3' m' => ∃ j', j' < (r + 1).toNat ∧ (-1 ≤ v3' ∧ v3' < A 364) ∧ j' = (v3' + 1).toNat ∧ (∀ o y, o ≠ 185 → m' o y = m o y) ∧ ∀ t, 0 ≤ t → t < 8 → m' 185 t = if t < x then wg_h A w t else if t = x then wg_ch A w x (A 364 - (v3' + 1)).toNat (v3' + 1) else -1) (fun v2' m' => ∃ j', j' < (8 - x).toNat ∧ (0 ≤ v2' ∧ v2' ≤ 8) ∧ j' = (8 - v2').toNat ∧ (∀ o y, o ≠ 185 → m' o y = m o y) ∧ ∀ t, 0 ≤ t → t < 8 → m' 185 t = if t < v2' then wg_h A w t else -1) K m3 := by
        intro m3 f3 e3
        unfold M_X12_wordings_J3
        intro y hy
        rw [show r + -1 = r - 1 by omega, w32_of (by omega) (by omega)] at hy
        subst hy
        exact ⟨_, by omega, by omega, rfl, f3, fun t t0 t1 => by rw [show r - 1 + 1 = r by omega]; exact e3 t t0 t1⟩
      have skip : ¬ (A (180 + 4 * r) = x ∧ w x < wg_T ∧ wg_c A w r = w x) → ∀ t, 0 ≤ t → t < 8 → m2 185 t = if t < x then wg_h A w t else if t = x then wg_ch A w x (A 364 - r).toNat r else -1 := fun q t t0 t1 => by
        rw [hch, if_neg q]; exact e2 t t0 t1
      have e180 : w32 (180 + w32 (4 * r)) = 180 + 4 * r := by rw [w32_of (z := 4 * r) (by omega) (by omega), w32_of (by omega) (by omega)]
      rw [e180, e170]
      refine ⟨by omega, fun c3 => J m2 f2 (skip (fun q => c3 q.1)), fun c3 => ⟨by omega, ?_⟩⟩
      have c3 : A (180 + 4 * r) = x := Classical.not_not.mp c3
      rw [(s2 x (by omega) (by omega)).1]
      refine ⟨fun c4 => ?_, fun c4 => ?_⟩
      · refine J m2 f2 (skip (fun q => ?_))
        have hne : w x ≠ wg_I := by omega
        have := wg_le h (t := x) ⟨by omega, by omega⟩ hne
        rw [if_neg hne] at c4
        omega
      · have hne : w x ≠ wg_I := fun z => by rw [if_pos z] at c4; omega
        have hl := wg_le h (t := x) ⟨by omega, by omega⟩ hne
        rw [if_neg hne] at c4
        refine msum hA h s2 e170 hr ?_
        unfold wl_c
        rw [(s2 x (by omega) (by omega)).1, if_neg hne]
        by_cases cT : wg_c A w r < wg_T
        · rw [if_pos cT]
          have h0 := wg_c_0 hA (wg_ok_0 h) hr
          have hq : wg_c A w r = 10000 * (wg_c A w r / 10000) + wg_c A w r % 10000 := by omega
          have hw : w x = 10000 * (w x / 10000) + w x % 10000 := by omega
          refine ⟨by omega, fun c5 => J m2 f2 (skip (fun q => by rw [q.2.2] at c5; exact c5 rfl)), fun c5 => ?_⟩
          have c5 := Classical.not_not.mp c5
          rw [mrulesOf hA h s2 e170 hr cT, (s2 x (by omega) (by omega)).2, if_neg hne]
          refine ⟨by omega, fun c6 => J m2 f2 (skip (fun q => by rw [q.2.2] at c6; exact c6 rfl)), fun c6 => ⟨by omega, ?_⟩⟩
          have c6 := Classical.not_not.mp c6
          intro m3 hm3
          subst hm3
          refine J _ (fun o y ho => by rw [am_st_ne _ (by omega)]; exact f2 o y ho) (fun t t0 t1 => ?_)
          have heq : wg_c A w r = w x := by omega
          have hch2 : wg_ch A w x (A 364 - r).toNat r = r := by rw [hch]; exact if_pos ⟨c3, hl.2.2, heq⟩
          rw [hch2]
          by_cases e : t = x
          · rw [e, am_st_same, if_neg (show ¬ x < x by omega), if_pos rfl]
          · rw [am_st_ne _ (by omega), e2 t t0 t1, if_neg e, if_neg e]
        · rw [if_neg cT]
          refine ⟨by omega, fun c5 => J m2 f2 (skip (fun q => by omega)), fun c5 => ?_⟩
          have c5 := Classical.not_not.mp c5
          omega
theorem mwordings (hA : wg_A A) (h170 : m 170 = A) {K : am_KK} (hK : ∀ m', (∀ o x, ¬ (o = 183 ∨ o = 184 ∨ o = 185 ∨ o = 186) → m' o x = m o x) → mw_E m' A → K 0 m') : M_X12_wordings 168 K m := by
  have hN := hA.1
  unfold M_X12_wordings M_X12_wordings_L1
  refine ⟨fun j x m1 => (0 ≤ x ∧ x ≤ 8) ∧ j = (8 - x).toNat ∧ (∀ o y, ¬ (o = 183 ∨ o = 184 ∨ o = 185 ∨ o = 186) → m1 o y = m o y) ∧ ∀ t, 0 ≤ t → t < x → m1 183 t = 1000000000 ∧ m1 184 t = 0 ∧ m1 185 t = -1 ∧ m1 186 t = 0, ⟨_, by omega, rfl, fun _ _ _ => rfl, fun t t0 t1 => by omega⟩, ?_⟩
  rintro j x m1 ⟨bx, rfl, f1, e1⟩
  unfold M_X12_wordings_L1B
  simp only [am_rf_all, am_ln_all, forall_eq]
  rw [w32_of (z := x + 1) (by omega) (by omega)]
  refine ⟨fun c => ?_, fun c => ⟨by omega, by omega, by omega, by omega, _, ?_, by omega, rfl, fun o y ho => by rw [am_st_ne _ (by omega), am_st_ne _ (by omega), am_st_ne _ (by omega), am_st_ne _ (by omega)]; exact f1 o y ho, fun t t0 t1 => ?_⟩⟩
  rotate_left
  · omega
  · by_cases e : t = x
    · rw [e]
      refine ⟨by rw [am_st_ne _ (by omega), am_st_ne _ (by omega), am_st_ne _ (by omega), am_st_same], by rw [am_st_ne _ (by omega), am_st_ne _ (by omega), am_st_same], by rw [am_st_ne _ (by omega), am_st_same], am_st_same _ _ _ _⟩
    · have := e1 t t0 (by omega)
      simp (disch := omega) only [am_st_ne]
      exact this
  have s1 : mw_S m1 (wg_n A 0) := fun t t0 t1 => by
    obtain ⟨q1, q2, -⟩ := e1 t t0 (by omega)
    rw [q1, q2]
    exact ⟨(if_pos rfl).symm, (if_pos rfl).symm⟩
  unfold M_X12_wordings_L2
  refine ⟨fun j x m2 => ∃ i : Nat, (∀ o y, ¬ (o = 183 ∨ o = 184) → m2 o y = m1 o y) ∧ mw_S m2 (wg_n A i) ∧ ((x = 1 ∧ i ≤ 8 ∧ j = 10 - i) ∨ (x = 0 ∧ wg_d A (wg_n A i) = wg_n A i ∧ j = 0)), ⟨_, 0, fun _ _ _ => rfl, s1, Or.inl ⟨rfl, by omega, rfl⟩⟩, ?_⟩
  rintro j x m2 ⟨i, f2, s2, hx⟩
  have g2 : ∀ o y, ¬ (o = 183 ∨ o = 184 ∨ o = 185 ∨ o = 186) → m2 o y = m o y := fun o y ho => by rw [f2 o y (by omega)]; exact f1 o y ho
  have e170 : ∀ m3 : am_M, (∀ o y, ¬ (o = 183 ∨ o = 184) → m3 o y = m1 o y) → m3 170 = A := fun m3 f3 => by rw [← h170]; exact funext fun x => by rw [f3 _ _ (by omega)]; exact f1 _ _ (by omega)
  unfold M_X12_wordings_L2B
  rcases hx with ⟨rfl, hi8, rfl⟩ | ⟨rfl, hfix, rfl⟩
  · refine ⟨fun y => absurd y (by decide), fun _ => ?_⟩
    have ok := wg_n_ok hA i
    unfold M_X12_wordings_L3
    refine ⟨fun j more r m3 => ∃ k : Nat, (k : Int) ≤ A 364 ∧ r = k ∧ j = (A 364 - k).toNat ∧ (∀ o y, ¬ (o = 183 ∨ o = 184) → m3 o y = m1 o y) ∧ mw_S m3 (wg_r A k (wg_n A i)) ∧ ((more = 0 ∧ wg_r A k (wg_n A i) = wg_n A i) ∨ (more = 1 ∧ ∃ t, wg_r A k (wg_n A i) t < wg_n A i t)), ⟨_, 0, by omega, rfl, rfl, f2, s2, Or.inl ⟨rfl, rfl⟩⟩, ?_⟩
    rintro j more r m3 ⟨k, hk, rfl, rfl, f3, s3, hm⟩
    have ok3 := wg_r_ok hA ok k hk
    unfold M_X12_wordings_L3B
    simp only [am_rf_all, am_ln_all, e170 m3 f3]
    refine ⟨by omega, fun c => ?_, fun c => ?_⟩
    · have hkn : k = (A 364).toNat := by omega
      rcases hm with ⟨rfl, q⟩ | ⟨rfl, t, q⟩
      · rw [hkn] at q
        exact ⟨0, by omega, i, f3, by rw [hkn, q] at s3; exact s3, Or.inr ⟨rfl, q, rfl⟩⟩
      · have hi : i < 8 := by
          by_cases z : i = 8
          · subst z
            have := wg_eight hA
            unfold wg_d at this
            rw [← hkn] at this
            rw [this] at q
            omega
          · omega
        exact ⟨10 - (i + 1), by omega, i + 1, f3, by rw [hkn] at s3; exact s3, Or.inl ⟨rfl, by omega, rfl⟩⟩
    · refine mshort hA ok3.1 s3 (e170 m3 f3) (by omega) (fun cc => ?_) (fun cc m4 f4 s4 => ?_)
      · refine ⟨fun y => absurd rfl y, fun _ => ?_⟩
        have same : wg_r A (k + 1) (wg_n A i) = wg_r A k (wg_n A i) := by rw [wg_r]; unfold wg_x; rw [if_neg cc]
        unfold M_X12_wordings_J1 M_X12_wordings_J2
        rcases hm with ⟨rfl, q⟩ | ⟨rfl, q⟩
        · refine ⟨fun _ => ?_, fun y => absurd rfl y⟩
          intro y hy
          rw [w32_of (by omega) (by omega)] at hy
          subst hy
          exact ⟨(A 364 - ((k + 1 : Nat) : Int)).toNat, by omega, k + 1, by omega, by omega, rfl, f3, by rw [same]; exact s3, Or.inl ⟨rfl, by rw [same]; exact q⟩⟩
        · refine ⟨fun y => absurd y (by decide), fun _ => ?_⟩
          intro y hy
          rw [w32_of (by omega) (by omega)] at hy
          subst hy
          exact ⟨(A 364 - ((k + 1 : Nat) : Int)).toNat, by omega, k + 1, by omega, by omega, rfl, f3, by rw [same]; exact s3, Or.inr ⟨rfl, by rw [same]; exact q⟩⟩
      · refine ⟨fun _ => ?_, fun y => absurd (by decide) y⟩
        unfold M_X12_wordings_J1 M_X12_wordings_J2
        intro y hy
        rw [w32_of (by omega) (by omega)] at hy
        subst hy
        refine ⟨(A 364 - ((k + 1 : Nat) : Int)).toNat, by omega, k + 1, by omega, by omega, rfl, fun o x ho => by rw [f4 o x ho]; exact f3 o x ho, s4, Or.inr ⟨rfl, A (180 + 4 * (k : Int)), ?_⟩⟩
        have h1 := ok3.2 (A (180 + 4 * (k : Int)))
        rw [wg_r]
        unfold wg_x
        rw [if_pos cc, wrA_same]
        omega
  · refine ⟨fun _ => ?_, fun y => absurd rfl y⟩
    have e8 := wg_fix8 hA hfix
    rw [e8] at s2
    refine mwords_45 hA (wg_n_ok hA 8) s2 (e170 m2 f2) (fun t t0 t1 => by rw [f2 _ _ (by omega)]; exact (e1 t t0 (by omega)).2.2.1) (fun t t0 t1 => by rw [f2 _ _ (by omega)]; exact (e1 t t0 (by omega)).2.2.2) (fun m3 f3 e3 => hK m3 (fun o y ho => by rw [f3 o y (by omega)]; exact g2 o y ho) ⟨mw_S_of s2 (fun o y ho => f3 o y (by omega)), e3⟩)
end MWG
