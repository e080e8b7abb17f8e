/-! THE ROW's reader: all TOKENS. -/
section MSQ
variable {m : am_M} {B : Int → Int} {n : Int}
/-- what is split already: T tokens -/
def ms_T (m : am_M) (B : Int → Int) (n T : Int) : Prop := m 168 18 = T ∧ ∀ i, 0 ≤ i → i < T → m 177 i = tz_c B n i ∧ m 178 i = tz_v B n i ∧ m 179 i = tz_p B n i
def ms_F (m m' : am_M) : Prop := ∀ o k, ¬ ((o = 168 ∧ k = 18) ∨ o = 177 ∨ o = 178 ∨ o = 179) → m' o k = m o k
theorem ms_F_t {a b c : am_M} (h : ms_F a b) (g : ms_F b c) : ms_F a c := fun o k q => by rw [g o k q, h o k q]
theorem tz_kk (b : Int) : (tz_k b = 2 ↔ 97 ≤ b ∧ b ≤ 122) ∧ (tz_k b = 1 ↔ 48 ≤ b ∧ b ≤ 57) := by
  unfold tz_k
  by_cases c1 : 97 ≤ b ∧ b ≤ 122
  · rw [if_pos c1]; omega
  · rw [if_neg c1]
    by_cases c2 : 48 ≤ b ∧ b ≤ 57
    · rw [if_pos c2]; omega
    · rw [if_neg c2]; omega
/-- the digits, one by one, and the token's end -/
theorem msplits_4 (H : ms_H m B n) {T a e b : Int} {C : Int → am_M → Prop} {K : am_KK} (hT : 0 ≤ T ∧ T < tz_N B n) (ha : a = tz_p B n T) (he : e = tz_e B n T) (hb : b = m 175 a) (h1 : ms_T m B n T) (h2 : m 177 T = tz_c B n T) (h3 : m 179 T = a) (h4 : m 178 T = 0)
    (hC : ∀ m', ms_F m m' → ms_T m' B n (T + 1) → C e m') : M_X12_splits_L4 168 n b e a C K m := by
  have hn := H.1
  have hN := tz_N_p (B := B) hn.1
  have hp := tz_p_le (B := B) hn.1 T
  have hee := tz_e_le (B := B) hn.1 T
  have hlt := hN.2.1 T hT.1 hT.2
  have hB0 := H.2.1 a (by omega) (by omega)
  have kk := tz_kk (B a)
  have hbd : (48 ≤ b ∧ b ≤ 57) ↔ tz_k (B a) = 1 := by rw [kk.2, hb, hB0.2]; omega
  have hv : tz_v B n T = if tz_k (B a) = 1 then tz_d B (e - a).toNat a 0 else 0 := by unfold tz_v; rw [if_neg (by omega), ← ha, ← he]
  -- the end
  have J5 : ∀ m1 : am_M, (∀ o k, ¬ (o = 178 ∧ k = T) → m1 o k = m o k) → m1 178 T = tz_v B n T → M_X12_splits_J5 168 n e C K m1 := by
    intro m1 f1 e1
    unfold M_X12_splits_J5
    simp only [forall_eq]
    rw [f1 168 18 (by omega), h1.1, w32_of (z := T + 1) (by omega) (by omega)]
    refine hC _ (fun o k ho => by rw [am_st_ne _ (by omega)]; exact f1 o k (by omega)) ⟨am_st_same _ _ _ _, fun i i0 i1 => ?_⟩
    rw [am_st_ne _ (by omega), am_st_ne _ (by omega), am_st_ne _ (by omega)]
    by_cases ci : i = T
    · subst ci
      exact ⟨by rw [f1 _ _ (by omega)]; exact h2, e1, by rw [f1 _ _ (by omega), h3]; exact ha⟩
    · rw [f1 _ _ (by omega), f1 _ _ (by omega), f1 _ _ (by omega)]
      exact h1.2 i i0 (by omega)
  unfold M_X12_splits_L4
  refine ⟨fun j x m1 => (a ≤ x ∧ x ≤ e) ∧ j = (e - x).toNat ∧ (∀ o k, ¬ (o = 178 ∧ k = T) → m1 o k = m o k) ∧ (0 ≤ m1 178 T ∧ m1 178 T ≤ 10000009) ∧ (if tz_k (B a) = 1 then tz_d B (e - x).toNat x (m1 178 T) = tz_v B n T else m1 178 T = tz_v B n T), ⟨_, by omega, rfl, fun _ _ _ => rfl, by rw [h4]; omega, ?_⟩, ?_⟩
  · rw [hv, h4]
    split <;> rfl
  rintro j x m1 ⟨hx, rfl, f1, b1, e1⟩
  unfold M_X12_splits_L4B
  rw [digit_eq]
  refine ⟨fun c => J5 m1 f1 ?_, fun c => is_br (fun c2 => ?_) (fun c2 => ?_)⟩
  · by_cases ck : tz_k (B a) = 1
    · rw [if_pos ck, show (e - x).toNat = 0 by omega, tz_d] at e1; exact e1
    · rw [if_neg ck] at e1; exact e1
  · rw [if_neg (fun q => c2 (hbd.mpr q))] at e1
    exact J5 m1 f1 e1
  · have ck := hbd.mp c2
    rw [if_pos ck, show (e - x).toNat = (e - (x + 1)).toNat + 1 by omega, tz_d] at e1
    have hdig := tz_dig (B := B) hn.1 hlt (by rw [← ha]; exact ck) x (by omega) (by omega)
    have hBx := H.2.1 x (by omega) (by omega)
    have e175 : m1 175 x = B x := by rw [f1 _ _ (by omega)]; omega
    have e18 : m1 168 18 = T := by rw [f1 _ _ (by omega)]; exact h1.1
    unfold M_X12_splits_J4
    simp only [am_rf_all, am_ln_all, forall_eq, e18, e175]
    rw [w32_of (z := x + 1) (by omega) (by omega)]
    refine ⟨⟨by omega, by omega⟩, fun c3 => ⟨⟨by omega, by omega⟩, ⟨by omega, by omega⟩, ⟨by omega, by omega⟩, ?_⟩, fun c3 => ⟨⟨by omega, by omega⟩, ⟨by omega, by omega⟩, ?_⟩⟩
    · rw [if_neg (by omega)] at e1
      rw [w32_of (z := 10 * m1 178 T) (by omega) (by omega), w32_of (z := 10 * m1 178 T + B x) (by omega) (by omega), w32_of (z := 10 * m1 178 T + B x - 48) (by omega) (by omega)]
      refine ⟨_, by omega, by omega, rfl, fun o k ho => by rw [am_st_ne _ ho]; exact f1 o k ho, by rw [am_st_same]; omega, ?_⟩
      rw [if_pos ck, am_st_same]
      exact e1
    · rw [if_pos (by omega)] at e1
      refine ⟨_, by omega, by omega, rfl, fun o k ho => by rw [am_st_ne _ ho]; exact f1 o k ho, by rw [am_st_same]; omega, ?_⟩
      rw [if_pos ck, am_st_same]
      exact e1
theorem msplits_2 (H : ms_H m B n) {T a e b : Int} {C : Int → am_M → Prop} {K : am_KK} (hT : 0 ≤ T ∧ T < tz_N B n) (ha : a = tz_p B n T) (he : e = tz_e B n T) (hb : b = m 175 a) (h1 : ms_T m B n T)
    (hC : ∀ m', ms_F m m' → ms_T m' B n (T + 1) → C e m') : M_X12_splits_J2 168 n a b e C K m := by
  have hn := H.1
  have hN := tz_N_p (B := B) hn.1
  have hp := tz_p_le (B := B) hn.1 T
  have hee := tz_e_le (B := B) hn.1 T
  have hlt := hN.2.1 T hT.1 hT.2
  have hB0 := H.2.1 a (by omega) (by omega)
  have kk := tz_kk (B a)
  have hcc : tz_c B n T = if tz_k (B a) = 2 then tz_w (tz_L B a e) else if tz_k (B a) = 1 then 50 else 100 + B a := by unfold tz_c; rw [if_neg (by omega), ← ha, ← he]
  unfold M_X12_splits_J2
  simp only [am_rf_all, am_ln_all, forall_eq, h1.1]
  rw [am_st_ne (o' := 168) (k' := 18) _ (by omega), h1.1, am_st_ne (o' := 168) (k' := 18) _ (by omega), am_st_ne (o' := 168) (k' := 18) _ (by omega), h1.1]
  generalize hm2 : am_st (am_st m 179 T a) 178 T 0 = m2
  have f2 : ∀ o k, ¬ ((o = 178 ∨ o = 179) ∧ k = T) → m2 o k = m o k := fun o k ho => by rw [← hm2, am_st_ne _ (by omega), am_st_ne _ (by omega)]
  have e9 : m2 179 T = a := by rw [← hm2, am_st_ne _ (by omega), am_st_same]
  have e8 : m2 178 T = 0 := by rw [← hm2, am_st_same]
  clear hm2
  have H2 : ms_H m2 B n := ms_H_of H (fun o k ho => f2 o k (by omega))
  have J3 : ∀ s : Int, s = tz_c B n T → M_X12_splits_J3 168 n a b e 177 T s C K m2 := by
    intro s hs
    unfold M_X12_splits_J3
    simp only [am_ln_all, forall_eq]
    refine ⟨by omega, ?_⟩
    have Hs : ms_H (am_st m2 177 T s) B n := ms_H_of H2 (fun o k ho => am_st_ne _ (by omega))
    refine msplits_4 Hs hT ha he (by rw [am_st_ne _ (by omega), f2 _ _ (by omega)]; exact hb) ⟨by rw [am_st_ne _ (by omega), f2 _ _ (by omega)]; exact h1.1, fun i i0 i1 => ?_⟩ (by rw [am_st_same]; exact hs) (by rw [am_st_ne _ (by omega)]; exact e9) (by rw [am_st_ne _ (by omega)]; exact e8) (fun m' F' T' => hC m' (fun o k ho => by rw [F' o k ho, am_st_ne _ (by omega)]; exact f2 o k (by omega)) T')
    rw [am_st_ne _ (by omega), am_st_ne _ (by omega), am_st_ne _ (by omega), f2 _ _ (by omega), f2 _ _ (by omega), f2 _ _ (by omega)]
    exact h1.2 i i0 i1
  refine ⟨by omega, by omega, ?_⟩
  rw [small_eq]
  refine is_br (fun c1 => ?_) (fun c1 => ?_)
  · rw [digit_eq]
    have n2 : ¬ tz_k (B a) = 2 := by rw [kk.1, hB0.2]; omega
    rw [if_neg n2] at hcc
    refine is_br (fun c2 => J3 _ ?_) (fun c2 => J3 _ ?_)
    · rw [if_neg (by rw [kk.2, hB0.2]; omega)] at hcc
      rw [hcc, hb, and_255 hB0.1, w32_of (by omega) (by omega), hB0.2]
    · rw [if_pos (by rw [kk.2, hB0.2]; omega)] at hcc
      exact hcc.symm
  · have k2 : tz_k (B a) = 2 := by rw [kk.1, hB0.2]; omega
    rw [if_pos k2] at hcc
    refine mword H2 (by omega) (fun y y0 y1 => ?_) (J3 _ hcc.symm)
    by_cases cy : y = a
    · rw [cy]; exact kk.1.mp k2
    · rw [he] at y1
      unfold tz_e tz_en at y1
      rw [if_neg (by omega), ← ha, if_neg (by omega)] at y1
      have := (tz_go_p (p := fun y => tz_k (B y) == tz_k (B a)) (show a + 1 ≤ n by omega)).2.2.2 y (by omega) y1
      simp at this
      exact (tz_kk (B y)).1.mp (by omega)
theorem msplits (H : ms_H m B n) {K : am_KK} (hK : ∀ m', ms_F m m' → m' 168 18 = tz_N B n → (∀ i, 0 ≤ i → i ≤ tz_N B n → m' 177 i = tz_c B n i ∧ m' 178 i = tz_v B n i ∧ m' 179 i = tz_p B n i) → K 0 m') : M_X12_splits 168 n K m := by
  have hn := H.1
  have hN := tz_N_p (B := B) hn.1
  unfold M_X12_splits
  simp only [forall_eq]
  unfold M_X12_splits_L1
  refine ⟨fun j x m1 => (0 ≤ x ∧ x ≤ n) ∧ j = (n - x).toNat ∧ ms_F m m1 ∧ ∃ T, 0 ≤ T ∧ T ≤ tz_N B n ∧ tz_sp B n x = tz_p B n T ∧ ms_T m1 B n T, ⟨_, by omega, rfl, fun o k ho => am_st_ne _ (by omega), 0, by omega, hN.1.1, tz_p_0.symm, am_st_same _ _ _ _, fun i i0 i1 => by omega⟩, ?_⟩
  rintro j x m1 ⟨hx, rfl, F1, T, T0, T1, e1, S1⟩
  have H1 : ms_H m1 B n := ms_H_of H (fun o k ho => F1 o k (by omega))
  unfold M_X12_splits_L1B
  simp only [am_rf_all, am_ln_all, forall_eq, S1.1]
  refine ⟨fun c => ?_, fun c => ⟨⟨by omega, by omega⟩, fun c2 => ?_, fun c2 => ?_⟩⟩
  · have hTN : T = tz_N B n := by
      unfold tz_sp at e1
      rw [tz_go_e c] at e1
      by_cases q : T < tz_N B n
      · have := hN.2.1 T T0 q; omega
      · omega
    subst hTN
    rw [am_st_ne (o' := 168) (k' := 18) _ (by omega), S1.1, am_st_ne (o' := 168) (k' := 18) _ (by omega), am_st_ne (o' := 168) (k' := 18) _ (by omega), S1.1]
    refine ⟨by omega, by omega, by omega, ?_⟩
    have pN := hN.2.2 _ (Int.le_refl (tz_N B n))
    refine hK _ (fun o k ho => by rw [am_st_ne _ (by omega), am_st_ne _ (by omega), am_st_ne _ (by omega)]; exact F1 o k ho) (by rw [am_st_ne _ (by omega), am_st_ne _ (by omega), am_st_ne _ (by omega)]; exact S1.1) (fun i i0 i1 => ?_)
    by_cases ci : i = tz_N B n
    · rw [ci, tz_c_0 pN, tz_v_0 pN, pN]
      refine ⟨by rw [am_st_ne _ (by omega), am_st_same], by rw [am_st_same], by rw [am_st_ne _ (by omega), am_st_ne _ (by omega), am_st_same]⟩
    · rw [am_st_ne _ (by omega), am_st_ne _ (by omega), am_st_ne _ (by omega), am_st_ne _ (by omega), am_st_ne _ (by omega), am_st_ne _ (by omega), am_st_ne _ (by omega), am_st_ne _ (by omega), am_st_ne _ (by omega)]
      exact S1.2 i i0 (by omega)
  · have hBx := H1.2.1 x (by omega) (by omega)
    have hne : B x ≠ 32 := by omega
    have ha : x = tz_p B n T := by
      rw [← e1]
      unfold tz_sp
      rw [tz_go_s (by omega), if_neg (by simp; exact hne)]
    have hlt : T < tz_N B n := by
      by_cases q : T < tz_N B n
      · exact q
      · have := hN.2.2 T (by omega); omega
    have hee := tz_e_le (B := B) hn.1 T
    have kk := tz_kk (B x)
    have hen : tz_e B n T = if tz_k (B x) = 0 then x + 1 else tz_go (fun y => tz_k (B y) == tz_k (B x)) n (x + 1) := by unfold tz_e tz_en; rw [← ha, if_neg c]
    have J2 : ∀ m2 : am_M, m2 = m1 → M_X12_splits_J2 168 n x (m1 175 x) (tz_e B n T) (fun v2' m' => ∃ j', j' < (n - x).toNat ∧ (0 ≤ v2' ∧ v2' ≤ n) ∧ j' = (n - v2').toNat ∧ ms_F m m' ∧ ∃ T, 0 ≤ T ∧ T ≤ tz_N B n ∧ tz_sp B n v2' = tz_p B n T ∧ ms_T m' B n T) K m2 := by
      intro m2 hm2
      subst hm2
      refine msplits_2 H1 ⟨T0, hlt⟩ ha rfl rfl S1 (fun m' F' S' => ?_)
      exact ⟨_, by omega, by omega, rfl, ms_F_t F1 F', T + 1, by omega, by omega, (tz_p_s T0).symm, S'⟩
    have hk2 := tz_k_le (B x)
    rw [w32_of (z := x + 1) (by omega) (by omega), small_eq]
    refine is_br (fun c3 => ?_) (fun c3 => ?_)
    · unfold M_X12_splits_J1
      rw [digit_eq]
      have n2 : ¬ tz_k (B x) = 2 := by rw [kk.1, hBx.2]; omega
      refine is_br (fun c4 => ?_) (fun c4 => ?_)
      · have n1 : ¬ tz_k (B x) = 1 := by rw [kk.2, hBx.2]; omega
        rw [if_pos (by omega)] at hen
        rw [← hen]
        exact J2 m1 rfl
      · have k1 : tz_k (B x) = 1 := by rw [kk.2, hBx.2]; omega
        rw [if_neg (by omega), k1] at hen
        unfold M_X12_splits_L3
        refine ⟨fun j y m2 => m2 = m1 ∧ (x + 1 ≤ y ∧ y ≤ n) ∧ j = (n - y).toNat ∧ tz_go (fun y => tz_k (B y) == 1) n y = tz_e B n T, ⟨_, rfl, by omega, rfl, hen.symm⟩, ?_⟩
        rintro j y m2 ⟨rfl, hy, rfl, e2⟩
        unfold M_X12_splits_L3B
        simp only [am_rf_all, am_ln_all]
        refine ⟨fun c5 => ?_, fun c5 => ⟨⟨by omega, by omega⟩, ?_⟩⟩
        · rw [tz_go_e c5] at e2
          rw [e2]
          exact J2 m2 rfl
        · have hBy := H1.2.1 y (by omega) (by omega)
          have ky := tz_kk (B y)
          rw [tz_go_s (by omega)] at e2
          rw [digit_eq]
          refine is_br (fun c6 => ?_) (fun c6 => ?_)
          · rw [if_neg (by simp; rw [ky.2, hBy.2]; omega)] at e2
            rw [e2]
            exact J2 m2 rfl
          · rw [if_pos (by simp; rw [ky.2, hBy.2]; omega)] at e2
            intro v hv
            rw [w32_of (by omega) (by omega)] at hv
            subst hv
            exact ⟨_, by omega, rfl, by omega, rfl, e2⟩
    · have k2 : tz_k (B x) = 2 := by rw [kk.1, hBx.2]; omega
      rw [if_neg (by omega), k2] at hen
      have J1 : M_X12_splits_J1 168 n x (m1 175 x) (tz_e B n T) (fun v2' m' => ∃ j', j' < (n - x).toNat ∧ (0 ≤ v2' ∧ v2' ≤ n) ∧ j' = (n - v2').toNat ∧ ms_F m m' ∧ ∃ T, 0 ≤ T ∧ T ≤ tz_N B n ∧ tz_sp B n v2' = tz_p B n T ∧ ms_T m' B n T) K m1 := by
        unfold M_X12_splits_J1
        rw [digit_eq]
        exact is_br (fun _ => J2 m1 rfl) (fun c4 => by omega)
      unfold M_X12_splits_L2
      refine ⟨fun j y m2 => m2 = m1 ∧ (x + 1 ≤ y ∧ y ≤ n) ∧ j = (n - y).toNat ∧ tz_go (fun y => tz_k (B y) == 2) n y = tz_e B n T, ⟨_, rfl, by omega, rfl, hen.symm⟩, ?_⟩
      rintro j y m2 ⟨rfl, hy, rfl, e2⟩
      unfold M_X12_splits_L2B
      simp only [am_rf_all, am_ln_all]
      refine ⟨fun c5 => ?_, fun c5 => ⟨⟨by omega, by omega⟩, ?_⟩⟩
      · rw [tz_go_e c5] at e2
        rw [e2]
        exact J1
      · have hBy := H1.2.1 y (by omega) (by omega)
        have ky := tz_kk (B y)
        rw [tz_go_s (by omega)] at e2
        rw [small_eq]
        refine is_br (fun c6 => ?_) (fun c6 => ?_)
        · rw [if_neg (by simp; rw [ky.1, hBy.2]; omega)] at e2
          rw [e2]
          exact J1
        · rw [if_pos (by simp; rw [ky.1, hBy.2]; omega)] at e2
          intro v hv
          rw [w32_of (by omega) (by omega)] at hv
          subst hv
          exact ⟨_, by omega, rfl, by omega, rfl, e2⟩
  · have c2 := Classical.not_not.mp c2
    have hBx := H1.2.1 x (by omega) (by omega)
    rw [w32_of (by omega) (by omega)]
    refine ⟨_, by omega, by omega, rfl, F1, T, T0, T1, ?_, S1⟩
    rw [← e1]
    unfold tz_sp
    rw [tz_go_s (show x < n by omega), if_pos (by simp; omega)]
end MSQ
