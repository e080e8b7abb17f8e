/-! THE READER, TOKEN by TOKEN. -/
def rd_H (m : am_M) (B : Int → Int) (n : Int) : Prop := rk m 129 1 400 ∧ m 129 2 = n ∧ (0 ≤ n ∧ n ≤ 400) ∧ (∀ x, 0 ≤ x → x < n → m 130 x = B x) ∧ ∀ x, 0 ≤ x → x < n → 0 ≤ B x ∧ B x ≤ 255
theorem rd_H_of {m m' : am_M} {B : Int → Int} {n : Int} (H : rd_H m B n) (e : ∀ o k, (o = 129 ∨ o = 130) → m' o k = m o k) : rd_H m' B n := ⟨rk_of H.1 (e _ _ (by omega)) (e _ _ (by omega)), by rw [e _ _ (by omega)]; exact H.2.1, H.2.2.1, fun x x0 x1 => by rw [e _ _ (by omega)]; exact H.2.2.2.1 x x0 x1, H.2.2.2.2⟩
section RDS
variable {m : am_M} {B : Int → Int} {n : Int}
theorem rd_get (H : rd_H m B n) (x : Int) (K : am_KK) : M_X7_get 129 x 0 K m ↔ K (if 0 ≤ x ∧ x < n then B x else -1) m := by
  rw [get_eq H.1]
  unfold rget
  rw [H.2.1, show (129 : Int) + 1 = 130 by omega, Int.mul_one, Int.add_zero]
  by_cases c : 0 ≤ x ∧ x < n
  · rw [if_pos ⟨c, by omega, by omega⟩, if_pos c, H.2.2.2.1 x c.1 c.2]
  · rw [if_neg (fun z => c z.1), if_neg c]
theorem kind_eq (b : Int) (K : am_KK) (m : am_M) : M_X5_kindOf b K m ↔ K (tz_k b) m := by
  have J : M_X5_kindOf_J1 b K m ↔ K (if 48 ≤ b ∧ b ≤ 57 then 1 else 0) m := by
    unfold M_X5_kindOf_J1
    by_cases c1 : b < 48
    · rw [if_neg (by omega)]; simp [c1]
    · by_cases c2 : 57 < b
      · rw [if_neg (by omega)]; simp [c1, c2]
      · rw [if_pos (by omega)]; simp [c1, c2]
  unfold M_X5_kindOf tz_k
  rw [J]
  by_cases c1 : b < 97
  · rw [if_neg (show ¬ (97 ≤ b ∧ b ≤ 122) by omega)]; simp [c1]
  · by_cases c2 : 122 < b
    · rw [if_neg (show ¬ (97 ≤ b ∧ b ≤ 122) by omega)]; simp [c1, c2]
    · rw [if_pos (show 97 ≤ b ∧ b ≤ 122 by omega)]; simp [c1, c2]
theorem rd_is (H : rd_H m B n) {i t q : Int} (h3 : m 135 3 = tz_p B n i) (h4 : m 135 4 = tz_e B n i) (ht : 0 ≤ t ∧ t < 38) (hq : tz_cd.getD t.toNat 0 = q) {K : am_KK} (hK : K (if tz_c B n i = q then 1 else 0) m) : M_X5_is 135 t K m := by
  have hn := H.2.2.1
  have hp := tz_p_le (B := B) hn.1 i
  have he := tz_e_le (B := B) hn.1 i
  have hI := tz_is (B := B) (i := i) hn.1 H.2.2.2.2 (show t.toNat < 38 by omega)
  rw [hq] at hI
  have hl : am_sln t = ((am_sby.getD t.toNat []).length : Int) := rfl
  unfold M_X5_is
  rw [h3, h4, w32_of (by omega) (by omega), hl]
  have hX := tz_L_ext (B := B) (a := tz_p B n i) (e := tz_e B n i) (w := am_sby.getD t.toNat [])
  refine ⟨fun c => ?_, fun c => ?_⟩
  · unfold M_X5_is_L1
    refine ⟨fun j v m1 => m1 = m ∧ 0 ≤ v ∧ v ≤ ((am_sby.getD t.toNat []).length : Int) ∧ j = (((am_sby.getD t.toNat []).length : Int) - v).toNat ∧ ∀ k : Nat, (k : Int) < v → B (tz_p B n i + k) = (am_sby.getD t.toNat []).getD k 0, ⟨_, rfl, by omega, by omega, rfl, fun k hk => by omega⟩, ?_⟩
    rintro j v m1 ⟨rfl, v0, v1, rfl, e⟩
    unfold M_X5_is_L1B
    simp only [am_rf_all, h3, hl]
    refine ⟨fun z => ?_, fun z => ?_⟩
    · rw [if_pos] at hK
      · exact hK
      · exact hI.mp (hX.mpr ⟨by omega, fun k hk => e k (by omega)⟩)
    · rw [w32_of (by omega) (by omega), rd_get H, if_pos (by omega)]
      have hc : am_sc t v = (am_sby.getD t.toNat []).getD v.toNat 0 := rfl
      refine ⟨⟨v0, by omega⟩, fun y => ?_, fun y => ?_⟩
      · intro v2 hv2
        rw [w32_of (by omega) (by omega)] at hv2
        subst hv2
        refine ⟨_, ?_, rfl, by omega, by omega, rfl, fun k hk => ?_⟩
        · omega
        · by_cases ck : (k : Int) = v
          · rw [ck, y, hc, show v.toNat = k by omega]
          · exact e k (by omega)
      · rw [if_neg] at hK
        · exact hK
        · intro z2
          have := (hX.mp (hI.mpr z2)).2 v.toNat (by omega)
          rw [show ((v.toNat : Nat) : Int) = v by omega] at this
          exact y (by rw [hc]; exact this)
  · rw [if_neg] at hK
    · exact hK
    · intro z2
      have := (hX.mp (hI.mpr z2)).1
      omega
theorem rd_adv (H : rd_H m B n) {x : Int} (h4 : m 135 4 = x) (hx : 0 ≤ x ∧ x ≤ n) {K : am_KK} (hK : ∀ m', (∀ o k, ¬ (o = 135 ∧ (k = 3 ∨ k = 4)) → m' o k = m o k) → m' 135 3 = tz_sp B n x → m' 135 4 = tz_en B n (tz_sp B n x) → K 0 m') : M_X5_advance 135 K m := by
  have hn := H.2.2.1
  have hs := tz_go_p (p := fun y => B y == 32) hx.2
  have fr : ∀ m1 : am_M, (∀ o k, ¬ (o = 135 ∧ (k = 3 ∨ k = 4)) → m1 o k = m o k) → rd_H m1 B n := fun m1 f => rd_H_of H (fun o k ho => f o k (by omega))
  unfold M_X5_advance
  intro m14 hm14
  rw [h4] at hm14
  have key : ∀ m1 : am_M, (∀ o k, ¬ (o = 135 ∧ (k = 3 ∨ k = 4)) → m1 o k = m o k) → m1 135 3 = tz_sp B n x → M_X5_advance_J1 135 K m1 := by
    intro m1 f1 e3
    have H1 := fr m1 f1
    have hsp : 0 ≤ tz_sp B n x ∧ tz_sp B n x ≤ n := by unfold tz_sp; omega
    generalize hsx : tz_sp B n x = s at *
    unfold M_X5_advance_J1
    simp only [am_rf_all, e3]
    rw [rd_get H1, kind_eq]
    intro m10 hm10
    rw [e3, H1.2.1, w32_of (by omega) (by omega)] at hm10
    have e4 : m10 135 4 = if n ≤ s then n else s + 1 := by
      rw [hm10, am_st_same]
      unfold am_min
      split <;> split <;> omega
    have f2 : ∀ o k, ¬ (o = 135 ∧ (k = 3 ∨ k = 4)) → m10 o k = m o k := fun o k ho => by rw [hm10, am_st_ne _ (by omega)]; exact f1 o k ho
    have e3' : m10 135 3 = s := by rw [hm10, am_st_ne _ (by omega)]; exact e3
    clear hm10
    unfold M_X5_advance_L2
    refine ⟨fun j m2 => (∀ o k, ¬ (o = 135 ∧ (k = 3 ∨ k = 4)) → m2 o k = m o k) ∧ m2 135 3 = s ∧ (0 ≤ m2 135 4 ∧ m2 135 4 ≤ n) ∧ j = (n - m2 135 4).toNat ∧ (if n ≤ s then m2 135 4 = n else if tz_k (B s) = 0 then m2 135 4 = s + 1 else tz_go (fun y => tz_k (B y) == tz_k (B s)) n (m2 135 4) = tz_en B n s), ⟨_, f2, e3', by rw [e4]; split <;> omega, rfl, ?_⟩, ?_⟩
    · rw [e4]
      unfold tz_en
      by_cases c : n ≤ s
      · rw [if_pos c, if_pos c]
      · rw [if_neg c, if_neg c, if_neg c]
        by_cases c2 : tz_k (B s) = 0
        · rw [if_pos c2]
        · rw [if_neg c2, if_neg c2]
    rintro j m2 ⟨g2, g3, g4, rfl, g5⟩
    have H2 := fr m2 g2
    have hend : m2 135 4 = tz_en B n s → K 0 m2 := fun q => hK m2 g2 g3 q
    unfold M_X5_advance_L2B
    simp only [am_rf_all, H2.2.1]
    by_cases c : n ≤ s
    · rw [if_pos c] at g5
      rw [if_neg (by omega)]
      have : tz_k (-1) = 0 := by decide
      rw [this]
      refine ⟨fun _ => hend (by unfold tz_en; rw [if_pos c]; exact g5), fun z => absurd rfl z⟩
    · rw [if_neg c] at g5
      rw [if_pos (by omega)]
      refine ⟨fun z => ?_, fun z => ?_⟩
      · rw [if_pos z] at g5
        exact hend (by unfold tz_en; rw [if_neg c, if_pos z]; exact g5)
      · rw [if_neg z] at g5
        refine ⟨fun y => ?_, fun y => ?_⟩
        · rw [tz_go_e (by omega)] at g5
          exact hend g5
        · rw [tz_go_s (by omega)] at g5
          rw [rd_get H2, if_pos (by omega), kind_eq]
          refine ⟨fun w => ?_, fun w => ?_⟩
          · rw [if_neg (by simp; exact w)] at g5
            exact hend g5
          · have w := Classical.not_not.mp w
            rw [if_pos (by simp; exact w)] at g5
            intro m5 hm5
            rw [w32_of (by omega) (by omega)] at hm5
            have q4 : m5 135 4 = m2 135 4 + 1 := by rw [hm5, am_st_same]
            refine ⟨_, ?_, fun o k ho => by rw [hm5, am_st_ne _ (by omega)]; exact g2 o k ho, by rw [hm5, am_st_ne _ (by omega)]; exact g3, by omega, rfl, ?_⟩
            · omega
            · rw [if_neg c, if_neg z, q4]; exact g5
  unfold M_X5_advance_L1
  refine ⟨fun j m1 => (∀ o k, ¬ (o = 135 ∧ (k = 3 ∨ k = 4)) → m1 o k = m o k) ∧ (x ≤ m1 135 3 ∧ m1 135 3 ≤ n) ∧ j = (n - m1 135 3).toNat ∧ tz_go (fun y => B y == 32) n (m1 135 3) = tz_sp B n x, ⟨_, fun o k ho => by rw [hm14, am_st_ne _ (by omega)], by rw [hm14, am_st_same]; omega, rfl, by rw [hm14, am_st_same]; rfl⟩, ?_⟩
  rintro j m1 ⟨f1, b1, rfl, e1⟩
  have H1 := fr m1 f1
  unfold M_X5_advance_L1B
  simp only [am_rf_all, H1.2.1]
  refine ⟨fun z => ?_, fun z => ?_⟩
  · rw [tz_go_e (by omega)] at e1
    exact key m1 f1 e1
  · rw [tz_go_s (by omega)] at e1
    rw [rd_get H1, if_pos (by omega)]
    refine ⟨fun y => ?_, fun y => ?_⟩
    · rw [if_neg (by simp; exact y)] at e1
      exact key m1 f1 e1
    · have y := Classical.not_not.mp y
      rw [if_pos (by simp; exact y)] at e1
      intro m13 hm13
      rw [w32_of (by omega) (by omega)] at hm13
      have q3 : m13 135 3 = m1 135 3 + 1 := by rw [hm13, am_st_same]
      exact ⟨_, by omega, fun o k ho => by rw [hm13, am_st_ne _ (by omega)]; exact f1 o k ho, by omega, rfl, by rw [q3]; exact e1⟩
theorem rd_num (H : rd_H m B n) {i lo hi : Int} (h3 : m 135 3 = tz_p B n i) (h4 : m 135 4 = tz_e B n i) (hlo : 0 ≤ lo) (hhi : hi ≤ 1000) {K : am_KK} (hK : K (if tz_c B n i = 50 ∧ lo ≤ tz_v B n i ∧ tz_v B n i ≤ hi then tz_v B n i else -1) m) : M_X5_number 135 lo hi K m := by
  have hn := H.2.2.1
  have hp := tz_p_le (B := B) hn.1 i
  have he := tz_e_le (B := B) hn.1 i
  unfold M_X5_number
  simp only [am_rf_all, h3]
  rw [rd_get H, kind_eq]
  by_cases cn : n ≤ tz_p B n i
  · rw [if_neg (by omega)]
    have : tz_k (-1) = 0 := by decide
    rw [this]
    refine ⟨fun z => absurd z (by decide), fun _ => ?_⟩
    rw [if_neg (by rw [tz_c_0 (by omega)]; omega)] at hK
    exact hK
  · rw [if_pos (by omega)]
    have hwl := tz_wl_le tz_W 1 (tz_L B (tz_p B n i) (tz_e B n i))
    rw [tz_W_len] at hwl
    have hb := H.2.2.2.2 (tz_p B n i) (by omega) (by omega)
    have hc50 : tz_c B n i = 50 ↔ tz_k (B (tz_p B n i)) = 1 := by
      unfold tz_c
      rw [if_neg cn]
      by_cases c2 : tz_k (B (tz_p B n i)) = 2
      · rw [if_pos c2, c2]; unfold tz_w; omega
      · rw [if_neg c2]
        by_cases c1 : tz_k (B (tz_p B n i)) = 1
        · rw [if_pos c1, c1]; omega
        · rw [if_neg c1]; exact ⟨fun w => by omega, fun w => absurd w c1⟩
    refine ⟨fun z => ?_, fun z => ?_⟩
    · have hdig := tz_dig (B := B) hn.1 (show tz_p B n i < n by omega) z
      have hv : tz_v B n i = tz_d B (tz_e B n i - tz_p B n i).toNat (tz_p B n i) 0 := by unfold tz_v; rw [if_neg cn, if_pos z]
      simp only [hc50.mpr z, true_and] at hK
      intro v4 hv4
      subst hv4
      unfold M_X5_number_L1
      refine ⟨fun j x a m1 => m1 = m ∧ (0 ≤ x ∧ x ≤ 10009) ∧ (tz_p B n i ≤ a ∧ a ≤ tz_e B n i) ∧ j = (tz_e B n i - a).toNat ∧ (tz_d B (tz_e B n i - a).toNat a x = tz_v B n i), ⟨_, rfl, by omega, by omega, rfl, by rw [hv, h3]⟩, ?_⟩
      rintro j x a m1 ⟨rfl, x0, a0, rfl, e⟩
      have fin : (x = tz_v B n i ∨ (hi < x ∧ hi < tz_v B n i)) → M_X5_number_J1 lo hi x K m1 := by
        intro q
        unfold M_X5_number_J1
        rw [within_eq, b01]
        rcases q with q | q
        · rw [← q] at hK
          refine ⟨fun w => ?_, fun w => ?_⟩
          · rw [if_neg w] at hK; exact hK
          · rw [if_pos (Classical.not_not.mp w)] at hK; exact hK
        · rw [if_neg (by omega)] at hK
          exact ⟨fun _ => hK, fun w => by omega⟩
      have hge := tz_d_ge (B := B) (tz_e B n i - a).toNat a x x0.1 (fun y y0 y1 => hdig y (by omega) (by omega))
      unfold M_X5_number_L1B
      simp only [am_rf_all, h4]
      refine ⟨fun w => fin (Or.inl ?_), fun w => ⟨fun y => fin (Or.inr ⟨y, by omega⟩), fun y => ?_⟩⟩
      · rw [show (tz_e B n i - a).toNat = 0 by omega, tz_d] at e
        exact e
      · have hd := hdig a (by omega) (by omega)
        rw [rd_get H, if_pos (by omega), w32_of (z := x * 10) (by omega) (by omega), w32_of (z := x * 10 + B a) (by omega) (by omega), w32_of (z := x * 10 + B a - 48) (by omega) (by omega)]
        intro x2 hx2 a2 ha2
        rw [w32_of (by omega) (by omega)] at ha2
        subst hx2 ha2
        rw [show (tz_e B n i - a).toNat = (tz_e B n i - (a + 1)).toNat + 1 by omega, tz_d, if_neg (by omega)] at e
        exact ⟨_, by omega, rfl, by omega, by omega, rfl, by rw [show x * 10 + B a - 48 = 10 * x + B a - 48 by omega]; exact e⟩
    · rw [if_neg (fun w => z (hc50.mp w.1))] at hK
      exact hK
end RDS
