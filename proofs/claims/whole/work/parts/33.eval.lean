/-! THE MODEL'S EVALUATOR goes along what the parser told, and tells the same value. -/
theorem am_ob168 : am_ob 168 12 := ⟨by decide, by decide, by decide +kernel⟩
theorem cmp_1 (a b : Int) : (0 < am_cmp a b) ↔ b < a := by unfold am_cmp; repeat' split <;> omega
theorem cmp_2 (a b : Int) : (0 ≤ am_cmp a b) ↔ b ≤ a := by unfold am_cmp; repeat' split <;> omega
theorem cmp_3 (a b : Int) : (am_cmp a b ≠ 0) ↔ a ≠ b := by unfold am_cmp; repeat' split <;> omega
theorem cmp_4 (a b : Int) : (am_cmp a b ≤ 0) ↔ a ≤ b := by unfold am_cmp; repeat' split <;> omega
theorem cmp_5 (a b : Int) : (am_cmp a b = 0) ↔ a = b := by unfold am_cmp; repeat' split <;> omega
theorem sgn_eq (x y : Int) (h : w32 (100 + x) = y) (K : am_KK) (m : am_M) : M_X12_sign x K m ↔ K y m := by unfold M_X12_sign; rw [h]
theorem sgn_40 (K : am_KK) (m : am_M) : M_X12_sign 40 K m ↔ K 140 m := sgn_eq 40 140 (by decide) K m
theorem sgn_41 (K : am_KK) (m : am_M) : M_X12_sign 41 K m ↔ K 141 m := sgn_eq 41 141 (by decide) K m
theorem sgn_42 (K : am_KK) (m : am_M) : M_X12_sign 42 K m ↔ K 142 m := sgn_eq 42 142 (by decide) K m
theorem sgn_43 (K : am_KK) (m : am_M) : M_X12_sign 43 K m ↔ K 143 m := sgn_eq 43 143 (by decide) K m
theorem sgn_45 (K : am_KK) (m : am_M) : M_X12_sign 45 K m ↔ K 145 m := sgn_eq 45 145 (by decide) K m
theorem sgn_47 (K : am_KK) (m : am_M) : M_X12_sign 47 K m ↔ K 147 m := sgn_eq 47 147 (by decide) K m
theorem sgn_37 (K : am_KK) (m : am_M) : M_X12_sign 37 K m ↔ K 137 m := sgn_eq 37 137 (by decide) K m
theorem sgn_59 (K : am_KK) (m : am_M) : M_X12_sign 59 K m ↔ K 159 m := sgn_eq 59 159 (by decide) K m
theorem sgn_60 (K : am_KK) (m : am_M) : M_X12_sign 60 K m ↔ K 160 m := sgn_eq 60 160 (by decide) K m
theorem sgn_61 (K : am_KK) (m : am_M) : M_X12_sign 61 K m ↔ K 161 m := sgn_eq 61 161 (by decide) K m
theorem sgn_62 (K : am_KK) (m : am_M) : M_X12_sign 62 K m ↔ K 162 m := sgn_eq 62 162 (by decide) K m
theorem sgn_91 (K : am_KK) (m : am_M) : M_X12_sign 91 K m ↔ K 191 m := sgn_eq 91 191 (by decide) K m
theorem sgn_93 (K : am_KK) (m : am_M) : M_X12_sign 93 K m ↔ K 193 m := sgn_eq 93 193 (by decide) K m
/-- the two branches as one -/
theorem ite_br (c p q : Prop) [Decidable c] : ((c → p) ∧ (¬ c → q)) ↔ if c then p else q := by by_cases h : c <;> simp [h]
/-- the evaluator's two cells -/
def am_ev (m : am_M) (g b : Int) : am_M := am_st (am_st m 168 22 g) 168 24 b
theorem ev_eq (m : am_M) (g b o k : Int) : am_ev m g b o k = if o = 168 ∧ k = 24 then b else if o = 168 ∧ k = 22 then g else m o k := rfl
theorem ev_g (m : am_M) (g b : Int) : am_ev m g b 168 22 = g := by rw [ev_eq, if_neg (by omega), if_pos (by omega)]
theorem ev_b (m : am_M) (g b : Int) : am_ev m g b 168 24 = b := by rw [ev_eq, if_pos (by omega)]
theorem ev_o (m : am_M) (g b o k : Int) (h : o ≠ 168) : am_ev m g b o k = m o k := by rw [ev_eq, if_neg (by omega), if_neg (by omega)]
theorem ev_k (m : am_M) (g b k : Int) (h : k ≠ 24 ∧ k ≠ 22) : am_ev m g b 168 k = m 168 k := by rw [ev_eq, if_neg (by omega), if_neg (by omega)]
theorem ev_sg (m : am_M) (g b x : Int) : am_st (am_ev m g b) 168 22 x = am_ev m x b := by
  funext o k
  simp only [am_st_eq, ev_eq]
  by_cases h1 : o = 168 ∧ k = 22
  · rw [if_pos h1, if_neg (by omega), if_pos h1]
  · rw [if_neg h1, if_neg h1, if_neg h1]
theorem ev_sb (m : am_M) (g b x : Int) : am_st (am_ev m g b) 168 24 x = am_ev m g x := by
  funext o k
  simp only [am_st_eq, ev_eq]
  by_cases h1 : o = 168 ∧ k = 24
  · rw [if_pos h1, if_pos h1]
  · rw [if_neg h1, if_neg h1, if_neg h1]
theorem ev_self (m : am_M) : am_ev m (m 168 22) (m 168 24) = m := by
  funext o k
  rw [ev_eq]
  by_cases h1 : o = 168 ∧ k = 24
  · rw [if_pos h1, h1.1, h1.2]
  · rw [if_neg h1]
    by_cases h2 : o = 168 ∧ k = 22
    · rw [if_pos h2, h2.1, h2.2]
    · rw [if_neg h2]
/-- the evaluator stands in a TEXT of N TOKENS that begins at B, asked of env -/
def ev_H (m0 : am_M) (od B N : Int) (c v env : Int → Int) : Prop :=
  (∀ x, 0 ≤ x → x < N → m0 170 (377 + (B + x)) = c x) ∧ (∀ x, N ≤ x → c x = 0) ∧ (∀ x, 0 ≤ x → x < N → m0 170 (3177 + (B + x)) = v x) ∧ (m0 168 23 = B + N ∧ 0 ≤ B ∧ B ≤ 2400 ∧ 0 ≤ N ∧ N ≤ 400) ∧ (∀ x, 0 ≤ v x) ∧ (od = 0 ∨ od = 1) ∧ m0 168 8 = (if od = 0 then 8 else 15)
  ∧ (∀ f, -1000000000 ≤ env f ∧ env f ≤ 1000000000) ∧ (od = 0 → ∀ x, 0 ≤ x → x < 8 → m0 180 x = env (if x = 6 then 7 else if x = 7 then 6 else x)) ∧ (od = 1 → (∀ x, 0 ≤ x → x < 4 → m0 180 x = env x) ∧ ∀ t, 0 ≤ t → t < 8 → m0 181 t = env (8 + t) ∧ m0 182 t = env (16 + t))
def ev_v (live b : Int) (d : am_Val) (env : Int → Int) : Int := if live = 1 ∧ b = 0 then (d env).getD 0 else 0
def ev_bb (live b : Int) (d : am_Val) (env : Int → Int) : Int := if live = 1 ∧ d env = none then 1 else b
theorem ev_bb01 {live b : Int} {d : am_Val} {env : Int → Int} (hb : b = 0 ∨ b = 1) : ev_bb live b d env = 0 ∨ ev_bb live b d env = 1 := by
  unfold ev_bb
  split
  · exact Or.inr rfl
  · exact hb
theorem ev_v_le {live b : Int} {d : am_Val} {env : Int → Int} (he : ∀ f, -1000000000 ≤ env f ∧ env f ≤ 1000000000) (hd : pz_val d) : -1000000000 ≤ ev_v live b d env ∧ ev_v live b d env ≤ 1000000000 := by
  unfold ev_v
  split
  · cases e : d env with
    | none => simp
    | some a => exact hd env he a e
  · omega
section EVA
variable {m0 : am_M} {od B N : Int} {c v env : Int → Int}
theorem codeAt_ev (H : ev_H m0 od B N c v env) {x g b : Int} (h0 : 0 ≤ x) (hN : x ≤ N) (K : am_KK) : M_X12_codeAt 168 (B + x) K (am_ev m0 g b) ↔ K (c x) (am_ev m0 g b) := by
  obtain ⟨h1, h2, h3, ⟨h4, h5, h6, h7, h8⟩, -⟩ := H
  unfold M_X12_codeAt
  simp only [am_rf_all, am_ln_all]
  rw [ev_k _ _ _ _ (by omega), h4]
  by_cases e : x = N
  · have e1 : B + N ≤ B + x := by omega
    simp only [e1, not_true_eq_false, false_imp_iff, and_true, true_imp_iff]
    rw [h2 x (by omega)]
  · have e1 : ¬ (B + N ≤ B + x) := by omega
    have e2 : w32 (377 + (B + x)) = 377 + (B + x) := w32_of (by omega) (by omega)
    rw [ev_o _ _ _ _ _ (by omega), e2, h1 x h0 (by omega)]
    have e3 : 0 ≤ 377 + (B + x) ∧ 377 + (B + x) < 5977 := by omega
    simp only [e1, not_false_eq_true, false_imp_iff, true_and, true_imp_iff, e3]
theorem passes0_ev (H : ev_H m0 od B N c v env) {i b y : Int} (h0 : 0 ≤ i) (hN : i ≤ N) (K : am_KK) : M_X12_passes0 168 y K (am_ev m0 (B + i) b) ↔ if c i = y then K 1 (am_ev m0 (B + (i + 1)) b) else K 0 (am_ev m0 (B + i) b) := by
  unfold M_X12_passes0 M_X12_passes0_J1
  obtain ⟨-, -, -, ⟨-, h5, h6, h7, h8⟩, -⟩ := id H
  simp only [ev_g]
  rw [codeAt_ev H h0 hN]
  simp only [ev_g, ev_sg, forall_eq, ite_br]
  rw [w32_of (z := B + i + 1) (by omega) (by omega), show B + i + 1 = B + (i + 1) by omega]
  by_cases e : c i = y <;> simp [e]
theorem bounded_ev {g b z live : Int} (hl : live = 0 ∨ live = 1) (K : am_KK) : M_X12_bounded 168 z live K (am_ev m0 g b) ↔ if live = 1 ∧ (z < -1000000000 ∨ 1000000000 < z) then K 0 (am_ev m0 g 1) else K (if b = 0 then z else 0) (am_ev m0 g b) := by
  unfold M_X12_bounded M_X12_bounded_J1 M_X12_bounded_J2
  simp only [forall_eq, ev_sb, ev_b, cmp_1, cmp_2, ite_br]
  rcases hl with rfl | rfl
  · simp
    split <;> simp_all
  · by_cases e1 : 1000000000 < z
    · simp [e1]
    · by_cases e2 : -1000000000 ≤ z
      · have e3 : ¬ z < -1000000000 := by omega
        simp [e1, e2, e3]
        split <;> simp_all
      · have e3 : z < -1000000000 := by omega
        simp [e1, e2, e3]
end EVA
