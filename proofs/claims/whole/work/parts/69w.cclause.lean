/-! THE READER follows the parser: the SUMS of a CLAUSE. -/
def sg_len : List pz_S → Int
  | [] => 0
  | s :: ss => (s.1.length : Int) + sg_len ss
def sg_st : List pz_S → List Int
  | [] => []
  | s :: ss => s.1 ++ sg_st ss
def sg_mk (cl : Int → Int) : Int → Int → List pz_S → Prop
  | _, _, [] => True
  | p, z, s :: ss => cl p = z ∧ sg_mk cl (p + 1) (z + (s.1.length : Int)) ss
theorem sg_len_0 : ∀ ss, 0 ≤ sg_len ss := by
  intro ss
  induction ss with
  | nil => exact Int.le_refl _
  | cons s ss ih => rw [sg_len]; omega
theorem sg_len_app : ∀ (ss : List pz_S) (s : pz_S), sg_len (ss ++ [s]) = sg_len ss + (s.1.length : Int) := by
  intro ss
  induction ss with
  | nil => intro s; simp [sg_len]
  | cons t ss ih => intro s; rw [List.cons_append, sg_len, sg_len, ih]; omega
theorem sg_st_app : ∀ (ss : List pz_S) (s : pz_S), sg_st (ss ++ [s]) = sg_st ss ++ s.1 := by
  intro ss
  induction ss with
  | nil => intro s; simp [sg_st]
  | cons t ss ih => intro s; rw [List.cons_append, sg_st, sg_st, ih, List.append_assoc]
theorem sg_st_len : ∀ ss, ((sg_st ss).length : Int) = sg_len ss := by
  intro ss
  induction ss with
  | nil => rfl
  | cons t ss ih => rw [sg_st, sg_len, List.length_append, ← ih]; omega
theorem sg_mk_app {cl : Int → Int} : ∀ (ss : List pz_S) (p z : Int) (s : pz_S), sg_mk cl p z ss → cl (p + (ss.length : Int)) = z + sg_len ss → sg_mk cl p z (ss ++ [s]) := by
  intro ss
  induction ss with
  | nil => intro p z s _ h; simp [sg_len] at h; exact ⟨h, trivial⟩
  | cons t ss ih =>
    intro p z s h h2
    rw [List.cons_append]
    refine ⟨h.1, ih _ _ _ h.2 ?_⟩
    simp only [List.length_cons] at h2
    rw [sg_len] at h2
    rw [show p + 1 + (ss.length : Int) = p + ((ss.length + 1 : Nat) : Int) by omega, h2]
    omega
theorem sg_mk_of {cl cl' : Int → Int} : ∀ (ss : List pz_S) (p z : Int), sg_mk cl p z ss → (∀ x, p ≤ x → x < p + (ss.length : Int) → cl' x = cl x) → sg_mk cl' p z ss := by
  intro ss
  induction ss with
  | nil => intro p z _ _; trivial
  | cons t ss ih =>
    intro p z h e
    simp only [List.length_cons] at e
    exact ⟨by rw [e p (by omega) (by omega)]; exact h.1, ih _ _ h.2 (fun x x0 x1 => e x (by omega) (by omega))⟩
/-- the SUMS of a clause, as the loop goes through them -/
def sg_ss (od : Int) (c v : Int → Int) (w : Int) : Nat → Int → Int → Int → List pz_S → Sum Int (Int × Int × List pz_S)
  | 0, _, i, l, ss => .inr (i, l, ss)
  | k + 1, x, i, l, ss => if w ≤ x then sg_ss od c v w k (x + 1) i l (ss ++ [pz_one])
    else if x ≤ 0 then pz_bd (pz_sum od c v 8 i l) fun r => sg_ss od c v w k (x + 1) r.1 r.2.1 (ss ++ [r.2.2])
    else if c i = (if x ≠ 1 then 23 else 22) then pz_bd (pz_sum od c v 8 (i + 1) l) fun r => sg_ss od c v w k (x + 1) r.1 r.2.1 (ss ++ [r.2.2])
    else .inl i
def ck_F (m m' : am_M) : Prop := ∀ o k, ¬ ((o = 135 ∧ (k = 3 ∨ k = 4 ∨ k = 5 ∨ k = 6)) ∨ (o = 131 ∧ k = 1) ∨ o = 132 ∨ (o = 133 ∧ k = 2) ∨ o = 134) → m' o k = m o k
theorem ck_F_t {a b c : am_M} (h : ck_F a b) (g : ck_F b c) : ck_F a c := fun o k q => by rw [g o k q, h o k q]
theorem ck_of {a b : am_M} (h : cd_F a b) : ck_F a b := fun o k q => h o k (by omega)
section CKS
variable {m : am_M} {B : Int → Int} {n od : Int}
theorem cd_mark {q z p : Int} (hk : rk m 133 7 84) (h2 : m 133 2 = q + 1) (h1 : m 131 1 = z) (hq : 0 ≤ q ∧ q < 12) (hp : 0 ≤ p ∧ p ≤ 4) (K : am_KK) : M_X4_mark 131 p K m ↔ K 0 (am_st m 134 (q * 7 + (2 + p)) z) := by
  unfold M_X4_mark
  simp only [am_rf_all]
  rw [h2, w32_of (z := q + 1 - 1) (by omega) (by omega), w32_of (z := 2 + p) (by omega) (by omega), show q + 1 - 1 = q by omega, h1, set_eq' hk h2 (by omega) (by omega)]
  rfl
theorem cd_sums {lim w q : Int} (hod : od = 0 ∨ od = 1) (hlim : lim = if od = 0 then 8 else 24) {i l z : Int} {K : am_KK} (S : cd_S m B n od i l z) (hk : rk m 133 7 84) (h2 : m 133 2 = q + 1) (hq : 0 ≤ q ∧ q < 12) (hi : 0 ≤ i) (hiN : i ≤ tz_N B n) (hl : 0 ≤ l) (h50 : l ≤ 50) (hz : 0 ≤ z) (hzi : z ≤ i)
    (k1 : ∀ r, sg_ss od (tz_c B n) (tz_v B n) w 3 0 i l [] = .inr r → (i ≤ r.1 ∧ r.1 ≤ tz_N B n ∧ 0 ≤ r.2.1 ∧ r.2.1 ≤ 50 ∧ r.2.2.length = 3 ∧ sg_len r.2.2 ≤ r.1 - i) → ∀ m', (∀ o k, ¬ ((o = 135 ∧ (k = 3 ∨ k = 4 ∨ k = 5 ∨ k = 6)) ∨ (o = 131 ∧ k = 1) ∨ o = 132 ∨ (o = 134 ∧ q * 7 + 2 ≤ k ∧ k ≤ q * 7 + 5)) → m' o k = m o k) → cd_S m' B n od r.1 r.2.1 (z + sg_len r.2.2) → pz_at (m' 132) z (sg_st r.2.2) → sg_mk (m' 134) (q * 7 + 2) z r.2.2 → m' 134 (q * 7 + 5) = z + sg_len r.2.2 → (∀ x, x < z → m' 132 x = m 132 x) → K 1 m')
    (k0 : ∀ e, sg_ss od (tz_c B n) (tz_v B n) w 3 0 i l [] = .inl e → ∀ m', (∀ o k, ¬ ((o = 135 ∧ (k = 3 ∨ k = 4 ∨ k = 5 ∨ k = 6)) ∨ (o = 131 ∧ k = 1) ∨ o = 132 ∨ o = 134) → m' o k = m o k) → m' 135 6 = tz_p B n e → K 0 m') :
    M_X5_sums_L1 135 w 0 K m := by
  obtain ⟨hN, h400, hv⟩ := cd_n S.1
  have hso := pz_sum_ok (lim := lim) (c := tz_c B n) (v := tz_v B n) hN hv hod hlim 8
  have hsum := cd_sum_ok (lim := lim) hod hlim S.1 8 301 (by omega) (by omega)
  rw [show (8 : Int) - ((8 : Nat) : Int) = 0 by omega] at hsum
  unfold M_X5_sums_L1
  refine ⟨fun j x m1 => (0 ≤ x ∧ x ≤ 3) ∧ j = (3 - x).toNat ∧ ∃ (i1 l1 : Int) (ss : List pz_S), sg_ss od (tz_c B n) (tz_v B n) w (3 - x).toNat x i1 l1 ss = sg_ss od (tz_c B n) (tz_v B n) w 3 0 i l [] ∧ (i ≤ i1 ∧ i1 ≤ tz_N B n) ∧ (0 ≤ l1 ∧ l1 ≤ 50) ∧ (ss.length : Int) = x ∧ sg_len ss ≤ i1 - i ∧ (∀ o k, ¬ ((o = 135 ∧ (k = 3 ∨ k = 4 ∨ k = 5 ∨ k = 6)) ∨ (o = 131 ∧ k = 1) ∨ o = 132 ∨ (o = 134 ∧ q * 7 + 2 ≤ k ∧ k ≤ q * 7 + 5)) → m1 o k = m o k) ∧ cd_S m1 B n od i1 l1 (z + sg_len ss) ∧ pz_at (m1 132) z (sg_st ss) ∧ sg_mk (m1 134) (q * 7 + 2) z ss ∧ ∀ y, y < z → m1 132 y = m 132 y, ⟨_, by omega, rfl, i, l, [], rfl, by omega, by omega, rfl, by simp [sg_len], fun _ _ _ => rfl, by simp [sg_len]; exact S, fun y hy => by simp [sg_st] at hy, trivial, fun _ _ => rfl⟩, ?_⟩
  rintro j x m1 ⟨b, rfl, i1, l1, ss, e, bi, bl, hss, hlen, F1, S1, A1, M1, E1⟩
  have hk1 : rk m1 133 7 84 := rk_of hk (F1 _ _ (by omega)) (F1 _ _ (by omega))
  have h21 : m1 133 2 = q + 1 := by rw [F1 _ _ (by omega)]; exact h2
  have hss0 := sg_len_0 ss
  unfold M_X5_sums_L1B
  rw [rf_135]
  refine ⟨fun c => ?_, fun c => ?_⟩
  · have : x = 3 := by omega
    subst this
    rw [cd_mark hk1 h21 S1.2.2.2.2.2.2 hq (by omega)]
    rw [show (3 - (3 : Int)).toNat = 0 by decide, sg_ss] at e
    refine k1 _ e.symm ⟨bi.1, bi.2, bl.1, bl.2, by simp only []; omega, hlen⟩ _ (fun o k ho => by rw [am_st_ne _ (by omega)]; exact F1 o k ho) (cd_S_of S1 (fun o k ho => am_st_ne _ (by omega))) (pz_at_of A1 (fun y _ _ => am_st_ne _ (by omega))) (sg_mk_of ss _ _ M1 (fun y y0 y1 => am_st_ne _ (by omega))) ?_ (fun y hy => by rw [am_st_ne _ (by omega)]; exact E1 y hy)
    rw [show q * 7 + 5 = q * 7 + (2 + 3) by omega, am_st_same]
  · rw [cd_mark hk1 h21 S1.2.2.2.2.2.2 hq (by omega)]
    have M2 : ∀ s, sg_mk (am_st m1 134 (q * 7 + (2 + x)) (z + sg_len ss) 134) (q * 7 + 2) z (ss ++ [s]) := fun s => by
      refine sg_mk_app ss _ _ s (sg_mk_of ss _ _ M1 (fun y y0 y1 => am_st_ne _ (by omega))) ?_
      rw [hss, show q * 7 + 2 + x = q * 7 + (2 + x) by omega, am_st_same]
    have S2 : cd_S (am_st m1 134 (q * 7 + (2 + x)) (z + sg_len ss)) B n od i1 l1 (z + sg_len ss) := cd_S_of S1 (fun o k ho => am_st_ne _ (by omega))
    have F2 : ∀ o k, ¬ ((o = 135 ∧ (k = 3 ∨ k = 4 ∨ k = 5 ∨ k = 6)) ∨ (o = 131 ∧ k = 1) ∨ o = 132 ∨ (o = 134 ∧ q * 7 + 2 ≤ k ∧ k ≤ q * 7 + 5)) → am_st m1 134 (q * 7 + (2 + x)) (z + sg_len ss) o k = m o k := fun o k ho => by rw [am_st_ne _ (by omega)]; exact F1 o k ho
    have E2 : ∀ y, am_st m1 134 (q * 7 + (2 + x)) (z + sg_len ss) 132 y = m1 132 y := fun y => am_st_ne _ (by omega)
    generalize am_st m1 134 (q * 7 + (2 + x)) (z + sg_len ss) = m2 at *
    rw [show (3 - x).toNat = (3 - (x + 1)).toNat + 1 by omega, sg_ss] at e
    have go : ∀ (m3 : am_M) (i3 : Int), cd_F m2 m3 → cd_S m3 B n od i3 l1 (z + sg_len ss) → (∀ y, m3 132 y = m1 132 y) → i1 ≤ i3 → i3 ≤ tz_N B n → (pz_bd (pz_sum od (tz_c B n) (tz_v B n) 8 i3 l1) fun r => sg_ss od (tz_c B n) (tz_v B n) w (3 - (x + 1)).toNat (x + 1) r.1 r.2.1 (ss ++ [r.2.2])) = sg_ss od (tz_c B n) (tz_v B n) w 3 0 i l [] → M_X5_sums_J4 135 w x (fun v3' m' => ∃ j', j' < (3 - x).toNat ∧ (0 ≤ v3' ∧ v3' ≤ 3) ∧ j' = (3 - v3').toNat ∧ ∃ (i1 l1 : Int) (ss : List pz_S), sg_ss od (tz_c B n) (tz_v B n) w (3 - v3').toNat v3' i1 l1 ss = sg_ss od (tz_c B n) (tz_v B n) w 3 0 i l [] ∧ (i ≤ i1 ∧ i1 ≤ tz_N B n) ∧ (0 ≤ l1 ∧ l1 ≤ 50) ∧ (ss.length : Int) = v3' ∧ sg_len ss ≤ i1 - i ∧ (∀ o k, ¬ ((o = 135 ∧ (k = 3 ∨ k = 4 ∨ k = 5 ∨ k = 6)) ∨ (o = 131 ∧ k = 1) ∨ o = 132 ∨ (o = 134 ∧ q * 7 + 2 ≤ k ∧ k ≤ q * 7 + 5)) → m' o k = m o k) ∧ cd_S m' B n od i1 l1 (z + sg_len ss) ∧ pz_at (m' 132) z (sg_st ss) ∧ sg_mk (m' 134) (q * 7 + 2) z ss ∧ ∀ y, y < z → m' 132 y = m 132 y) K m3 := by
      intro m3 i3 F3 S3 E3 bi3 bN3 e3
      unfold M_X5_sums_J4 M_X5_sums_J5
      refine hsum m3 i3 l1 _ _ S3 (by omega) bN3 bl.1 bl.2 (by omega) (by omega) (fun a ha m4 F4 S4 A4 E4 => ?_) (fun f hf m4 F4 E4 => ?_)
      · refine ⟨fun _ => ?_, fun y => absurd (by decide) y⟩
        rw [ha] at e3
        simp only [pz_bd] at e3
        obtain ⟨a1, a2, a3, a4, a5⟩ := (hso i3 l1 (by omega) bN3 bl.1 bl.2).2 a ha
        intro v hv2
        rw [w32_of (by omega) (by omega)] at hv2
        subst hv2
        refine ⟨_, by omega, by omega, rfl, a.1, a.2.1, ss ++ [a.2.2], e3, by omega, by omega, by simp only [List.length_append, List.length_cons, List.length_nil]; omega, by rw [sg_len_app]; omega, fun o k ho => ?_, ?_, ?_, ?_, fun y hy => ?_⟩
        · rw [F4 o k (by omega), F3 o k (by omega)]; exact F2 o k ho
        · rw [sg_len_app, ← Int.add_assoc]; exact S4
        · rw [sg_st_app]
          refine pz_at_app.mpr ⟨pz_at_of A1 (fun y y0 y1 => ?_), ?_⟩
          · rw [sg_st_len] at y1
            rw [E4 y (by omega), E3]
          · rw [sg_st_len]; exact A4
        · exact sg_mk_of _ _ _ (M2 a.2.2) (fun y _ _ => by rw [F4 _ _ (by omega), F3 _ _ (by omega)])
        · rw [E4 y (by omega), E3]; exact E1 y hy
      · refine ⟨fun y => absurd rfl y, fun _ => ?_⟩
        rw [hf] at e3
        simp only [pz_bd] at e3
        exact k0 f e3.symm m4 (fun o k ho => by rw [F4 o k (by omega), F3 o k (by omega)]; exact F2 o k (by omega)) E4
    have j3 : ∀ t y, (0 ≤ t ∧ t < 38) → tz_cd.getD t.toNat 0 = y → ¬ w ≤ x → ¬ x ≤ 0 → (if x ≠ 1 then (23 : Int) else 22) = y → M_X5_sums_J3 135 w x 135 t (fun v3' m' => ∃ j', j' < (3 - x).toNat ∧ (0 ≤ v3' ∧ v3' ≤ 3) ∧ j' = (3 - v3').toNat ∧ ∃ (i1 l1 : Int) (ss : List pz_S), sg_ss od (tz_c B n) (tz_v B n) w (3 - v3').toNat v3' i1 l1 ss = sg_ss od (tz_c B n) (tz_v B n) w 3 0 i l [] ∧ (i ≤ i1 ∧ i1 ≤ tz_N B n) ∧ (0 ≤ l1 ∧ l1 ≤ 50) ∧ (ss.length : Int) = v3' ∧ sg_len ss ≤ i1 - i ∧ (∀ o k, ¬ ((o = 135 ∧ (k = 3 ∨ k = 4 ∨ k = 5 ∨ k = 6)) ∨ (o = 131 ∧ k = 1) ∨ o = 132 ∨ (o = 134 ∧ q * 7 + 2 ≤ k ∧ k ≤ q * 7 + 5)) → m' o k = m o k) ∧ cd_S m' B n od i1 l1 (z + sg_len ss) ∧ pz_at (m' 132) z (sg_st ss) ∧ sg_mk (m' 134) (q * 7 + 2) z ss ∧ ∀ y, y < z → m' 132 y = m 132 y) K m2 := by
      intro t y ht hty cw c0 cy
      rw [if_neg cw, if_neg c0, cy] at e
      unfold M_X5_sums_J3
      refine cd_pass S2 (q := y) (by omega) ht hty (fun cq m3 f3 S3 => ?_) (fun cq m3 F3 E3 => ?_)
      · rw [if_pos cq] at e
        have hy0 : tz_c B n i1 ≠ 0 := by rw [cq, ← cy]; split <;> decide
        have := cd_lt S2.1 bi.2 hy0
        exact ⟨fun _ => go m3 (i1 + 1) (fr_34 f3) S3 (fun y => by rw [f3 _ _ (by omega)]; exact E2 y) (by omega) (by omega) e, fun y => absurd (by decide) y⟩
      · rw [if_neg cq] at e
        exact ⟨fun y => absurd rfl y, fun _ => k0 _ e.symm m3 (fun o k ho => by rw [F3 o k (by omega)]; exact F2 o k (by omega)) E3⟩
    refine ⟨fun cw => ?_, fun cw => ⟨fun c0 => ?_, fun c0 => ⟨fun cx => ?_, fun cx => ?_⟩⟩⟩
    · rw [if_pos cw] at e
      unfold M_X5_sums_J5
      intro v hv2
      rw [w32_of (by omega) (by omega)] at hv2
      subst hv2
      refine ⟨_, by omega, by omega, rfl, i1, l1, ss ++ [pz_one], e, bi, bl, by simp only [List.length_append, List.length_cons, List.length_nil]; omega, by rw [sg_len_app]; simp [pz_one]; exact hlen, F2, ?_, ?_, M2 _, fun y hy => by rw [E2]; exact E1 y hy⟩
      · rw [sg_len_app]
        simp only [pz_one, List.length_nil]
        rw [show z + (sg_len ss + ((0 : Nat) : Int)) = z + sg_len ss by omega]
        exact S2
      · rw [sg_st_app]
        simp only [pz_one, List.append_nil]
        exact pz_at_of A1 (fun y _ _ => E2 y)
    · rw [if_neg cw, if_pos c0] at e
      exact go m2 i1 (cd_F_refl m2) S2 E2 (Int.le_refl _) bi.2 e
    · exact j3 6 23 (by omega) rfl cw c0 (by rw [if_pos cx])
    · exact j3 5 22 (by omega) rfl cw c0 (by rw [if_neg cx])
end CKS
