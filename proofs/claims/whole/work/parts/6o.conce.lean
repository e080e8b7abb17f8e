/-! ORDERS on the one side: a clause once, so often, all of them. -/
theorem len_166 : am_len 166 = 24 ∧ (166 : Int) ≠ 139 := ⟨by decide +kernel, by decide⟩
section CON
variable {m : am_M} {A0 S : Int → Int} {g : am_M}
theorem conce {done : Int} {pre post : List pz_C} {x : pz_C} (hG : or_G A0 g) (R : oc_R m g) (hf : ∀ f, 0 ≤ f → f < 24 → m 166 f = or_env S (g 170) done f) (hS : ∀ t, -1 ≤ S t ∧ S t ≤ 1000000) (hd : 0 ≤ done ∧ done ≤ 1000) (hP : pz_PG m 131 (pre ++ x :: post)) (hx : pz_cok 24 x) (hT : x.2.2.2.2.2.2 (or_env S (g 170) done) = some 1) {K : am_KK}
    (k1 : (or_1 S x g done).1 = 1 → ∀ m', fr_o m m' → oc_R m' (or_1 S x g done).2 → K 0 m') (k2 : (or_1 S x g done).1 ≠ 1 → (or_1 S x g done).1 ≠ 0 → ∀ m', fr_o m m' → K (or_1 S x g done).1 m') : M_X11_runOnce 0 (pre.length : Int) K m := by
  obtain ⟨hud, hw, hH, hA⟩ := id hG
  have h16 := hw.2.1.1
  have hd9 := hw.2.1.2.1
  have l6 := hw.2.2.1.1.2
  have hu := hud.2.2.1
  have hw24 := wf_mono hw (show (16 : Int) ≤ 24 by omega)
  have hE := or_env_le (S := S) (A := g 170) (done := done) hS (by omega) (by omega) hd
  unfold or_1 at k1 k2
  rw [if_neg (by rw [hT]; exact fun z => z rfl)] at k1 k2
  unfold M_X11_runOnce
  simp only [am_rf_all]
  rw [(pg_get hP).1]
  by_cases c4 : x.1 = 4
  · rw [if_pos c4] at k1 k2
    refine ⟨fun z => absurd c4 z, fun _ => ?_⟩
    unfold M_X11_tryDawn
    simp only [am_rf_all]
    rw [R.2.1.2]
    refine ⟨fun c9 => ?_, fun c9 => ?_⟩
    · rw [if_pos c9] at k1
      have hud1 := (ab_dawn_ud hw hH c9).2.2
      refine cdawn (Or.inl rfl) hw24 c9 R.1 R.2.1 (fun m1 f1 v1 b1 b2 => ?_)
      rw [b1, w32_of (z := (ab_dawn (g 170)).2.2.1 * 2) (by omega) (by omega), w32_of (z := (ab_dawn (g 170)).2.2.1 * 2 + 1) (by omega) (by omega)]
      have R1k : rk m1 148 1 16 := rk_of R.2.2.1 (f1 _ _ (by omega)) (f1 _ _ (by omega))
      have h0 := ab_dawn_0 (g 170)
      refine cnote (u := g 168 38) R1k (by rw [f1 _ _ (by omega)]; exact R.2.2.2.1) hu.2 (fun m2 f2 a1 a2 => ?_)
      have emin : am_min (ab_dawn (g 170)).1 0 = 0 := by unfold am_min; split <;> omega
      rw [emin]
      obtain ⟨d1, d2, d3⟩ := ab_dawn_hi hw24 c9
      have hb2 : bk_P m2 1 (ab_dawn (g 170)).2.2.2 := bk_of R.1 (fun o k _ _ _ => by rw [f2 o k (by omega)]; exact f1 o k (by omega)) (fun y hy => d2 y (by omega) (by omega)) l6
      have hv2 : vg_P m2 12 (ab_dawn (g 170)).2.2.2 := vg_of v1 (fun o k _ _ => f2 o k (by omega)) (fun _ _ => rfl)
      refine k1 rfl m2 (fun o k ho => by rw [f2 o k (by omega)]; exact f1 o k (by omega)) (oc_gp R hu hb2 hv2 ?_ (fun c => ?_) (fun c => ?_))
      · refine rk_to R1k (f2 _ _ (by omega)) ?_
        by_cases c : g 168 38 < 16
        · rw [(a1 c).1]; omega
        · rw [(a2 (by omega)).1]; omega
      · obtain ⟨q1, q2, q3⟩ := a1 c
        exact ⟨q1, q2, fun j j0 j1 => by rw [q3 j j0 j1]; exact f1 _ _ (by omega)⟩
      · obtain ⟨q1, q2, q3⟩ := a2 c
        exact ⟨q1, q2, fun j j0 j1 => by rw [q3 j j0 j1]; exact f1 _ _ (by omega)⟩
    · rw [if_neg c9] at k2
      rw [show am_min (-3) 0 = -3 by decide]
      exact k2 (by simp) (by simp) m (fun _ _ _ => rfl)
  · rw [if_neg c4] at k1 k2
    refine ⟨fun _ => ?_, fun z => absurd c4 z⟩
    have hv0 : pz_val x.2.2.1.2 := pz_seg_Q hx.1 pz_one_val
    have hv1 : pz_val x.2.2.2.1.2 := pz_seg_Q hx.2.1 pz_one_val
    have hv2 : pz_val x.2.2.2.2.1.2 := pz_seg_Q hx.2.2.1 pz_one_val
    refine cvalue (p := 131) (fa := 166) (lim := 24) (part := 0) (env := or_env S (g 170) done) pg_pg131 hP hx (by omega) len_166 hf hE (fun m1 f1 => ?_)
    refine cvalue (p := 131) (fa := 166) (lim := 24) (part := 1) (env := or_env S (g 170) done) pg_pg131 (pz_PG_of hP (fun o k ho => f1 o k (by omega))) hx (by omega) len_166 (fun f f0 f1' => by rw [f1 _ _ (by omega)]; exact hf f f0 f1') hE (fun m2 f2 => ?_)
    refine cvalue (p := 131) (fa := 166) (lim := 24) (part := 2) (env := or_env S (g 170) done) pg_pg131 (pz_PG_of hP (fun o k ho => by rw [f2 o k (by omega)]; exact f1 o k (by omega))) hx (by omega) len_166 (fun f f0 f1' => by rw [f2 _ _ (by omega), f1 _ _ (by omega)]; exact hf f f0 f1') hE (fun m3 f3 => ?_)
    have g3 : ∀ o k, o ≠ 139 → m3 o k = m o k := fun o k ho => by rw [f3 o k ho, f2 o k ho]; exact f1 o k ho
    have F3 : fr_o m m3 := fun o k ho => g3 o k (by omega)
    rw [show pz_sel x 0 = x.2.2.1 from rfl, show pz_sel x 1 = x.2.2.2.1 from rfl, show pz_sel x 2 = x.2.2.2.2.1 from rfl]
    cases e0 : x.2.2.1.2 (or_env S (g 170) done) with
    | none =>
      rw [e0] at k2
      exact ⟨fun _ => k2 (by simp) (by simp) m3 F3, fun z => absurd rfl z⟩
    | some a =>
      have ba := hv0 _ hE a e0
      rw [e0] at k1 k2
      refine ⟨fun z => ?_, fun _ => ?_⟩
      · simp only [Option.getD_some] at z; omega
      cases e1 : x.2.2.2.1.2 (or_env S (g 170) done) with
      | none =>
        rw [e1] at k2
        exact ⟨fun _ => k2 (by simp) (by simp) m3 F3, fun z => absurd rfl z⟩
      | some t =>
        have bt := hv1 _ hE t e1
        rw [e1] at k1 k2
        refine ⟨fun z => ?_, fun _ => ?_⟩
        · simp only [Option.getD_some] at z; omega
        cases e2 : x.2.2.2.2.1.2 (or_env S (g 170) done) with
        | none =>
          rw [e2] at k2
          exact ⟨fun z => absurd rfl z, fun _ => k2 (by simp) (by simp) m3 F3⟩
        | some l =>
          have bl := hv2 _ hE l e2
          rw [e2] at k1 k2
          simp only [Option.getD_some] at k1 k2 ⊢
          refine ⟨fun _ => ?_, fun z => absurd (by omega) z⟩
          have R3 := oc_of R hw (m' := m3) (fun o k ho => g3 o k (by omega))
          refine ctry (Or.inl rfl) hw24 R3.1 R3.2.1 (fun hy m4 f4 => ?_) (fun hy m4 v4 f4 => ?_)
          · refine ⟨fun _ => ?_, fun z => absurd hy z⟩
            rw [if_neg hy] at k2
            unfold M_X11_runOnce_J1
            have F4 : fr_o m m4 := fun o k ho => by rw [f4 o k (by omega)]; exact g3 o k (by omega)
            refine ⟨fun z => absurd z hy, fun _ => ⟨fun c5 => ?_, fun c5 => ?_⟩⟩
            · rw [if_neg c5] at k2
              exact k2 (by simp) (by simp) m4 F4
            · have c5 := Classical.not_not.mp c5
              rw [if_pos c5] at k2
              rw [c5]
              exact k2 (by simp) (by simp) m4 F4
          · refine ⟨fun z => absurd rfl z, fun _ => ?_⟩
            rw [if_pos hy] at k1
            have R4k : rk m4 148 1 16 := rk_of R3.2.2.1 (f4 _ _ (by omega)) (f4 _ _ (by omega))
            obtain ⟨y1, y2, y3, y4⟩ := why_0 hy
            refine cnote (u := g 168 38) R4k (by rw [f4 _ _ (by omega)]; exact R3.2.2.2.1) hu.2 (fun m5 f5 a1 a2 => ?_)
            unfold M_X11_runOnce_J1
            refine ⟨fun _ => ?_, fun z => absurd rfl z⟩
            have hb5 : bk_P m5 1 (ab_say (g 170) a t l 1) := bk_of R3.1 (fun o k _ _ _ => by rw [f5 o k (by omega)]; exact f4 o k (by omega)) (fun y hy => ab_say_o (by omega) (by omega)) l6
            have hv5 : vg_P m5 12 (ab_say (g 170) a t l 1) := vg_of v4 (fun o k _ _ => f5 o k (by omega)) (fun _ _ => rfl)
            refine k1 rfl m5 (fun o k ho => by rw [f5 o k (by omega), f4 o k (by omega)]; exact g3 o k (by omega)) (oc_gp R3 hu hb5 hv5 ?_ (fun c => ?_) (fun c => ?_))
            · refine rk_to R4k (f5 _ _ (by omega)) ?_
              by_cases c : g 168 38 < 16
              · rw [(a1 c).1]; omega
              · rw [(a2 (by omega)).1]; omega
            · obtain ⟨q1, q2, q3⟩ := a1 c
              exact ⟨q1, q2, fun j j0 j1 => by rw [q3 j j0 j1]; exact f4 _ _ (by omega)⟩
            · obtain ⟨q1, q2, q3⟩ := a2 c
              exact ⟨q1, q2, fun j j0 j1 => by rw [q3 j j0 j1]; exact f4 _ _ (by omega)⟩
/-- where a stop leaves things: what was laid aside is taken back -/
def oc_L (m : am_M) (g0 : am_M) : Prop := vg_P m 145 (g0 170) ∧ (rk m 150 1 16 ∧ m 150 2 = g0 168 38 ∧ ∀ j, 0 ≤ j → j < g0 168 38 → m 151 j = g0 149 j) ∧ m 13 1 = 7 ∧ m 148 1 = 1
theorem cstop {g0 : am_M} {A1 : Int → Int} {c i : Int} (hc : c = -3 ∨ c = -5) (L : oc_L m g0) (hw : wf_A 16 (g0 170)) (hb : bk_P m 1 A1) (hA : ∀ x, 170 ≤ x → g0 170 x = A1 x) (h6 : A1 368 ≤ 6) {K : am_KK}
    (hK : ∀ m', (∀ o k, ¬ ((o = 12 ∧ k = 1) ∨ (o = 13 ∧ k = 2) ∨ o = 14 ∨ (o = 148 ∧ k = 2) ∨ o = 149 ∨ (o = 0 ∧ (k = 17 ∨ k = 19)) ∨ o = 167) → m' o k = m o k) → oc_R m' g0 → m' 0 17 = c → m' 0 19 = i → m' 167 (-c) = w32 (m 167 (-c) + 1) → (∀ k, k ≠ -c → m' 167 k = m 167 k) → K c m') :
    M_X9_takeFrom (am_rfv (am_rfv 0 0) 5) (am_rfv 0 9) (fun _ m_13 => M_X7_takeFrom (am_rfv 0 10) (am_rfv 0 11) (fun _ m_15 => ∀ m_16 : am_M, m_16 = am_st m_15 0 19 i → M_X11_refuse 0 c (fun r_17 m_18 => K r_17 m_18) m_16) m_13) m := by
  obtain ⟨L1, ⟨L2, L3, L4⟩, L5, L6⟩ := L
  have h16 := hw.2.1.1
  have hbc : c = -1 ∨ c = -2 ∨ c = -3 ∨ c = -5 ∨ c = -6 := by omega
  simp only [am_rf_all, forall_eq]
  refine vg_take (v := 12) (v2 := 145) ⟨by decide +kernel, by decide +kernel, by decide, by decide, by decide, by decide⟩ (by decide +kernel) (by decide +kernel) L5 L1 (by omega) (by omega) (fun m1 v1 f1 => ?_)
  have rs148 : rs 148 1 16 := ⟨by decide +kernel, by decide +kernel, by decide, by decide, by decide, by decide⟩
  have k150 : rk m1 150 1 16 := rk_of L2 (f1 _ _ (by omega)) (f1 _ _ (by omega))
  have e150 : m1 150 2 = g0 168 38 := by rw [f1 _ _ (by omega)]; exact L3
  have hu := L2.2.2
  rw [L3] at hu
  rw [takeFrom_w rs148 (by rw [f1 _ _ (by omega)]; exact L6) k150 (by rw [e150]; omega) (by omega), e150, refuse_eq hbc]
  generalize hm2 : am_st (am_cp m1 (150 + 1) 0 (148 + 1) 0 (g0 168 38 * 1)) 148 2 (g0 168 38) = m2
  have f2 : ∀ o k, ¬ ((o = 148 ∧ k = 2) ∨ o = 149) → m2 o k = m1 o k := fun o k ho => by rw [← hm2, am_st_ne _ (by omega), am_cp_eq, if_neg (by omega)]
  have e2 : m2 148 2 = g0 168 38 := by rw [← hm2, am_st_same]
  have e3 : ∀ j, 0 ≤ j → j < g0 168 38 → m2 149 j = g0 149 j := fun j j0 j1 => by
    rw [← hm2, am_st_ne _ (by omega), am_cp_eq, if_pos (by omega), f1 _ _ (by omega), show 0 + (j - 0) = j by omega]
    exact L4 j j0 j1
  clear hm2
  have q : ∀ o k, ¬ ((o = 12 ∧ k = 1) ∨ (o = 13 ∧ k = 2) ∨ o = 14 ∨ (o = 148 ∧ k = 2) ∨ o = 149) → m2 o k = m o k := fun o k ho => by rw [f2 o k (by omega)]; exact f1 o k (by omega)
  refine hK _ (fun o k ho => by rw [am_st_ne _ (by omega), am_st_ne _ (by omega), am_st_ne _ (by omega)]; exact q o k (by omega)) ⟨?_, ?_, ?_, ?_, fun j j0 j1 => ?_⟩ ?_ ?_ ?_ (fun k hk => ?_)
  · exact bk_of hb (fun o k _ _ _ => by rw [am_st_ne _ (by omega), am_st_ne _ (by omega), am_st_ne _ (by omega)]; exact q o k (by omega)) hA h6
  · exact vg_of v1 (fun o k _ _ => by rw [am_st_ne _ (by omega), am_st_ne _ (by omega), am_st_ne _ (by omega)]; exact f2 o k (by omega)) (fun _ _ => rfl)
  · refine ⟨rs148, ?_, ?_⟩
    · rw [am_st_ne _ (by omega), am_st_ne _ (by omega), am_st_ne _ (by omega), q _ _ (by omega)]; exact L6
    · rw [am_st_ne _ (by omega), am_st_ne _ (by omega), am_st_ne _ (by omega), e2]; omega
  · rw [am_st_ne _ (by omega), am_st_ne _ (by omega), am_st_ne _ (by omega)]; exact e2
  · rw [am_st_ne _ (by omega), am_st_ne _ (by omega), am_st_ne _ (by omega)]; exact e3 j j0 j1
  · rw [am_st_ne _ (by omega), am_st_same]
  · rw [am_st_ne _ (by omega), am_st_ne _ (by omega), am_st_same]
  · rw [am_st_same, am_st_ne _ (by omega), q _ _ (by omega)]
  · rw [am_st_ne _ (by omega), am_st_ne _ (by omega), am_st_ne _ (by omega)]; exact q _ _ (by omega)
end CON
