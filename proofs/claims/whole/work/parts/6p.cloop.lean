/-! ORDERS on the one side: all clauses. -/
theorem or_S_le (A : Int → Int) (hA : wg_A A) : ∀ t, -1 ≤ or_S A t ∧ or_S A t ≤ 1000000 := by
  intro t
  unfold or_S
  by_cases c : 0 ≤ t ∧ t < 8
  · rw [if_pos c]
    by_cases ci : wg_n A 8 t = wg_I
    · rw [if_pos ci]; omega
    · rw [if_neg ci]; have := wg_le (wg_n_ok hA 8) c ci; omega
  · rw [if_neg c]; omega
section COL
variable {m : am_M} {A0 A1 : Int → Int} {g0 : am_M}
theorem corders {cs : List pz_C} (hA : wg_A A0) (hP : pz_PG m 131 cs) (hx : ∀ x ∈ cs, pz_cok 24 x) (G0 : or_G A1 g0) (R0 : oc_R m g0) (E0 : cw_E m A0) (hz : ∀ k, 4 ≤ k → k ≤ 7 → m 166 k = 0) (L0 : oc_L m g0) {RES : Int × Int × am_M × Int} (hres : or_c (or_S A0) cs 0 g0 0 = RES) {K : am_KK}
    (k1 : RES.1 = 0 → ∀ m', (∀ o k, ¬ (o = 137 ∨ o = 139 ∨ o = 141 ∨ (o = 140 ∧ (k = 2 ∨ k = 3)) ∨ (o = 12 ∧ k = 1) ∨ (o = 13 ∧ k = 2) ∨ o = 14 ∨ (o = 148 ∧ k = 2) ∨ o = 149 ∨ (o = 166 ∧ ¬ (4 ≤ k ∧ k ≤ 7)) ∨ (o = 0 ∧ k = 17)) → m' o k = m o k) → or_G A1 RES.2.2.1 → oc_R m' RES.2.2.1 → m' 0 17 = 0 → K RES.2.2.2 m')
    (k2 : RES.1 ≠ 0 → (RES.1 = -3 ∨ RES.1 = -5) → ∀ m', (∀ o k, ¬ (o = 137 ∨ o = 139 ∨ o = 141 ∨ (o = 140 ∧ (k = 2 ∨ k = 3)) ∨ (o = 12 ∧ k = 1) ∨ (o = 13 ∧ k = 2) ∨ o = 14 ∨ (o = 148 ∧ k = 2) ∨ o = 149 ∨ (o = 166 ∧ ¬ (4 ≤ k ∧ k ≤ 7)) ∨ (o = 0 ∧ (k = 17 ∨ k = 19)) ∨ o = 167) → m' o k = m o k) → oc_R m' g0 → m' 0 17 = RES.1 → m' 0 19 = RES.2.1 → m' 167 (-RES.1) = w32 (m 167 (-RES.1) + 1) → (∀ k, k ≠ -RES.1 → m' 167 k = m 167 k) → K RES.1 m') :
    M_X11_orders_L1 0 0 0 K m := by
  have hS := or_S_le A0 hA
  have r133 : am_rfv (am_rfv 0 4) 2 = 133 := by decide +kernel
  have l12 := hP.2.2.1
  have hA1 : ∀ x, 170 ≤ x → g0 170 x = A1 x := fun x h => G0.2.2.2 x (Or.inr h)
  unfold M_X11_orders_L1
  refine ⟨fun j done i m1 => ∃ pre post, cs = pre ++ post ∧ (pre.length : Int) = i ∧ post.length = j ∧ ∃ g, or_c (or_S A0) post i g done = RES ∧ or_G A1 g ∧ oc_R m1 g ∧ fr_o m m1 ∧ 0 ≤ done ∧ done ≤ 20 * i, ⟨_, [], cs, rfl, rfl, rfl, g0, hres, G0, R0, fun _ _ _ => rfl, by omega, by omega⟩, ?_⟩
  rintro j done i m1 ⟨pre, post, hcs, rfl, rfl, g, hc, G, R, F, d0, d1⟩
  have P1 : pz_PG m1 131 cs := pz_PG_of hP (fun o k ho => F o k (by omega))
  have n133 : m1 133 2 = (cs.length : Int) := P1.2.2.2.2.1
  have hlen : (cs.length : Int) = (pre.length : Int) + (post.length : Int) := by rw [hcs]; simp only [List.length_append]; omega
  unfold M_X11_orders_L1B
  rw [r133, n133]
  refine ⟨fun c => ?_, fun c => ?_⟩
  · have hp0 : post = [] := List.eq_nil_of_length_eq_zero (by omega)
    subst hp0
    rw [or_c] at hc
    rw [fine_eq]
    subst hc
    exact k1 rfl _ (fun o k ho => by rw [am_st_ne _ (by omega)]; exact F o k (by omega)) G (oc_of R G.2.1 (fun o k ho => am_st_ne _ (by omega))) (am_st_same _ _ _ _)
  · cases post with
    | nil => simp only [List.length_nil] at hlen; omega
    | cons x post =>
      have hxm : x ∈ cs := by rw [hcs]; exact List.mem_append_right _ List.mem_cons_self
      have hxc := hx x hxm
      have ht := hxc.2.2.2.2.2
      rw [or_c] at hc
      generalize hRT : or_t (or_S A0) x x.2.1.toNat g done = RT at hc
      unfold M_X11_orders_L2
      refine ⟨fun j dn v m2 => (0 ≤ v ∧ v ≤ x.2.1) ∧ j = (x.2.1 - v).toNat ∧ ∃ g2, or_t (or_S A0) x (x.2.1 - v).toNat g2 dn = RT ∧ or_G A1 g2 ∧ oc_R m2 g2 ∧ fr_o m m2 ∧ 0 ≤ dn ∧ dn ≤ 20 * (pre.length : Int) + v, ⟨_, by omega, rfl, g, by rw [Int.sub_zero]; exact hRT, G, R, F, d0, by omega⟩, ?_⟩
      rintro j dn v m2 ⟨bv, rfl, g2, hrt, G2, R2, F2, e0, e1⟩
      have P2 : pz_PG m2 131 (pre ++ x :: post) := by rw [← hcs]; exact pz_PG_of hP (fun o k ho => F2 o k (by omega))
      unfold M_X11_orders_L2B
      rw [r133, (pg_get P2).2]
      refine ⟨fun cv => ?_, fun cv => ?_⟩
      · have hv : v = x.2.1 := by omega
        subst hv
        rw [show (x.2.1 - x.2.1).toNat = 0 by omega, or_t] at hrt
        rw [← hrt, if_pos rfl] at hc
        intro y hy
        rw [w32_of (by omega) (by omega)] at hy
        subst hy
        exact ⟨post.length, by simp only [List.length_cons]; omega, pre ++ [x], post, by rw [hcs]; simp, by simp only [List.length_append, List.length_cons, List.length_nil]; omega, rfl, g2, hc, G2, R2, F2, e0, by omega⟩
      · rw [show (x.2.1 - v).toNat = (x.2.1 - (v + 1)).toNat + 1 by omega, or_t] at hrt
        refine caround (g := g2) (done := dn) hA G2.2.1 R2 (fun t t0 t1 => by rw [F2 _ _ (by omega), F2 _ _ (by omega), F2 _ _ (by omega)]; exact E0 t t0 t1) (fun k k0 k1 => by rw [F2 _ _ (by omega)]; exact hz k k0 k1) (fun m3 f3 h3 => ?_)
        have F3 : fr_o m m3 := fun o k ho => by rw [f3 o k (by omega)]; exact F2 o k ho
        have R3 := oc_of R2 G2.2.1 (m' := m3) (fun o k ho => f3 o k (by omega))
        have P3 : pz_PG m3 131 (pre ++ x :: post) := by rw [← hcs]; exact pz_PG_of hP (fun o k ho => F3 o k (by omega))
        have hw2 := G2.2.1
        have hE := or_env_le (S := or_S A0) (A := g2 170) (done := dn) hS (by have := hw2.2.1.1; omega) (by have := hw2.2.1.2.1; omega) (by omega)
        simp only [am_rf_all]
        refine cvalue (p := 131) (fa := 166) (lim := 24) (part := 3) (env := or_env (or_S A0) (g2 170) dn) pg_pg131 P3 hxc (by omega) len_166 h3 hE (fun m4 f4 => ?_)
        have F4 : fr_o m m4 := fun o k ho => by rw [f4 o k (by omega)]; exact F3 o k ho
        have R4 := oc_of R3 G2.2.1 (m' := m4) (fun o k ho => f4 o k (by omega))
        rw [show pz_sel x 3 = x.2.2.2.2.2 from rfl]
        obtain ⟨G3, hcode⟩ := or_1_G (S := or_S A0) G2 x dn
        by_cases hT : x.2.2.2.2.2.2 (or_env (or_S A0) (g2 170) dn) = some 1
        · rw [hT]
          refine ⟨fun _ => ?_, fun z => absurd rfl z⟩
          refine conce (A0 := A1) (S := or_S A0) (g := g2) (done := dn) G2 R4 (fun f f0 f1 => by rw [f4 _ _ (by omega)]; exact h3 f f0 f1) hS (by omega) (pz_PG_of P3 (fun o k ho => f4 o k (by omega))) hxc hT (fun o1 m5 F5 R5 => ?_) (fun o1 o0 m5 F5 => ?_)
          · rw [if_neg (by omega), if_pos o1] at hrt
            refine ⟨fun _ => ?_, fun z => absurd rfl z⟩
            unfold M_X11_orders_J1
            intro dn2 hd2 y hy
            rw [w32_of (by omega) (by omega)] at hd2 hy
            subst hd2 hy
            exact ⟨_, by omega, by omega, rfl, _, hrt, G3, R5, fr_o_t F4 F5, by omega, by omega⟩
          · rw [if_neg o0, if_neg o1] at hrt
            refine ⟨fun z => absurd z o0, fun _ => ?_⟩
            have hcc : (or_1 (or_S A0) x g2 dn).1 = -3 ∨ (or_1 (or_S A0) x g2 dn).1 = -5 := by omega
            rw [← hrt, if_neg (by simp only []; exact o0)] at hc
            have F5' := fr_o_t F4 F5
            have hR1 : RES.1 = (or_1 (or_S A0) x g2 dn).1 := by rw [← hc]
            have hR2 : RES.2.1 = (pre.length : Int) := by rw [← hc]
            have L5 : oc_L m5 g0 := by
              obtain ⟨a1, ⟨a2, a3, a4⟩, a5, a6⟩ := L0
              exact ⟨vg_of a1 (fun o k _ _ => F5' o k (by omega)) (fun _ _ => rfl), ⟨rk_of a2 (F5' _ _ (by omega)) (F5' _ _ (by omega)), by rw [F5' _ _ (by omega)]; exact a3, fun j j0 j1 => by rw [F5' _ _ (by omega)]; exact a4 j j0 j1⟩, by rw [F5' _ _ (by omega)]; exact a5, by rw [F5' _ _ (by omega)]; exact a6⟩
            have hb5 : bk_P m5 1 (g0 170) := bk_of R0.1 (fun o k _ _ _ => F5' o k (by omega)) (fun _ _ => rfl) G0.2.1.2.2.1.1.2
            have hst := cstop (m := m5) (g0 := g0) (A1 := g0 170) (c := (or_1 (or_S A0) x g2 dn).1) (i := (pre.length : Int)) (K := K) hcc L5 G0.2.1 hb5 (fun _ _ => rfl) G0.2.1.2.2.1.1.2 (fun m6 f6 R6 q1 q2 q3 q4 => ?_)
            · simp only [am_rf_all] at hst
              exact hst
            · rw [← hR1]
              refine k2 (by rw [hR1]; exact o0) (by rw [hR1]; exact hcc) m6 (fun o k ho => by rw [f6 o k (by omega)]; exact F5' o k (by omega)) R6 (by rw [hR1]; exact q1) (by rw [hR2]; exact q2) (by rw [hR1, q3, F5' _ _ (by omega)]) (fun k hk => by rw [hR1] at hk; rw [q4 k hk]; exact F5' _ _ (by omega))
        · have hz0 : (or_1 (or_S A0) x g2 dn).1 = 0 := by unfold or_1; rw [if_pos hT]
          rw [if_pos hz0] at hrt
          refine ⟨fun z => ?_, fun _ => ?_⟩
          · exfalso
            cases ez : x.2.2.2.2.2.2 (or_env (or_S A0) (g2 170) dn) with
            | none => rw [ez] at z; simp at z
            | some a => rw [ez] at z hT; simp only [Option.getD_some] at z; exact hT (by rw [z])
          · unfold M_X11_orders_J1
            intro y hy
            rw [w32_of (by omega) (by omega)] at hy
            subst hy
            exact ⟨_, by omega, by omega, rfl, g2, hrt, G2, R4, F4, e0, by omega⟩
end COL
