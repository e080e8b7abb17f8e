/-! ORDERS on the one side. -/
section COR
variable {m : am_M} {A0 : Int → Int} {g : am_M}
def oc_R (m g : am_M) : Prop := bk_P m 1 (g 170) ∧ vg_P m 12 (g 170) ∧ rk m 148 1 16 ∧ m 148 2 = g 168 38 ∧ ∀ j, 0 ≤ j → j < g 168 38 → m 149 j = g 149 j
theorem oc_of {m' : am_M} (R : oc_R m g) (hw : wf_A 16 (g 170)) (e : ∀ o k, ((1 ≤ o ∧ o < 43) ∨ o = 148 ∨ o = 149) → m' o k = m o k) : oc_R m' g := by
  obtain ⟨h1, h2, h3, h4, h5⟩ := R
  exact ⟨bk_of h1 (fun o k _ _ _ => e o k (by omega)) (fun _ _ => rfl) hw.2.2.1.1.2, vg_of h2 (fun o k _ _ => e o k (by omega)) (fun _ _ => rfl), rk_of h3 (e _ _ (by omega)) (e _ _ (by omega)), by rw [e _ _ (by omega)]; exact h4, fun j j0 j1 => by rw [e _ _ (by omega)]; exact h5 j j0 j1⟩
theorem ocgrant {A : Int → Int} {t : Int} (hv : vg_P m 12 A) (h24 : 0 ≤ A 168 ∧ A 168 ≤ 24) {K : am_KK} (hK : K (or_gr A t (A 168).toNat) m) : M_X9_grantedFor 12 t K m := by
  unfold M_X9_grantedFor M_X9_grantedFor_L1
  refine ⟨fun j n x m1 => m1 = m ∧ ∃ i : Nat, (i : Int) ≤ A 168 ∧ x = i ∧ (A 168 - i).toNat = j ∧ n = or_gr A t i, ⟨_, rfl, 0, by omega, rfl, rfl, rfl⟩, ?_⟩
  rintro j n x m1 ⟨rfl, i, hi, rfl, rfl, rfl⟩
  have b := or_gr_le A t i
  have r0 : am_rfv 12 0 = 13 := by decide +kernel
  unfold M_X9_grantedFor_L1B
  rw [r0, show m1 13 2 = A 168 from hv.1.2.1]
  have J : ∀ z, z = or_gr A t (i + 1) → ¬ A 168 ≤ (i : Int) → M_X9_grantedFor_J1 12 t z (i : Int) (fun v2' v3' m' => ∃ j', j' < (A 168 - (i : Int)).toNat ∧ m' = m1 ∧ ∃ i : Nat, (i : Int) ≤ A 168 ∧ v3' = i ∧ (A 168 - i).toNat = j' ∧ v2' = or_gr A t i) K m1 := by
    intro z hz c
    unfold M_X9_grantedFor_J1
    intro y hy
    rw [w32_of (by omega) (by omega)] at hy
    subst hy
    exact ⟨_, by omega, rfl, i + 1, by omega, by omega, rfl, hz⟩
  refine ⟨fun c => ?_, fun c => ?_⟩
  · rw [show i = (A 168).toNat by omega]; exact hK
  · have g5 : ∀ K : am_KK, M_X7_get 13 i 5 K m1 ↔ K (A (7 * (i : Int) + 5)) m1 := fun K => vg_get (v := 12) hv (by omega) (by omega) (by omega) K
    have g1 : ∀ K : am_KK, M_X7_get 13 i 1 K m1 ↔ K (A (7 * (i : Int) + 1)) m1 := fun K => vg_get (v := 12) hv (by omega) (by omega) (by omega) K
    rw [g5]
    refine ⟨fun c1 => J _ (by rw [or_gr, if_neg (fun z => c1 z.1)]; omega) c, fun c1 => ?_⟩
    rw [g1]
    refine ⟨fun c2 => J _ (by rw [or_gr, if_neg (fun z => c2 z.2)]; omega) c, fun c2 => ?_⟩
    intro z hz
    rw [w32_of (by omega) (by omega)] at hz
    subst hz
    exact J _ (by rw [or_gr, if_pos ⟨Classical.not_not.mp c1, Classical.not_not.mp c2⟩]) c
theorem caround {done : Int} (hA : wg_A A0) (hw : wf_A 16 (g 170)) (R : oc_R m g) (hE : cw_E m A0) (hz : ∀ k, 4 ≤ k → k ≤ 7 → m 166 k = 0) {K : am_KK} (hK : ∀ m', (∀ o k, ¬ (o = 166 ∧ ¬ (4 ≤ k ∧ k ≤ 7)) → m' o k = m o k) → (∀ f, 0 ≤ f → f < 24 → m' 166 f = or_env (or_S A0) (g 170) done f) → K 0 m') : M_X11_lookAround 0 done K m := by
  obtain ⟨hB, hv, -, -, -⟩ := id R
  have h16 := hw.2.1.1
  unfold M_X11_lookAround
  simp only [am_rf_all, am_ln_all, forall_eq]
  have v1 : vg_P (am_st (am_st m 166 0 (m 12 1)) 166 1 (am_st m 166 0 (m 12 1) 13 2)) 12 (g 170) := vg_of hv (fun o k _ _ => by rw [am_st_ne _ (by omega), am_st_ne _ (by omega)]) (fun _ _ => rfl)
  refine ⟨by omega, by omega, ?_⟩
  refine cwaiting (Or.inl rfl) v1 (by omega) ?_
  refine ⟨by omega, by omega, ?_⟩
  have e12 : m 12 1 = g 170 169 := hv.2
  have e13 : m 13 2 = g 170 168 := hv.1.2.1
  rw [am_st_ne (o' := 13) (k' := 2) _ (by omega), e12, e13]
  generalize hm1 : am_st (am_st (am_st (am_st m 166 0 (g 170 169)) 166 1 (g 170 168)) 166 2 (ab_wait (g 170) (g 170 168).toNat)) 166 3 done = m1
  have f1 : ∀ o k, ¬ (o = 166 ∧ 0 ≤ k ∧ k ≤ 3) → m1 o k = m o k := fun o k ho => by rw [← hm1, am_st_ne _ (by omega), am_st_ne _ (by omega), am_st_ne _ (by omega), am_st_ne _ (by omega)]
  have q0 : m1 166 0 = g 170 169 := by rw [← hm1, am_st_ne _ (by omega), am_st_ne _ (by omega), am_st_ne _ (by omega), am_st_same]
  have q1 : m1 166 1 = g 170 168 := by rw [← hm1, am_st_ne _ (by omega), am_st_ne _ (by omega), am_st_same]
  have q2 : m1 166 2 = ab_wait (g 170) (g 170 168).toNat := by rw [← hm1, am_st_ne _ (by omega), am_st_same]
  have q3 : m1 166 3 = done := by rw [← hm1, am_st_same]
  clear hm1
  unfold M_X11_lookAround_L1
  refine ⟨fun j x m2 => (0 ≤ x ∧ x ≤ 8) ∧ j = (8 - x).toNat ∧ (∀ o k, ¬ (o = 166 ∧ ¬ (0 ≤ k ∧ k ≤ 7)) → m2 o k = m1 o k) ∧ ∀ t, 0 ≤ t → t < x → m2 166 (8 + t) = or_S A0 t ∧ m2 166 (16 + t) = or_gr (g 170) t (g 170 168).toNat, ⟨_, by omega, rfl, fun _ _ _ => rfl, fun t t0 t1 => by omega⟩, ?_⟩
  rintro j x m2 ⟨bx, rfl, f2, e2⟩
  have g2 : ∀ o k, ¬ (o = 166 ∧ ¬ (4 ≤ k ∧ k ≤ 7)) → m2 o k = m o k := fun o k ho => by rw [f2 o k (by omega)]; exact f1 o k (by omega)
  unfold M_X11_lookAround_L1B
  simp only [am_rf_all, am_ln_all, forall_eq]
  refine ⟨fun c => ?_, fun c => ?_⟩
  · refine hK m2 g2 (fun f f0 f24 => ?_)
    unfold or_env
    by_cases c0 : f = 0
    · rw [if_pos c0, c0, f2 _ _ (by omega)]; exact q0
    rw [if_neg c0]
    by_cases c1 : f = 1
    · rw [if_pos c1, c1, f2 _ _ (by omega)]; exact q1
    rw [if_neg c1]
    by_cases c2 : f = 2
    · rw [if_pos c2, c2, f2 _ _ (by omega)]; exact q2
    rw [if_neg c2]
    by_cases c3 : f = 3
    · rw [if_pos c3, c3, f2 _ _ (by omega)]; exact q3
    rw [if_neg c3]
    by_cases c4 : 8 ≤ f ∧ f < 16
    · rw [if_pos c4]
      have := (e2 (f - 8) (by omega) (by omega)).1
      rw [show 8 + (f - 8) = f by omega] at this
      exact this
    rw [if_neg c4]
    by_cases c5 : 16 ≤ f ∧ f < 24
    · rw [if_pos c5]
      have := (e2 (f - 16) (by omega) (by omega)).2
      rw [show 16 + (f - 16) = f by omega] at this
      exact this
    rw [if_neg c5, g2 _ _ (by omega)]
    exact hz f (by omega) (by omega)
  · have E2 : cw_E m2 A0 := fun t t0 t1 => by rw [g2 _ _ (by omega), g2 _ _ (by omega), g2 _ _ (by omega)]; exact hE t t0 t1
    have hx : 0 ≤ x ∧ x < 8 := by omega
    rw [clengthFor hA E2 hx, w32_of (z := 8 + x) (by omega) (by omega), w32_of (z := 16 + x) (by omega) (by omega), w32_of (z := x + 1) (by omega) (by omega)]
    refine ⟨by omega, ?_⟩
    have v3 : vg_P (am_st m2 166 (8 + x) (if wg_n A0 8 x = wg_I then -1 else wg_n A0 8 x / 10000)) 12 (g 170) := vg_of hv (fun o k _ _ => by rw [am_st_ne _ (by omega)]; exact g2 _ _ (by omega)) (fun _ _ => rfl)
    refine ocgrant v3 (by omega) ⟨by omega, ?_⟩
    refine ⟨_, by omega, by omega, rfl, fun o k ho => by rw [am_st_ne _ (by omega), am_st_ne _ (by omega)]; exact f2 o k ho, fun t t0 t1 => ?_⟩
    by_cases ct : t = x
    · rw [ct, am_st_ne _ (by omega), am_st_same, am_st_same]
      unfold or_S
      rw [if_pos hx]
      exact ⟨rfl, rfl⟩
    · rw [am_st_ne _ (by omega), am_st_ne _ (by omega), am_st_ne _ (by omega), am_st_ne _ (by omega)]
      exact e2 t t0 (by omega)
/-- a deed noted on this side -/
theorem oc_gp {m' : am_M} {d w : Int} {V : Int → Int} (R : oc_R m g) (hu : 0 ≤ g 168 38 ∧ g 168 38 ≤ 16) (hb : bk_P m' 1 V) (hv : vg_P m' 12 V) (hk : rk m' 148 1 16) (h1 : g 168 38 < 16 → m' 148 2 = g 168 38 + 1 ∧ m' 149 (g 168 38) = d ∧ ∀ j, 0 ≤ j → j < g 168 38 → m' 149 j = m 149 j) (h2 : g 168 38 = 16 → m' 148 2 = 16 ∧ m' 149 15 = d ∧ ∀ j, 0 ≤ j → j < 15 → m' 149 j = m 149 (j + 1)) : oc_R m' (gp_ g d w V) := by
  obtain ⟨n1, n2⟩ := gp_n (g := g) (d := d) (w := w) (V := V)
  obtain ⟨r1, r2, r3, r4, r5⟩ := R
  refine ⟨by rw [gp_170]; exact hb, by rw [gp_170]; exact hv, hk, ?_, fun j j0 j1 => ?_⟩
  · rw [n2]
    by_cases c : g 168 38 < 16
    · rw [if_pos c]; exact (h1 c).1
    · rw [if_neg c]; exact (h2 (by omega)).1
  · rw [n2] at j1
    rw [gp_149]
    by_cases c : g 168 38 < 16
    · rw [if_pos c] at j1 ⊢
      obtain ⟨a1, a2, a3⟩ := h1 c
      by_cases cj : j = g 168 38
      · rw [if_pos cj, cj]; exact a2
      · rw [if_neg cj, a3 j j0 (by omega)]; exact r5 j j0 (by omega)
    · rw [if_neg c] at j1 ⊢
      obtain ⟨a1, a2, a3⟩ := h2 (by omega)
      by_cases cj : j = 15
      · rw [if_pos cj, cj]; exact a2
      · rw [if_neg cj, a3 j j0 (by omega)]; exact r5 (j + 1) (by omega) (by omega)
/-- what the orders' run leaves alone -/
def fr_o (m m' : am_M) : Prop := ∀ o k, ¬ (o = 137 ∨ o = 139 ∨ o = 141 ∨ (o = 140 ∧ (k = 2 ∨ k = 3)) ∨ (o = 12 ∧ k = 1) ∨ (o = 13 ∧ k = 2) ∨ o = 14 ∨ (o = 148 ∧ k = 2) ∨ o = 149 ∨ (o = 166 ∧ ¬ (4 ≤ k ∧ k ≤ 7))) → m' o k = m o k
theorem fr_o_t {a b c : am_M} (h : fr_o a b) (k : fr_o b c) : fr_o a c := fun o x q => by rw [k o x q, h o x q]
theorem pg_pg131 : pz_pg 131 := ⟨by decide +kernel, by decide +kernel, by decide +kernel, by decide +kernel, ⟨by decide, by decide, by decide +kernel⟩, by decide, by decide⟩
theorem pg_get {pre post : List pz_C} {x : pz_C} (hG : pz_PG m 131 (pre ++ x :: post)) : (∀ K : am_KK, M_X7_get 133 (pre.length : Int) 0 K m ↔ K x.1 m) ∧ ∀ K : am_KK, M_X7_get 133 (pre.length : Int) 1 K m ↔ K x.2.1 m := by
  obtain ⟨g1, g2, g3, g4, g5, g6⟩ := hG
  have g4 : rk m 133 7 84 := g4
  have g5 : m 133 2 = ((pre ++ x :: post).length : Int) := g5
  have g6 : pz_pr (m 134) (m 132) (pre ++ x :: post) 0 0 := g6
  obtain ⟨-, w2⟩ := (pz_pr_app pre (x :: post) 0 0).mp g6
  obtain ⟨⟨c1, c2, -⟩, -⟩ := w2
  have hl : (pre.length : Int) < m 133 2 := by rw [g5]; simp only [List.length_append, List.length_cons]; omega
  have e : ∀ j, 0 ≤ j → j < 7 → ∀ K : am_KK, M_X7_get 133 (pre.length : Int) j K m ↔ K (m 134 (7 * (0 + (pre.length : Int)) + j)) m := fun j j0 j1 K => by
    rw [get_eq g4]
    unfold rget
    rw [if_pos ⟨by omega, j0, j1⟩, show (pre.length : Int) * 7 + j = 7 * (0 + (pre.length : Int)) + j by omega]
    rfl
  refine ⟨fun K => ?_, fun K => ?_⟩
  · rw [e 0 (by omega) (by omega), Int.add_zero, c1]
  · rw [e 1 (by omega) (by omega), c2]
end COR
