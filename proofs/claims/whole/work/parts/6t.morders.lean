/-! ORDERS on the other side: laid aside, all of them, taken back. -/
section ORT
variable {m : am_M} {A1 S : Int → Int} {g0 : am_M}
theorem mlays1 {K : am_KK} (hK : ∀ m', (∀ o x, o ≠ 173 → m' o x = m o x) → (∀ x, 0 ≤ x → x < 170 → m' 173 (170 + x) = m 170 x) → K 0 m') : M_X12_laysAside 168 1 K m := by
  unfold M_X12_laysAside M_X12_laysAside_L1
  refine ⟨fun j i m1 => 0 ≤ i ∧ i ≤ 170 ∧ j = (170 - i).toNat ∧ (∀ o x, o ≠ 173 → m1 o x = m o x) ∧ ∀ x, 0 ≤ x → x < i → m1 173 (170 + x) = m 170 x, ⟨_, by omega, by omega, rfl, fun _ _ _ => rfl, fun x x0 x1 => by omega⟩, ?_⟩
  rintro j i m1 ⟨i0, i1, rfl, c1, c2⟩
  unfold M_X12_laysAside_L1B
  simp only [am_rf_all, am_ln_all, forall_eq]
  rw [show w32 (170 * 1) = 170 by decide, w32_of (z := 170 + i) (by omega) (by omega)]
  refine ⟨fun q => hK _ c1 (fun x x0 x1 => c2 x x0 (by omega)), fun q => ⟨by omega, by omega, ?_⟩⟩
  rw [w32_of (by omega) (by omega)]
  refine ⟨_, by omega, by omega, by omega, rfl, fun o x ho => by rw [am_st_ne _ (by omega)]; exact c1 o x ho, fun x x0 x1 => ?_⟩
  by_cases e : x = i
  · subst e; rw [am_st_same, c1 _ _ (by omega)]
  · rw [am_st_ne _ (by omega)]; exact c2 x x0 (by omega)
theorem mtakes1 {A : Int → Int} (h1 : ∀ x, ¬ (0 ≤ x ∧ x < 170) → m 170 x = A x) (h2 : ∀ x, 0 ≤ x → x < 170 → m 173 (170 + x) = A x) {K : am_KK} (hK : ∀ m', (∀ o x, o ≠ 170 → m' o x = m o x) → m' 170 = A → K 0 m') : M_X12_takesBack 168 1 K m := by
  unfold M_X12_takesBack M_X12_takesBack_L1
  refine ⟨fun j i m1 => 0 ≤ i ∧ i ≤ 170 ∧ j = (170 - i).toNat ∧ (∀ o x, o ≠ 170 → m1 o x = m o x) ∧ (∀ x, 0 ≤ x → x < i → m1 170 x = A x) ∧ ∀ x, ¬ (0 ≤ x ∧ x < 170) → m1 170 x = A x, ⟨_, by omega, by omega, rfl, fun _ _ _ => rfl, fun x x0 x1 => by omega, h1⟩, ?_⟩
  rintro j i m1 ⟨i0, i1, rfl, c1, c2, c3⟩
  unfold M_X12_takesBack_L1B
  simp only [am_rf_all, am_ln_all, forall_eq]
  rw [show w32 (170 * 1) = 170 by decide, w32_of (z := 170 + i) (by omega) (by omega)]
  refine ⟨fun q => hK _ c1 (funext fun x => ?_), fun q => ⟨by omega, by omega, ?_⟩⟩
  · by_cases cx : 0 ≤ x ∧ x < 170
    · exact c2 x cx.1 (by omega)
    · exact c3 x cx
  rw [w32_of (by omega) (by omega)]
  refine ⟨_, by omega, by omega, by omega, rfl, fun o x ho => by rw [am_st_ne _ (by omega)]; exact c1 o x ho, fun x x0 x1 => ?_, fun x hx => by rw [am_st_ne _ (by omega)]; exact c3 x hx⟩
  by_cases e : x = i
  · subst e; rw [am_st_same, c1 _ _ (by omega)]; exact h2 x x0 (by omega)
  · rw [am_st_ne _ (by omega)]; exact c2 x x0 (by omega)
theorem mord1 {K : am_KK} (hX : ∀ m', (∀ o k, o ≠ 190 → m' o k = m o k) → (∀ y, 0 ≤ y → y < 2736 → m' 190 y = m 189 y) → M_X12_lays 168 6 (fun _ m_21 => M_X12_wordings 168 (fun _ m_23 => M_X12_orders_L2 168 (m' 168 38) 0 K m_23) m_21) m') : M_X12_orders_L1 168 0 K m := by
  unfold M_X12_orders_L1
  refine ⟨fun j i m1 => (0 ≤ i ∧ i ≤ 2736) ∧ j = (2736 - i).toNat ∧ (∀ o k, o ≠ 190 → m1 o k = m o k) ∧ ∀ y, 0 ≤ y → y < i → m1 190 y = m 189 y, ⟨_, by omega, rfl, fun _ _ _ => rfl, fun y y0 y1 => by omega⟩, ?_⟩
  rintro j i m1 ⟨bi, rfl, f1, e1⟩
  unfold M_X12_orders_L1B
  simp only [am_rf_all, am_ln_all, forall_eq]
  refine ⟨fun c => hX m1 f1 (fun y y0 y1 => e1 y y0 (by omega)), fun c => ⟨by omega, by omega, ?_⟩⟩
  rw [w32_of (z := i + 1) (by omega) (by omega)]
  refine ⟨_, by omega, by omega, rfl, fun o k ho => by rw [am_st_ne _ (by omega)]; exact f1 o k ho, fun y y0 y1 => ?_⟩
  by_cases cy : y = i
  · rw [cy, am_st_same]; exact f1 _ _ (by omega)
  · rw [am_st_ne _ (by omega)]; exact e1 y y0 (by omega)
theorem mord2 {u N : Int} {w : Int → Int} (hw : wg_ok A1 w) (hs : mw_S m w) (hSd : ∀ t, 0 ≤ t → t < 8 → S t = if w t = wg_I then -1 else w t / 10000) (hN : m 170 376 = N) (h4 : 0 ≤ N ∧ N ≤ 400) {K : am_KK} (hX : ∀ m', (∀ o k, ¬ (o = 181 ∨ (o = 168 ∧ (k = 49 ∨ k = 50))) → m' o k = m o k) → (∀ t, 0 ≤ t → t < 8 → m' 181 t = S t) → m' 168 49 = 0 → m' 168 50 = 2400 → M_X12_orders_L3 168 u (2400 + N) 0 K m') : M_X12_orders_L2 168 u 0 K m := by
  unfold M_X12_orders_L2
  refine ⟨fun j x m1 => (0 ≤ x ∧ x ≤ 8) ∧ j = (8 - x).toNat ∧ (∀ o k, o ≠ 181 → m1 o k = m o k) ∧ ∀ t, 0 ≤ t → t < x → m1 181 t = S t, ⟨_, by omega, rfl, fun _ _ _ => rfl, fun t t0 t1 => by omega⟩, ?_⟩
  rintro j x m1 ⟨bx, rfl, f1, e1⟩
  unfold M_X12_orders_L2B M_X12_orders_J1
  simp only [am_rf_all, am_ln_all, forall_eq]
  refine ⟨fun c => ⟨by omega, ?_⟩, fun c => ⟨by omega, ?_⟩⟩
  · rw [am_st_same, am_st_ne (o' := 170) _ (by omega), am_st_ne (o' := 170) _ (by omega), f1 170 376 (by omega), hN, w32_of (z := 2400 + N) (by omega) (by omega)]
    refine hX _ (fun o k ho => by rw [am_st_ne _ (by omega), am_st_ne _ (by omega)]; exact f1 o k (by omega)) (fun t t0 t1 => by rw [am_st_ne _ (by omega), am_st_ne _ (by omega)]; exact e1 t t0 (by omega)) (by rw [am_st_ne _ (by omega), am_st_same]) (am_st_same _ _ _ _)
  · have hsx := hs x (by omega) (by omega)
    have hdx := hSd x (by omega) (by omega)
    rw [f1 183 x (by omega), w32_of (z := x + 1) (by omega) (by omega)]
    have fin : ∀ z, z = S x → (∃ j', j' < (8 - x).toNat ∧ (0 ≤ x + 1 ∧ x + 1 ≤ 8) ∧ j' = (8 - (x + 1)).toNat ∧ (∀ o k, o ≠ 181 → am_st m1 181 x z o k = m o k) ∧ ∀ t, 0 ≤ t → t < x + 1 → am_st m1 181 x z 181 t = S t) := fun z hz => by
      refine ⟨_, by omega, by omega, rfl, fun o k ho => by rw [am_st_ne _ (by omega)]; exact f1 o k ho, fun t t0 t1 => ?_⟩
      by_cases ct : t = x
      · rw [ct, am_st_same]; exact hz
      · rw [am_st_ne _ (by omega)]; exact e1 t t0 (by omega)
    by_cases ci : w x = wg_I
    · rw [if_pos ci] at hdx
      have h3 : m 183 x = 1000000000 := by have := hsx.1; rw [if_pos ci] at this; exact this
      rw [h3]
      exact ⟨fun z => absurd z (by decide), fun _ => ⟨by omega, fin _ hdx.symm⟩⟩
    · rw [if_neg ci] at hdx
      have h3 : m 183 x = w x / 10000 := by have := hsx.1; rw [if_neg ci] at this; exact this
      have hb := wg_le hw (show 0 ≤ x ∧ x < 8 by omega) ci
      rw [h3]
      exact ⟨fun _ => ⟨by omega, by omega, fin _ hdx.symm⟩, fun z => absurd (by omega) z⟩
theorem mord4 {u idx r cd : Int} (hu : u = g0 168 38) (hr : r = -5 ↔ cd = -5) (hcd : cd = -3 ∨ cd = -5) (h170 : m 170 = g0 170) (h190 : ∀ y, 0 ≤ y → y < 2736 → m 190 y = g0 189 y) (hu16 : 0 ≤ u ∧ u ≤ 16) {K : am_KK}
    (hK : ∀ m', (∀ o k, ¬ (o = 189 ∨ o = 169 ∨ (o = 168 ∧ (k = 0 ∨ k = 38 ∨ k = 48))) → m' o k = m o k) → om_R m' g0 → m' 168 0 = cd → m' 168 48 = idx → m' 169 (-cd) = w32 (m 169 (-cd) + 1) → (∀ k, k ≠ -cd → m' 169 k = m 169 k) → K cd m') : M_X12_orders_L4 168 u idx r 0 K m := by
  unfold M_X12_orders_L4
  refine ⟨fun j i m1 => (0 ≤ i ∧ i ≤ 2736) ∧ j = (2736 - i).toNat ∧ (∀ o k, o ≠ 189 → m1 o k = m o k) ∧ ∀ y, 0 ≤ y → y < i → m1 189 y = g0 189 y, ⟨_, by omega, rfl, fun _ _ _ => rfl, fun y y0 y1 => by omega⟩, ?_⟩
  rintro j i m1 ⟨bi, rfl, f1, e1⟩
  unfold M_X12_orders_L4B M_X12_orders_J2
  simp only [am_rf_all, am_ln_all, forall_eq]
  refine ⟨fun c => ?_, fun c => ⟨by omega, by omega, ?_⟩⟩
  · have fin : M_X12_refuses 168 cd (fun r_1 m_2 => K r_1 m_2) (am_st (am_st m1 168 38 u) 168 48 idx) := by
      rw [refuses_eq (by omega)]
      refine hK _ (fun o k ho => ?_) ⟨?_, ?_, fun y y0 y1 => ?_⟩ ?_ ?_ ?_ (fun k hk => ?_)
      · rw [am_st_ne _ (by omega), am_st_ne _ (by omega), am_st_ne _ (by omega), am_st_ne _ (by omega)]; exact f1 o k (by omega)
      · rw [← h170]
        exact funext fun y => by rw [am_st_ne _ (by omega), am_st_ne _ (by omega), am_st_ne _ (by omega), am_st_ne _ (by omega)]; exact f1 _ _ (by omega)
      · rw [am_st_ne _ (by omega), am_st_ne _ (by omega), am_st_ne _ (by omega), am_st_same]; exact hu
      · rw [am_st_ne _ (by omega), am_st_ne _ (by omega), am_st_ne _ (by omega), am_st_ne _ (by omega)]; exact e1 y y0 (by omega)
      · rw [am_st_ne _ (by omega), am_st_same]
      · rw [am_st_ne _ (by omega), am_st_ne _ (by omega), am_st_same]
      · rw [am_st_same, am_st_ne _ (by omega), am_st_ne _ (by omega), f1 _ _ (by omega)]
      · rw [am_st_ne _ (by omega), am_st_ne _ (by omega), am_st_ne _ (by omega), am_st_ne _ (by omega)]; exact f1 _ _ (by omega)
    refine ⟨fun c5 => ?_, fun c5 => ?_⟩
    · rw [show cd = -3 by omega] at fin; exact fin
    · rw [show cd = -5 by omega] at fin; exact fin
  · rw [w32_of (z := i + 1) (by omega) (by omega), f1 190 i (by omega)]
    refine ⟨_, by omega, by omega, rfl, fun o k ho => by rw [am_st_ne _ (by omega)]; exact f1 o k ho, fun y y0 y1 => ?_⟩
    by_cases cy : y = i
    · rw [cy, am_st_same]; exact h190 i (by omega) (by omega)
    · rw [am_st_ne _ (by omega)]; exact e1 y y0 (by omega)
theorem mord3 {cs : List pz_C} {c v : Int → Int} {N u : Int} (hread : pz_read 1 c v N = .inr cs) (hTx : og_T A1 c v N) (G0 : or_G A1 g0) (R0 : om_R m g0) (hu : u = g0 168 38) (hbk : ∀ x, 0 ≤ x → x < 170 → m 173 (170 + x) = g0 170 x) (h190 : ∀ y, 0 ≤ y → y < 2736 → m 190 y = g0 189 y) (hSm : ∀ t, 0 ≤ t → t < 8 → m 181 t = S t) (hS : ∀ t, -1 ≤ S t ∧ S t ≤ 1000000) (h49 : m 168 49 = 0) (h5 : m 168 50 = 2400) {RES : Int × Int × am_M × Int} (hres : or_c S cs 0 g0 0 = RES) {K : am_KK}
    (k1 : RES.1 = 0 → ∀ m', (∀ o k, ¬ ((o = 168 ∧ (k = 0 ∨ k = 8 ∨ k = 22 ∨ k = 23 ∨ k = 24 ∨ k = 34 ∨ k = 35 ∨ k = 38 ∨ k = 49 ∨ k = 50 ∨ k = 51 ∨ k = 52 ∨ k = 53 ∨ k = 54)) ∨ o = 170 ∨ o = 180 ∨ o = 182 ∨ o = 187 ∨ o = 188 ∨ o = 189 ∨ o = 197) → m' o k = m o k) → om_R m' RES.2.2.1 → m' 168 0 = 0 → K RES.2.2.2 m')
    (k2 : RES.1 ≠ 0 → (RES.1 = -3 ∨ RES.1 = -5) → ∀ m', (∀ o k, ¬ ((o = 168 ∧ (k = 0 ∨ k = 48 ∨ k = 8 ∨ k = 22 ∨ k = 23 ∨ k = 24 ∨ k = 34 ∨ k = 35 ∨ k = 38 ∨ k = 49 ∨ k = 50 ∨ k = 51 ∨ k = 52 ∨ k = 53 ∨ k = 54)) ∨ o = 169 ∨ o = 170 ∨ o = 180 ∨ o = 182 ∨ o = 187 ∨ o = 188 ∨ o = 189 ∨ o = 197) → m' o k = m o k) → om_R m' g0 → m' 168 0 = RES.1 → m' 168 48 = RES.2.1 → m' 169 (-RES.1) = w32 (m 169 (-RES.1) + 1) → (∀ k, k ≠ -RES.1 → m' 169 k = m 169 k) → K RES.1 m') : M_X12_orders_L3 168 u (2400 + N) 0 K m := by
  have hcl : ∀ i l, pz_clause 1 c v i l = pz_order c v i l := fun i l => by unfold pz_clause; rw [if_neg (by decide)]
  have h400 := hTx.1
  have hok := pz_clause_ok (lim := 24) (od := 1) (c := c) (v := v) (N := N) (hTx.2.2.1 N (by omega)) h400.2 hTx.2.2.2 (Or.inr rfl) (by decide)
  have hgu := G0.1.2.2.1
  unfold M_X12_orders_L3
  refine ⟨fun j idx m1 => ∃ i g dn, om_R m1 g ∧ or_G A1 g ∧ fr_r m m1 ∧ m1 168 49 = dn ∧ m1 168 50 = 2400 + i ∧ (0 ≤ i ∧ i ≤ N + 1) ∧ (0 ≤ dn ∧ dn ≤ 20 * idx) ∧ (0 ≤ idx ∧ idx + j ≤ 12) ∧ ((N ≤ i ∧ RES = (0, idx, g, dn)) ∨ (i ≤ N ∧ 0 < j ∧ ∃ l ds, (0 ≤ l ∧ l ≤ 50) ∧ pz_text (pz_clause 1 c v) c N j i l = .inr ds ∧ or_c S ds idx g dn = RES)), ⟨12, 0, g0, 0, R0, G0, fun _ _ _ => rfl, h49, by omega, by omega, by omega, by omega, Or.inr ⟨by omega, by omega, 0, cs, by omega, hread, hres⟩⟩, ?_⟩
  rintro j idx m1 ⟨i, g, dn, R1, G1, F1, e49, e50, bi, bd, bx, hh⟩
  have done : N ≤ i → RES = (0, idx, g, dn) → ∀ C, M_X12_orders_L3B 168 u (2400 + N) idx C K m1 := by
    intro hNi hR C
    unfold M_X12_orders_L3B
    rw [e50]
    refine ⟨fun _ => ?_, fun z => absurd (by omega) z⟩
    rw [good_eq, e49]
    subst hR
    exact k1 rfl _ (fun o k ho => by rw [am_st_ne _ (by omega)]; exact F1 o k (by omega)) (om_of R1 (fun o k ho => am_st_ne _ (by omega))) (am_st_same _ _ _ _)
  rcases hh with ⟨hNi, hR⟩ | ⟨hiN, hj, l, ds, hl, hds, hc⟩
  · exact done hNi hR _
  · obtain ⟨n, rfl⟩ : ∃ n, j = n + 1 := ⟨j - 1, by omega⟩
    unfold pz_text at hds
    obtain ⟨R, hR, hds⟩ := pz_bd_inr hds
    obtain ⟨p1, p2, -, p4⟩ := (hok i l bi.1 hiN hl.1 hl.2).2 R hR
    rw [hcl] at hR
    have ht := p4.2.2.2.2.2
    obtain ⟨x, xs, hx⟩ : ∃ x xs, ds = x :: xs := by
      by_cases c1 : N ≤ R.1
      · rw [if_pos c1] at hds; cases hds; exact ⟨_, _, rfl⟩
      · rw [if_neg c1] at hds
        by_cases c2 : c R.1 = 159
        · rw [if_pos c2] at hds
          obtain ⟨es, -, hds⟩ := pz_bd_inr hds
          cases hds; exact ⟨_, _, rfl⟩
        · rw [if_neg c2] at hds; cases hds
    have hxR : x = R.2.2 ∧ ((N ≤ R.1 ∧ xs = []) ∨ (R.1 < N ∧ pz_text (pz_clause 1 c v) c N n (R.1 + 1) R.2.1 = .inr xs)) := by
      subst hx
      by_cases c1 : N ≤ R.1
      · rw [if_pos c1] at hds; cases hds; exact ⟨rfl, Or.inl ⟨c1, rfl⟩⟩
      · rw [if_neg c1] at hds
        by_cases c2 : c R.1 = 159
        · rw [if_pos c2] at hds
          obtain ⟨es, he, hds⟩ := pz_bd_inr hds
          cases hds
          exact ⟨rfl, Or.inr ⟨by omega, he⟩⟩
        · rw [if_neg c2] at hds; cases hds
    obtain ⟨hx1, hx2⟩ := hxR
    subst hx hx1
    rw [or_c] at hc
    obtain ⟨t1, t2, t3, t4⟩ := or_t_G (A0 := A1) (S := S) R.2.2.2.1.toNat R.2.2 g dn G1
    generalize hRT : or_t S R.2.2 R.2.2.2.1.toNat g dn = RT at hc t1 t2 t3 t4
    unfold M_X12_orders_L3B
    rw [e50]
    refine ⟨fun z => by omega, fun _ => ?_⟩
    refine mruns (g := g) (S := S) (i := i) (l := l) (done := dn) (R := R) G1 hTx R1 (fun t t0 t1 => by rw [F1 _ _ (by omega)]; exact hSm t t0 t1) hS e49 (by omega) e50 bi.1 hiN hl.1 hl.2 hR p4 hRT (fun o0 m2 f2 R2 z49 z50 => ?_) (fun o0 m2 r f2 a2 hr h5' => ?_)
    · rw [if_pos o0] at hc
      refine ⟨fun z => absurd rfl z, fun _ => ?_⟩
      simp only [forall_eq]
      rw [w32_of (z := idx + 1) (by omega) (by omega)]
      refine ⟨n, by omega, R.1 + 1, RT.2.1, RT.2.2, R2, t1, fr_r_t F1 f2, z49, z50, by omega, by omega, by omega, ?_⟩
      rcases hx2 with ⟨q1, q2⟩ | ⟨q1, q2⟩
      · subst q2
        rw [or_c] at hc
        exact Or.inl ⟨by omega, hc.symm⟩
      · refine Or.inr ⟨by omega, ?_, R.2.1, xs, p2, q2, hc⟩
        rcases Nat.eq_zero_or_pos n with rfl | h
        · cases q2
        · exact h
    · rw [if_neg o0] at hc
      subst hc
      have hcd : RT.1 = -3 ∨ RT.1 = -5 := by omega
      refine ⟨fun _ => ?_, fun z => absurd hr z⟩
      refine mtakes1 (A := g0 170) (fun x hx => by rw [a2 x (by omega)]; exact (G0.2.2.2 x (by omega)).symm) (fun x x0 x1 => by rw [f2 _ _ (by omega), F1 _ _ (by omega)]; exact hbk x x0 x1) (fun m3 f3 a3 => ?_)
      refine mord4 (g0 := g0) (cd := RT.1) hu h5' hcd a3 (fun y y0 y1 => by rw [f3 _ _ (by omega), f2 _ _ (by omega), F1 _ _ (by omega)]; exact h190 y y0 y1) (by omega) (fun m4 f4 R4 z0 z48 w1 w2 => ?_)
      have e169 : ∀ k, m3 169 k = m 169 k := fun k => by rw [f3 _ _ (by omega), f2 _ _ (by omega), F1 _ _ (by omega)]
      exact k2 o0 hcd m4 (fun o k ho => by rw [f4 o k (by omega), f3 o k (by omega), f2 o k (by omega)]; exact F1 o k (by omega)) R4 z0 z48 (by rw [w1, e169]) (fun k hk => by rw [w2 k hk, e169])
end ORT
