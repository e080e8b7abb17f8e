/-! IMAGE, BACK: a Book as a whole goes from one place to another. -/
/-- rows alike as far as they go -/
def re_q (A A' : Int → Int) : Prop := ∀ x, 0 ≤ x → x < 5977 → A' x = A x
theorem WA_eq {A A' : Int → Int} (h : am_WA A) (e : re_q A A') : am_WA A' := by
  unfold re_q at e
  obtain ⟨⟨a1, a2, a3⟩, ⟨b1, b2, b3⟩, ⟨c1, c2, c3⟩, ⟨d1, d2, d3⟩, ⟨f1, f2, f3⟩, g, k, l1, l2, l3, l4, l5⟩ := h
  refine ⟨⟨?_, ?_, fun i i0 i1 => ?_⟩, ⟨?_, ?_, fun i i0 i1 => ?_⟩, ⟨?_, ?_, fun i i0 i1 => ?_⟩, ⟨?_, ?_, fun i i0 i1 => ?_⟩, ⟨?_, ?_, fun i i0 i1 => ?_⟩, fun i j i0 i1 j0 j1 => ?_, fun i i0 i1 => ?_, ?_, ?_, ?_, ?_, ?_⟩
  · simp (disch := omega) only [e]; exact a1
  · simp (disch := omega) only [e]; exact a2
  · simp (disch := omega) only [e] at i1; simp (disch := omega) only [e]; exact a3 i i0 i1
  · simp (disch := omega) only [e]; exact b1
  · simp (disch := omega) only [e]; exact b2
  · simp (disch := omega) only [e] at i1; simp (disch := omega) only [e]; exact b3 i i0 i1
  · simp (disch := omega) only [e]; exact c1
  · simp (disch := omega) only [e]; exact c2
  · simp (disch := omega) only [e] at i1; simp (disch := omega) only [e]; exact c3 i i0 i1
  · simp (disch := omega) only [e]; exact d1
  · simp (disch := omega) only [e]; exact d2
  · simp (disch := omega) only [e] at i1; simp (disch := omega) only [e]; exact d3 i i0 i1
  · simp (disch := omega) only [e]; exact f1
  · simp (disch := omega) only [e]; exact f2
  · simp (disch := omega) only [e] at i1; simp (disch := omega) only [e]; exact f3 i i0 i1
  · simp (disch := omega) only [e]; exact g i j i0 i1 j0 j1
  · simp (disch := omega) only [e]; exact k i i0 i1
  · simp (disch := omega) only [e]; exact l1
  · simp (disch := omega) only [e]; exact l2
  · simp (disch := omega) only [e]; exact l3
  · simp (disch := omega) only [e]; exact l4
  · simp (disch := omega) only [e]; exact l5
theorem cs_eq {A A' : Int → Int} (e : re_q A A') {t : Int} (h0 : 0 ≤ t) (h6 : t < 6) (h : A (370 + t) ≤ 400) : lw_cs A' t = lw_cs A t := by
  have e0 := e (370 + t) (by omega) (by omega)
  have e1 : lw_c A' t = lw_c A t := by
    funext x
    unfold lw_c
    rw [e0]
    split
    · exact e _ (by omega) (by omega)
    · rfl
  have e2 : lw_v A' t = lw_v A t := by
    funext x
    unfold lw_v
    rw [e0]
    split
    · exact e _ (by omega) (by omega)
    · rfl
  unfold lw_cs
  rw [e0, e1, e2]
theorem lw_W_eq {A A' : Int → Int} (h : lw_W A) (e : re_q A A') : lw_W A' := by
  obtain ⟨h1, h2, h3⟩ := h
  have e8 := e 368 (by omega) (by omega)
  have e9 := e 369 (by omega) (by omega)
  refine ⟨by rw [e8]; exact h1, by rw [e8, e9]; exact h2, fun t t0 t1 => ?_⟩
  rw [e8] at t1
  obtain ⟨g1, g2, cs, g3⟩ := h3 t t0 t1
  have e0 := e (370 + t) (by omega) (by omega)
  rw [e0]
  exact ⟨g1, fun x x0 x1 => by rw [e _ (by omega) (by omega)]; exact g2 x x0 x1, cs, by rw [cs_eq e t0 (by omega) g1.2]; exact g3⟩
theorem wf_eq {A A' : Int → Int} (h : wf_A 16 A) (hH : wf_H A) (e : re_q A A') : wf_A 16 A' ∧ wf_H A' := by
  obtain ⟨h1, ⟨h2, h3, h4⟩, h5, h6⟩ := h
  have e8 := e 168 (by omega) (by omega)
  have e9 := e 169 (by omega) (by omega)
  have e5 := e 365 (by omega) (by omega)
  refine ⟨⟨WA_eq h1 e, ⟨by rw [e8]; exact h2, by rw [e9]; exact h3, fun i i0 i1 => ?_⟩, lw_W_eq h5 e, fun x x0 x1 => by rw [e x x0 (by omega)]; exact h6 x x0 x1⟩, fun p p0 p1 p2 => ?_⟩
  · rw [e8] at i1
    rw [e5, e (7 * i) (by omega) (by omega), e (7 * i + 1) (by omega) (by omega), e (7 * i + 2) (by omega) (by omega), e (7 * i + 3) (by omega) (by omega), e (7 * i + 4) (by omega) (by omega), e (7 * i + 5) (by omega) (by omega), e (7 * i + 6) (by omega) (by omega)]
    exact h4 i i0 i1
  · rw [e8] at p1
    rw [e (7 * p + 5) (by omega) (by omega)] at p2
    rw [e (7 * p + 6) (by omega) (by omega)]
    exact hH p p0 p1 p2
theorem rf_eq {m : am_M} {r w cap : Int} {A A' : Int → Int} {n0 base : Int} (h : am_RF m r w cap A n0 base) (e : re_q A A') (h0 : 0 ≤ n0 ∧ n0 < 5977) (h1 : 0 ≤ base ∧ base + cap ≤ 5977) : am_RF m r w cap A' n0 base := by
  have e0 := e n0 h0.1 h0.2
  have hc := h.1.2.2.2
  rw [h.2.1] at hc
  refine ⟨h.1, by rw [e0]; exact h.2.1, fun x x0 x1 => ?_⟩
  rw [e0] at x1
  rw [e _ (by omega) (by omega)]
  exact h.2.2 x x0 x1
theorem bk_eq {m : am_M} {b : Int} {A A' : Int → Int} (h : bk_P m b A) (hw : lw_W A) (e : re_q A A') : bk_P m b A' := by
  obtain ⟨h1, h2, h3, h4, h5, h6', h7, h8, h9, h10⟩ := h
  have e8 := e 368 (by omega) (by omega)
  have l8 := hw.1
  refine ⟨rf_eq h1 e (by omega) (by omega), rf_eq h2 e (by omega) (by omega), rf_eq h3 e (by omega) (by omega), rf_eq h4 e (by omega) (by omega), rf_eq h5 e (by omega) (by omega), fun i j i0 i1 j0 j1 => ?_, fun i i0 i1 => ?_, ?_, ?_, fun t cs t0 t1 hc => ?_⟩
  · rw [e _ (by omega) (by omega)]; exact h6' i j i0 i1 j0 j1
  · rw [e _ (by omega) (by omega)]; exact h7 i i0 i1
  · rw [e _ (by omega) (by omega), e _ (by omega) (by omega), e _ (by omega) (by omega)]; exact h8
  · rw [e8, e _ (by omega) (by omega)]; exact h9
  · rw [e8] at t1
    rw [cs_eq e t0 (by omega) (hw.2.2 t t0 t1).1.2] at hc
    exact h10 t cs t0 t1 hc
theorem vg_eq {m : am_M} {v : Int} {A A' : Int → Int} (h : vg_P m v A) (e : re_q A A') : vg_P m v A' := ⟨rf_eq h.1 e (by omega) (by omega), by rw [e _ (by omega) (by omega)]; exact h.2⟩
/-- what stands still about a Book -/
def bs_P (b : Int) : Prop := (am_rfv b 0 = b + 1 ∧ am_rfv b 1 = b + 3 ∧ am_rfv b 2 = b + 5 ∧ am_rfv b 3 = b + 7 ∧ am_rfv b 4 = b + 9 ∧ am_rfv b 5 = b + 11 ∧ am_rfv b 6 = b + 14 ∧ am_rfv b 7 = b + 15 ∧ am_rfv b 8 = b + 16 ∧ am_rfv b 9 = b + 17 ∧ am_rfv (b + 11) 0 = b + 11 + 1) ∧ (am_len (b + 14) = 8 ∧ am_len (b + 15) = 8 ∧ am_len (b + 16) = 4 ∧ am_len (b + 17) = 6) ∧ (rs (b + 1) 1 10 ∧ rs (b + 3) 4 64 ∧ rs (b + 5) 1 6 ∧ rs (b + 7) 2 20 ∧ rs (b + 9) 3 18 ∧ rs (b + 11 + 1) 7 168) ∧ ∀ t, 0 ≤ t → t < 6 → am_rfv (b + 17) t = b + 18 + 4 * t ∧ am_rfv (b + 18 + 4 * t) 0 = b + 18 + 4 * t + 1 ∧ am_rfv (b + 18 + 4 * t) 2 = b + 18 + 4 * t + 2 ∧ am_len (b + 18 + 4 * t + 1) = 400 ∧ rs (b + 18 + 4 * t + 2) 7 84
theorem six {P : Int → Prop} (h0 : P 0) (h1 : P 1) (h2 : P 2) (h3 : P 3) (h4 : P 4) (h5 : P 5) (t : Int) (t0 : 0 ≤ t) (t6 : t < 6) : P t := by
  have : t = 0 ∨ t = 1 ∨ t = 2 ∨ t = 3 ∨ t = 4 ∨ t = 5 := by omega
  rcases this with rfl | rfl | rfl | rfl | rfl | rfl
  · exact h0
  · exact h1
  · exact h2
  · exact h3
  · exact h4
  · exact h5
theorem bs_1 : bs_P 1 := by
  refine ⟨by decide +kernel, by decide +kernel, ?_, six ?_ ?_ ?_ ?_ ?_ ?_⟩ <;> unfold rs <;> decide +kernel
theorem bs_44 : bs_P 44 := by
  refine ⟨by decide +kernel, by decide +kernel, ?_, six ?_ ?_ ?_ ?_ ?_ ?_⟩ <;> unfold rs <;> decide +kernel
theorem bs_86 : bs_P 86 := by
  refine ⟨by decide +kernel, by decide +kernel, ?_, six ?_ ?_ ?_ ?_ ?_ ?_⟩ <;> unfold rs <;> decide +kernel
/-- the Rows of a Book -/
def wb_P (b o : Int) : Prop := o = b + 1 ∨ o = b + 3 ∨ o = b + 5 ∨ o = b + 7 ∨ o = b + 9 ∨ o = b + 12 ∨ o = b + 20 ∨ o = b + 24 ∨ o = b + 28 ∨ o = b + 32 ∨ o = b + 36 ∨ o = b + 40
section BKT
variable {m : am_M} {A : Int → Int}
theorem row_take {r r2 w cap n0 base : Int} (hs : rs r w cap) (hw : m r 1 = w) (h : am_RF m r2 w cap A n0 base) (hd : r2 + 2 ≤ r ∨ r + 2 ≤ r2) {K : am_KK}
    (hK : ∀ m', am_RF m' r w cap A n0 base → (∀ o k, ¬ ((o = r ∧ k = 2) ∨ o = r + 1) → m' o k = m o k) → K 0 m') : M_X7_takeFrom r r2 K m := by
  rw [takeFrom_w hs hw h.1 h.1.2.2.2 (by omega)]
  have hc := h.1.2.2.2
  rw [h.2.1] at hc
  refine hK _ (rf_take (A := A) h hs ?_ (am_st_same _ _ _ _) hc (fun x x0 x1 => ?_) (fun _ _ => rfl)) (fun o k ho => ?_)
  · rw [am_st_ne _ (by omega), am_cp_eq, if_neg (by omega)]; exact hw
  · rw [am_st_ne _ (by omega), am_cp_eq, h.2.1, if_pos (by omega)]
    congr 1; omega
  · rw [am_st_ne _ (by omega), am_cp_eq, if_neg (by omega)]
theorem pg_take {p q : Int} {cs : List pz_C} (sp : am_rfv p 0 = p + 1 ∧ am_rfv p 2 = p + 2 ∧ am_len (p + 1) = 400 ∧ rs (p + 2) 7 84) (sq : am_rfv q 0 = q + 1 ∧ am_rfv q 2 = q + 2 ∧ am_len (q + 1) = 400) (hw : m (p + 2) 1 = 7) (hG : pz_PG m q cs) (hd : p + 4 ≤ q ∨ q + 4 ≤ p) {K : am_KK}
    (hK : ∀ m', pz_PG m' p cs → (∀ o k, ¬ ((o = p ∧ k = 1) ∨ o = p + 1 ∨ (o = p + 2 ∧ k = 2) ∨ o = p + 3) → m' o k = m o k) → K 0 m') : M_X4_takeFrom p q K m := by
  obtain ⟨g1, g2, g3, g4, g5, g6⟩ := hG
  have g0 := pz_tot_0 cs
  unfold M_X4_takeFrom
  rw [sp.1, sp.2.1, sp.2.2.1, sq.1, sq.2.1, sq.2.2]
  have emin : am_min (m q 1) 400 = pz_tot cs := by
    unfold am_min
    rw [g1, if_neg (by omega)]
  rw [emin]
  simp only [forall_eq, am_st_same]
  refine ⟨by omega, ?_⟩
  generalize hm1 : am_cp (am_st m p 1 (pz_tot cs)) (q + 1) 0 (p + 1) 0 (pz_tot cs) = m1
  have f1 : ∀ o k, ¬ ((o = p ∧ k = 1) ∨ o = p + 1) → m1 o k = m o k := fun o k ho => by rw [← hm1, am_cp_eq, if_neg (by omega), am_st_ne _ (by omega)]
  have r2 : rk m1 (q + 2) 7 84 := rk_of g4 (f1 _ _ (by omega)) (f1 _ _ (by omega))
  rw [takeFrom_w sp.2.2.2 (by rw [f1 _ _ (by omega)]; exact hw) r2 r2.2.2.2 (by omega)]
  have e2 : m1 (q + 2) 2 = cs.length := by rw [f1 _ _ (by omega)]; exact g5
  rw [e2]
  refine hK _ ⟨?_, g2, g3, ⟨sp.2.2.2, ?_, ?_⟩, am_st_same _ _ _ _, ?_⟩ (fun o k ho => ?_)
  · rw [am_st_ne _ (by omega), am_cp_eq, if_neg (by omega), ← hm1, am_cp_eq, if_neg (by omega), am_st_same]
  · rw [am_st_ne _ (by omega), am_cp_eq, if_neg (by omega), f1 _ _ (by omega)]; exact hw
  · rw [am_st_same]; omega
  · refine pz_pr_of cs 0 0 (by omega) g6 (fun x x0 x1 => ?_) (fun x x0 x1 => ?_)
    · rw [am_st_ne _ (by omega), am_cp_eq, if_pos (by omega), f1 _ _ (by omega), show q + 2 + 1 = q + 3 by omega]
      congr 1; omega
    · rw [am_st_ne _ (by omega), am_cp_eq, if_neg (by omega), ← hm1, am_cp_eq, if_pos (by omega), am_st_ne _ (by omega)]
      congr 1; omega
  · rw [am_st_ne _ (by omega), am_cp_eq, if_neg (by omega)]; exact f1 o k (by omega)
/-- two places apart -/
def ap_P (b c : Int) : Prop := ∀ o o', (b ≤ o ∧ o < b + 42) → (c ≤ o' ∧ o' < c + 42) → o' ≠ o
theorem rows5 {b c : Int} (ha : ap_P b c) (u1 : rs (b + 1) 1 10) (u2 : rs (b + 3) 4 64) (u3 : rs (b + 5) 1 6) (u4 : rs (b + 7) 2 20) (u5 : rs (b + 9) 3 18) (w1 : m (b + 1) 1 = 1) (w2 : m (b + 3) 1 = 4) (w3 : m (b + 5) 1 = 1) (w4 : m (b + 7) 1 = 2) (w5 : m (b + 9) 1 = 3)
    (b1 : am_RF m (c + 1) 1 10 A 363 170) (b2 : am_RF m (c + 3) 4 64 A 364 180) (b3 : am_RF m (c + 5) 1 6 A 365 316) (b4 : am_RF m (c + 7) 2 20 A 366 322) (b5 : am_RF m (c + 9) 3 18 A 367 342) (hd : b + 42 ≤ c ∨ c + 42 ≤ b) {K : am_KK}
    (hK : ∀ m', am_RF m' (b + 1) 1 10 A 363 170 → am_RF m' (b + 3) 4 64 A 364 180 → am_RF m' (b + 5) 1 6 A 365 316 → am_RF m' (b + 7) 2 20 A 366 322 → am_RF m' (b + 9) 3 18 A 367 342 → (∀ o k, ¬ ((b + 1 ≤ o ∧ o ≤ b + 10) ∧ ¬ (k = 1 ∧ (o = b + 1 ∨ o = b + 3 ∨ o = b + 5 ∨ o = b + 7 ∨ o = b + 9))) → m' o k = m o k) → K 0 m') :
    M_X7_takeFrom (b + 1) (c + 1) (fun _ m => M_X7_takeFrom (b + 3) (c + 3) (fun _ m => M_X7_takeFrom (b + 5) (c + 5) (fun _ m => M_X7_takeFrom (b + 7) (c + 7) (fun _ m => M_X7_takeFrom (b + 9) (c + 9) K m) m) m) m) m := by
  have hx : ∀ i j, (0 ≤ i ∧ i < 42) → (0 ≤ j ∧ j < 42) → c + j ≠ b + i := fun i j hi hj => ha _ _ (by omega) (by omega)
  have q1 : c + 1 + 2 ≤ b + 1 ∨ b + 1 + 2 ≤ c + 1 := by omega
  have q2 : c + 3 + 2 ≤ b + 3 ∨ b + 3 + 2 ≤ c + 3 := by omega
  have q3 : c + 5 + 2 ≤ b + 5 ∨ b + 5 + 2 ≤ c + 5 := by omega
  have q4 : c + 7 + 2 ≤ b + 7 ∨ b + 7 + 2 ≤ c + 7 := by omega
  have q5 : c + 9 + 2 ≤ b + 9 ∨ b + 9 + 2 ≤ c + 9 := by omega
  clear hd
  -- a frame, between the two
  have fa : ∀ {mm mm' : am_M} (a : Int), (0 ≤ a ∧ a < 41) → (∀ o k, ¬ ((o = b + a ∧ k = 2) ∨ o = b + a + 1) → mm' o k = mm o k) → ∀ j k, (0 ≤ j ∧ j < 42) → mm' (c + j) k = mm (c + j) k := fun a ha' f j k hj => f _ _ (by
    have := hx a j (by omega) hj
    have := hx (a + 1) j (by omega) hj
    omega)
  have fr : ∀ {mm mm' : am_M} (j w cap n0 base : Int), (0 ≤ j ∧ j < 41) → am_RF mm (c + j) w cap A n0 base → (∀ j k, (0 ≤ j ∧ j < 42) → mm' (c + j) k = mm (c + j) k) → am_RF mm' (c + j) w cap A n0 base := fun j w cap n0 base hj h f => rf_of' h (fun o k ho => by
    rcases ho with rfl | rfl
    · exact f j k (by omega)
    · have := f (j + 1) k (by omega)
      rwa [show c + (j + 1) = c + j + 1 by omega] at this) (fun _ _ => rfl)
  refine row_take u1 w1 b1 q1 (fun m1 v1 f1 => ?_)
  have c1 := fa 1 (by omega) f1
  have b2' := fr 3 4 64 364 180 (by omega) b2 c1
  have b3' := fr 5 1 6 365 316 (by omega) b3 c1
  have b4' := fr 7 2 20 366 322 (by omega) b4 c1
  have b5' := fr 9 3 18 367 342 (by omega) b5 c1
  clear b1 b2 b3 b4 b5
  refine row_take u2 (by rw [f1 _ _ (by omega)]; exact w2) b2' q2 (fun m2 v2 f2 => ?_)
  have c2 := fa 3 (by omega) f2
  have b3 := fr 5 1 6 365 316 (by omega) b3' c2
  have b4 := fr 7 2 20 366 322 (by omega) b4' c2
  have b5 := fr 9 3 18 367 342 (by omega) b5' c2
  clear b2' b3' b4' b5'
  refine row_take u3 (by rw [f2 _ _ (by omega), f1 _ _ (by omega)]; exact w3) b3 q3 (fun m3 v3 f3 => ?_)
  have c3 := fa 5 (by omega) f3
  have b4' := fr 7 2 20 366 322 (by omega) b4 c3
  have b5' := fr 9 3 18 367 342 (by omega) b5 c3
  clear b3 b4 b5
  refine row_take u4 (by rw [f3 _ _ (by omega), f2 _ _ (by omega), f1 _ _ (by omega)]; exact w4) b4' q4 (fun m4 v4 f4 => ?_)
  have c4 := fa 7 (by omega) f4
  have b5 := fr 9 3 18 367 342 (by omega) b5' c4
  clear b4' b5' c1 c2 c3 c4
  refine row_take u5 (by rw [f4 _ _ (by omega), f3 _ _ (by omega), f2 _ _ (by omega), f1 _ _ (by omega)]; exact w5) b5 q5 (fun m5 v5 f5 => ?_)
  clear q1 q2 q3 q4 q5 w1 w2 w3 w4 w5
  refine hK m5 (rf_of' v1 (fun o k ho => by rw [f5 o k (by omega), f4 o k (by omega), f3 o k (by omega), f2 o k (by omega)]) (fun _ _ => rfl)) (rf_of' v2 (fun o k ho => by rw [f5 o k (by omega), f4 o k (by omega), f3 o k (by omega)]) (fun _ _ => rfl)) (rf_of' v3 (fun o k ho => by rw [f5 o k (by omega), f4 o k (by omega)]) (fun _ _ => rfl)) (rf_of' v4 (fun o k ho => by rw [f5 o k (by omega)]) (fun _ _ => rfl)) v5 (fun o k ho => ?_)
  rw [f5 o k (by omega), f4 o k (by omega), f3 o k (by omega), f2 o k (by omega), f1 o k (by omega)]
/-- the laws of a Book -/
theorem laws_take {b c : Int} (ha : ap_P b c) (hd : b + 42 ≤ c ∨ c + 42 ≤ b) (s9 : am_rfv b 9 = b + 17) (x9 : am_rfv c 9 = c + 17) (n4 : am_len (b + 17) = 6) (y4 : am_len (c + 17) = 6) (hb10 : m b 10 = A 368) (hc11 : m c 11 = A 369) (l8 : 0 ≤ A 368 ∧ A 368 ≤ 6)
    (sp : ∀ t, 0 ≤ t → t < 6 → am_rfv (b + 17) t = b + 18 + 4 * t ∧ am_rfv (b + 18 + 4 * t) 0 = b + 18 + 4 * t + 1 ∧ am_rfv (b + 18 + 4 * t) 2 = b + 18 + 4 * t + 2 ∧ am_len (b + 18 + 4 * t + 1) = 400 ∧ rs (b + 18 + 4 * t + 2) 7 84)
    (sq : ∀ t, 0 ≤ t → t < 6 → am_rfv (c + 17) t = c + 18 + 4 * t ∧ am_rfv (c + 18 + 4 * t) 0 = c + 18 + 4 * t + 1 ∧ am_rfv (c + 18 + 4 * t) 2 = c + 18 + 4 * t + 2 ∧ am_len (c + 18 + 4 * t + 1) = 400 ∧ rs (c + 18 + 4 * t + 2) 7 84)
    (w7 : ∀ t, 0 ≤ t → t < 6 → m (b + 18 + 4 * t + 2) 1 = 7) (hl : lw_W A) (b10 : ∀ t cs, 0 ≤ t → t < A 368 → lw_cs A t = .inr cs → pz_PG m (c + 18 + 4 * t) cs) {K : am_KK}
    (hK : ∀ m', (∀ t cs, 0 ≤ t → t < A 368 → lw_cs A t = .inr cs → pz_PG m' (b + 18 + 4 * t) cs) → m' b 11 = A 369 → (∀ o k, ¬ ((o = b ∧ k = 11) ∨ (b + 18 ≤ o ∧ o < b + 42 ∧ ¬ (k = 1 ∧ ∃ t, 0 ≤ t ∧ t < 6 ∧ o = b + 18 + 4 * t + 2))) → m' o k = m o k) → K 0 m') : M_X0_takeFrom_L1 b c 0 K m := by
  unfold M_X0_takeFrom_L1
  refine ⟨fun j i mm => 0 ≤ i ∧ i ≤ A 368 ∧ j = (A 368 - i).toNat ∧ (∀ o k, ¬ (b + 18 ≤ o ∧ o < b + 42 ∧ ¬ (k = 1 ∧ ∃ t, 0 ≤ t ∧ t < 6 ∧ o = b + 18 + 4 * t + 2)) → mm o k = m o k) ∧ ∀ t cs, 0 ≤ t → t < i → lw_cs A t = .inr cs → pz_PG mm (b + 18 + 4 * t) cs, ⟨_, by omega, by omega, rfl, fun _ _ _ => rfl, fun t cs t0 t1 => by omega⟩, ?_⟩
  rintro j i mm ⟨i0, i1, rfl, h1, h2⟩
  unfold M_X0_takeFrom_L1B
  have hlo : ∀ o k, ¬ (b + 18 ≤ o ∧ o < b + 42) → mm o k = m o k := fun o k ho => h1 o k (fun z => ho ⟨z.1, z.2.1⟩)
  have z1 : mm b 10 = A 368 := by rw [hlo _ _ (by omega)]; exact hb10
  rw [z1, s9, x9, n4, y4]
  simp only [forall_eq]
  refine ⟨fun q => ?_, fun q => ⟨by omega, by omega, ?_⟩⟩
  · have hi : i = A 368 := by omega
    subst hi
    have z2 : mm c 11 = A 369 := by rw [hlo _ _ (by omega)]; exact hc11
    rw [z2]
    refine hK _ (fun t cs t0 t1 hc => ?_) (am_st_same _ _ _ _) (fun o k ho => ?_)
    · exact pz_PG_of (h2 t cs t0 t1 hc) (fun o k ho => am_st_ne _ (by omega))
    · rw [am_st_ne _ (fun z => ho (Or.inl z))]
      exact h1 o k (fun z => ho (Or.inr z))
  · obtain ⟨p1, p2, p3, p4, p5⟩ := sp i i0 (by omega)
    obtain ⟨q1, q2, q3, q4, q5⟩ := sq i i0 (by omega)
    obtain ⟨cs, hcs⟩ := (hl.2.2 i i0 (by omega)).2.2
    have hG : pz_PG mm (c + 18 + 4 * i) cs := pz_PG_of (b10 i cs i0 (by omega) hcs) (fun o k ho => hlo _ _ (by omega))
    rw [p1, q1]
    have hdi : b + 18 + 4 * i + 4 ≤ c + 18 + 4 * i ∨ c + 18 + 4 * i + 4 ≤ b + 18 + 4 * i := by omega
    have hwi : mm (b + 18 + 4 * i + 2) 1 = 7 := by rw [h1 _ _ (fun z => z.2.2 ⟨rfl, i, i0, by omega, rfl⟩)]; exact w7 i i0 (by omega)
    refine pg_take ⟨p2, p3, p4, p5⟩ ⟨q2, q3, q4⟩ hwi hG hdi (fun m11 g11 f11 => ?_)
    clear p1 p2 p3 p4 p5 q1 q2 q3 q4 q5 hdi
    rw [w32_of (by omega) (by omega)]
    refine ⟨_, by omega, by omega, by omega, rfl, fun o k ho => ?_, fun t ds t0 t1 hd => ?_⟩
    · rw [f11 o k (fun z => ho ?_)]
      · exact h1 o k ho
      · refine ⟨by omega, by omega, fun y => ?_⟩
        obtain ⟨y1, t, t0, t1, y2⟩ := y
        omega
    · by_cases ct : t = i
      · subst ct
        rw [hcs] at hd
        injection hd with hd
        subst hd
        exact g11
      · exact pz_PG_of (h2 t ds t0 (by omega) hd) (fun o k ho => f11 _ _ (by omega))
theorem bk_take {b c : Int} (sb : bs_P b) (sc : bs_P c) (ha : ap_P b c) (hd : b + 42 ≤ c ∨ c + 42 ≤ b) (hw : ∀ q ∈ wd_b b, m q.1 1 = q.2) (hB : bk_P m c A) (hV : vg_P m (c + 11) A) (hl : lw_W A) {K : am_KK}
    (hK : ∀ m', bk_P m' b A → vg_P m' (b + 11) A → (∀ o k, ¬ (b ≤ o ∧ o < b + 42 ∧ ¬ (k = 1 ∧ wb_P b o)) → m' o k = m o k) → K 0 m') : M_X0_takeFrom b c K m := by
  obtain ⟨⟨s0, s1, s2, s3, s4, s5, s6, s7, s8, s9, s10⟩, ⟨n1, n2, n3, n4⟩, ⟨u1, u2, u3, u4, u5, u6⟩, sp⟩ := sb
  obtain ⟨⟨x0, x1, x2, x3, x4, x5, x6, x7, x8, x9, x10⟩, ⟨y1, y2, y3, y4⟩, -, sq⟩ := sc
  obtain ⟨b1, b2, b3, b4, b5, b6, b7, b8, b9, b10⟩ := hB
  have w6 : m (b + 11 + 1) 1 = 7 := by rw [show b + 11 + 1 = b + 12 by omega]; exact hw (b + 12, 7) (by simp [wd_b])
  have w7 : ∀ t, 0 ≤ t → t < 6 → m (b + 18 + 4 * t + 2) 1 = 7 := by
    refine six ?_ ?_ ?_ ?_ ?_ ?_
    · rw [show b + 18 + 4 * 0 + 2 = b + 20 by omega]; exact hw (b + 20, 7) (by simp [wd_b])
    · rw [show b + 18 + 4 * 1 + 2 = b + 24 by omega]; exact hw (b + 24, 7) (by simp [wd_b])
    · rw [show b + 18 + 4 * 2 + 2 = b + 28 by omega]; exact hw (b + 28, 7) (by simp [wd_b])
    · rw [show b + 18 + 4 * 3 + 2 = b + 32 by omega]; exact hw (b + 32, 7) (by simp [wd_b])
    · rw [show b + 18 + 4 * 4 + 2 = b + 36 by omega]; exact hw (b + 36, 7) (by simp [wd_b])
    · rw [show b + 18 + 4 * 5 + 2 = b + 40 by omega]; exact hw (b + 40, 7) (by simp [wd_b])
  unfold M_X0_takeFrom
  rw [s0, s1, s2, s3, s4, s5, s6, s7, s8, x0, x1, x2, x3, x4, x5, x6, x7, x8, s9, n1, n2, n3, n4, y1, y2, y3]
  clear s0 s1 s2 s3 s4 s5 s6 s7 s8 x0 x1 x2 x3 x4 x5 x6 x7 x8 n1 n2 n3 y1 y2 y3
  refine rows5 ha u1 u2 u3 u4 u5 (hw (b + 1, 1) (by simp [wd_b])) (hw (b + 3, 4) (by simp [wd_b])) (hw (b + 5, 1) (by simp [wd_b])) (hw (b + 7, 2) (by simp [wd_b])) (hw (b + 9, 3) (by simp [wd_b])) b1 b2 b3 b4 b5 hd (fun m5 V1 V2 V3 V4 V5 g5 => ?_)
  have l8 := hl.1
  have h24 : A 168 ≤ 24 := by have := hV.1.1.2.2.2; rw [hV.1.2.1] at this; omega
  refine vg_take (v := b + 11) (v2 := c + 11) u6 s10 x10 (by rw [g5 _ _ (by omega)]; exact w6) (vg_of hV (fun o k _ _ => g5 o k (by omega)) (fun _ _ => rfl)) (by omega) h24 (fun m6 v6 f6 => ?_)
  refine ⟨by omega, fun m7 e7 => ⟨by omega, fun m8 e8 => ⟨by omega, fun m9 e9 => fun m10 e10 => ?_⟩⟩⟩
  have hc6 : ∀ j k, (0 ≤ j ∧ j < 42) → m6 (c + j) k = m (c + j) k := fun j k hj => by rw [f6 _ _ (by omega), g5 _ _ (by omega)]
  have hx : ∀ i j, (0 ≤ i ∧ i < 42) → (0 ≤ j ∧ j < 42) → c + j ≠ b + i := fun i j hi hj => ha _ _ (by omega) (by omega)
  have hx0 : ∀ i, (0 ≤ i ∧ i < 42) → c ≠ b + i := fun i hi => by have := hx i 0 hi (by omega); omega
  have f7 : ∀ o k, ¬ (o = b + 14 ∨ o = b + 15 ∨ o = b + 16) → m9 o k = m6 o k := fun o k ho => by rw [e9, am_cp_eq, if_neg (fun z => ho (Or.inr (Or.inr z.1))), e8, am_cp_eq, if_neg (fun z => ho (Or.inr (Or.inl z.1))), e7, am_cp_eq, if_neg (fun z => ho (Or.inl z.1))]
  have c14 : ∀ i, 0 ≤ i → i < 8 → m9 (b + 14) i = m (c + 14) i := fun i i0 i1 => by
    rw [e9, am_cp_eq, if_neg (fun z => by have := z.1; clear hd; omega), e8, am_cp_eq, if_neg (fun z => by have := z.1; clear hd; omega), e7, am_cp_eq, if_pos ⟨rfl, i0, by clear hd; omega⟩, hc6 _ _ (by clear hd; omega)]
    congr 1; clear hd; omega
  have c15 : ∀ i, 0 ≤ i → i < 8 → m9 (b + 15) i = m (c + 15) i := fun i i0 i1 => by
    rw [e9, am_cp_eq, if_neg (fun z => by have := z.1; clear hd; omega), e8, am_cp_eq, if_pos ⟨rfl, i0, by clear hd; omega⟩, e7, am_cp_eq, if_neg (fun z => hx 14 15 (by omega) (by omega) z.1), hc6 _ _ (by clear hd; omega)]
    congr 1; clear hd; omega
  have c16 : ∀ i, 0 ≤ i → i < 4 → m9 (b + 16) i = m (c + 16) i := fun i i0 i1 => by
    rw [e9, am_cp_eq, if_pos ⟨rfl, i0, by clear hd; omega⟩, e8, am_cp_eq, if_neg (fun z => hx 15 16 (by omega) (by omega) z.1), e7, am_cp_eq, if_neg (fun z => hx 14 16 (by omega) (by omega) z.1), hc6 _ _ (by clear hd; omega)]
    congr 1; clear hd; omega
  have ec : ∀ k, m9 c k = m c k := fun k => by
    have := hc6 0 k (by omega)
    rw [Int.add_zero] at this
    rw [f7 _ _ (fun z => z.elim (hx0 14 (by omega)) (fun z => z.elim (hx0 15 (by omega)) (hx0 16 (by omega))))]
    exact this
  have emin : am_min (m9 c 10) 6 = A 368 := by
    unfold am_min
    rw [ec, b9.1, if_neg (by omega)]
  rw [emin] at e10
  have f10 : ∀ o k, ¬ (o = b ∧ k = 10) → m10 o k = m9 o k := fun o k ho => by rw [e10]; exact am_st_ne _ ho
  have e10' : m10 b 10 = A 368 := by rw [e10]; exact am_st_same _ _ _ _
  have hc10 : ∀ j k, (18 ≤ j ∧ j < 42) → m10 (c + j) k = m (c + j) k := fun j k hj => by
    have z0 := hx 0 j (by omega) (by omega)
    have z14 := hx 14 j (by omega) (by omega)
    have z15 := hx 15 j (by omega) (by omega)
    have z16 := hx 16 j (by omega) (by omega)
    rw [f10 _ _ (by clear hd; omega), f7 _ _ (by clear hd; omega)]
    exact hc6 j k (by omega)
  have b10' : ∀ t cs, 0 ≤ t → t < A 368 → lw_cs A t = .inr cs → pz_PG m10 (c + 18 + 4 * t) cs := fun t cs t0 t1 hc => pz_PG_of (b10 t cs t0 t1 hc) (fun o k ho => by
    have := hc10 (o - c) k (by clear hd; omega)
    rwa [show c + (o - c) = o by clear hd; omega] at this)
  have ec11 : m10 c 11 = A 369 := by rw [f10 _ _ (by clear hd; omega), ec]; exact b9.2
  have lo : ∀ o k, b + 1 ≤ o → o ≤ b + 10 → m10 o k = m5 o k := fun o k h1 h2 => by clear hd; rw [f10 _ _ (by omega), f7 _ _ (by omega), f6 _ _ (by omega)]
  have v10 : vg_P m10 (b + 11) A := vg_of v6 (fun o k _ _ => by clear hd; rw [f10 _ _ (by omega), f7 _ _ (by omega)]) (fun _ _ => rfl)
  have fr : ∀ o k, ¬ (b ≤ o ∧ o < b + 18 ∧ ¬ (k = 1 ∧ (o = b + 1 ∨ o = b + 3 ∨ o = b + 5 ∨ o = b + 7 ∨ o = b + 9 ∨ o = b + 12))) → m10 o k = m o k := fun o k ho => by
    clear hd
    rw [f10 _ _ (by omega), f7 _ _ (by omega), f6 _ _ (by omega), g5 _ _ (by omega)]
  have w7' : ∀ t, 0 ≤ t → t < 6 → m10 (b + 18 + 4 * t + 2) 1 = 7 := fun t t0 t1 => by rw [fr _ _ (by clear hd; omega)]; exact w7 t t0 t1
  have k9 : ∀ o k, b + 14 ≤ o → o ≤ b + 16 → m10 o k = m9 o k := fun o k h1 h2 => f10 _ _ (by clear hd; omega)
  clear e7 e8 e9 e10 f10 f7 f6 g5 hc6 hx hx0 ec emin hc10 b10 w7 w6
  refine laws_take ha hd s9 x9 n4 y4 e10' ec11 l8 sp sq w7' hl b10' (fun m11 z1 z2 z3 => ?_)
  clear hd s9 x9 n4 y4 s10 x10
  have k1 : ∀ o k, b + 1 ≤ o → o ≤ b + 10 → m11 o k = m5 o k := fun o k q1 q2 => by rw [z3 _ _ (by omega)]; exact lo o k q1 q2
  have k2 : ∀ o k, b + 14 ≤ o → o ≤ b + 16 → m11 o k = m9 o k := fun o k q1 q2 => by rw [z3 _ _ (by omega)]; exact k9 o k q1 q2
  refine hK _ ⟨rf_of' V1 (fun o k ho => k1 o k (by omega) (by omega)) (fun _ _ => rfl), rf_of' V2 (fun o k ho => k1 o k (by omega) (by omega)) (fun _ _ => rfl), rf_of' V3 (fun o k ho => k1 o k (by omega) (by omega)) (fun _ _ => rfl), rf_of' V4 (fun o k ho => k1 o k (by omega) (by omega)) (fun _ _ => rfl), rf_of' V5 (fun o k ho => k1 o k (by omega) (by omega)) (fun _ _ => rfl), fun i j i0 i1 j0 j1 => ?_, fun i i0 i1 => ?_, ?_, ?_, z1⟩ (vg_of v10 (fun o k _ _ => z3 _ _ (by omega)) (fun _ _ => rfl)) (fun o k ho => ?_)
  · rw [k2 _ _ (by omega) (by omega), c14 i i0 i1]; exact b6 i j i0 i1 j0 j1
  · rw [k2 _ _ (by omega) (by omega), k2 _ _ (by omega) (by omega), c14 i i0 i1, c15 i i0 i1]; exact b7 i i0 i1
  · rw [k2 _ _ (by omega) (by omega), k2 _ _ (by omega) (by omega), k2 _ _ (by omega) (by omega), c16 _ (by omega) (by omega), c16 _ (by omega) (by omega), c16 _ (by omega) (by omega)]; exact b8
  · rw [z3 _ _ (by omega)]; exact ⟨e10', z2⟩
  · have hw6 : ∀ t, 0 ≤ t → t < 6 → o = b + 18 + 4 * t + 2 → wb_P b o := fun t t0 t1 e => by unfold wb_P; omega
    rw [z3 o k ?_, fr o k ?_]
    · intro z
      refine ho ⟨z.1, by omega, fun y => z.2.2 ⟨y.1, ?_⟩⟩
      have y2 := y.2
      unfold wb_P at y2
      omega
    · intro z
      rcases z with z | z
      · exact ho ⟨by omega, by omega, fun y => by omega⟩
      · refine ho ⟨by omega, z.2.1, fun y => z.2.2 ⟨y.1, ?_⟩⟩
        have y2 := y.2
        unfold wb_P at y2
        exact ⟨(o - b - 20) / 4, by omega, by omega, by omega⟩
end BKT
theorem wd_in1 : ∀ q ∈ wd_L, q.1 < 1 ∨ 43 ≤ q.1 ∨ (q.1 = 1 + 1 ∨ q.1 = 1 + 3 ∨ q.1 = 1 + 5 ∨ q.1 = 1 + 7 ∨ q.1 = 1 + 9 ∨ q.1 = 1 + 12 ∨ q.1 = 1 + 20 ∨ q.1 = 1 + 24 ∨ q.1 = 1 + 28 ∨ q.1 = 1 + 32 ∨ q.1 = 1 + 36 ∨ q.1 = 1 + 40) := by decide
theorem wd_in2 : ∀ q ∈ wd_L, q.1 < 44 ∨ 86 ≤ q.1 ∨ (q.1 = 44 + 1 ∨ q.1 = 44 + 3 ∨ q.1 = 44 + 5 ∨ q.1 = 44 + 7 ∨ q.1 = 44 + 9 ∨ q.1 = 44 + 12 ∨ q.1 = 44 + 20 ∨ q.1 = 44 + 24 ∨ q.1 = 44 + 28 ∨ q.1 = 44 + 32 ∨ q.1 = 44 + 36 ∨ q.1 = 44 + 40) := by decide
theorem wd_in3 : ∀ q ∈ wd_L, q.1 < 86 ∨ 128 ≤ q.1 ∨ (q.1 = 86 + 1 ∨ q.1 = 86 + 3 ∨ q.1 = 86 + 5 ∨ q.1 = 86 + 7 ∨ q.1 = 86 + 9 ∨ q.1 = 86 + 12 ∨ q.1 = 86 + 20 ∨ q.1 = 86 + 24 ∨ q.1 = 86 + 28 ∨ q.1 = 86 + 32 ∨ q.1 = 86 + 36 ∨ q.1 = 86 + 40) := by decide
theorem wd_in : ∀ q ∈ wd_L, (1 ≤ q.1 → q.1 < 43 → (q.1 = 1 + 1 ∨ q.1 = 1 + 3 ∨ q.1 = 1 + 5 ∨ q.1 = 1 + 7 ∨ q.1 = 1 + 9 ∨ q.1 = 1 + 12 ∨ q.1 = 1 + 20 ∨ q.1 = 1 + 24 ∨ q.1 = 1 + 28 ∨ q.1 = 1 + 32 ∨ q.1 = 1 + 36 ∨ q.1 = 1 + 40)) ∧ (44 ≤ q.1 → q.1 < 86 → (q.1 = 44 + 1 ∨ q.1 = 44 + 3 ∨ q.1 = 44 + 5 ∨ q.1 = 44 + 7 ∨ q.1 = 44 + 9 ∨ q.1 = 44 + 12 ∨ q.1 = 44 + 20 ∨ q.1 = 44 + 24 ∨ q.1 = 44 + 28 ∨ q.1 = 44 + 32 ∨ q.1 = 44 + 36 ∨ q.1 = 44 + 40)) ∧ (86 ≤ q.1 → q.1 < 128 → (q.1 = 86 + 1 ∨ q.1 = 86 + 3 ∨ q.1 = 86 + 5 ∨ q.1 = 86 + 7 ∨ q.1 = 86 + 9 ∨ q.1 = 86 + 12 ∨ q.1 = 86 + 20 ∨ q.1 = 86 + 24 ∨ q.1 = 86 + 28 ∨ q.1 = 86 + 32 ∨ q.1 = 86 + 36 ∨ q.1 = 86 + 40)) := fun q hq => ⟨fun a b => (wd_in1 q hq).elim (fun z => absurd z (by omega)) (fun z => z.elim (fun z => absurd z (by omega)) id), fun a b => (wd_in2 q hq).elim (fun z => absurd z (by omega)) (fun z => z.elim (fun z => absurd z (by omega)) id), fun a b => (wd_in3 q hq).elim (fun z => absurd z (by omega)) (fun z => z.elim (fun z => absurd z (by omega)) id)⟩
theorem wd_sub {m : am_M} (h : wd_P m) : (∀ q ∈ wd_b 1, m q.1 1 = q.2) ∧ (∀ q ∈ wd_b 44, m q.1 1 = q.2) ∧ ∀ q ∈ wd_b 86, m q.1 1 = q.2 :=
  ⟨fun q hq => h q (by unfold wd_L; simp only [List.mem_append]; exact Or.inl (Or.inl (Or.inl hq))), fun q hq => h q (by unfold wd_L; simp only [List.mem_append]; exact Or.inl (Or.inl (Or.inr hq))), fun q hq => h q (by unfold wd_L; simp only [List.mem_append]; exact Or.inl (Or.inr hq))⟩
theorem im_same {m m' : am_M} {k : Int} (h : im_P m k) (e1 : m' 128 k = m 128 k) (e2 : m' 172 k = m 172 k) (e3 : ∀ o x, 44 + 42 * k ≤ o → o < 44 + 42 * k + 42 → m' o x = m o x) (e4 : re_q (im_A m k) (im_A m' k)) : im_P m' k := by
  obtain ⟨h1, h2, h3⟩ := h
  refine ⟨by rw [e1, e2]; exact h1, by rw [e2]; exact h2, fun hh => ?_⟩
  rw [e2] at hh
  obtain ⟨g1, g2, g3, g4⟩ := h3 hh
  obtain ⟨w1, w2⟩ := wf_eq g3 g4 e4
  exact ⟨bk_eq (bk_of g1 (fun o x o1 o2 _ => e3 o x o1 o2) (fun _ _ => rfl) g3.2.2.1.1.2) g3.2.2.1 e4, vg_eq (vg_of g2 (fun o x o1 o2 => e3 o x (by omega) (by omega)) (fun _ _ => rfl)) e4, w1, w2⟩
theorem mimage {m : am_M} {k : Int} (hk : k = 0 ∨ k = 1) {K : am_KK} (hK : ∀ m', (∀ o x, ¬ ((o = 171 ∧ 5977 * k ≤ x ∧ x < 5977 * k + 5977) ∨ (o = 172 ∧ x = k) ∨ (o = 168 ∧ x = 0)) → m' o x = m o x) → re_q (m 170) (im_A m' k) → m' 172 k = 1 → m' 168 0 = 0 → K 0 m') : M_X12_image 168 k K m := by
  unfold M_X12_image
  rw [lies_eq, if_pos (by omega)]
  refine ⟨fun _ => ?_, fun q => absurd (by decide) q⟩
  unfold M_X12_image_L1
  refine ⟨fun j i m1 => 0 ≤ i ∧ i ≤ 5977 ∧ j = (5977 - i).toNat ∧ (∀ o x, ¬ (o = 171 ∧ 5977 * k ≤ x ∧ x < 5977 * k + 5977) → m1 o x = m o x) ∧ ∀ x, 0 ≤ x → x < i → m1 171 (5977 * k + x) = m 170 x, ⟨_, by omega, by omega, rfl, fun _ _ _ => rfl, fun x x0 x1 => by omega⟩, ?_⟩
  rintro j i m1 ⟨i0, i1, rfl, c1, c2⟩
  unfold M_X12_image_L1B
  simp only [am_rf_all, am_ln_all, forall_eq, good_eq]
  rw [w32_of (z := 5977 * k) (by omega) (by omega), w32_of (z := 5977 * k + i) (by omega) (by omega)]
  refine ⟨fun q => ⟨by omega, ?_⟩, fun q => ⟨by omega, by omega, ?_⟩⟩
  · refine hK _ (fun o x ho => by rw [am_st_ne _ (by omega), am_st_ne _ (by omega)]; exact c1 o x (by omega)) (fun x x0 x1 => ?_) (by rw [am_st_ne _ (by omega), am_st_same]) (am_st_same _ _ _ _)
    show am_st (am_st m1 172 k 1) 168 0 0 171 (5977 * k + x) = m 170 x
    rw [am_st_ne _ (by omega), am_st_ne _ (by omega)]
    exact c2 x x0 (by omega)
  · rw [w32_of (by omega) (by omega)]
    refine ⟨_, by omega, by omega, by omega, rfl, fun o x ho => by rw [am_st_ne _ (by omega)]; exact c1 o x ho, fun x x0 x1 => ?_⟩
    by_cases e : x = i
    · subst e; rw [am_st_same, c1 _ _ (by omega)]
    · rw [am_st_ne _ (by omega)]; exact c2 x x0 (by omega)
theorem mback {m : am_M} {k : Int} (hk : k = 0 ∨ k = 1) (h1 : m 172 k ≠ 0) {K : am_KK} (hK : ∀ m', (∀ o x, ¬ (o = 170 ∨ (o = 168 ∧ (x = 0 ∨ x = 38))) → m' o x = m o x) → re_q (im_A m k) (m' 170) → m' 168 38 = 0 → m' 168 0 = 0 → K 0 m') : M_X12_back 168 k K m := by
  unfold M_X12_back
  rw [lies_eq, if_pos (by omega)]
  simp only [am_rf_all, am_ln_all]
  refine ⟨fun _ => ⟨by omega, fun _ => ?_, fun q => absurd h1 q⟩, fun q => absurd (by decide) q⟩
  unfold M_X12_back_L1
  refine ⟨fun j i m1 => 0 ≤ i ∧ i ≤ 5977 ∧ j = (5977 - i).toNat ∧ (∀ o x, ¬ (o = 170) → m1 o x = m o x) ∧ ∀ x, 0 ≤ x → x < i → m1 170 x = im_A m k x, ⟨_, by omega, by omega, rfl, fun _ _ _ => rfl, fun x x0 x1 => by omega⟩, ?_⟩
  rintro j i m1 ⟨i0, i1, rfl, c1, c2⟩
  unfold M_X12_back_L1B
  simp only [am_rf_all, am_ln_all, forall_eq, settled_eq]
  rw [w32_of (z := 5977 * k) (by omega) (by omega), w32_of (z := 5977 * k + i) (by omega) (by omega)]
  refine ⟨fun q => ?_, fun q => ⟨by omega, by omega, ?_⟩⟩
  · refine hK _ (fun o x ho => by rw [am_st_ne _ (by omega), am_st_ne _ (by omega)]; exact c1 o x (by omega)) (fun x x0 x1 => ?_) (by rw [am_st_ne _ (by omega), am_st_same]) (am_st_same _ _ _ _)
    rw [am_st_ne _ (by omega), am_st_ne _ (by omega)]
    exact c2 x x0 (by omega)
  · rw [w32_of (by omega) (by omega)]
    refine ⟨_, by omega, by omega, by omega, rfl, fun o x ho => by rw [am_st_ne _ (by omega)]; exact c1 o x ho, fun x x0 x1 => ?_⟩
    by_cases e : x = i
    · subst e; rw [am_st_same, c1 _ _ (by omega)]; rfl
    · rw [am_st_ne _ (by omega)]; exact c2 x x0 (by omega)
theorem bs_k {k : Int} (hk : k = 0 ∨ k = 1) : bs_P (44 + 42 * k) ∧ am_rfv 43 k = 44 + 42 * k := by
  rcases hk with rfl | rfl
  · exact ⟨bs_44, by decide +kernel⟩
  · exact ⟨bs_86, by decide +kernel⟩
theorem j_image (v : Int) : Joint (M_X11_image 0 v) (M_X12_image 168 v) := by
  intro m h K hK
  by_cases hk : v = 0 ∨ v = 1
  · obtain ⟨⟨hb, hv, hf, hH⟩, ⟨i0, i1⟩, hh⟩ := id h
    obtain ⟨sb, eb⟩ := bs_k hk
    obtain ⟨-, wd44, wd86⟩ := wd_sub hh.2.2.2.2.2.1
    unfold M_X11_image
    simp only [am_rf_all, am_ln_all, within_eq, fine_eq]
    rw [show w32 (2 - 1) = 1 by decide, if_pos (by omega), eb]
    refine ⟨fun _ => ⟨by omega, ?_⟩, fun q => absurd (by decide) q⟩
    have hwd : ∀ q ∈ wd_b (44 + 42 * v), m q.1 1 = q.2 := by
      rcases hk with rfl | rfl
      · exact wd44
      · exact wd86
    refine bk_take (b := 44 + 42 * v) (c := 1) sb bs_1 (fun o o' h1 h2 => by omega) (by omega) hwd hb hv hf.2.2.1 (fun m1 g1 g2 f1 => ?_)
    refine ⟨by omega, ?_⟩
    simp only [forall_eq]
    generalize hm2 : am_st (am_st m1 128 v 1) 0 17 0 = m2
    have f2 : ∀ o k, ¬ ((44 + 42 * v ≤ o ∧ o < 44 + 42 * v + 42 ∧ ¬ (k = 1 ∧ wb_P (44 + 42 * v) o)) ∨ (o = 128 ∧ k = v) ∨ (o = 0 ∧ k = 17)) → m2 o k = m o k := fun o k ho => by
      rw [← hm2, am_st_ne _ (fun z => ho (Or.inr (Or.inr z))), am_st_ne _ (fun z => ho (Or.inr (Or.inl z)))]
      exact f1 o k (fun z => ho (Or.inl z))
    have f2' : ∀ o k, ¬ ((44 + 42 * v ≤ o ∧ o < 44 + 42 * v + 42) ∨ (o = 128 ∧ k = v) ∨ (o = 0 ∧ k = 17)) → m2 o k = m o k := fun o k ho => f2 o k (fun z => ho (z.elim (fun z => Or.inl ⟨z.1, z.2.1⟩) Or.inr))
    have e170 : m2 170 = m 170 := funext fun x => f2' _ _ (by omega)
    refine mimage hk (fun m3 f3 r3 a3 a4 => ?_)
    rw [e170] at r3
    have e : ∀ o k, ¬ ((44 + 42 * v ≤ o ∧ o < 44 + 42 * v + 42) ∨ (o = 128 ∧ k = v) ∨ (o = 0 ∧ k = 17) ∨ (o = 171 ∧ 5977 * v ≤ k ∧ k < 5977 * v + 5977) ∨ (o = 172 ∧ k = v) ∨ (o = 168 ∧ k = 0)) → m3 o k = m o k := fun o k ho => by rw [f3 o k (by omega)]; exact f2' o k (by omega)
    have e3 : m3 170 = m 170 := funext fun x => e _ _ (by omega)
    have d2 : m2 128 v = 1 := by rw [← hm2, am_st_ne _ (by omega), am_st_same]
    obtain ⟨w1, w2⟩ := wf_eq hf hH r3
    have imk : im_P m3 v := by
      refine ⟨by rw [a3, f3 _ _ (by omega)]; exact d2, Or.inr a3, fun _ => ⟨bk_eq (bk_of g1 (fun o x o1 o2 _ => ?_) (fun _ _ => rfl) hf.2.2.1.1.2) hf.2.2.1 r3, vg_eq (vg_of g2 (fun o x o1 o2 => ?_) (fun _ _ => rfl)) r3, w1, w2⟩⟩
      · rw [f3 _ _ (by omega), ← hm2, am_st_ne _ (by omega), am_st_ne _ (by omega)]
      · rw [f3 _ _ (by omega), ← hm2, am_st_ne _ (by omega), am_st_ne _ (by omega)]
    have imo : ∀ k', (k' = 0 ∨ k' = 1) → k' ≠ v → im_P m k' → im_P m3 k' := fun k' hk' hne hi => im_same hi (e _ _ (by omega)) (e _ _ (by omega)) (fun o x o1 o2 => e _ _ (by omega)) (fun x x0 x1 => e _ _ (by omega))
    refine hK _ _ ⟨⟨?_, ?_, by rw [e3]; exact hf, by rw [e3]; exact hH⟩, ⟨?_, ?_⟩, tp_of hh.1 (fun o k ho => e _ _ (by omega)), ⟨?_, ?_, ?_, ?_⟩, re_of hh.2.2.1 (fun o k ho => e _ _ (by omega)), ud_of hh.2.2.2.1 (fun o k ho => e _ _ (by omega)) (by rw [e3]; exact Int.le_refl _), se_of hh.2.2.2.2.1 (fun o k ho => e _ _ (by omega)), wd_of hh.2.2.2.2.2.1 (fun q hq => ?_), ww_of hh.2.2.2.2.2.2 (e _ _ (by omega)) (e _ _ (by omega)) (fun _ => e _ _ (by omega)) (fun _ _ _ => e _ _ (by omega))⟩
    · rw [e3]; exact bk_of hb (fun o k _ _ _ => e _ _ (by omega)) (fun _ _ => rfl) hf.2.2.1.1.2
    · rw [e3]; exact vg_of hv (fun o k _ _ => e _ _ (by omega)) (fun _ _ => rfl)
    · by_cases c : v = 0
      · subst c; exact imk
      · exact imo 0 (Or.inl rfl) (by omega) i0
    · by_cases c : v = 1
      · subst c; exact imk
      · exact imo 1 (Or.inr rfl) (by omega) i1
    · rw [f3 _ _ (by omega), ← hm2, am_st_same, a4]
    · rw [e _ _ (by omega), e _ _ (by omega)]; exact h.2.2.2.1.2.1
    · rw [e _ _ (by omega), e _ _ (by omega)]; exact h.2.2.2.1.2.2.1
    · rw [e _ _ (by omega), e _ _ (by omega)]; exact h.2.2.2.1.2.2.2
    · have q1 := wd_ne q hq
      obtain ⟨-, q2, q3⟩ := wd_in q hq
      rw [f3 _ _ (by omega)]
      refine f2 _ _ (fun z => ?_)
      rcases z with z | z | z
      · refine z.2.2 ⟨rfl, ?_⟩
        unfold wb_P
        rcases hk with rfl | rfl
        · exact q2 z.1 z.2.1
        · exact q3 z.1 z.2.1
      · omega
      · omega
  · unfold M_X11_image M_X12_image
    simp only [am_rf_all, am_ln_all, within_eq, lies_eq]
    rw [show w32 (2 - 1) = 1 by decide, if_neg (by omega)]
    refine ⟨fun q => absurd rfl q, fun _ => ?_⟩
    rw [refuse_eq (Or.inl rfl)]
    refine ⟨fun q => absurd rfl q, fun _ => ?_⟩
    rw [refuses_eq (Or.inl rfl)]
    exact refuses_end (Or.inl rfl) h hK
theorem j_back (v : Int) : Joint (M_X11_back 0 v) (M_X12_back 168 v) := by
  intro m h K hK
  by_cases hk : v = 0 ∨ v = 1
  · obtain ⟨⟨hb, hv, hf, hH⟩, ⟨i0, i1⟩, hh⟩ := id h
    have hud := hh.2.2.2.1
    obtain ⟨sb, eb⟩ := bs_k hk
    obtain ⟨wd1, -, -⟩ := wd_sub hh.2.2.2.2.2.1
    have hi : im_P m v := by
      rcases hk with rfl | rfl
      · exact i0
      · exact i1
    obtain ⟨j1, j2, j3⟩ := hi
    unfold M_X11_back
    simp only [am_rf_all, am_ln_all, within_eq, fine_eq]
    rw [show w32 (2 - 1) = 1 by decide, if_pos (by omega), eb]
    refine ⟨fun _ => ⟨by omega, fun c => ⟨by omega, ?_⟩, fun c => ?_⟩, fun q => absurd (by decide) q⟩
    · have c1 : m 172 v = 1 := by omega
      obtain ⟨g1, g2, g3, g4⟩ := j3 c1
      refine bk_take (b := 1) (c := 44 + 42 * v) bs_1 sb (fun o o' h1 h2 => by omega) (by omega) wd1 g1 g2 g3.2.2.1 (fun m1 b1 b2 f1 => ?_)
      have f1' : ∀ o k, ¬ (1 ≤ o ∧ o < 43) → m1 o k = m o k := fun o k ho => f1 o k (fun z => ho ⟨z.1, z.2.1⟩)
      rw [deeds_cut hud _ _ (fun _ => f1' _ _ (by omega))]
      generalize hm2 : (if 0 < m 168 38 then am_st m1 148 2 0 else m1) = m2
      have f2 : ∀ o k, ¬ (o = 148 ∧ k = 2) → m2 o k = m1 o k := fun o k ho => by
        rw [← hm2]; split
        · exact am_st_ne _ ho
        · rfl
      have e148 : m2 148 2 = 0 := by
        rw [← hm2]; split
        · exact am_st_same _ _ _ _
        · have := hud.2.1; have := hud.2.2.1; rw [f1' _ _ (by omega)]; omega
      have ei : im_A (am_st m2 0 17 0) v = im_A m v := funext fun x => by
        show am_st m2 0 17 0 171 _ = m 171 _
        rw [am_st_ne _ (by omega), f2 _ _ (by omega)]; exact f1' _ _ (by omega)
      refine mback hk (by rw [am_st_ne _ (by omega), f2 _ _ (by omega), f1' _ _ (by omega)]; omega) (fun m3 f3 r3 a3 a4 => ?_)
      rw [ei] at r3
      obtain ⟨w1, w2⟩ := wf_eq g3 g4 r3
      have e : ∀ o k, ¬ ((1 ≤ o ∧ o < 43) ∨ (o = 148 ∧ k = 2) ∨ (o = 0 ∧ k = 17) ∨ o = 170 ∨ (o = 168 ∧ (k = 0 ∨ k = 38))) → m3 o k = m o k := fun o k ho => by rw [f3 _ _ (by omega), am_st_ne _ (by omega), f2 _ _ (by omega)]; exact f1' _ _ (by omega)
      have e1 : ∀ o k, 1 ≤ o → o < 43 → m3 o k = m1 o k := fun o k o1 o2 => by rw [f3 _ _ (by omega), am_st_ne _ (by omega), f2 _ _ (by omega)]
      have z2 : m3 148 2 = 0 := by rw [f3 _ _ (by omega), am_st_ne _ (by omega)]; exact e148
      refine hK _ _ (Rel_mk h (fun o k ho => e o k (by omega)) (bk_eq (bk_of b1 (fun o k _ _ _ => e1 o k (by omega) (by omega)) (fun _ _ => rfl) g3.2.2.1.1.2) g3.2.2.1 r3) (vg_eq (vg_of b2 (fun o k _ _ => e1 o k (by omega) (by omega)) (fun _ _ => rfl)) r3) w1 w2 (tp_of hh.1 (fun o k ho => e o k (by omega))) ⟨?_, ?_, ?_, ?_⟩ (ud_clear (rk_to hud.1 (e _ _ (by omega)) (by rw [z2]; omega)) z2 a3) (fun q hq => ?_) (ww_of hh.2.2.2.2.2.2 (e _ _ (by omega)) (e _ _ (by omega)) (fun _ => e _ _ (by omega)) (fun _ _ _ => e _ _ (by omega))))
      · rw [f3 _ _ (by omega), am_st_same, a4]
      · rw [e _ _ (by omega), e _ _ (by omega)]; exact h.2.2.2.1.2.1
      · rw [e _ _ (by omega), e _ _ (by omega)]; exact h.2.2.2.1.2.2.1
      · rw [e _ _ (by omega), e _ _ (by omega)]; exact h.2.2.2.1.2.2.2
      · have q1 := wd_ne q hq
        obtain ⟨q2, -, -⟩ := wd_in q hq
        by_cases c : 1 ≤ q.1 ∧ q.1 < 43
        · rw [e1 _ _ c.1 c.2]
          refine f1 _ _ (fun z => z.2.2 ⟨rfl, ?_⟩)
          unfold wb_P
          exact q2 c.1 c.2
        · exact e _ _ (by omega)
    · have c0 : m 172 v = 0 := by omega
      rw [refuse_eq (Or.inr (Or.inl rfl))]
      unfold M_X12_back
      rw [lies_eq, if_pos (by omega)]
      simp only [am_rf_all, am_ln_all]
      refine ⟨fun _ => ⟨by omega, fun q => absurd ?_ q, fun _ => ?_⟩, fun q => absurd (by decide) q⟩
      · rw [am_st_ne _ (by omega), am_st_ne _ (by omega)]; exact c0
      · rw [refuses_eq (Or.inr (Or.inl rfl))]
        exact refuses_end (Or.inr (Or.inl rfl)) h hK
  · unfold M_X11_back M_X12_back
    simp only [am_rf_all, am_ln_all, within_eq, lies_eq]
    rw [show w32 (2 - 1) = 1 by decide, if_neg (by omega)]
    refine ⟨fun q => absurd rfl q, fun _ => ?_⟩
    rw [refuse_eq (Or.inl rfl)]
    refine ⟨fun q => absurd rfl q, fun _ => ?_⟩
    rw [refuses_eq (Or.inl rfl)]
    exact refuses_end (Or.inl rfl) h hK
