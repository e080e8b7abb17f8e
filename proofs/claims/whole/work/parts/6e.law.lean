/-! LAW: both sides. -/
theorem tz_p_end2 {B : Int → Int} {n : Int} (hn : 0 ≤ n) {x : Int} (h : ¬ (0 ≤ x ∧ x < tz_N B n)) : tz_c B n x = 0 ∧ tz_v B n x = 0 := by
  have e : tz_p B n x = n := by
    by_cases c : x < 0
    · exact tz_p_n c
    · exact (tz_N_p hn).2.2 x (by omega)
  exact ⟨tz_c_0 e, tz_v_0 e⟩
theorem mlay {m : am_M} {t N : Int} (ht : 0 ≤ t ∧ t ≤ 6) (hN : m 168 18 = N) (h4 : 0 ≤ N ∧ N ≤ 400) {K : am_KK} (hK : ∀ m', (∀ o k, o ≠ 170 → m' o k = m o k) → m' 170 (370 + t) = N → (∀ x, 0 ≤ x → x < N → m' 170 (377 + (400 * t + x)) = m 177 x ∧ m' 170 (3177 + (400 * t + x)) = m 178 x) → (∀ x, ¬ (x = 370 + t ∨ (377 + 400 * t ≤ x ∧ x < 377 + 400 * t + N) ∨ (3177 + 400 * t ≤ x ∧ x < 3177 + 400 * t + N)) → m' 170 x = m 170 x) → K 0 m') : M_X12_lays 168 t K m := by
  unfold M_X12_lays
  simp only [am_rf_all, am_ln_all, forall_eq]
  rw [w32_of (z := 370 + t) (by omega) (by omega), hN]
  refine ⟨by omega, ?_⟩
  unfold M_X12_lays_L1
  refine ⟨fun j i m1 => (0 ≤ i ∧ i ≤ N) ∧ j = (N - i).toNat ∧ (∀ o k, o ≠ 170 → m1 o k = m o k) ∧ m1 170 (370 + t) = N ∧ (∀ x, 0 ≤ x → x < i → m1 170 (377 + (400 * t + x)) = m 177 x ∧ m1 170 (3177 + (400 * t + x)) = m 178 x) ∧ ∀ x, ¬ (x = 370 + t ∨ (377 + 400 * t ≤ x ∧ x < 377 + 400 * t + N) ∨ (3177 + 400 * t ≤ x ∧ x < 3177 + 400 * t + N)) → m1 170 x = m 170 x, ⟨_, by omega, rfl, fun o k ho => am_st_ne _ (by omega), am_st_same _ _ _ _, fun x x0 x1 => by omega, fun x hx => am_st_ne _ (by omega)⟩, ?_⟩
  rintro j i m1 ⟨bi, rfl, f1, e1, g1, r1⟩
  unfold M_X12_lays_L1B
  simp only [am_rf_all, am_ln_all, forall_eq]
  rw [f1 168 18 (by omega), hN, w32_of (z := 400 * t) (by omega) (by omega), w32_of (z := 377 + 400 * t) (by omega) (by omega), w32_of (z := 377 + 400 * t + i) (by omega) (by omega), w32_of (z := 3177 + 400 * t) (by omega) (by omega), w32_of (z := 3177 + 400 * t + i) (by omega) (by omega)]
  refine ⟨fun c => ?_, fun c => ⟨by omega, by omega, by omega, by omega, ?_⟩⟩
  · exact hK m1 f1 e1 (fun x x0 x1 => g1 x x0 (by omega)) r1
  · rw [w32_of (by omega) (by omega), am_st_ne (o' := 178) _ (by omega), f1 177 i (by omega), f1 178 i (by omega)]
    refine ⟨_, by omega, by omega, rfl, fun o k ho => by rw [am_st_ne _ (by omega), am_st_ne _ (by omega)]; exact f1 o k ho, by rw [am_st_ne _ (by omega), am_st_ne _ (by omega)]; exact e1, fun x x0 x1 => ?_, fun x hx => by rw [am_st_ne _ (by omega), am_st_ne _ (by omega)]; exact r1 x hx⟩
    by_cases cx : x = i
    · subst cx
      refine ⟨?_, ?_⟩
      · rw [am_st_ne _ (by omega), show 377 + (400 * t + x) = 377 + 400 * t + x by omega, am_st_same]
      · rw [show 3177 + (400 * t + x) = 3177 + 400 * t + x by omega, am_st_same]
    · rw [am_st_ne _ (by omega), am_st_ne _ (by omega), am_st_ne _ (by omega), am_st_ne _ (by omega)]
      exact g1 x x0 (by omega)
/-- a law more -/
theorem lw_new {A' B : Int → Int} {n t : Int} (hn : 0 ≤ n) (h0 : A' (370 + t) = tz_N B n) (h1 : ∀ x, 0 ≤ x → x < tz_N B n → A' (377 + (400 * t + x)) = tz_c B n x ∧ A' (3177 + (400 * t + x)) = tz_v B n x) : lw_cs A' t = pz_read 0 (tz_c B n) (tz_v B n) (tz_N B n) := by
  unfold lw_cs
  have e1 : lw_c A' t = tz_c B n := by
    funext x
    unfold lw_c
    rw [h0]
    by_cases c : 0 ≤ x ∧ x < tz_N B n
    · rw [if_pos c]; exact (h1 x c.1 c.2).1
    · rw [if_neg c]; exact (tz_p_end2 hn c).1.symm
  have e2 : lw_v A' t = tz_v B n := by
    funext x
    unfold lw_v
    rw [h0]
    by_cases c : 0 ≤ x ∧ x < tz_N B n
    · rw [if_pos c]; exact (h1 x c.1 c.2).2
    · rw [if_neg c]; exact (tz_p_end2 hn c).2.symm
  rw [e1, e2, h0]
theorem lw_old {A A' : Int → Int} {t s : Int} (hr : ∀ x, ¬ (x = 368 ∨ x = 370 + t ∨ (377 + 400 * t ≤ x ∧ x < 377 + 400 * t + 400) ∨ (3177 + 400 * t ≤ x ∧ x < 3177 + 400 * t + 400)) → A' x = A x) (hs : 0 ≤ s ∧ s < t ∧ t ≤ 6) (h4 : 0 ≤ A (370 + s) ∧ A (370 + s) ≤ 400) : A' (370 + s) = A (370 + s) ∧ lw_cs A' s = lw_cs A s := by
  have e0 : A' (370 + s) = A (370 + s) := hr _ (by omega)
  refine ⟨e0, ?_⟩
  have e1 : lw_c A' s = lw_c A s := by
    funext x
    unfold lw_c
    rw [e0]
    by_cases c : 0 ≤ x ∧ x < A (370 + s)
    · rw [if_pos c, if_pos c]; exact hr _ (by omega)
    · rw [if_neg c, if_neg c]
  have e2 : lw_v A' s = lw_v A s := by
    funext x
    unfold lw_v
    rw [e0]
    by_cases c : 0 ≤ x ∧ x < A (370 + s)
    · rw [if_pos c, if_pos c]; exact hr _ (by omega)
    · rw [if_neg c, if_neg c]
  unfold lw_cs
  rw [e0, e1, e2]
theorem cut_tape {m m1 : am_M} (h : tp_P m) (e : ∀ k, m1 129 k = m 129 k) (K : am_KK) : M_X7_cut 129 0 K m1 ↔ K 0 (if 0 < m 168 13 then am_st m1 129 2 0 else m1) := by
  rw [cut_eq, e 2, h.2.1]
  by_cases c : 0 < m 168 13
  · rw [if_pos c, if_pos ⟨by omega, c⟩]
  · rw [if_neg c, if_neg (fun z => c z.2)]
theorem Rel_mk2 {m m' : am_M} (h : Rel m) (e : ∀ o k, (o = 128 ∨ (44 ≤ o ∧ o < 128) ∨ o = 171 ∨ o = 172 ∨ o = 164 ∨ o = 165 ∨ o = 198 ∨ o = 199 ∨ (o = 168 ∧ k = 58)) → m' o k = m o k) (hb : bk_P m' 1 (m' 170)) (hv : vg_P m' 12 (m' 170)) (hf : wf_A 16 (m' 170)) (hH : wf_H (m' 170)) (ht : tp_P m') (hs : sc_P m') (hre : re_P m') (hd : ud_P m') (hw : ∀ q ∈ wd_L, m' q.1 1 = m q.1 1) (h13 : ww_P m') : Rel m' := by
  obtain ⟨-, ⟨h5, h6⟩, -, -, -, -, h11, h12, -⟩ := h
  exact ⟨⟨hb, hv, hf, hH⟩, ⟨im_of (Or.inl rfl) h5 (fun o x ho => e _ _ (by omega)), im_of (Or.inr rfl) h6 (fun o x ho => e _ _ (by omega))⟩, ht, hs, hre, hd, se_of h11 (fun o x ho => e _ _ (by omega)), wd_of h12 hw, h13⟩
theorem wa_law {A A' : Int → Int} (h : am_WA A) (hval : ∀ x, x < 368 → A' x = A x) (h8 : 0 ≤ A' 368 ∧ A' 368 ≤ 6) (h9 : -1 ≤ A' 369 ∧ A' 369 < A' 368) : am_WA A' := by
  obtain ⟨⟨a1, a2, a3⟩, ⟨b1, b2, b3⟩, ⟨c1', c2', c3⟩, ⟨d1, d2, d3⟩, ⟨f1, f2, f3⟩, g, k, l1, l2, l3, l4, l5⟩ := h
  refine ⟨⟨?_, ?_, fun i i0 i1 => ?_⟩, ⟨?_, ?_, fun i i0 i1 => ?_⟩, ⟨?_, ?_, fun i i0 i1 => ?_⟩, ⟨?_, ?_, fun i i0 i1 => ?_⟩, ⟨?_, ?_, fun i i0 i1 => ?_⟩, fun i j i0 i1 j0 j1 => ?_, fun i i0 i1 => ?_, ?_, ?_, ?_, h8, h9⟩
  · simp (disch := omega) only [hval]; exact a1
  · simp (disch := omega) only [hval]; exact a2
  · simp (disch := omega) only [hval] at i1; simp (disch := omega) only [hval]; exact a3 i i0 i1
  · simp (disch := omega) only [hval]; exact b1
  · simp (disch := omega) only [hval]; exact b2
  · simp (disch := omega) only [hval] at i1; simp (disch := omega) only [hval]; exact b3 i i0 i1
  · simp (disch := omega) only [hval]; exact c1'
  · simp (disch := omega) only [hval]; exact c2'
  · simp (disch := omega) only [hval] at i1; simp (disch := omega) only [hval]; exact c3 i i0 i1
  · simp (disch := omega) only [hval]; exact d1
  · simp (disch := omega) only [hval]; exact d2
  · simp (disch := omega) only [hval] at i1; simp (disch := omega) only [hval]; exact d3 i i0 i1
  · simp (disch := omega) only [hval]; exact f1
  · simp (disch := omega) only [hval]; exact f2
  · simp (disch := omega) only [hval] at i1; simp (disch := omega) only [hval]; exact f3 i i0 i1
  · simp (disch := omega) only [hval]; exact g i j i0 i1 j0 j1
  · simp (disch := omega) only [hval]; exact k i i0 i1
  · simp (disch := omega) only [hval]; exact l1
  · simp (disch := omega) only [hval]; exact l2
  · simp (disch := omega) only [hval]; exact l3
/-- a refusal counted on both sides -/
theorem re_count {m m' : am_M} {r : Int} (h : re_P m) (hr : r = 1 ∨ r = 2 ∨ r = 3 ∨ r = 5 ∨ r = 6) (e1 : m' 167 r = w32 (m 167 r + 1)) (e2 : m' 169 r = w32 (m 169 r + 1)) (e3 : ∀ j, j ≠ r → m' 167 j = m 167 j ∧ m' 169 j = m 169 j) : re_P m' := fun j hj => by
  by_cases c : j = r
  · rw [c, e1, e2, h r hr]
  · rw [(e3 j c).1, (e3 j c).2]; exact h j hj
theorem j_law : Joint (M_X11_law 0) (M_X12_law 168) := by
  intro m h K hK
  obtain ⟨⟨hb, hv, hf, hH⟩, ⟨i0, i1⟩, htp, hsc, hre, hud, hse, hwd, hww⟩ := id h
  obtain ⟨t1, t2, t3, t4⟩ := id htp
  have l6 := hf.2.2.1.1
  have hcnt := hb.2.2.2.2.2.2.2.2.1
  -- the tape
  have HB : ∀ x, 0 ≤ x → x < m 168 13 → (-128 ≤ m 175 x ∧ m 175 x ≤ 127) ∧ (fun x => m 175 x % 256) x = m 175 x % 256 := fun x x0 x1 => ⟨(t4 x x0 x1).2, rfl⟩
  have Hrd : rd_H m (fun x => m 175 x % 256) (m 168 13) := ⟨t1, t2, t3, fun x x0 x1 => (t4 x x0 x1).1, fun x x0 x1 => by have := t4 x x0 x1; simp only []; omega⟩
  have Hms : ms_H m (fun x => m 175 x % 256) (m 168 13) := ⟨t3, HB, hww.2.1⟩
  generalize (fun x => m 175 x % 256) = B at *
  generalize hn : m 168 13 = n at *
  unfold M_X11_law M_X12_law
  simp only [am_rf_all, am_ln_all, hcnt.1]
  -- the end of the tape is taken off on both sides, a refusal counted
  have fin : ∀ (m1 : am_M), (∀ o k, ¬ ((o = 129 ∧ k = 2) ∨ (o = 135 ∧ (k = 2 ∨ k = 3 ∨ k = 4 ∨ k = 5 ∨ k = 6)) ∨ (o = 131 ∧ k = 1) ∨ o = 132 ∨ (o = 133 ∧ k = 2) ∨ o = 134 ∨ (o = 168 ∧ (k = 0 ∨ k = 8 ∨ k = 9 ∨ k = 10 ∨ k = 13 ∨ k = 14 ∨ k = 18 ∨ k = 19 ∨ k = 20 ∨ k = 21)) ∨ o = 177 ∨ o = 178 ∨ o = 179 ∨ (o = 0 ∧ k = 17) ∨ o = 167 ∨ o = 169) → m1 o k = m o k) → m1 129 2 = 0 → m1 168 13 = 0 → m1 135 6 = m1 168 14 → rk m1 133 7 84 → m1 0 17 = m1 168 0 → re_P m1 → Rel m1 := by
    intro m1 e z1 z2 z3 z4 z5 z6
    have er : m1 170 = m 170 := funext fun x => e _ _ (by omega)
    refine Rel_mk2 h (fun o k ho => e o k (by omega)) (by rw [er]; exact bk_of hb (fun o k _ _ _ => e o k (by omega)) (fun _ _ => rfl) l6.2) (by rw [er]; exact vg_of hv (fun o k _ _ => e o k (by omega)) (fun _ _ => rfl)) (by rw [er]; exact hf) (by rw [er]; exact hH) ⟨rk_to t1 (e _ _ (by omega)) (by rw [z1]; omega), by rw [z1, z2], by rw [z2]; omega, fun x x0 x1 => by omega⟩ ⟨z5, by rw [e _ _ (by omega), e _ _ (by omega)]; exact hsc.2.1, by rw [e _ _ (by omega), e _ _ (by omega)]; exact hsc.2.2.1, z3⟩ z6 (ud_of hud (fun o k ho => e o k (by omega)) (by rw [er]; exact Int.le_refl _)) (fun q hq => ?_) ⟨z4, fun k k0 k1 => by rw [e _ _ (by omega)]; exact hww.2.1 k k0 k1, fun k k0 k1 => by rw [e _ _ (by omega)]; exact hww.2.2 k k0 k1⟩
    have := wd_ne q hq
    by_cases c : q.1 = 129 ∨ q.1 = 133
    · rcases c with c | c
      · rw [c]; exact e _ _ (by omega)
      · rw [c]; exact e _ _ (by omega)
    · exact e _ _ (by omega)
  -- the tape cut
  have cutf : ∀ m1 : am_M, (∀ k, m1 129 k = m 129 k) → ∃ m2, (∀ K : am_KK, M_X7_cut 129 0 K m1 ↔ K 0 m2) ∧ (∀ o k, ¬ (o = 129 ∧ k = 2) → m2 o k = m1 o k) ∧ m2 129 2 = 0 := by
    intro m1 e
    refine ⟨if 0 < n then am_st m1 129 2 0 else m1, fun K => by rw [cut_tape (m := m) htp e, hn], fun o k ho => ?_, ?_⟩
    · split
      · exact am_st_ne _ ho
      · rfl
    · split
      · exact am_st_same _ _ _ _
      · rw [e, t2]; omega
  refine ⟨fun c6 => ?_, fun c6 => ?_⟩
  · refine cd_read (lim := 8) (Or.inl rfl) rfl Hrd hww.1 (fun cs hcs m1 F1 P1 a6 => ?_) (fun e he m1 F1 q1 a6 => ?_)
    · -- read
      obtain ⟨hN, h400, hv0⟩ := cd_n Hrd
      obtain ⟨m2, hc2, f2, e129⟩ := cutf m1 (fun k => F1 _ _ (by omega))
      rw [hc2]
      refine ⟨fun y => absurd y (by decide), fun _ => ?_⟩
      have P2 : pz_PG m2 131 cs := pz_PG_of P1 (fun o k ho => f2 o k (by omega))
      unfold M_X0_addLaw
      simp only [am_rf_all, am_ln_all]
      have e10 : m2 1 10 = m 170 368 := by rw [f2 _ _ (by omega), F1 _ _ (by omega)]; exact hcnt.1
      rw [e10]
      refine ⟨fun _ => ⟨by omega, ?_⟩, fun y => absurd c6 y⟩
      obtain ⟨sb1, -, -, sb4⟩ := bs_1
      obtain ⟨p1, p2, p3, p4, p5⟩ := sb4 (m 170 368) l6.1 c6
      rw [show (1 : Int) + 17 = 18 by omega] at p1
      rw [p1]
      have w7 : m2 (1 + 18 + 4 * m 170 368 + 2) 1 = 7 := by
        rw [f2 _ _ (by omega), F1 _ _ (by omega)]
        have : ∀ t : Int, 0 ≤ t → t < 6 → m (1 + 18 + 4 * t + 2) 1 = 7 := six (hwd (21, 7) (by decide)) (hwd (25, 7) (by decide)) (hwd (29, 7) (by decide)) (hwd (33, 7) (by decide)) (hwd (37, 7) (by decide)) (hwd (41, 7) (by decide))
        exact this _ l6.1 c6
      refine pg_take ⟨p2, p3, p4, p5⟩ (by decide +kernel) w7 P2 (by omega) (fun m3 P3 f3 => ?_)
      simp only [forall_eq]
      rw [f3 1 10 (by omega), e10, w32_of (z := m 170 368 + 1) (by omega) (by omega), am_st_same, w32_of (by omega) (by omega), show m 170 368 + 1 - 1 = m 170 368 by omega, fine_eq]
      generalize hm4 : am_st (am_st m3 1 10 (m 170 368 + 1)) 0 17 0 = m4
      have f4 : ∀ o k, ¬ ((o = 1 ∧ k = 10) ∨ (o = 0 ∧ k = 17)) → m4 o k = m3 o k := fun o k ho => by rw [← hm4, am_st_ne _ (by omega), am_st_ne _ (by omega)]
      have e4 : m4 1 10 = m 170 368 + 1 := by rw [← hm4, am_st_ne _ (by omega), am_st_same]
      have e4' : m4 0 17 = 0 := by rw [← hm4, am_st_same]
      clear hm4
      -- the other side
      have g4 : ∀ o k, ¬ ((o = 129 ∧ k = 2) ∨ (o = 135 ∧ (k = 2 ∨ k = 3 ∨ k = 4 ∨ k = 5 ∨ k = 6)) ∨ (o = 131 ∧ k = 1) ∨ o = 132 ∨ (o = 133 ∧ k = 2) ∨ o = 134 ∨ (19 ≤ o ∧ o ≤ 42 ∧ ¬ (o = 1 + 18 + 4 * m 170 368 + 2 ∧ k = 1) ∧ 1 + 18 + 4 * m 170 368 ≤ o ∧ o ≤ 1 + 18 + 4 * m 170 368 + 3) ∨ (o = 1 ∧ k = 10) ∨ (o = 0 ∧ k = 17)) → m4 o k = m o k := fun o k ho => by
        rw [f4 o k (by omega), f3 o k (by omega), f2 o k (by omega)]
        exact F1 o k (by omega)
      have e170 : m4 170 = m 170 := funext fun x => g4 _ _ (by omega)
      rw [e170]
      refine ⟨by omega, fun _ => ?_, fun y => by omega⟩
      refine mreads (lim := 8) (Or.inl rfl) rfl (ms_H_of Hms (fun o k ho => g4 o k (by omega))) (by rw [g4 _ _ (by omega)]; exact hn) (fun cs' hcs' m5 F5 z5 b5 n5 r5 => ?_) (fun e he m5 _ _ _ => by rw [hcs] at he; cases he)
      refine ⟨fun _ => ?_, fun y => absurd (by decide) y⟩
      have e5 : m5 170 = m 170 := by rw [← e170]; exact funext fun x => F5 _ _ (by omega)
      rw [e5]
      refine ⟨by omega, ?_⟩
      refine mlay ⟨l6.1, l6.2⟩ n5 (by omega) (fun m6 f6 a6' b6 r6 => ?_)
      have e6 : m6 170 368 = m 170 368 := by rw [r6 _ (by omega), e5]
      rw [e6, w32_of (z := m 170 368 + 1) (by omega) (by omega), am_st_same, w32_of (by omega) (by omega), show m 170 368 + 1 - 1 = m 170 368 by omega, good_eq]
      refine ⟨by omega, by omega, by omega, ?_⟩
      generalize hm7 : am_st (am_st m6 170 368 (m 170 368 + 1)) 168 0 0 = m7
      have f7 : ∀ o k, ¬ ((o = 170 ∧ k = 368) ∨ (o = 168 ∧ k = 0)) → m7 o k = m6 o k := fun o k ho => by rw [← hm7, am_st_ne _ (by omega), am_st_ne _ (by omega)]
      have q7 : m7 170 368 = m 170 368 + 1 := by rw [← hm7, am_st_ne _ (by omega), am_st_same]
      have q0 : m7 168 0 = 0 := by rw [← hm7, am_st_same]
      clear hm7
      have hr : ∀ x, ¬ (x = 368 ∨ x = 370 + m 170 368 ∨ (377 + 400 * m 170 368 ≤ x ∧ x < 377 + 400 * m 170 368 + 400) ∨ (3177 + 400 * m 170 368 ≤ x ∧ x < 3177 + 400 * m 170 368 + 400)) → m7 170 x = m 170 x := fun x hx => by
        rw [f7 _ _ (by omega), r6 x (by omega), e5]
      have hnew : lw_cs (m7 170) (m 170 368) = .inr cs := by
        rw [← hcs]
        refine lw_new Hrd.2.2.1.1 (by rw [f7 _ _ (by omega)]; exact a6') (fun x x0 x1 => ?_)
        rw [f7 _ _ (by omega), f7 _ _ (by omega), (b6 x x0 x1).1, (b6 x x0 x1).2]
        exact r5 x x0 (by omega)
      have e : ∀ o k, ¬ ((o = 129 ∧ k = 2) ∨ (o = 135 ∧ (k = 2 ∨ k = 3 ∨ k = 4 ∨ k = 5 ∨ k = 6)) ∨ (o = 131 ∧ k = 1) ∨ o = 132 ∨ (o = 133 ∧ k = 2) ∨ o = 134 ∨ (19 ≤ o ∧ o ≤ 42 ∧ ¬ (o = 1 + 18 + 4 * m 170 368 + 2 ∧ k = 1) ∧ 1 + 18 + 4 * m 170 368 ≤ o ∧ o ≤ 1 + 18 + 4 * m 170 368 + 3) ∨ (o = 1 ∧ k = 10) ∨ (o = 0 ∧ k = 17) ∨ (o = 168 ∧ (k = 0 ∨ k = 8 ∨ k = 9 ∨ k = 10 ∨ k = 13 ∨ k = 14 ∨ k = 18 ∨ k = 19 ∨ k = 20 ∨ k = 21)) ∨ o = 177 ∨ o = 178 ∨ o = 179 ∨ o = 170) → m7 o k = m o k := fun o k ho => by
        rw [f7 o k (by omega), f6 o k (by omega), F5 o k (by omega)]
        exact g4 o k (by omega)
      have c7 : ∀ o k, o < 168 → m7 o k = m4 o k := fun o k ho => by rw [f7 o k (by omega), f6 o k (by omega), F5 o k (by omega)]
      have lo : ∀ x, x < 368 → m7 170 x = m 170 x := fun x hx => hr x (by omega)
      have hi9 : m7 170 369 = m 170 369 := hr _ (by omega)
      have PG7 : pz_PG m7 (1 + 18 + 4 * m 170 368) cs := pz_PG_of P3 (fun o k ho => by rw [c7 o k (by omega), f4 o k (by omega)])
      have aN : m7 170 (370 + m 170 368) = tz_N B n := by rw [f7 _ _ (by omega)]; exact a6'
      have bN : ∀ x, 0 ≤ x → x < tz_N B n → m7 170 (3177 + (400 * m 170 368 + x)) = tz_v B n x := fun x x0 x1 => by
        rw [f7 _ _ (by omega), (b6 x x0 x1).2]
        exact (r5 x x0 (by omega)).2
      have d129 : m7 129 2 = 0 := by rw [c7 _ _ (by omega), f4 _ _ (by omega), f3 _ _ (by omega)]; exact e129
      have d13 : m7 168 13 = 0 := by rw [f7 _ _ (by omega), f6 _ _ (by omega)]; exact z5
      have d14 : m7 168 14 = -1 := by rw [f7 _ _ (by omega), f6 _ _ (by omega)]; exact b5
      have d135 : m7 135 6 = -1 := by rw [c7 _ _ (by omega), f4 _ _ (by omega), f3 _ _ (by omega), f2 _ _ (by omega)]; exact a6
      have d10 : m7 1 10 = m 170 368 + 1 := by rw [c7 _ _ (by omega)]; exact e4
      have d17 : m7 0 17 = 0 := by rw [c7 _ _ (by omega)]; exact e4'
      have d133 : rk m7 133 7 84 := rk_of P2.2.2.2.1 (by rw [c7 _ _ (by omega), f4 _ _ (by omega), f3 _ _ (by omega)]) (by rw [c7 _ _ (by omega), f4 _ _ (by omega), f3 _ _ (by omega)])
      clear f7 f6 F5 g4 f4 f3 f2 F1 c7
      have hwl : lw_W (m7 170) := by
        refine ⟨by rw [q7]; omega, by rw [q7, hi9]; have := hf.2.2.1.2.1; omega, fun t t0 t1 => ?_⟩
        rw [q7] at t1
        by_cases ct : t = m 170 368
        · subst ct
          refine ⟨by rw [aN]; omega, fun x x0 x1 => ?_, cs, hnew⟩
          rw [aN] at x1
          rw [bN x x0 x1]
          exact hv0 x
        · obtain ⟨g1, g2, cs', g3⟩ := hf.2.2.1.2.2 t t0 (by omega)
          obtain ⟨o1, o2⟩ := lw_old (s := t) hr ⟨t0, by omega, by omega⟩ g1
          refine ⟨by rw [o1]; exact g1, fun x x0 x1 => ?_, cs', by rw [o2]; exact g3⟩
          rw [o1] at x1
          rw [hr _ (by omega)]
          exact g2 x x0 x1
      obtain ⟨b1, b2, b3, b4, b5', b6', b7', b8, b9, b10⟩ := hb
      have l9 := hf.2.2.1.2.1
      refine hK _ _ (Rel_mk2 h (fun o k ho => e o k (by omega)) ?_ (vg_of hv (fun o k _ _ => e o k (by omega)) (fun x hx => lo x (by omega))) ?_ (wH_of hH (fun x hx => lo x (by omega)) (by have := hf.2.1.1; omega)) ⟨rk_to t1 (e _ _ (by omega)) (by rw [d129]; omega), by rw [d129, d13], by rw [d13]; omega, fun x x0 x1 => by omega⟩ ⟨by rw [d17, q0], by rw [e _ _ (by omega), e _ _ (by omega)]; exact hsc.2.1, by rw [e _ _ (by omega), e _ _ (by omega)]; exact hsc.2.2.1, by rw [d135, d14]⟩ (re_of hre (fun o k ho => e _ _ (by omega))) (ud_of hud (fun o k ho => ?_) (by rw [lo _ (by omega)]; exact Int.le_refl _)) (fun q hq => ?_) ⟨d133, fun k k0 k1 => by rw [e _ _ (by omega)]; exact hww.2.1 k k0 k1, fun k k0 k1 => by rw [e _ _ (by omega)]; exact hww.2.2 k k0 k1⟩)
      · refine ⟨rf_of' b1 (fun o k ho => e o k (by omega)) (fun x hx => lo x (by omega)), rf_of' b2 (fun o k ho => e o k (by omega)) (fun x hx => lo x (by omega)), rf_of' b3 (fun o k ho => e o k (by omega)) (fun x hx => lo x (by omega)), rf_of' b4 (fun o k ho => e o k (by omega)) (fun x hx => lo x (by omega)), rf_of' b5' (fun o k ho => e o k (by omega)) (fun x hx => lo x (by omega)), fun i j i0 i1 j0 j1 => ?_, fun i i0 i1 => ?_, ?_, ⟨by rw [d10, q7], by rw [e 1 11 (by omega), hi9]; exact b9.2⟩, fun s cs' s0 s1 hc => ?_⟩
        · rw [e (1 + 14) _ (by omega), lo _ (by omega)]; exact b6' i j i0 i1 j0 j1
        · rw [e (1 + 14) _ (by omega), e (1 + 15) _ (by omega), lo _ (by omega)]; exact b7' i i0 i1
        · rw [e (1 + 16) 1 (by omega), e (1 + 16) 2 (by omega), e (1 + 16) 3 (by omega), lo 360 (by omega), lo 361 (by omega), lo 362 (by omega)]; exact b8
        · rw [q7] at s1
          by_cases cs0 : s = m 170 368
          · rw [cs0, hnew] at hc
            cases hc
            rw [cs0]
            exact PG7
          · obtain ⟨g1, g2, cs2, g3⟩ := hf.2.2.1.2.2 s s0 (by omega)
            obtain ⟨o1, o2⟩ := lw_old (s := s) hr ⟨s0, by omega, by omega⟩ g1
            rw [o2] at hc
            exact pz_PG_of (b10 s cs' s0 (by omega) hc) (fun o k ho => e o k (by omega))
      · refine wf_of_sm hf (wa_law hf.1 lo (by rw [q7]; omega) (by rw [hi9, q7]; omega)) (fun x hx => lo x (by omega)) (by rw [lo _ (by omega)]; exact Int.le_refl _) hwl (fun x x0 x1 hx => ?_) (by omega)
        by_cases c8 : x = 368
        · rw [c8, q7]; omega
        · exact absurd (hr x (by omega)) hx
      · by_cases c1 : o = 170
        · subst c1; exact lo _ (by omega)
        · exact e _ _ (by omega)
      · have := wd_ne q hq
        obtain ⟨w1, -, -⟩ := wd_in q hq
        by_cases c1 : q.1 = 129 ∨ q.1 = 133 ∨ (19 ≤ q.1 ∧ q.1 ≤ 42)
        · rcases c1 with c1 | c1 | c1
          · rw [c1]; exact e _ _ (by omega)
          · rw [c1]; exact e _ _ (by omega)
          · have w2 := w1 (by omega) (by omega)
            exact e _ _ (by omega)
        · exact e _ _ (by omega)
    · -- not read
      obtain ⟨m2, hc2, f2, e129⟩ := cutf m1 (fun k => F1 _ _ (by omega))
      rw [hc2]
      refine ⟨fun _ => ?_, fun y => absurd rfl y⟩
      rw [refuse_eq (Or.inr (Or.inr (Or.inr (Or.inr rfl))))]
      generalize hm3 : am_st (am_st m2 0 17 (-6)) 167 (-(-6)) (w32 (m2 167 (-(-6)) + 1)) = m3
      have f3 : ∀ o k, ¬ ((o = 0 ∧ k = 17) ∨ (o = 167 ∧ k = 6)) → m3 o k = m2 o k := fun o k ho => by rw [← hm3, am_st_ne _ (by omega), am_st_ne _ (by omega)]
      have e3 : m3 167 6 = w32 (m 167 6 + 1) := by rw [← hm3, show -(-6 : Int) = 6 by omega, am_st_same, f2 _ _ (by omega), F1 _ _ (by omega)]
      have e3' : m3 0 17 = -6 := by rw [← hm3, am_st_ne _ (by omega), am_st_same]
      clear hm3
      have g3 : ∀ o k, ¬ ((o = 129 ∧ k = 2) ∨ (o = 135 ∧ (k = 2 ∨ k = 3 ∨ k = 4 ∨ k = 5 ∨ k = 6)) ∨ (o = 131 ∧ k = 1) ∨ o = 132 ∨ (o = 133 ∧ k = 2) ∨ o = 134 ∨ (o = 0 ∧ k = 17) ∨ (o = 167 ∧ k = 6)) → m3 o k = m o k := fun o k ho => by
        rw [f3 o k (by omega), f2 o k (by omega)]
        exact F1 o k (by omega)
      rw [g3 170 368 (by omega)]
      refine ⟨by omega, fun _ => ?_, fun y => by omega⟩
      refine mreads (lim := 8) (Or.inl rfl) rfl (ms_H_of Hms (fun o k ho => g3 o k (by omega))) (by rw [g3 _ _ (by omega)]; exact hn) (fun cs' hcs' m5 _ _ _ _ _ => by rw [he] at hcs'; cases hcs') (fun e' he' m5 F5 z5 b5 => ?_)
      have : e' = e := by rw [he] at he'; cases he'; rfl
      subst this
      refine ⟨fun y => absurd rfl y, fun _ => ?_⟩
      rw [refuses_eq (Or.inr (Or.inr (Or.inr (Or.inr rfl))))]
      refine hK _ _ (fin _ (fun o k ho => ?_) ?_ ?_ ?_ ?_ ?_ ?_)
      · rw [am_st_ne _ (by omega), am_st_ne _ (by omega), F5 o k (by omega)]; exact g3 o k (by omega)
      · rw [am_st_ne _ (by omega), am_st_ne _ (by omega), F5 _ _ (by omega), f3 _ _ (by omega)]; exact e129
      · rw [am_st_ne _ (by omega), am_st_ne _ (by omega)]; exact z5
      · rw [am_st_ne _ (by omega), am_st_ne _ (by omega), am_st_ne _ (by omega), am_st_ne _ (by omega), b5, F5 _ _ (by omega), f3 _ _ (by omega), f2 _ _ (by omega)]; exact a6
      · exact rk_of q1 (by rw [am_st_ne _ (by omega), am_st_ne _ (by omega), F5 _ _ (by omega), f3 _ _ (by omega), f2 _ _ (by omega)]) (by rw [am_st_ne _ (by omega), am_st_ne _ (by omega), F5 _ _ (by omega), f3 _ _ (by omega), f2 _ _ (by omega)])
      · rw [am_st_ne _ (by omega), am_st_ne _ (by omega), am_st_ne _ (by omega), am_st_same, F5 _ _ (by omega)]; exact e3'
      · refine re_count (r := 6) hre (by omega) ?_ ?_ (fun j hj => ⟨?_, ?_⟩)
        · rw [am_st_ne _ (by omega), am_st_ne _ (by omega), F5 _ _ (by omega)]; exact e3
        · rw [show -(-6 : Int) = 6 by omega, am_st_same, F5 _ _ (by omega), g3 _ _ (by omega)]
        · rw [am_st_ne _ (by omega), am_st_ne _ (by omega), F5 _ _ (by omega)]; exact g3 _ _ (by omega)
        · rw [am_st_ne _ (by omega), am_st_ne _ (by omega), F5 _ _ (by omega)]; exact g3 _ _ (by omega)
  · -- no room
    have e8 : m 170 368 = 6 := by omega
    obtain ⟨m2, hc2, f2, e129⟩ := cutf m (fun k => rfl)
    rw [hc2, refuse_eq (Or.inr (Or.inr (Or.inr (Or.inl rfl))))]
    generalize hm3 : am_st (am_st m2 0 17 (-5)) 167 (-(-5)) (w32 (m2 167 (-(-5)) + 1)) = m3
    have f3 : ∀ o k, ¬ ((o = 0 ∧ k = 17) ∨ (o = 167 ∧ k = 5) ∨ (o = 129 ∧ k = 2)) → m3 o k = m o k := fun o k ho => by rw [← hm3, am_st_ne _ (by omega), am_st_ne _ (by omega), f2 _ _ (by omega)]
    have e3 : m3 167 5 = w32 (m 167 5 + 1) := by rw [← hm3, show -(-5 : Int) = 5 by omega, am_st_same, f2 _ _ (by omega)]
    have e3' : m3 0 17 = -5 := by rw [← hm3, am_st_ne _ (by omega), am_st_same]
    have d129 : m3 129 2 = 0 := by rw [← hm3, am_st_ne _ (by omega), am_st_ne _ (by omega)]; exact e129
    clear hm3
    rw [f3 170 368 (by omega)]
    refine ⟨by omega, fun y => absurd e8 y, fun _ => ?_⟩
    simp only [forall_eq]
    rw [refuses_eq (Or.inr (Or.inr (Or.inr (Or.inl rfl))))]
    refine hK _ _ (fin _ (fun o k ho => ?_) ?_ ?_ ?_ ?_ ?_ ?_)
    · rw [am_st_ne _ (by omega), am_st_ne _ (by omega), am_st_ne _ (by omega)]; exact f3 o k (by omega)
    · rw [am_st_ne _ (by omega), am_st_ne _ (by omega), am_st_ne _ (by omega)]; exact d129
    · rw [am_st_ne _ (by omega), am_st_ne _ (by omega), am_st_same]
    · rw [am_st_ne _ (by omega), am_st_ne _ (by omega), am_st_ne _ (by omega), am_st_ne _ (by omega), am_st_ne _ (by omega), am_st_ne _ (by omega), f3 _ _ (by omega), f3 _ _ (by omega)]; exact hsc.2.2.2
    · exact rk_of hww.1 (by rw [am_st_ne _ (by omega), am_st_ne _ (by omega), am_st_ne _ (by omega), f3 _ _ (by omega)]) (by rw [am_st_ne _ (by omega), am_st_ne _ (by omega), am_st_ne _ (by omega), f3 _ _ (by omega)])
    · rw [am_st_ne _ (by omega), am_st_ne _ (by omega), am_st_ne _ (by omega), am_st_ne _ (by omega), am_st_same]; exact e3'
    · refine re_count (r := 5) hre (by omega) ?_ ?_ (fun j hj => ⟨?_, ?_⟩)
      · rw [am_st_ne _ (by omega), am_st_ne _ (by omega), am_st_ne _ (by omega)]; exact e3
      · rw [show -(-5 : Int) = 5 by omega, am_st_same, am_st_ne _ (by omega), f3 _ _ (by omega)]
      · rw [am_st_ne _ (by omega), am_st_ne _ (by omega), am_st_ne _ (by omega)]; exact f3 _ _ (by omega)
      · rw [am_st_ne _ (by omega), am_st_ne _ (by omega), am_st_ne _ (by omega)]; exact f3 _ _ (by omega)
