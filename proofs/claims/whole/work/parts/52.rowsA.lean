/-! CALLS that add a row: RULES, PEOPLE, BUNDLES, ANSWERS. -/
theorem set_eq' {m : am_M} {r w cap n j v : Int} (h : rk m r w cap) (hn : m r 2 = n + 1) (h0 : 0 ≤ n) (hj : 0 ≤ j ∧ j < w) (K : am_KK) : M_X7_set r n j v K m ↔ K 0 (am_st m (r + 1) (n * w + j) v) := by
  rw [set_eq h, hn, if_pos (by omega)]
theorem bk_put {m m' : am_M} {A A' : Int → Int} (h : bk_P m 1 A) (r1 : am_RF m' 2 1 10 A' 363 170) (r2 : am_RF m' 4 4 64 A' 364 180) (r3 : am_RF m' 6 1 6 A' 365 316) (r4 : am_RF m' 8 2 20 A' 366 322) (r5 : am_RF m' 10 3 18 A' 367 342) (h6 : A 368 ≤ 6) (e : ∀ o k, ((o = 1 ∧ (k = 10 ∨ k = 11)) ∨ (15 ≤ o ∧ o ≤ 42)) → m' o k = m o k) (a : ∀ x, ((244 ≤ x ∧ x < 316) ∨ (360 ≤ x ∧ x < 363) ∨ 368 ≤ x) → A' x = A x) : bk_P m' 1 A' := by
  obtain ⟨-, -, -, -, -, b6, b7, b8, b9, b10⟩ := h
  refine ⟨r1, r2, r3, r4, r5, fun i j i0 i1 j0 j1 => ?_, fun i i0 i1 => ?_, ?_, ?_, fun t cs t0 t1 hc => ?_⟩
  · rw [e (1 + 14) _ (by omega), a _ (by omega)]; exact b6 i j i0 i1 j0 j1
  · rw [e (1 + 14) _ (by omega), e (1 + 15) _ (by omega), a _ (by omega)]; exact b7 i i0 i1
  · rw [e (1 + 16) 1 (by omega), e (1 + 16) 2 (by omega), e (1 + 16) 3 (by omega), a 360 (by omega), a 361 (by omega), a 362 (by omega)]; exact b8
  · rw [e 1 10 (by omega), e 1 11 (by omega), a 368 (by omega), a 369 (by omega)]; exact b9
  · rw [a _ (by omega)] at t1
    rw [lw_cs_lo (fun x hx => a x (by omega)) t0] at hc
    exact pz_PG_of (b10 t cs t0 t1 hc) (fun o k ho => e o k (by omega))
theorem bk_rows {m : am_M} {A : Int → Int} (h : bk_P m 1 A) : am_RF m 2 1 10 A 363 170 ∧ am_RF m 4 4 64 A 364 180 ∧ am_RF m 6 1 6 A 365 316 ∧ am_RF m 8 2 20 A 366 322 ∧ am_RF m 10 3 18 A 367 342 := ⟨h.1, h.2.1, h.2.2.1, h.2.2.2.1, h.2.2.2.2.1⟩
theorem rel_intro {P : am_M → Prop} {m0 : am_M} (H : ∀ m', m' = m0 → P m') : P m0 := H m0 rfl
theorem rf_push {m m' : am_M} {r w cap : Int} {A A' : Int → Int} {n0 base : Int} (h : am_RF m r w cap A n0 base) (e1 : m' r 1 = m r 1) (e2 : m' r 2 = A n0 + 1) (a : A' n0 = A n0 + 1) (hc : (A n0 + 1) * w ≤ cap) (hold : ∀ x, 0 ≤ x → x < A n0 * w → m' (r + 1) x = m (r + 1) x ∧ A' (base + x) = A (base + x)) (hnew : ∀ j, 0 ≤ j → j < w → m' (r + 1) (A n0 * w + j) = A' (base + (A n0 * w + j))) : am_RF m' r w cap A' n0 base := by
  have hn := h.1.2.2.1
  rw [h.2.1] at hn
  refine ⟨rk_to h.1 e1 (by rw [e2]; exact ⟨by omega, hc⟩), by rw [e2, a], fun x x0 x1 => ?_⟩
  rw [a, Int.add_mul, Int.one_mul] at x1
  by_cases c : x < A n0 * w
  · obtain ⟨g1, g2⟩ := hold x x0 c
    rw [g1, g2]; exact h.2.2 x x0 c
  · have := hnew (x - A n0 * w) (by omega) (by omega)
    rwa [show A n0 * w + (x - A n0 * w) = x by omega] at this
theorem wa_rule {A : Int → Int} {t a b c : Int} (h : am_WA A) (hn : A 364 < 16) (ht : 0 ≤ t ∧ t ≤ 7) (ha : 0 ≤ a ∧ a ≤ 17 ∧ (a < 10 → a < A 363)) (hb : -1 ≤ b ∧ b ≤ 17 ∧ (b < 10 → b < A 363)) (hc : -1 ≤ c ∧ c ≤ 17 ∧ (c < 10 → c < A 363)) : am_WA (wrA (wrA (wrA (wrA (wrA A (180 + 4 * A 364) t) (180 + 4 * A 364 + 1) a) (180 + 4 * A 364 + 2) b) (180 + 4 * A 364 + 3) c) 364 (A 364 + 1)) := by
  obtain ⟨⟨a1, a2, a3⟩, ⟨b1, b2, b3⟩, ⟨c1, c2, c3⟩, ⟨d1, d2, d3⟩, ⟨f1, f2, f3⟩, g, k, l1, l2, l3, l4, l5⟩ := h
  refine ⟨⟨?_, ?_, fun i i0 i1 => ?_⟩, ⟨?_, ?_, fun i i0 i1 => ?_⟩, ⟨?_, ?_, fun i i0 i1 => ?_⟩, ⟨?_, ?_, fun i i0 i1 => ?_⟩, ⟨?_, ?_, fun i i0 i1 => ?_⟩, fun i j i0 i1 j0 j1 => ?_, fun i i0 i1 => ?_, ?_, ?_, ?_, ?_, ?_⟩
  · simp (disch := omega) only [wrA_ne, wrA_same]; exact a1
  · simp (disch := omega) only [wrA_ne, wrA_same]; exact a2
  · simp (disch := omega) only [wrA_ne, wrA_same] at i1; simp (disch := omega) only [wrA_ne, wrA_same]; exact a3 i i0 i1
  · rw [wrA_same]; omega
  · rw [wrA_same]; omega
  · rw [wrA_same] at i1
    by_cases e : i = A 364
    · subst e
      simp (disch := omega) only [wrA_ne, wrA_same]
      exact ⟨ht, ha, hb, hc⟩
    · simp (disch := omega) only [wrA_ne, wrA_same]
      exact b3 i i0 (by omega)
  · simp (disch := omega) only [wrA_ne, wrA_same]; exact c1
  · simp (disch := omega) only [wrA_ne, wrA_same]; exact c2
  · simp (disch := omega) only [wrA_ne, wrA_same] at i1; simp (disch := omega) only [wrA_ne, wrA_same]; exact c3 i i0 i1
  · simp (disch := omega) only [wrA_ne, wrA_same]; exact d1
  · simp (disch := omega) only [wrA_ne, wrA_same]; exact d2
  · simp (disch := omega) only [wrA_ne, wrA_same] at i1; simp (disch := omega) only [wrA_ne, wrA_same]; exact d3 i i0 i1
  · simp (disch := omega) only [wrA_ne, wrA_same]; exact f1
  · simp (disch := omega) only [wrA_ne, wrA_same]; exact f2
  · simp (disch := omega) only [wrA_ne, wrA_same] at i1; simp (disch := omega) only [wrA_ne, wrA_same]; exact f3 i i0 i1
  · simp (disch := omega) only [wrA_ne, wrA_same]; exact g i j i0 i1 j0 j1
  · simp (disch := omega) only [wrA_ne, wrA_same]; exact k i i0 i1
  · simp (disch := omega) only [wrA_ne, wrA_same]; exact l1
  · simp (disch := omega) only [wrA_ne, wrA_same]; exact l2
  · simp (disch := omega) only [wrA_ne, wrA_same]; exact l3
  · simp (disch := omega) only [wrA_ne, wrA_same]; exact l4
  · simp (disch := omega) only [wrA_ne, wrA_same]; exact l5
theorem wa_person {A : Int → Int} {a : Int} (h : am_WA A) (hn : A 365 < 6) (ha : 0 ≤ a ∧ a ≤ 99) : am_WA (wrA (wrA A (316 + A 365) a) 365 (A 365 + 1)) := by
  obtain ⟨⟨a1, a2, a3⟩, ⟨b1, b2, b3⟩, ⟨c1, c2, c3⟩, ⟨d1, d2, d3⟩, ⟨f1, f2, f3⟩, g, k, l1, l2, l3, l4, l5⟩ := h
  refine ⟨⟨?_, ?_, fun i i0 i1 => ?_⟩, ⟨?_, ?_, fun i i0 i1 => ?_⟩, ⟨?_, ?_, fun i i0 i1 => ?_⟩, ⟨?_, ?_, fun i i0 i1 => ?_⟩, ⟨?_, ?_, fun i i0 i1 => ?_⟩, fun i j i0 i1 j0 j1 => ?_, fun i i0 i1 => ?_, ?_, ?_, ?_, ?_, ?_⟩
  · simp (disch := omega) only [wrA_ne, wrA_same]; exact a1
  · simp (disch := omega) only [wrA_ne, wrA_same]; exact a2
  · simp (disch := omega) only [wrA_ne, wrA_same] at i1; simp (disch := omega) only [wrA_ne, wrA_same]; exact a3 i i0 i1
  · simp (disch := omega) only [wrA_ne, wrA_same]; exact b1
  · simp (disch := omega) only [wrA_ne, wrA_same]; exact b2
  · simp (disch := omega) only [wrA_ne, wrA_same] at i1; simp (disch := omega) only [wrA_ne, wrA_same]; exact b3 i i0 i1
  · rw [wrA_same]; omega
  · rw [wrA_same]; omega
  · rw [wrA_same] at i1
    by_cases e : i = A 365
    · subst e
      simp (disch := omega) only [wrA_ne, wrA_same]
      exact ha
    · simp (disch := omega) only [wrA_ne, wrA_same]
      exact c3 i i0 (by omega)
  · simp (disch := omega) only [wrA_ne, wrA_same]; exact d1
  · simp (disch := omega) only [wrA_ne, wrA_same]; exact d2
  · simp (disch := omega) only [wrA_ne, wrA_same] at i1; simp (disch := omega) only [wrA_ne, wrA_same]; exact d3 i i0 i1
  · simp (disch := omega) only [wrA_ne, wrA_same]; exact f1
  · simp (disch := omega) only [wrA_ne, wrA_same]; exact f2
  · simp (disch := omega) only [wrA_ne, wrA_same] at i1; simp (disch := omega) only [wrA_ne, wrA_same]; exact f3 i i0 i1
  · simp (disch := omega) only [wrA_ne, wrA_same]; exact g i j i0 i1 j0 j1
  · simp (disch := omega) only [wrA_ne, wrA_same]; exact k i i0 i1
  · simp (disch := omega) only [wrA_ne, wrA_same]; exact l1
  · simp (disch := omega) only [wrA_ne, wrA_same]; exact l2
  · simp (disch := omega) only [wrA_ne, wrA_same]; exact l3
  · simp (disch := omega) only [wrA_ne, wrA_same]; exact l4
  · simp (disch := omega) only [wrA_ne, wrA_same]; exact l5
theorem wa_bundle {A : Int → Int} {a b : Int} (h : am_WA A) (hn : A 366 < 10) (ha : 1 ≤ a ∧ a ≤ 255) (hb : 1 ≤ b ∧ b ≤ 99) : am_WA (wrA (wrA (wrA A (322 + 2 * A 366) a) (322 + 2 * A 366 + 1) b) 366 (A 366 + 1)) := by
  obtain ⟨⟨a1, a2, a3⟩, ⟨b1, b2, b3⟩, ⟨c1, c2, c3⟩, ⟨d1, d2, d3⟩, ⟨f1, f2, f3⟩, g, k, l1, l2, l3, l4, l5⟩ := h
  refine ⟨⟨?_, ?_, fun i i0 i1 => ?_⟩, ⟨?_, ?_, fun i i0 i1 => ?_⟩, ⟨?_, ?_, fun i i0 i1 => ?_⟩, ⟨?_, ?_, fun i i0 i1 => ?_⟩, ⟨?_, ?_, fun i i0 i1 => ?_⟩, fun i j i0 i1 j0 j1 => ?_, fun i i0 i1 => ?_, ?_, ?_, ?_, ?_, ?_⟩
  · simp (disch := omega) only [wrA_ne, wrA_same]; exact a1
  · simp (disch := omega) only [wrA_ne, wrA_same]; exact a2
  · simp (disch := omega) only [wrA_ne, wrA_same] at i1; simp (disch := omega) only [wrA_ne, wrA_same]; exact a3 i i0 i1
  · simp (disch := omega) only [wrA_ne, wrA_same]; exact b1
  · simp (disch := omega) only [wrA_ne, wrA_same]; exact b2
  · simp (disch := omega) only [wrA_ne, wrA_same] at i1; simp (disch := omega) only [wrA_ne, wrA_same]; exact b3 i i0 i1
  · simp (disch := omega) only [wrA_ne, wrA_same]; exact c1
  · simp (disch := omega) only [wrA_ne, wrA_same]; exact c2
  · simp (disch := omega) only [wrA_ne, wrA_same] at i1; simp (disch := omega) only [wrA_ne, wrA_same]; exact c3 i i0 i1
  · rw [wrA_same]; omega
  · rw [wrA_same]; omega
  · rw [wrA_same] at i1
    by_cases e : i = A 366
    · subst e
      simp (disch := omega) only [wrA_ne, wrA_same]
      exact ⟨ha.1, ha.2, hb.1, hb.2⟩
    · simp (disch := omega) only [wrA_ne, wrA_same]
      exact d3 i i0 (by omega)
  · simp (disch := omega) only [wrA_ne, wrA_same]; exact f1
  · simp (disch := omega) only [wrA_ne, wrA_same]; exact f2
  · simp (disch := omega) only [wrA_ne, wrA_same] at i1; simp (disch := omega) only [wrA_ne, wrA_same]; exact f3 i i0 i1
  · simp (disch := omega) only [wrA_ne, wrA_same]; exact g i j i0 i1 j0 j1
  · simp (disch := omega) only [wrA_ne, wrA_same]; exact k i i0 i1
  · simp (disch := omega) only [wrA_ne, wrA_same]; exact l1
  · simp (disch := omega) only [wrA_ne, wrA_same]; exact l2
  · simp (disch := omega) only [wrA_ne, wrA_same]; exact l3
  · simp (disch := omega) only [wrA_ne, wrA_same]; exact l4
  · simp (disch := omega) only [wrA_ne, wrA_same]; exact l5
theorem wa_answer {A : Int → Int} {a b c : Int} (h : am_WA A) (hn : A 367 < 6) (ha : 1 ≤ a ∧ a ≤ 9) (hb : 0 ≤ b ∧ b ≤ 7) (hc : 0 ≤ c ∧ c ≤ 1) : am_WA (wrA (wrA (wrA (wrA A (342 + 3 * A 367) a) (342 + 3 * A 367 + 1) b) (342 + 3 * A 367 + 2) c) 367 (A 367 + 1)) := by
  obtain ⟨⟨a1, a2, a3⟩, ⟨b1, b2, b3⟩, ⟨c1, c2, c3⟩, ⟨d1, d2, d3⟩, ⟨f1, f2, f3⟩, g, k, l1, l2, l3, l4, l5⟩ := h
  refine ⟨⟨?_, ?_, fun i i0 i1 => ?_⟩, ⟨?_, ?_, fun i i0 i1 => ?_⟩, ⟨?_, ?_, fun i i0 i1 => ?_⟩, ⟨?_, ?_, fun i i0 i1 => ?_⟩, ⟨?_, ?_, fun i i0 i1 => ?_⟩, fun i j i0 i1 j0 j1 => ?_, fun i i0 i1 => ?_, ?_, ?_, ?_, ?_, ?_⟩
  · simp (disch := omega) only [wrA_ne, wrA_same]; exact a1
  · simp (disch := omega) only [wrA_ne, wrA_same]; exact a2
  · simp (disch := omega) only [wrA_ne, wrA_same] at i1; simp (disch := omega) only [wrA_ne, wrA_same]; exact a3 i i0 i1
  · simp (disch := omega) only [wrA_ne, wrA_same]; exact b1
  · simp (disch := omega) only [wrA_ne, wrA_same]; exact b2
  · simp (disch := omega) only [wrA_ne, wrA_same] at i1; simp (disch := omega) only [wrA_ne, wrA_same]; exact b3 i i0 i1
  · simp (disch := omega) only [wrA_ne, wrA_same]; exact c1
  · simp (disch := omega) only [wrA_ne, wrA_same]; exact c2
  · simp (disch := omega) only [wrA_ne, wrA_same] at i1; simp (disch := omega) only [wrA_ne, wrA_same]; exact c3 i i0 i1
  · simp (disch := omega) only [wrA_ne, wrA_same]; exact d1
  · simp (disch := omega) only [wrA_ne, wrA_same]; exact d2
  · simp (disch := omega) only [wrA_ne, wrA_same] at i1; simp (disch := omega) only [wrA_ne, wrA_same]; exact d3 i i0 i1
  · rw [wrA_same]; omega
  · rw [wrA_same]; omega
  · rw [wrA_same] at i1
    by_cases e : i = A 367
    · subst e
      simp (disch := omega) only [wrA_ne, wrA_same]
      exact ⟨ha, hb, hc.1, hc.2⟩
    · simp (disch := omega) only [wrA_ne, wrA_same]
      exact f3 i i0 (by omega)
  · simp (disch := omega) only [wrA_ne, wrA_same]; exact g i j i0 i1 j0 j1
  · simp (disch := omega) only [wrA_ne, wrA_same]; exact k i i0 i1
  · simp (disch := omega) only [wrA_ne, wrA_same]; exact l1
  · simp (disch := omega) only [wrA_ne, wrA_same]; exact l2
  · simp (disch := omega) only [wrA_ne, wrA_same]; exact l3
  · simp (disch := omega) only [wrA_ne, wrA_same]; exact l4
  · simp (disch := omega) only [wrA_ne, wrA_same]; exact l5
