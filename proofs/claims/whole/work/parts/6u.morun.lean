/-! ORDERS on the other side, as a whole; the row with the text in it. -/
def or_A (A c v : Int → Int) (N : Int) : Int → Int := fun x => if x = 376 then N else if 2777 ≤ x ∧ x < 2777 + N then c (x - 2777) else if 5577 ≤ x ∧ x < 5577 + N then v (x - 5577) else A x
section ORU
variable {A c v : Int → Int} {N : Int}
theorem or_A_o (x : Int) (h : ¬ (x = 376 ∨ (2777 ≤ x ∧ x < 2777 + N) ∨ (5577 ≤ x ∧ x < 5577 + N))) : or_A A c v N x = A x := by
  unfold or_A
  rw [if_neg (by omega), if_neg (by omega), if_neg (by omega)]
theorem or_A_T (h4 : 0 ≤ N ∧ N ≤ 400) (h0 : ∀ x, N ≤ x → c x = 0) (hv : ∀ x, 0 ≤ v x) : og_T (or_A A c v N) c v N := by
  refine ⟨h4, fun x x0 x1 => ⟨?_, ?_⟩, h0, hv⟩
  · unfold or_A
    rw [if_neg (by omega), if_pos (by omega), show 377 + (2400 + x) - 2777 = x by omega]
  · unfold or_A
    rw [if_neg (by omega), if_neg (by omega), if_pos (by omega), show 3177 + (2400 + x) - 5577 = x by omega]
theorem or_A_lw (h4 : 0 ≤ N ∧ N ≤ 400) {s : Int} (hs : 0 ≤ s ∧ s < 6) (hA : 0 ≤ A (370 + s) ∧ A (370 + s) ≤ 400) : or_A A c v N (370 + s) = A (370 + s) ∧ lw_cs (or_A A c v N) s = lw_cs A s :=
  lw_old (t := 6) (fun x hx => or_A_o x (by omega)) ⟨hs.1, hs.2, by omega⟩ hA
theorem or_A_wf (h4 : 0 ≤ N ∧ N ≤ 400) (hf : wf_A 16 A) (hH : wf_H A) : wf_A 16 (or_A A c v N) ∧ wf_H (or_A A c v N) := by
  have lo : ∀ x, x < 370 → or_A A c v N x = A x := fun x hx => or_A_o x (by omega)
  have l6 := hf.2.2.1
  refine ⟨wf_of_sm hf (wa_law hf.1 (fun x hx => lo x (by omega)) (by rw [lo _ (by omega)]; exact l6.1) (by rw [lo _ (by omega), lo _ (by omega)]; exact l6.2.1)) (fun x hx => lo x (by omega)) (by rw [lo _ (by omega)]; exact Int.le_refl _) ?_ (fun x x0 x1 hx => absurd (lo x x1) hx) (by omega), wH_of hH (fun x hx => lo x (by omega)) (by have := hf.2.1.1; omega)⟩
  refine ⟨by rw [lo _ (by omega)]; exact l6.1, by rw [lo _ (by omega), lo _ (by omega)]; exact l6.2.1, fun t t0 t1 => ?_⟩
  rw [lo _ (by omega)] at t1
  have l6b := l6.1.2
  obtain ⟨g1, g2, cs', g3⟩ := l6.2.2 t t0 t1
  obtain ⟨o1, o2⟩ := or_A_lw (c := c) (v := v) h4 (s := t) ⟨t0, by omega⟩ g1
  refine ⟨by rw [o1]; exact g1, fun x x0 x1 => ?_, cs', by rw [o2]; exact g3⟩
  rw [o1] at x1
  rw [or_A_o _ (by omega)]
  exact g2 x x0 x1
theorem or_A_bk {m : am_M} (h4 : 0 ≤ N ∧ N ≤ 400) (hf : wf_A 16 A) (hb : bk_P m 1 A) : bk_P m 1 (or_A A c v N) := by
  have lo : ∀ x, x < 370 → or_A A c v N x = A x := fun x hx => or_A_o x (by omega)
  have l6 := hf.2.2.1
  obtain ⟨b1, b2, b3, b4, b5', b6', b7', b8, b9, b10⟩ := hb
  refine ⟨rf_of' b1 (fun o k ho => rfl) (fun x hx => lo x (by omega)), rf_of' b2 (fun o k ho => rfl) (fun x hx => lo x (by omega)), rf_of' b3 (fun o k ho => rfl) (fun x hx => lo x (by omega)), rf_of' b4 (fun o k ho => rfl) (fun x hx => lo x (by omega)), rf_of' b5' (fun o k ho => rfl) (fun x hx => lo x (by omega)), fun i j i0 i1 j0 j1 => ?_, fun i i0 i1 => ?_, ?_, ?_, fun s cs' s0 s1 hc => ?_⟩
  · rw [lo _ (by omega)]; exact b6' i j i0 i1 j0 j1
  · rw [lo _ (by omega)]; exact b7' i i0 i1
  · rw [lo 360 (by omega), lo 361 (by omega), lo 362 (by omega)]; exact b8
  · rw [lo 368 (by omega), lo 369 (by omega)]; exact b9
  · rw [lo _ (by omega)] at s1
    have l6b := l6.1.2
    obtain ⟨g1, -⟩ := l6.2.2 s s0 s1
    rw [(or_A_lw (c := c) (v := v) h4 ⟨s0, by omega⟩ g1).2] at hc
    exact b10 s cs' s0 s1 hc
end ORU
section ORV
variable {m : am_M} {B : Int → Int} {n : Int} {A : Int → Int} {g0 : am_M}
/-- what the other side's orders change -/
def fr_u (m m' : am_M) : Prop := ∀ o k, ¬ ((o = 168 ∧ k ≠ 6 ∧ k ≠ 58) ∨ o = 169 ∨ o = 170 ∨ o = 173 ∨ (177 ≤ o ∧ o ≤ 190) ∨ o = 197) → m' o k = m o k
theorem morun {cs : List pz_C} (Hs : ms_H m B n) (hn : m 168 13 = n) (hn0 : 0 ≤ n) (hrd : pz_read 1 (tz_c B n) (tz_v B n) (tz_N B n) = .inr cs) (h4 : 0 ≤ tz_N B n ∧ tz_N B n ≤ 400) (h0 : ∀ x, tz_N B n ≤ x → tz_c B n x = 0) (hv : ∀ x, 0 ≤ tz_v B n x) (hA : m 170 = A) (hwg : wg_A (or_A A (tz_c B n) (tz_v B n) (tz_N B n))) (G0 : or_G (or_A A (tz_c B n) (tz_v B n) (tz_N B n)) g0) (e0 : g0 170 = or_A A (tz_c B n) (tz_v B n) (tz_N B n)) (e1 : g0 168 38 = m 168 38) (e2 : ∀ y, g0 189 y = m 189 y) {RES : Int × Int × am_M × Int} (hres : or_c (or_S (or_A A (tz_c B n) (tz_v B n) (tz_N B n))) cs 0 g0 0 = RES) {K : am_KK}
    (k1 : RES.1 = 0 → ∀ m', fr_u m m' → (∀ k, m' 169 k = m 169 k) → om_R m' RES.2.2.1 → m' 168 0 = 0 → m' 168 48 = -1 → m' 168 13 = 0 → m' 168 14 = -1 → K RES.2.2.2 m')
    (k2 : RES.1 ≠ 0 → (RES.1 = -3 ∨ RES.1 = -5) → ∀ m', fr_u m m' → m' 169 (-RES.1) = w32 (m 169 (-RES.1) + 1) → (∀ k, k ≠ -RES.1 → m' 169 k = m 169 k) → om_R m' g0 → m' 168 0 = RES.1 → m' 168 48 = RES.2.1 → m' 168 13 = 0 → m' 168 14 = -1 → K RES.1 m') : M_X12_orders 168 K m := by
  unfold M_X12_orders
  simp only [forall_eq]
  refine mreads (lim := 24) (Or.inr rfl) (by decide) (ms_H_of Hs (fun o k ho => am_st_ne _ (by omega))) (by rw [am_st_ne _ (by omega)]; exact hn) (fun cs' hcs' m1 F1 z1 b1 n1 r1 => ?_) (fun e he m1 _ _ _ => by rw [hrd] at he; cases he)
  refine ⟨fun _ => ?_, fun y => absurd (by decide) y⟩
  have q1 : ∀ o k, ¬ ((o = 168 ∧ (k = 8 ∨ k = 9 ∨ k = 10 ∨ k = 13 ∨ k = 14 ∨ k = 18 ∨ k = 19 ∨ k = 20 ∨ k = 21 ∨ k = 48)) ∨ o = 177 ∨ o = 178 ∨ o = 179) → m1 o k = m o k := fun o k ho => by rw [F1 o k (by omega)]; exact am_st_ne _ (by omega)
  have d1 : m1 168 48 = -1 := by rw [F1 _ _ (by omega)]; exact am_st_same _ _ _ _
  refine mlays1 (fun m2 f2 w2 => ?_)
  refine mord1 (fun m3 f3 w3 => ?_)
  have e3 : m3 170 = A := by rw [← hA]; exact funext fun x => by rw [f3 _ _ (by omega), f2 _ _ (by omega)]; exact q1 _ _ (by omega)
  refine mlay (t := 6) (N := tz_N B n) (by omega) (by rw [f3 _ _ (by omega), f2 _ _ (by omega)]; exact n1) h4 (fun m4 f4 a4 b4 r4 => ?_)
  have e4 : m4 170 = or_A A (tz_c B n) (tz_v B n) (tz_N B n) := by
    funext x
    by_cases c1 : x = 376
    · unfold or_A
      rw [if_pos c1, c1]; exact a4
    · by_cases c2 : 2777 ≤ x ∧ x < 2777 + tz_N B n
      · unfold or_A
        rw [if_neg c1, if_pos c2]
        have := (b4 (x - 2777) (by omega) (by omega)).1
        rw [show 377 + (400 * 6 + (x - 2777)) = x by omega] at this
        rw [this, f3 _ _ (by omega), f2 _ _ (by omega)]
        exact (r1 (x - 2777) (by omega) (by omega)).1
      · by_cases c3 : 5577 ≤ x ∧ x < 5577 + tz_N B n
        · unfold or_A
          rw [if_neg c1, if_neg c2, if_pos c3]
          have := (b4 (x - 5577) (by omega) (by omega)).2
          rw [show 3177 + (400 * 6 + (x - 5577)) = x by omega] at this
          rw [this, f3 _ _ (by omega), f2 _ _ (by omega)]
          exact (r1 (x - 5577) (by omega) (by omega)).2
        · rw [or_A_o _ (by omega), r4 x (by omega), e3]
  refine mwordings (A := or_A A (tz_c B n) (tz_v B n) (tz_N B n)) hwg e4 (fun m5 f5 E5 => ?_)
  have hN6 : m5 170 376 = tz_N B n := by rw [f5 _ _ (by omega)]; exact a4
  refine mord2 (w := wg_n (or_A A (tz_c B n) (tz_v B n) (tz_N B n)) 8) (S := or_S (or_A A (tz_c B n) (tz_v B n) (tz_N B n))) (wg_n_ok hwg 8) E5.1 (fun t t0 t1 => by unfold or_S; rw [if_pos ⟨t0, t1⟩]) hN6 h4 (fun m6 f6 s6 z49 z50 => ?_)
  have u3 : m3 168 38 = m 168 38 := by rw [f3 _ _ (by omega), f2 _ _ (by omega)]; exact q1 _ _ (by omega)
  have q6 : ∀ o k, ¬ ((o = 168 ∧ (k = 8 ∨ k = 9 ∨ k = 10 ∨ k = 13 ∨ k = 14 ∨ k = 18 ∨ k = 19 ∨ k = 20 ∨ k = 21 ∨ k = 48 ∨ k = 49 ∨ k = 50)) ∨ o = 170 ∨ o = 173 ∨ (177 ≤ o ∧ o ≤ 179) ∨ (o = 181) ∨ (183 ≤ o ∧ o ≤ 186) ∨ o = 190) → m6 o k = m o k := fun o k ho => by rw [f6 o k (by omega), f5 o k (by omega), f4 o k (by omega), f3 o k (by omega), f2 o k (by omega)]; exact q1 o k (by omega)
  have p6 : ∀ k, (k = 13 ∨ k = 14 ∨ k = 48) → m6 168 k = m1 168 k := fun k hk => by rw [f6 _ k (by omega), f5 _ k (by omega), f4 _ k (by omega), f3 _ k (by omega), f2 _ k (by omega)]
  have e6 : m6 170 = g0 170 := by rw [e0, ← e4]; exact funext fun x => by rw [f6 _ _ (by omega), f5 _ _ (by omega)]
  have bk6 : ∀ x, 0 ≤ x → x < 170 → m6 173 (170 + x) = g0 170 x := fun x x0 x1 => by
    rw [f6 _ _ (by omega), f5 _ _ (by omega), f4 _ _ (by omega), f3 _ _ (by omega), w2 x x0 x1, q1 _ _ (by omega), hA, e0, or_A_o _ (by omega)]
  have c6 : ∀ y, 0 ≤ y → y < 2736 → m6 190 y = g0 189 y := fun y y0 y1 => by
    rw [f6 _ _ (by omega), f5 _ _ (by omega), f4 _ _ (by omega), w3 y y0 y1, f2 _ _ (by omega), q1 _ _ (by omega), e2]
  clear f6 f5 f4 f3 f2 F1 w2 w3 r4 b4
  refine mord3 (g0 := g0) (u := m3 168 38) (RES := RES) hrd (or_A_T h4 h0 hv) G0 ⟨e6, by rw [q6 _ _ (by omega)]; exact e1.symm, fun y y0 y1 => by rw [q6 _ _ (by omega)]; exact (e2 y).symm⟩ (by rw [u3, e1]) bk6 c6 s6 (or_S_le _ hwg) z49 z50 hres (fun o0 m7 f7 R7 z0 => ?_) (fun o0 hcd m7 f7 R7 z0 z48 w1 w2 => ?_)
  · exact k1 o0 m7 (fun o k ho => by rw [f7 o k (by omega)]; exact q6 o k (by omega)) (fun k => by rw [f7 _ _ (by omega)]; exact q6 _ _ (by omega)) R7 z0 (by rw [f7 _ _ (by omega), p6 _ (by omega)]; exact d1) (by rw [f7 _ _ (by omega), p6 _ (by omega)]; exact z1) (by rw [f7 _ _ (by omega), p6 _ (by omega)]; exact b1)
  · have q9 : ∀ k, m6 169 k = m 169 k := fun k => q6 _ _ (by omega)
    exact k2 o0 hcd m7 (fun o k ho => by rw [f7 o k (by omega)]; exact q6 o k (by omega)) (by rw [w1, q9]) (fun k hk => by rw [w2 k hk, q9]) R7 z0 z48 (by rw [f7 _ _ (by omega), p6 _ (by omega)]; exact z1) (by rw [f7 _ _ (by omega), p6 _ (by omega)]; exact b1)
end ORV
