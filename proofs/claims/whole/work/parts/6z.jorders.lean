/-! ORDERS: both sides, whole. -/
theorem j_orders : Joint (M_X11_orders 0) (M_X12_orders 168) := by
  intro m h K hK
  obtain ⟨⟨hb, hv, hf, hH⟩, -, htp, -, -, hud, -, -, hww⟩ := id h
  obtain ⟨t1, t2, t3, t4⟩ := id htp
  -- the tape
  have HB : ∀ x, 0 ≤ x → x < m 168 13 → (-128 ≤ m 175 x ∧ m 175 x ≤ 127) ∧ (fun x => m 175 x % 256) x = m 175 x % 256 := fun x x0 x1 => ⟨(t4 x x0 x1).2, rfl⟩
  have Hrd : rd_H m (fun x => m 175 x % 256) (m 168 13) := ⟨t1, t2, t3, fun x x0 x1 => (t4 x x0 x1).1, fun x x0 x1 => by have := t4 x x0 x1; simp only []; omega⟩
  have Hms : ms_H m (fun x => m 175 x % 256) (m 168 13) := ⟨t3, HB, hww.2.1⟩
  generalize (fun x => m 175 x % 256) = B at *
  generalize hn : m 168 13 = n at *
  obtain ⟨hN, h400, hv0⟩ := cd_n Hrd
  have hn0 := Hrd.2.2.1.1
  have hc0 : ∀ x, tz_N B n ≤ x → tz_c B n x = 0 := fun x hx => (tz_p_end2 hn0 (by omega)).1
  unfold M_X11_orders
  simp only [am_rf_all]
  have cutf : ∀ m1 : am_M, (∀ k, m1 129 k = m 129 k) → ∃ m2, (∀ K : am_KK, M_X7_cut 129 0 K m1 ↔ K 0 m2) ∧ (∀ o k, ¬ (o = 129 ∧ k = 2) → m2 o k = m1 o k) ∧ m2 129 2 = 0 := by
    intro m1 e
    refine ⟨if 0 < n then am_st m1 129 2 0 else m1, fun K => by rw [cut_tape (m := m) htp e, hn], fun o k ho => ?_, ?_⟩
    · split
      · exact am_st_ne _ ho
      · rfl
    · split
      · exact am_st_same _ _ _ _
      · rw [e, t2]; omega
  refine cd_read (lim := 24) (Or.inr rfl) (by decide) Hrd hww.1 (fun cs hcs m1 F1 P1 a6 => ?_) (fun e he m1 F1 q1 a6 => ?_)
  · -- read
    obtain ⟨m2, hc2, f2, e129⟩ := cutf m1 (fun k => F1 _ _ (by omega))
    rw [hc2]
    simp only [forall_eq]
    refine ⟨fun _ => ?_, fun y => absurd (by decide) y⟩
    have hcx : ∀ x ∈ cs, pz_cok 24 x := ((pz_text_ok (lim := 24) (od := 1) hN h400.2 hv0 (Or.inr rfl) (by decide) 12 0 0 (by omega) (by omega) (by omega) (by omega)).2 cs hcs).2.2.2
    have f3 : fr_c m (am_st m2 0 19 (-1)) := fun o k ho => by
      rw [am_st_ne _ (by omega), f2 o k (by omega)]
      exact F1 o k (by omega)
    have P3 : pz_PG (am_st m2 0 19 (-1)) 131 cs := pz_PG_of P1 (fun o k ho => by rw [am_st_ne _ (by omega)]; exact f2 o k (by omega))
    have x129 : am_st m2 0 19 (-1) 129 2 = 0 := by rw [am_st_ne _ (by omega)]; exact e129
    have x135 : am_st m2 0 19 (-1) 135 6 = -1 := by rw [am_st_ne _ (by omega), f2 _ _ (by omega)]; exact a6
    have x19 : am_st m2 0 19 (-1) 0 19 = -1 := am_st_same _ _ _ _
    generalize am_st m2 0 19 (-1) = m3 at f3 P3 x129 x135 x19 ⊢
    clear f2 F1 P1 hc2
    -- the row with the text in it
    have hW1 := or_A_wf (c := tz_c B n) (v := tz_v B n) h400 hf hH
    have hwg := wg_A_of hW1.1.1
    have hb1 : bk_P m 1 (or_A (m 170) (tz_c B n) (tz_v B n) (tz_N B n)) := or_A_bk h400 hf hb
    have lo : ∀ x, x < 370 → or_A (m 170) (tz_c B n) (tz_v B n) (tz_N B n) x = m 170 x := fun x hx => or_A_o x (by omega)
    obtain ⟨A1, hA1⟩ : ∃ A1, or_A (m 170) (tz_c B n) (tz_v B n) (tz_N B n) = A1 := ⟨_, rfl⟩
    rw [hA1] at hW1 hwg hb1
    have lo : ∀ x, x < 370 → A1 x = m 170 x := fun x hx => by rw [← hA1]; exact lo x hx
    have hg0 : ∃ g0 : am_M, g0 170 = A1 ∧ ∀ o k, o ≠ 170 → g0 o k = m o k := ⟨am_row m 170 A1, funext fun x => row_eq _ _ _ _, fun o k ho => row_ne _ _ _ ho⟩
    obtain ⟨g0, g170, g0o⟩ := hg0
    have G0 : or_G A1 g0 := ⟨ud_of hud (fun o x ho => by
      by_cases c1 : o = 170
      · rw [c1, g170]; exact lo x (by omega)
      · exact g0o o x c1) (by rw [g170, lo _ (by omega)]; exact Int.le_refl _), by rw [g170]; exact hW1.1, by rw [g170]; exact hW1.2, fun x _ => by rw [g170]⟩
    refine oprep (cs := cs) (A1 := A1) (g0 := g0) (X := fun m6 => M_X11_orders_L1 0 0 0 (fun r m7 => M_X12_orders 168 (fun r' m' => K r r' m') m7) m6) h f3 P3 hW1.1.1 hwg hb1 lo g170 g0o (fun m6 F6 q6 P6 u129 u135 u19 u166 R0 L0 E6 => ?_)
    exact ordfin h F6 q6 P6 (by rw [u129]; exact x129) (by rw [u135]; exact x135) (by rw [u19]; exact x19) u166 R0 L0 E6 hwg G0 g170 g0o hcx Hms hn hn0 hcs h400 hc0 hv0 hA1 hK
  · -- not read
    obtain ⟨m2, hc2, f2, e129⟩ := cutf m1 (fun k => F1 _ _ (by omega))
    rw [hc2]
    simp only [forall_eq]
    refine ⟨fun y => absurd rfl y, fun _ => ?_⟩
    refine onot (m2 := am_st m2 0 19 (-1)) h (fun o k ho => by rw [am_st_ne _ (by omega), f2 o k (by omega)]; exact F1 o k (by omega)) Hms hn he (by rw [am_st_ne _ (by omega)]; exact e129) (by rw [am_st_ne _ (by omega), f2 _ _ (by omega)]; exact a6) (rk_of q1 (by rw [am_st_ne _ (by omega), f2 _ _ (by omega)]) (by rw [am_st_ne _ (by omega), f2 _ _ (by omega)])) (am_st_same _ _ _ _) hK
