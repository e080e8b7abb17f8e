/-! CALLS that read alone. -/
theorem j_coughs : Joint (M_X11_coughs 0) (M_X12_coughs 168) := by
  intro m h K hK
  unfold M_X11_coughs M_X12_coughs
  rw [h.2.2.2.1.2.1]
  exact hK _ _ h
theorem j_fault : Joint (M_X11_fault 0) (M_X12_fault 168) := by
  intro m h K hK
  unfold M_X11_fault M_X12_fault
  simp only [am_rf_all]
  rw [h.2.2.2.1.2.2.2]
  exact hK _ _ h
theorem j_stopped : Joint (M_X11_stopped 0) (M_X12_stopped 168) := by
  intro m h K hK
  unfold M_X11_stopped M_X12_stopped
  rw [h.2.2.2.1.2.2.1]
  exact hK _ _ h
theorem j_status : Joint (M_X11_status 0) (M_X12_status 168) := by
  intro m h K hK
  unfold M_X11_status M_X12_status
  rw [h.2.2.2.1.1]
  exact hK _ _ h
theorem j_lengthOf (w : Int) : Joint (M_X11_lengthOf 0 w) (M_X12_lengthOf 168 w) := by
  intro m h K hK
  obtain ⟨R1, -⟩ := bk_rows h.1.1
  have bw := h.1.2.2.1.1.1
  unfold M_X11_lengthOf M_X12_lengthOf M_X12_isWord
  simp only [am_rf_all, am_ln_all, get_eq R1.1, rf_get R1, lies_eq, b01]
  rw [w32_of (z := m 170 363 - 1) (by omega) (by omega)]
  by_cases c : 0 ≤ w ∧ w < m 170 363
  · have c1 : 0 ≤ w ∧ w ≤ m 170 363 - 1 := by omega
    rw [if_pos (by omega), w32_of (z := 170 + w) (by omega) (by omega), show 170 + (w * 1 + 0) = 170 + w by omega]
    have c2 : 0 ≤ 170 + w ∧ 170 + w < 5977 := by omega
    simp [c1, c2]
    exact hK _ _ h
  · have c1 : ¬ (0 ≤ w ∧ w ≤ m 170 363 - 1) := by omega
    rw [if_neg (by omega)]
    simp [c1]
    exact hK _ _ h
theorem j_of (r what : Int) : Joint (M_X11_of 0 r what) (M_X12_of 168 r what) := by
  intro m h K hK
  obtain ⟨-, R2, -⟩ := bk_rows h.1.1
  have br := h.1.2.2.1.1.2.1
  unfold M_X11_of M_X12_of
  simp only [am_rf_all, am_ln_all, get_eq R2.1, rf_get R2, lies_eq, b01]
  rw [w32_of (z := m 170 364 - 1) (by omega) (by omega)]
  by_cases c : (0 ≤ r ∧ r < m 170 364) ∧ 0 ≤ what ∧ what < 4
  · have c1 : 0 ≤ r ∧ r ≤ m 170 364 - 1 := by omega
    have c2 : 0 ≤ what ∧ what ≤ 3 := by omega
    rw [if_pos c, w32_of (z := 4 * r) (by omega) (by omega), w32_of (z := 180 + 4 * r) (by omega) (by omega), w32_of (z := 180 + 4 * r + what) (by omega) (by omega), show 180 + (r * 4 + what) = 180 + 4 * r + what by omega]
    have c3 : 0 ≤ 180 + 4 * r + what ∧ 180 + 4 * r + what < 5977 := by omega
    simp [c1, c2, c3]
    exact hK _ _ h
  · rw [if_neg c]
    by_cases c1 : 0 ≤ r ∧ r ≤ m 170 364 - 1
    · have c2 : ¬ (0 ≤ what ∧ what ≤ 3) := by omega
      simp [c1, c2]
      exact hK _ _ h
    · simp [c1]
      exact hK _ _ h
theorem isPrayer_eq (p : Int) (K : am_KK) (m : am_M) (h : 0 ≤ m 170 168 ∧ m 170 168 ≤ 24) : M_X12_isPrayer 168 p K m ↔ K (if 0 ≤ p ∧ p < m 170 168 then 1 else 0) m := by
  unfold M_X12_isPrayer
  rw [prayers_eq, lies_eq, w32_of (by omega) (by omega)]
  have : (0 ≤ p ∧ p ≤ m 170 168 - 1) = (0 ≤ p ∧ p < m 170 168) := propext (by omega)
  simp only [this]
theorem isWaiting_eq (p : Int) (K : am_KK) (m : am_M) (h : 0 ≤ m 170 168 ∧ m 170 168 ≤ 24) : M_X12_isWaiting 168 p K m ↔ K (if (0 ≤ p ∧ p < m 170 168) ∧ m 170 (7 * p + 5) = 0 then 1 else 0) m := by
  unfold M_X12_isWaiting
  rw [isPrayer_eq _ _ _ h]
  simp only [b01]
  by_cases c : 0 ≤ p ∧ p < m 170 168
  · rw [fact_eq (by omega) (by omega)]
    by_cases c2 : m 170 (7 * p + 5) = 0
    · simp [c, c2]
    · simp [c, c2]
  · simp [c]
theorem cwaits_eq {m : am_M} {A : Int → Int} {v : Int} (hvv : vg_v v) (hv : vg_P m v A) (p : Int) (K : am_KK) : M_X9_waits v p K m ↔ K (if (0 ≤ p ∧ p < A 168) ∧ A (7 * p + 5) = 0 then 1 else 0) m := by
  by_cases c : 0 ≤ p ∧ p < A 168
  · rw [vg_waits hvv hv c.1 c.2]
    simp [c]
  · rw [vg_waitsN hvv hv c]
    simp [c]
theorem j_at (p what : Int) : Joint (M_X11_at 0 p what) (M_X12_at 168 p what) := by
  intro m h K hK
  have hv := h.1.2.1
  have hn := h.1.2.2.1.2.1.1
  have r13 := hv.1
  rw [show (12 : Int) + 1 = 13 by omega] at r13
  unfold M_X11_at M_X12_at
  simp only [am_rf_all, get_eq r13.1, rf_get r13, lies_eq, b01, isPrayer_eq _ _ _ (show 0 ≤ m 170 168 ∧ m 170 168 ≤ 24 by omega)]
  by_cases c : (0 ≤ p ∧ p < m 170 168) ∧ 0 ≤ what ∧ what < 7
  · have c2 : 0 ≤ what ∧ what ≤ 6 := by omega
    rw [if_pos c, show 0 + (p * 7 + what) = 7 * p + what by omega]
    simp [c.1, c2]
    rw [fact_eq (by omega) (by omega)]
    exact hK _ _ h
  · rw [if_neg c]
    by_cases c1 : 0 ≤ p ∧ p < m 170 168
    · have c2 : ¬ (0 ≤ what ∧ what ≤ 6) := by omega
      simp [c1, c2]
      exact hK _ _ h
    · simp [c1]
      exact hK _ _ h
theorem j_drawn (p what : Int) : Joint (M_X11_drawn 0 p what) (M_X12_drawn 168 p what) := by
  intro m h K hK
  obtain ⟨s1, s2, s3, s4⟩ := h.2.2.2.2.2.2.1
  unfold M_X11_drawn M_X12_drawn M_X8_tally
  simp only [am_rf_all, am_ln_all, get_eq s1, lies_eq, b01']
  rw [w32_of (z := m 168 58 - 1) (by omega) (by omega)]
  unfold rget
  rw [s2]
  by_cases c : 0 ≤ p ∧ p < m 168 58
  · have c1 : 0 ≤ p ∧ p ≤ m 168 58 - 1 := by omega
    obtain ⟨g0, g1, g2, g3⟩ := s4 p c.1 c.2
    rw [Int.add_zero] at g0
    rw [show (164 : Int) + 1 = 165 by omega]
    have w1 : w32 (3 * p) = 3 * p := w32_of (by omega) (by omega)
    have w2 : w32 (3 * p + 1) = 3 * p + 1 := w32_of (by omega) (by omega)
    have w3 : w32 (3 * p + 2) = 3 * p + 2 := w32_of (by omega) (by omega)
    simp only [w1, w2, w3, if_pos c1, if_pos c, c, true_and]
    have b1 : 0 ≤ 3 * p + 1 ∧ 3 * p + 1 < 18 := by omega
    have b2 : 0 ≤ 3 * p + 2 ∧ 3 * p + 2 < 18 := by omega
    have b3 : 0 ≤ 3 * p ∧ 3 * p < 18 := by omega
    have b0 : 0 ≤ p ∧ p < 6 := by omega
    have ew : what = 0 ∨ what = 1 ∨ what = 2 ∨ what = 3 ∨ (what < 0 ∨ 3 < what) := by omega
    rcases ew with rfl | rfl | rfl | rfl | ew
    · simp [c1, b0, g0]; exact hK _ _ h
    · simp [c1, b1, g1]; exact hK _ _ h
    · simp [c1, b2, g2]; exact hK _ _ h
    · simp [c1, b3, g3]; exact hK _ _ h
    · rw [if_neg (by omega)]
      have n0 : ¬ what = 0 := by omega
      have n1 : ¬ what = 1 := by omega
      have n2 : ¬ what = 2 := by omega
      have n3 : ¬ what = 3 := by omega
      simp [c1, n0, n1, n2, n3]
      intro _
      exact hK _ _ h
  · have c1 : ¬ (0 ≤ p ∧ p ≤ m 168 58 - 1) := by omega
    rw [if_neg (by omega)]
    simp [c1]
    exact hK _ _ h
/-- how many wait -/
def ab_wait (A : Int → Int) : Nat → Int
  | 0 => 0
  | n + 1 => ab_wait A n + (if A (7 * (n : Int) + 5) = 0 then 1 else 0)
theorem ab_wait_le (A : Int → Int) : ∀ n : Nat, 0 ≤ ab_wait A n ∧ ab_wait A n ≤ n := by
  intro n
  induction n with
  | zero => simp [ab_wait]
  | succ n ih => unfold ab_wait; split <;> omega
theorem cwaiting {m : am_M} {A : Int → Int} {v : Int} (hvv : vg_v v) (hv : vg_P m v A) (h24 : 0 ≤ A 168 ∧ A 168 ≤ 24) {K : am_KK} (hK : K (ab_wait A (A 168).toNat) m) : M_X9_waiting v K m := by
  unfold M_X9_waiting M_X9_waiting_L1
  refine ⟨fun j w i m1 => 0 ≤ i ∧ i ≤ A 168 ∧ j = (A 168 - i).toNat ∧ m1 = m ∧ w = ab_wait A i.toNat, ⟨_, by omega, by omega, rfl, rfl, rfl⟩, ?_⟩
  rintro j w i m1 ⟨i0, i1, rfl, rfl, rfl⟩
  have nx : ∀ a : Int, a = ab_wait A (i + 1).toNat → (fun (v1' v2' : Int) (m' : am_M) => ∃ j', j' < (A 168 - i).toNat ∧ 0 ≤ v2' ∧ v2' ≤ A 168 ∧ j' = (A 168 - v2').toNat ∧ m' = m1 ∧ v1' = ab_wait A v2'.toNat) a (i + 1) m1 ∨ ¬ i < A 168 := fun a ha => by
    by_cases c : i < A 168
    · exact Or.inl ⟨_, by omega, by omega, by omega, rfl, rfl, ha⟩
    · exact Or.inr c
  generalize (fun (v1' v2' : Int) (m' : am_M) => ∃ j', j' < (A 168 - i).toNat ∧ 0 ≤ v2' ∧ v2' ≤ A 168 ∧ j' = (A 168 - v2').toNat ∧ m' = m1 ∧ v1' = ab_wait A v2'.toNat) = C at nx ⊢
  have hl := ab_wait_le A i.toNat
  have hs : ab_wait A (i + 1).toNat = ab_wait A i.toNat + (if A (7 * i + 5) = 0 then 1 else 0) := by rw [show (i + 1).toNat = i.toNat + 1 by omega, ab_wait, show (i.toNat : Int) = i by omega]
  rw [hs] at nx
  unfold M_X9_waiting_L1B M_X9_waiting_J1
  rw [vg_rf hvv, hv.1.2.1]
  refine ⟨fun hi => ?_, fun hi => ?_⟩
  · have : i = A 168 := by omega
    rw [this]; exact hK
  · rw [vg_waits hvv hv i0 (by omega)]
    simp only [b01, forall_eq]
    rw [w32_of (z := i + 1) (by omega) (by omega), w32_of (by omega) (by omega)]
    refine ⟨fun hs => (nx _ (by rw [if_neg hs]; omega)).resolve_right (by omega), fun hs => (nx _ (by rw [if_pos (by omega)])).resolve_right (by omega)⟩
theorem mwaiting {m : am_M} (h24 : 0 ≤ m 170 168 ∧ m 170 168 ≤ 24) {K : am_KK} (hK : K (ab_wait (m 170) (m 170 168).toNat) m) : M_X12_waiting 168 K m := by
  unfold M_X12_waiting M_X12_waiting_L1
  refine ⟨fun j w i m1 => 0 ≤ i ∧ i ≤ m 170 168 ∧ j = (m 170 168 - i).toNat ∧ m1 = m ∧ w = ab_wait (m 170) i.toNat, ⟨_, by omega, by omega, rfl, rfl, rfl⟩, ?_⟩
  rintro j w i m1 ⟨i0, i1, rfl, rfl, rfl⟩
  have nx : ∀ a : Int, a = ab_wait (m1 170) (i + 1).toNat → (fun (v1' v2' : Int) (m' : am_M) => ∃ j', j' < (m1 170 168 - i).toNat ∧ 0 ≤ v2' ∧ v2' ≤ m1 170 168 ∧ j' = (m1 170 168 - v2').toNat ∧ m' = m1 ∧ v1' = ab_wait (m1 170) v2'.toNat) a (i + 1) m1 ∨ ¬ i < m1 170 168 := fun a ha => by
    by_cases c : i < m1 170 168
    · exact Or.inl ⟨_, by omega, by omega, by omega, rfl, rfl, ha⟩
    · exact Or.inr c
  generalize (fun (v1' v2' : Int) (m' : am_M) => ∃ j', j' < (m1 170 168 - i).toNat ∧ 0 ≤ v2' ∧ v2' ≤ m1 170 168 ∧ j' = (m1 170 168 - v2').toNat ∧ m' = m1 ∧ v1' = ab_wait (m1 170) v2'.toNat) = C at nx ⊢
  have hl := ab_wait_le (m1 170) i.toNat
  have hs : ab_wait (m1 170) (i + 1).toNat = ab_wait (m1 170) i.toNat + (if m1 170 (7 * i + 5) = 0 then 1 else 0) := by rw [show (i + 1).toNat = i.toNat + 1 by omega, ab_wait, show (i.toNat : Int) = i by omega]
  rw [hs] at nx
  unfold M_X12_waiting_L1B M_X12_waiting_J1
  rw [prayers_eq]
  refine ⟨fun hi => ?_, fun hi => ?_⟩
  · have : i = m1 170 168 := by omega
    rw [this]; exact hK
  · rw [fact_eq (by omega) (by omega)]
    simp only [forall_eq]
    rw [w32_of (z := i + 1) (by omega) (by omega), w32_of (z := ab_wait (m1 170) i.toNat + 0) (by omega) (by omega), w32_of (z := ab_wait (m1 170) i.toNat + 1) (by omega) (by omega)]
    refine ⟨fun hs => (nx _ (by rw [if_neg hs])).resolve_right (by omega), fun hs => (nx _ (by rw [if_pos (by omega)])).resolve_right (by omega)⟩
theorem j_count (what : Int) : Joint (M_X11_count 0 what) (M_X12_count 168 what) := by
  intro m h K hK
  have hb := h.1.1
  have hv := h.1.2.1
  have hw := h.1.2.2.1
  have hn := hw.2.1.1
  obtain ⟨R1, R2, R3, R4, R5⟩ := bk_rows hb
  have q1 := R1.2.1
  have q2 := R2.2.1
  have q3 := R3.2.1
  have q4 := R4.2.1
  have q5 := R5.2.1
  have q6 : m 13 2 = m 170 168 := hv.1.2.1
  have q7 : m 12 1 = m 170 169 := hv.2
  have q8 := hb.2.2.2.2.2.2.2.2.1
  have q9 := h.2.2.2.2.2.1.2.1
  have q10 := h.2.2.1.2.1
  have hr := h.2.2.2.2.1
  have t1 : m 17 1 = m 170 360 := hb.2.2.2.2.2.2.2.1.1
  have t2 : m 17 2 = m 170 361 := hb.2.2.2.2.2.2.2.1.2.1
  have t3 : m 17 3 = m 170 362 := hb.2.2.2.2.2.2.2.1.2.2
  have hfin : K (m 170 363) (m 170 363) m → True := fun _ => trivial
  by_cases c : what = 4
  · subst c
    unfold M_X11_count M_X12_count
    simp only [am_rf_all, show ¬ ((4 : Int) = 0) by decide, show ¬ ((4 : Int) = 1) by decide, show ¬ ((4 : Int) = 2) by decide, show ¬ ((4 : Int) = 3) by decide, show ¬ ((4 : Int) = 5) by decide, show ¬ ((4 : Int) = 6) by decide, show ¬ ((4 : Int) = 7) by decide, show ¬ ((4 : Int) = 8) by decide, show ¬ ((4 : Int) = 9) by decide, show ¬ ((4 : Int) = 10) by decide, show ¬ ((4 : Int) = 11) by decide, show ¬ ((4 : Int) = 12) by decide, show ¬ ((4 : Int) = 13) by decide, show ¬ ((4 : Int) = 14) by decide, show ¬ ((4 : Int) = 15) by decide, show ¬ ((4 : Int) = 16) by decide, show ¬ ((4 : Int) = 17) by decide, show ¬ ((4 : Int) = 18) by decide, show ¬ ((4 : Int) = 19) by decide, show ¬ ((4 : Int) < 0 ∨ (15 : Int) < 4) by decide, show ¬ ((4 : Int) < 0 ∨ (19 : Int) < 4) by decide, false_imp_iff, true_imp_iff, true_and, and_true]
    refine cwaiting (Or.inl rfl) hv (by omega) ?_
    exact mwaiting (by omega) (hK _ _ h)
  · have key : ∀ x y : Int, x = y → K x y m := fun x y e => by rw [e]; exact hK _ _ h
    unfold M_X11_count M_X12_count M_X12_count_J1 M_X12_count_J2
    simp only [am_rf_all, am_ln_all, within_eq, b01, prayers_eq]
    refine ⟨fun e => ?_, fun e => ?_, fun e => ?_, fun e => ?_, fun e => absurd e c, fun e => ?_, fun e => ?_, fun e => ?_, fun e => ?_, fun e => ?_, fun e => ⟨by omega, ?_⟩, fun e => ⟨by omega, ?_⟩, fun e => ⟨by omega, ?_⟩, fun e => ⟨by omega, ?_⟩, fun e => ⟨by omega, ?_⟩, fun e => ?_, fun e => ⟨fun e2 => ?_, fun e2 => ?_⟩⟩
    all_goals first
      | (have e16 : what = 16 ∨ what = 17 ∨ what = 18 ∨ what = 19 := by omega
         rcases e16 with rfl | rfl | rfl | rfl
         all_goals (unfold M_X0_term; simp [w32, am_rf_all, am_ln_all]; apply key; omega))
      | (subst e; simp [w32]; apply key; first | omega | (have r1 := hr 1 (by omega); have r2 := hr 2 (by omega); have r3 := hr 3 (by omega); have r5 := hr 5 (by omega); have r6 := hr 6 (by omega); omega))
      | (repeat' apply And.intro
         all_goals (intro q; first | (exfalso; omega) | exact key _ _ rfl))
