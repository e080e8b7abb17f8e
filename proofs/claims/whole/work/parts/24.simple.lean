/-! CALLS of one clause. -/
/-- a row more, of width 1 -/
theorem rk_opened {m : am_M} {r w cap n : Int} (h : rk m r w cap) (hn : m r 2 = n) (hc : (n + 1) * w ≤ cap) : rk (am_st m r 2 (n + 1)) r w cap := by
  refine rk_to h (by rw [am_st_ne m (by omega)]) ?_
  rw [am_st_same]
  exact ⟨by have := h.2.2.1; omega, hc⟩
theorem cword_eq {m : am_M} {A : Int → Int} (h : am_RF m 2 1 10 A 363 170) (a : Int) (K : am_KK) : M_X11_word 0 a K m ↔ if 1 ≤ a ∧ a ≤ 9 then (if A 363 < 10 then K (A 363) (am_st (am_st (am_st m 2 2 (A 363 + 1)) 3 (A 363) a) 0 17 0) else K (-5) (am_st (am_st m 0 17 (-5)) 167 5 (w32 (m 167 5 + 1)))) else K (-1) (am_st (am_st m 0 17 (-1)) 167 1 (w32 (m 167 1 + 1))) := by
  have h0 := h.1.2.2.1
  rw [h.2.1] at h0
  unfold M_X11_word
  simp only [within_eq, am_rf_all, b01, b01']
  by_cases c : 1 ≤ a ∧ a ≤ 9
  · rw [rf_open h, if_pos c]
    by_cases c2 : A 363 < 10
    · have k := rk_opened h.1 h.2.1 (by omega)
      rw [if_pos (by omega), if_pos c2]
      have e : A 363 ≠ -1 := by omega
      simp only [set_eq k, fine_eq, am_st_same]
      rw [if_pos (by omega)]
      simp [c, e]
    · rw [if_neg (by omega), if_neg c2]
      simp only [refuse_eq (Or.inr (Or.inr (Or.inr (Or.inl rfl))))]
      simp [c]
  · rw [if_neg c]
    simp only [refuse_eq (Or.inl rfl)]
    simp [c]
theorem mword_eq {m : am_M} (h0 : 0 ≤ m 170 363 ∧ m 170 363 ≤ 10) (a : Int) (K : am_KK) : M_X12_word 168 a K m ↔ if 1 ≤ a ∧ a ≤ 9 then (if m 170 363 < 10 then K (m 170 363) (am_st (am_st (am_st m 170 (170 + m 170 363) a) 170 363 (m 170 363 + 1)) 168 0 0) else K (-5) (am_st (am_st m 168 0 (-5)) 169 5 (w32 (m 169 5 + 1)))) else K (-1) (am_st (am_st m 168 0 (-1)) 169 1 (w32 (m 169 1 + 1))) := by
  unfold M_X12_word
  simp only [lies_eq, am_rf_all, am_ln_all, b01, b01', good_eq, refuses_eq (Or.inl rfl), refuses_eq (Or.inr (Or.inr (Or.inr (Or.inl rfl))))]
  simp only [forall_eq]
  rw [w32_of (z := 170 + m 170 363) (by omega) (by omega)]
  by_cases c : 1 ≤ a ∧ a ≤ 9
  · by_cases c2 : m 170 363 < 10
    · have e : m 170 363 ≠ 10 := by omega
      have e1 : (0 : Int) ≤ 170 + m 170 363 ∧ 170 + m 170 363 < 5977 := by omega
      have e2 : ¬ (363 = 170 + m 170 363) := by omega
      simp [c, c2, e, e1, e2, am_st_ne, w32_of (z := m 170 363 + 1) (by omega) (by omega)]
    · have e : m 170 363 = 10 := by omega
      simp [c, e]
  · simp [c]
