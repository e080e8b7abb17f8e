/-! CALLS that are said of one clause each. -/
theorem refuse_eq {by_ : Int} (h : by_ = -1 ∨ by_ = -2 ∨ by_ = -3 ∨ by_ = -5 ∨ by_ = -6) (K : am_KK) (m : am_M) : M_X11_refuse 0 by_ K m ↔ K by_ (am_st (am_st m 0 17 by_) 167 (-by_) (w32 (m 167 (-by_) + 1))) := by
  unfold M_X11_refuse
  simp only [within_eq, am_rf_all, am_ln_all]
  rcases h with rfl | rfl | rfl | rfl | rfl <;> simp [w32, am_st_eq]
theorem refuses_eq {by_ : Int} (h : by_ = -1 ∨ by_ = -2 ∨ by_ = -3 ∨ by_ = -5 ∨ by_ = -6) (K : am_KK) (m : am_M) : M_X12_refuses 168 by_ K m ↔ K by_ (am_st (am_st m 168 0 by_) 169 (-by_) (w32 (m 169 (-by_) + 1))) := by
  unfold M_X12_refuses
  simp only [am_rf_all, am_ln_all]
  rcases h with rfl | rfl | rfl | rfl | rfl <;> simp [w32, am_st_eq]
