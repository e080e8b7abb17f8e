/-! ORDERS: the one side gets ready. -/
section OPR
variable {m m3 g0 : am_M} {A1 : Int → Int} {cs : List pz_C}
theorem fr_v_t {a b c : am_M} (h : fr_v a b) (k : fr_v b c) : fr_v a c := fun o x q => by rw [k o x q, h o x q]
def fr_c (m m' : am_M) : Prop := ∀ o k, ¬ ((o = 129 ∧ k = 2) ∨ (o = 0 ∧ k = 19) ∨ (o = 135 ∧ (k = 2 ∨ k = 3 ∨ k = 4 ∨ k = 5 ∨ k = 6)) ∨ (o = 131 ∧ k = 1) ∨ o = 132 ∨ (o = 133 ∧ k = 2) ∨ o = 134) → m' o k = m o k
theorem fr_v_c (h : fr_c m m3) : fr_v m m3 := fun o k ho => h o k (by omega)
theorem otake (hv : vg_P m 12 (m 170)) (hwd : wd_P m) (hud : ud_P m) (h16 : m 170 168 ≤ 16) (f3 : fr_c m m3) {X : am_M → Prop} (hX : ∀ m5, (∀ o k, ¬ ((o = 145 ∧ k = 1) ∨ (o = 146 ∧ k = 2) ∨ o = 147 ∨ (o = 150 ∧ k = 2) ∨ o = 151) → m5 o k = m3 o k) → vg_P m5 145 (m 170) → rk m5 150 1 16 → m5 150 2 = m 168 38 → (∀ j, 0 ≤ j → j < m 168 38 → m5 151 j = m 149 j) → X m5) : M_X9_takeFrom 145 12 (fun _ m_28 => M_X7_takeFrom 150 148 (fun _ m_30 => X m_30) m_28) m3 := by
  have hu16 := hud.2.2.1
  have hv3 : vg_P m3 12 (m 170) := vg_of hv (fun o k _ _ => f3 o k (by omega)) (fun _ _ => rfl)
  have w146 : m3 146 1 = 7 := by rw [f3 _ _ (by omega)]; exact hwd (146, 7) (by decide)
  refine vg_take (v := 145) (v2 := 12) ⟨by decide +kernel, by decide +kernel, by decide, by decide, by decide, by decide⟩ (by decide +kernel) (by decide +kernel) w146 hv3 (by omega) (by omega) (fun m4 v4 f4 => ?_)
  have rs150 : rs 150 1 16 := ⟨by decide +kernel, by decide +kernel, by decide, by decide, by decide, by decide⟩
  have w150 : m4 150 1 = 1 := by rw [f4 _ _ (by omega), f3 _ _ (by omega)]; exact hwd (150, 1) (by decide)
  have k148 : rk m4 148 1 16 := rk_of hud.1 (by rw [f4 _ _ (by omega)]; exact f3 _ _ (by omega)) (by rw [f4 _ _ (by omega)]; exact f3 _ _ (by omega))
  have e148 : m4 148 2 = m 168 38 := by rw [f4 _ _ (by omega), f3 _ _ (by omega)]; exact hud.2.1
  rw [takeFrom_w rs150 w150 k148 (by rw [e148]; omega) (by omega), e148]
  generalize hm5 : am_st (am_cp m4 (148 + 1) 0 (150 + 1) 0 (m 168 38 * 1)) 150 2 (m 168 38) = m5
  have f5 : ∀ o k, ¬ ((o = 150 ∧ k = 2) ∨ o = 151) → m5 o k = m4 o k := fun o k ho => by rw [← hm5, am_st_ne _ (by omega), am_cp_eq, if_neg (by omega)]
  have e5 : m5 150 2 = m 168 38 := by rw [← hm5, am_st_same]
  have e5' : ∀ j, 0 ≤ j → j < m 168 38 → m5 151 j = m 149 j := fun j j0 j1 => by
    rw [← hm5, am_st_ne _ (by omega), am_cp_eq, if_pos (by omega), f4 _ _ (by omega), f3 _ _ (by omega), show 0 + (j - 0) = j by omega]
    rfl
  clear hm5
  exact hX m5 (fun o k ho => by rw [f5 o k (by omega)]; exact f4 o k (by omega)) (vg_of v4 (fun o k _ _ => f5 o k (by omega)) (fun _ _ => rfl)) ⟨rs150, by rw [f5 _ _ (by omega)]; exact w150, by rw [e5]; omega⟩ e5 e5'
theorem oprep (h : Rel m) (f3 : fr_c m m3) (P3 : pz_PG m3 131 cs) (hWA : am_WA A1) (hwg : wg_A A1) (hb1 : bk_P m 1 A1) (lo : ∀ x, x < 370 → A1 x = m 170 x) (g170 : g0 170 = A1) (g0o : ∀ o k, o ≠ 170 → g0 o k = m o k) {X : am_M → Prop} (hX : ∀ m6, fr_v m m6 → (∀ o k, 167 ≤ o → m6 o k = m o k) → pz_PG m6 131 cs → m6 129 2 = m3 129 2 → m6 135 6 = m3 135 6 → m6 0 19 = m3 0 19 → (∀ k, m6 166 k = m 166 k) → oc_R m6 g0 → oc_L m6 g0 → cw_E m6 A1 → X m6) : M_X9_takeFrom 145 12 (fun _ m_28 => M_X7_takeFrom 150 148 (fun _ m_30 => M_X10_find 152 1 (fun _ m_32 => X m_32) m_30) m_28) m3 := by
  obtain ⟨⟨hb, hv, hf, hH⟩, -, -, -, -, hud, -, hwd, -⟩ := h
  have l6 := hf.2.2.1.1
  have h16 := hf.2.1.1
  refine otake (X := fun m_30 => M_X10_find 152 1 (fun _ m_32 => X m_32) m_30) hv hwd hud h16.2 f3 (fun m5 f5 v5 k5 e5 e5' => ?_)
  have b5 : bk_P m5 1 A1 := bk_of hb1 (fun o k _ _ _ => by rw [f5 o k (by omega)]; exact f3 o k (by omega)) (fun _ _ => rfl) (by rw [lo _ (by omega)]; exact l6.2)
  refine cfind hwg hWA b5 (fun m6 f6 E6 => ?_)
  have q6 : ∀ o k, (o = 12 ∨ o = 13 ∨ o = 14 ∨ o = 148 ∨ o = 149 ∨ 166 ≤ o) → m6 o k = m o k := fun o k ho => by
    rw [f6 o k (by omega), f5 o k (by omega)]
    exact f3 o k (by omega)
  have P6 : pz_PG m6 131 cs := pz_PG_of P3 (fun o k ho => by rw [f6 o k (by omega)]; exact f5 o k (by omega))
  refine hX m6 (fr_v_t (fr_v_c f3) (fun o k ho => by rw [f6 o k (by omega)]; exact f5 o k (by omega))) (fun o k ho => q6 o k (by omega)) P6 (by rw [f6 _ _ (by omega)]; exact f5 _ _ (by omega)) (by rw [f6 _ _ (by omega)]; exact f5 _ _ (by omega)) (by rw [f6 _ _ (by omega)]; exact f5 _ _ (by omega)) (fun k => q6 _ _ (by omega)) ?_ ?_ E6
  · refine ⟨by rw [g170]; exact bk_of b5 (fun o k _ _ _ => f6 o k (by omega)) (fun _ _ => rfl) (by rw [lo _ (by omega)]; exact l6.2), by rw [g170]; exact vg_of hv (fun o k _ _ => q6 o k (by omega)) (fun x hx => lo x (by omega)), rk_of hud.1 (q6 _ _ (by omega)) (q6 _ _ (by omega)), by rw [q6 _ _ (by omega), g0o _ _ (by omega)]; exact hud.2.1, fun j j0 j1 => by rw [q6 _ _ (by omega), g0o _ _ (by omega)]⟩
  · refine ⟨?_, ⟨?_, ?_, fun j j0 j1 => ?_⟩, ?_, ?_⟩
    · rw [g170]
      exact vg_of v5 (fun o k _ _ => f6 o k (by omega)) (fun x hx => lo x (by omega))
    · exact rk_of k5 (f6 _ _ (by omega)) (f6 _ _ (by omega))
    · rw [f6 _ _ (by omega), e5, g0o _ _ (by omega)]
    · rw [g0o _ _ (by omega)] at j1
      rw [f6 _ _ (by omega), e5' j j0 j1, g0o _ _ (by omega)]
    · rw [q6 _ _ (by omega)]; exact hwd (13, 7) (by decide)
    · rw [q6 _ _ (by omega)]; exact hud.1.2.1
end OPR
