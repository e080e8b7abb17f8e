/-! ORDERS: both sides. -/
section JOR
variable {m m' g : am_M} {A1 : Int → Int}
/-- what the one side's orders change -/
def fr_v (m m' : am_M) : Prop := ∀ o k, ¬ ((o = 0 ∧ (k = 17 ∨ k = 19)) ∨ (o = 12 ∧ k = 1) ∨ (o = 13 ∧ k = 2) ∨ o = 14 ∨ (o = 129 ∧ k = 2) ∨ (o = 131 ∧ k = 1) ∨ o = 132 ∨ (o = 133 ∧ k = 2) ∨ o = 134 ∨ (o = 135 ∧ (k = 2 ∨ k = 3 ∨ k = 4 ∨ k = 5 ∨ k = 6)) ∨ o = 137 ∨ o = 139 ∨ o = 141 ∨ (o = 140 ∧ (k = 2 ∨ k = 3)) ∨ (o = 145 ∧ k = 1) ∨ (o = 146 ∧ k = 2) ∨ o = 147 ∨ (o = 148 ∧ k = 2) ∨ o = 149 ∨ (o = 150 ∧ k = 2) ∨ o = 151 ∨ o = 153 ∨ o = 154 ∨ o = 155 ∨ (o = 166 ∧ ¬ (4 ≤ k ∧ k ≤ 7)) ∨ o = 167) → m' o k = m o k
theorem Rel_ord {m1 : am_M} (h : Rel m) (F : fr_v m m1) (U : fr_u m1 m') (G : or_G A1 g) (R1 : oc_R m1 g) (R2 : om_R m' g) (e129 : m1 129 2 = 0) (e13 : m' 168 13 = 0) (z17 : m1 0 17 = m' 168 0) (z19 : m1 0 19 = m' 168 48) (z6 : m1 135 6 = m' 168 14) (h133 : rk m1 133 7 84) (hre : re_P m') : Rel m' := by
  obtain ⟨⟨hb, hv, hf, hH⟩, -, htp, hsc, -, hud, -, -, hww⟩ := id h
  obtain ⟨t1, t2, t3, t4⟩ := id htp
  obtain ⟨g1, g2, g3, g4⟩ := id G
  have lw : ∀ o k, o < 168 → m' o k = m1 o k := fun o k ho => U o k (by omega)
  refine Rel_mk2 h (fun o k ho => by rw [U o k (by omega)]; exact F o k (by omega)) ?_ ?_ (by rw [R2.1]; exact g2) (by rw [R2.1]; exact g3) ⟨rk_to t1 (by rw [lw _ _ (by omega)]; exact F _ _ (by omega)) (by rw [lw _ _ (by omega), e129]; omega), by rw [lw _ _ (by omega), e129, e13], by rw [e13]; omega, fun x x0 x1 => by omega⟩ ⟨by rw [lw _ _ (by omega)]; exact z17, by rw [U 0 18 (by omega), U 168 6 (by omega), F 0 18 (by omega), F 168 6 (by omega)]; exact hsc.2.1, by rw [lw _ _ (by omega)]; exact z19, by rw [lw _ _ (by omega)]; exact z6⟩ hre ?_ (fun q hq => ?_) ⟨rk_of h133 (lw _ _ (by omega)) (lw _ _ (by omega)), fun k k0 k1 => by rw [U _ _ (by omega), F _ _ (by omega)]; exact hww.2.1 k k0 k1, fun k k0 k1 => by rw [U _ _ (by omega), F _ _ (by omega)]; exact hww.2.2 k k0 k1⟩
  · rw [R2.1]
    exact bk_of R1.1 (fun o k _ _ _ => lw o k (by omega)) (fun _ _ => rfl) g2.2.2.1.1.2
  · rw [R2.1]
    exact vg_of R1.2.1 (fun o k _ _ => lw o k (by omega)) (fun _ _ => rfl)
  · refine ud_loc (g := g) g1 ?_ ?_ R2.2.1 (fun j j0 j1 => by rw [lw _ _ (by omega)]; exact R1.2.2.2.2 j j0 j1) R2.2.2 R2.1
    · rw [lw _ _ (by omega), R1.2.2.1.2.1, g1.1.2.1]
    · rw [lw _ _ (by omega), R1.2.2.2.1, g1.2.1]
  · have := wd_ne q hq
    rw [lw _ _ (by omega)]
    refine F _ _ ?_
    omega
end JOR
