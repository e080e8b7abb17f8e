/-! ORDERS: both sides from where the one side is ready. -/
section OFI
variable {m m6 g0 : am_M} {A1 : Int → Int} {cs : List pz_C} {B : Int → Int} {n : Int}
theorem fr_v_w {m7 : am_M} (f7 : ∀ o k, ¬ (o = 137 ∨ o = 139 ∨ o = 141 ∨ (o = 140 ∧ (k = 2 ∨ k = 3)) ∨ (o = 12 ∧ k = 1) ∨ (o = 13 ∧ k = 2) ∨ o = 14 ∨ (o = 148 ∧ k = 2) ∨ o = 149 ∨ (o = 166 ∧ ¬ (4 ≤ k ∧ k ≤ 7)) ∨ (o = 0 ∧ (k = 17 ∨ k = 19)) ∨ o = 167) → m7 o k = m6 o k) : fr_v m6 m7 := fun o k ho => f7 o k (by omega)
theorem ordfin (h : Rel m) (F6 : fr_v m m6) (q6 : ∀ o k, 167 ≤ o → m6 o k = m o k) (P6 : pz_PG m6 131 cs) (d129 : m6 129 2 = 0) (d135 : m6 135 6 = -1) (d19 : m6 0 19 = -1) (d166 : ∀ k, m6 166 k = m 166 k) (R0 : oc_R m6 g0) (L0 : oc_L m6 g0) (E6 : cw_E m6 A1) (hwg : wg_A A1) (G0 : or_G A1 g0) (g170 : g0 170 = A1) (g0o : ∀ o k, o ≠ 170 → g0 o k = m o k) (hcx : ∀ x ∈ cs, pz_cok 24 x)
    (Hs : ms_H m B n) (hn : m 168 13 = n) (hn0 : 0 ≤ n) (hrd : pz_read 1 (tz_c B n) (tz_v B n) (tz_N B n) = .inr cs) (h4 : 0 ≤ tz_N B n ∧ tz_N B n ≤ 400) (h0 : ∀ x, tz_N B n ≤ x → tz_c B n x = 0) (hv : ∀ x, 0 ≤ tz_v B n x) (hA1 : or_A (m 170) (tz_c B n) (tz_v B n) (tz_N B n) = A1) {K : Int → Int → am_M → Prop} (hK : ∀ r m', Rel m' → K r r m') : M_X11_orders_L1 0 0 0 (fun r m7 => M_X12_orders 168 (fun r' m' => K r r' m') m7) m6 := by
  obtain ⟨RES, hRES⟩ : ∃ R, or_c (or_S A1) cs 0 g0 0 = R := ⟨_, rfl⟩
  have hre := h.2.2.2.2.1
  have hww := h.2.2.2.2.2.2.2.2
  have hz6 : ∀ k, 4 ≤ k → k ≤ 7 → m6 166 k = 0 := fun k k0 k1 => by rw [d166]; exact hww.2.2 k k0 k1
  have hmr := fun (m7 : am_M) (K : am_KK) (c7 : ∀ o k, 168 ≤ o → m7 o k = m o k) k1 k2 => morun (m := m7) (B := B) (n := n) (A := m 170) (g0 := g0) (cs := cs) (RES := RES) (K := K) (ms_H_of Hs (fun o k ho => c7 o k (by omega))) (by rw [c7 _ _ (by omega)]; exact hn) hn0 hrd h4 h0 hv (funext fun x => c7 _ _ (by omega)) (by rw [hA1]; exact hwg) (by rw [hA1]; exact G0) (by rw [hA1]; exact g170) (by rw [g0o _ _ (by omega), c7 _ _ (by omega)]) (fun y => by rw [g0o _ _ (by omega), c7 _ _ (by omega)]) (by rw [hA1]; exact hRES) k1 k2
  clear Hs hn hn0 hrd h4 h0 hv hA1 hww
  refine corders (A0 := A1) (A1 := A1) (g0 := g0) (RES := RES) hwg P6 hcx G0 R0 E6 hz6 L0 hRES (fun o0 m7 f7 G7 R7 z17 => ?_) (fun o0 hcd m7 f7 R7 z17 z19 w1 w2 => ?_)
  · have f7' : ∀ o k, ¬ (o = 137 ∨ o = 139 ∨ o = 141 ∨ (o = 140 ∧ (k = 2 ∨ k = 3)) ∨ (o = 12 ∧ k = 1) ∨ (o = 13 ∧ k = 2) ∨ o = 14 ∨ (o = 148 ∧ k = 2) ∨ o = 149 ∨ (o = 166 ∧ ¬ (4 ≤ k ∧ k ≤ 7)) ∨ (o = 0 ∧ (k = 17 ∨ k = 19)) ∨ o = 167) → m7 o k = m6 o k := fun o k ho => f7 o k (by omega)
    have c7 : ∀ o k, 168 ≤ o → m7 o k = m o k := fun o k ho => by rw [f7 o k (by omega)]; exact q6 o k (by omega)
    have c167 : ∀ k, m7 167 k = m 167 k := fun k => by rw [f7 _ _ (by omega)]; exact q6 _ _ (by omega)
    have e19 : m7 0 19 = -1 := by rw [f7 _ _ (by omega)]; exact d19
    have e129 : m7 129 2 = 0 := by rw [f7 _ _ (by omega)]; exact d129
    have e135 : m7 135 6 = -1 := by rw [f7 _ _ (by omega)]; exact d135
    have k133 : rk m7 133 7 84 := rk_of P6.2.2.2.1 (f7 _ _ (by omega)) (f7 _ _ (by omega))
    have F7 := fr_v_t F6 (fr_v_w f7')
    clear f7 f7' F6 q6 P6
    refine hmr m7 _ c7 (fun _ m8 f8 w169 R8 z0 z48 z13 z14 => ?_) (fun o1 => absurd o0 o1)
    refine hK _ _ (Rel_ord (m1 := m7) (g := RES.2.2.1) (A1 := A1) h F7 f8 G7 R7 R8 e129 z13 (by rw [z17, z0]) (by rw [e19, z48]) (by rw [e135, z14]) k133 (re_of hre (fun o x ho => ?_)))
    rcases ho with ho | ho
    · rw [ho, f8 _ _ (by omega)]; exact c167 _
    · rw [ho, w169, c7 _ _ (by omega)]
  · have f7' : ∀ o k, ¬ (o = 137 ∨ o = 139 ∨ o = 141 ∨ (o = 140 ∧ (k = 2 ∨ k = 3)) ∨ (o = 12 ∧ k = 1) ∨ (o = 13 ∧ k = 2) ∨ o = 14 ∨ (o = 148 ∧ k = 2) ∨ o = 149 ∨ (o = 166 ∧ ¬ (4 ≤ k ∧ k ≤ 7)) ∨ (o = 0 ∧ (k = 17 ∨ k = 19)) ∨ o = 167) → m7 o k = m6 o k := fun o k ho => f7 o k (by omega)
    have c7 : ∀ o k, 168 ≤ o → m7 o k = m o k := fun o k ho => by rw [f7 o k (by omega)]; exact q6 o k (by omega)
    have c167 : ∀ k, m6 167 k = m 167 k := fun k => q6 _ _ (by omega)
    have e129 : m7 129 2 = 0 := by rw [f7 _ _ (by omega)]; exact d129
    have e135 : m7 135 6 = -1 := by rw [f7 _ _ (by omega)]; exact d135
    have k133 : rk m7 133 7 84 := rk_of P6.2.2.2.1 (f7 _ _ (by omega)) (f7 _ _ (by omega))
    have F7 := fr_v_t F6 (fr_v_w f7')
    clear f7 f7' F6 q6 P6
    refine hmr m7 _ c7 (fun o1 => absurd o1 o0) (fun _ _ m8 f8 u1 u2 R8 z0 z48 z13 z14 => ?_)
    have lw : ∀ k, m8 167 k = m7 167 k := fun k => f8 _ _ (by omega)
    have hre8 : re_P m8 := by
      refine re_count (r := -RES.1) hre (by omega) ?_ ?_ (fun j hj => ⟨?_, ?_⟩)
      · rw [lw, w1, c167]
      · rw [u1, c7 _ _ (by omega)]
      · rw [lw, w2 j hj, c167]
      · rw [u2 j hj, c7 _ _ (by omega)]
    exact hK _ _ (Rel_ord (m1 := m7) (g := g0) (A1 := A1) h F7 f8 G0 R7 R8 e129 z13 (by rw [z17, z0]) (by rw [z19, z48]) (by rw [e135, z14]) k133 hre8)
end OFI
