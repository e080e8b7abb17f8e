/-! THE JUDGE LOOKS; ranks are foreseen. -/
/-- a memory with one row put in place -/
def am_row (m : am_M) (o : Int) (g : Int → Int) : am_M := fun o' k => if o' = o then g k else m o' k
theorem row_eq (m : am_M) (o : Int) (g : Int → Int) (k : Int) : am_row m o g o k = g k := by simp [am_row]
theorem row_ne (m : am_M) {o o' : Int} (g : Int → Int) (k : Int) (h : o' ≠ o) : am_row m o g o' k = m o' k := by simp [am_row, h]
theorem row_st (m : am_M) (o : Int) (g : Int → Int) (k v : Int) : am_st (am_row m o g) o k v = am_row m o (wrA g k v) := by
  funext o' k'
  simp only [am_st_eq, am_row, wrA]
  by_cases h : o' = o
  · simp [h]
  · simp [h]
theorem row_self (m : am_M) (o : Int) : am_row m o (m o) = m := by
  funext o' k
  unfold am_row
  split
  · rename_i h; rw [h]
  · rfl
/-- the flat row is sound: most PRAYERS at most -/
def wf_A (most : Int) (A : Int → Int) : Prop := am_WA A ∧ am_WV most (A 365) A ∧ lw_W A ∧ ab_sm A
theorem wf_ok {A : Int → Int} (h : wf_A 24 A) {p : Int} (h0 : 0 ≤ p) (h1 : p < A 168) : ab_ok A p := by
  obtain ⟨hA, ⟨⟨a1, a2⟩, -, hp⟩, -⟩ := h
  have h2 := hA.2.2.1
  have := (hp p h0 h1).1
  refine ⟨by omega, ?_, ?_⟩
  · rw [Int.add_zero]; exact this.1
  · rw [Int.add_zero]; omega
theorem wf_mono {A : Int → Int} {a b : Int} (h : wf_A a A) (hab : a ≤ b) : wf_A b A := ⟨h.1, ⟨⟨h.2.1.1.1, by have := h.2.1.1.2; omega⟩, h.2.1.2⟩, h.2.2⟩
def vg_v (v : Int) : Prop := v = 12 ∨ v = 142
theorem vg_rf {v : Int} (h : vg_v v) : am_rfv v 0 = v + 1 := by rcases h with rfl | rfl <;> decide +kernel
section LOO
variable {m : am_M} {A : Int → Int} {v p day : Int}
theorem vg_get (hv : vg_P m v A) (h0 : 0 ≤ p) (h1 : p < A 168) {j : Int} (hj : 0 ≤ j ∧ j < 7) (K : am_KK) : M_X7_get (v + 1) p j K m ↔ K (A (7 * p + j)) m := by
  rw [get_eq hv.1.1, rf_get hv.1, if_pos (by omega), show 0 + (p * 7 + j) = 7 * p + j by omega]
theorem vg_getN (hv : vg_P m v A) (h1 : ¬ (0 ≤ p ∧ p < A 168)) {j : Int} (K : am_KK) : M_X7_get (v + 1) p j K m ↔ K (-1) m := by
  rw [get_eq hv.1.1, rf_get hv.1, if_neg (by omega)]
theorem vg_waits (hvv : vg_v v) (hv : vg_P m v A) (h0 : 0 ≤ p) (h1 : p < A 168) (K : am_KK) : M_X9_waits v p K m ↔ K (if A (7 * p + 5) = 0 then 1 else 0) m := by
  unfold M_X9_waits
  rw [vg_rf hvv, vg_get hv h0 h1 (by omega)]
  by_cases c : A (7 * p + 5) = 0 <;> simp [c]
theorem vg_waitsN (hvv : vg_v v) (hv : vg_P m v A) (h1 : ¬ (0 ≤ p ∧ p < A 168)) (K : am_KK) : M_X9_waits v p K m ↔ K 0 m := by
  unfold M_X9_waits
  rw [vg_rf hvv, vg_getN hv h1]
  simp
theorem vg_row (hv : vg_P m v A) (hvv : vg_v v) (g : Int → Int) : vg_P (am_row m 137 g) v A := vg_of hv (fun o k h1 h2 => row_ne m g k (by rcases hvv with rfl | rfl <;> omega)) (fun _ _ => rfl)
theorem bk_row (hB : bk_P m 1 A) (h6 : A 368 ≤ 6) (g : Int → Int) : bk_P (am_row m 137 g) 1 A := bk_of hB (fun o k h1 h2 _ => row_ne m g k (by omega)) (fun _ _ => rfl) h6
theorem people_get (hB : bk_P m 1 A) (h0 : 0 ≤ p) (h1 : p < A 365) (K : am_KK) : M_X7_get 6 p 0 K m ↔ K (A (316 + p)) m := by
  have := hB.2.2.1
  rw [show (1 : Int) + 5 = 6 by omega] at this
  rw [get_eq this.1, rf_get this, if_pos (by omega), show 316 + (p * 1 + 0) = 316 + p by omega]
theorem clook (hvv : vg_v v) (hw : wf_A 24 A) (hB : bk_P m 1 A) (hv : vg_P m v A) (h0 : 0 ≤ p) (h1 : p < A 168) (hd : 0 ≤ day ∧ day ≤ 1000000) {K : am_KK}
    (hK : ∀ m', fr_j m m' → (∀ f, 0 ≤ f → f < 8 → m' 137 f = fa_p A p day f) → K 0 m') : M_X3_look 136 1 v p day K m := by
  have h6 := hw.2.2.1.1.2
  have hok := wf_ok hw h0 h1
  have hpp := (hw.2.1.2.2 p h0 h1).1
  have hs4 := (hw.2.1.2.2 p h0 h1).2.2.2.2.1
  have hg : ∀ (j : Int), 0 ≤ j ∧ j < 7 → ∀ (g : Int → Int) (K : am_KK), M_X7_get (v + 1) p j K (am_row m 137 g) ↔ K (A (7 * p + j)) (am_row m 137 g) := fun j hj g K => vg_get (vg_row hv hvv g) h0 h1 hj K
  have hpe : ∀ (g : Int → Int) (K : am_KK), M_X7_get 6 (A (7 * p + 0)) 0 K (am_row m 137 g) ↔ K (A (316 + A (7 * p + 0))) (am_row m 137 g) := fun g K => people_get (bk_row hB h6 g) hok.2.1 (by rw [Int.add_zero]; omega) K
  have ht : ∀ (g : Int → Int) (K : am_KK), M_X0_term 1 3 K (am_row m 137 g) ↔ K (A 362) (am_row m 137 g) := fun g K => term_3 (bk_row hB h6 g) K
  rw [← row_self m 137]
  unfold M_X3_look
  rw [vg_rf hvv]
  simp only [am_rf_all, am_ln_all, hg 0 (by omega), hg 1 (by omega), hg 2 (by omega), hg 3 (by omega), hg 4 (by omega), forall_eq, row_st, row_eq, ht]
  have e2 : ∀ f : Int → Int, wrA (wrA (wrA f 0 (A (7 * p + 2))) 1 (A (7 * p + 3))) 2 (A (7 * p + 0)) 2 = A (7 * p + 0) := fun f => wrA_same _ _ _
  simp only [e2, hpe, row_st, hg 1 (by omega), hg 4 (by omega), ht]
  rw [w32_of (by omega) (by omega)]
  refine ⟨by omega, by omega, by omega, by omega, by omega, by omega, by omega, by omega, by omega, hK _ (fun o k h => ?_) (fun f f0 f8 => ?_)⟩
  · rw [row_ne _ _ _ (by omega)]
  · rw [row_eq]
    have : f = 0 ∨ f = 1 ∨ f = 2 ∨ f = 3 ∨ f = 4 ∨ f = 5 ∨ f = 6 ∨ f = 7 := by omega
    rcases this with rfl | rfl | rfl | rfl | rfl | rfl | rfl | rfl <;> simp [wrA, fa_p]
theorem cbreathOf {q : Int} (hw : wf_A 24 A) (hB : bk_P m 1 A) (h0 : 0 ≤ q) (h1 : q < A 365) (hd : 0 ≤ day ∧ day ≤ 1000000) {K : am_KK} (hK : ∀ m', fr_j m m' → K (ab_breath A q day) m') : M_X3_breathOf 136 1 q day K m := by
  have h6 := hw.2.2.1.1.2
  have hp6 := hw.1.2.2.1
  have hpe : ∀ (g : Int → Int) (K : am_KK), M_X7_get 6 q 0 K (am_row m 137 g) ↔ K (A (316 + q)) (am_row m 137 g) := fun g K => people_get (bk_row hB h6 g) h0 h1 K
  have ht : ∀ (g : Int → Int) (K : am_KK), M_X0_term 1 3 K (am_row m 137 g) ↔ K (A 362) (am_row m 137 g) := fun g K => term_3 (bk_row hB h6 g) K
  rw [← row_self m 137]
  unfold M_X3_breathOf
  simp only [am_rf_all, am_ln_all, forall_eq, row_st, hpe, ht]
  refine ⟨by omega, by omega, by omega, by omega, by omega, by omega, by omega, by omega, ?_⟩
  refine ctells (env := fa_b A q day) (bk_row hB h6 _) hw.2.2.1 (by omega) (fun f f0 f8 => ?_) (fa_b_le hw.2.2.2 (by omega) hd) (fun m' hm' => hK m' (fun o k h => ?_))
  · rw [row_eq]
    have : f = 0 ∨ f = 1 ∨ f = 2 ∨ f = 3 ∨ f = 4 ∨ f = 5 ∨ f = 6 ∨ f = 7 := by omega
    rcases this with rfl | rfl | rfl | rfl | rfl | rfl | rfl | rfl <;> simp [wrA, fa_b]
  · rw [hm' o k (by omega), row_ne _ _ _ (by omega)]
theorem cforesee {dawn : Int} (hvv : vg_v v) (hw : wf_A 24 A) (hB : bk_P m 1 A) (hv : vg_P m v A) (h0 : 0 ≤ p) (h1 : p < A 168) (hd : 0 ≤ day ∧ day ≤ 1000000) (hdn : 0 ≤ dawn ∧ dawn ≤ 20) {K : am_KK}
    (hK : ∀ m', (∀ o k, ¬ (o = 137 ∨ o = 139) → m' o k = am_st m 141 (dawn * 24 + p) (ab_fore A p day) o k) → K 0 m') : M_X2_foresee 140 1 v p dawn day K m := by
  have h6 := hw.2.2.1.1.2
  have hok := wf_ok hw h0 h1
  have h24 := hw.2.1.1
  have r1 : am_rfv 140 1 = 136 := by decide +kernel
  have r0 : am_rfv 140 0 = 141 := by decide +kernel
  have l1 : am_len 141 = 504 := by decide +kernel
  unfold M_X2_foresee M_X2_isForeseen
  simp only [within_eq, b01, b01']
  have c1 : 0 ≤ p ∧ p ≤ 23 := by omega
  have c2 : 0 ≤ dawn ∧ dawn ≤ 20 := hdn
  have c3 : (1 : Int) ≠ 0 := by decide
  simp only [c1, c2, not_true_eq_false, false_imp_iff, true_imp_iff, not_false_eq_true, true_and, and_true, and_self, c3, ne_eq, r1, r0]
  have hE := fa_p_le (day := day) hw.2.2.2 hok hd
  refine clook hvv hw hB hv h0 h1 hd (fun m1 f1 f2 => ?_)
  have hB1 : bk_P m1 1 A := bk_of hB (fun o k _ _ _ => f1 o k (by omega)) (fun _ _ => rfl) h6
  refine ctells (env := fa_p A p day) hB1 hw.2.2.1 (by omega) f2 hE (fun m2 f3 => ?_)
  have hB2 : bk_P m2 1 A := bk_of hB1 (fun o k _ _ _ => f3 o k (by omega)) (fun _ _ => rfl) h6
  have hv2 : vg_P m2 v A := vg_of hv (fun o k _ _ => by rw [f3 o k (by rcases hvv with rfl | rfl <;> omega), f1 o k (by rcases hvv with rfl | rfl <;> omega)]) (fun _ _ => rfl)
  have f4 : ∀ f, 0 ≤ f → f < 8 → m2 137 f = fa_p A p day f := fun f g0 g8 => by rw [f3 _ _ (by omega)]; exact f2 f g0 g8
  unfold M_X2_foresee_J1 M_X2_foresee_J2
  rw [vg_rf hvv, vg_get hv2 h0 h1 (by omega), vg_get hv2 h0 h1 (by omega)]
  simp only [r1, r0, l1, forall_eq, ite_br]
  rw [w32_of (z := dawn * 24) (by omega) (by omega), w32_of (z := dawn * 24 + p) (by omega) (by omega)]
  unfold ab_fore ab_bar at hK
  have c4 : ¬ ((1 : Int) = 0) := by decide
  simp only [if_neg c4, if_true]
  by_cases c : lw_tell A 2 0 1 (fa_p A p day) 0 = 1
  · rw [if_pos c] at hK
    rw [if_neg (by simp [c])]
    refine ⟨by omega, hK _ (fun o k h => ?_)⟩
    simp only [am_st_eq]
    rw [f3 o k (by omega), f1 o k (by omega)]
  · rw [if_neg c] at hK
    rw [if_pos c]
    refine ctells (env := fa_p A p day) hB2 hw.2.2.1 (by omega) f4 hE (fun m3 f5 => ⟨by omega, hK _ (fun o k h => ?_)⟩)
    simp only [am_st_eq]
    rw [f5 o k (by omega), f3 o k (by omega), f1 o k (by omega)]
    rfl
end LOO
