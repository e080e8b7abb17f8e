/-! SWEEP: who was heard goes, who waits moves up. -/
/-- so many kept of the first n, and the row then -/
def sw (A : Int → Int) : Nat → Int × (Int → Int)
  | 0 => (0, A)
  | n + 1 => if A (7 * (n : Int) + 5) = 0 then ((sw A n).1 + 1, fun x => if 7 * (sw A n).1 ≤ x ∧ x < 7 * (sw A n).1 + 7 then A (7 * (n : Int) + (x - 7 * (sw A n).1)) else (sw A n).2 x) else sw A n
theorem sw_k (A : Int → Int) (n : Nat) : 0 ≤ (sw A n).1 ∧ (sw A n).1 ≤ (n : Int) := by
  induction n with
  | zero => exact ⟨Int.le_refl _, Int.le_refl _⟩
  | succ n ih =>
    unfold sw
    split
    · constructor
      · show (0 : Int) ≤ (sw A n).1 + 1
        omega
      · show (sw A n).1 + 1 ≤ _
        omega
    · omega
theorem sw_hi (A : Int → Int) (n : Nat) (x : Int) (h : x < 0 ∨ 7 * (sw A n).1 ≤ x) : (sw A n).2 x = A x := by
  induction n with
  | zero => rfl
  | succ n ih =>
    have hk := sw_k A n
    unfold sw at h ⊢
    by_cases c : A (7 * (n : Int) + 5) = 0
    · rw [if_pos c] at h ⊢
      have h' : x < 0 ∨ 7 * ((sw A n).1 + 1) ≤ x := h
      show (if 7 * (sw A n).1 ≤ x ∧ x < 7 * (sw A n).1 + 7 then _ else (sw A n).2 x) = A x
      rw [if_neg (by omega)]
      exact ih (by omega)
    · rw [if_neg c] at h ⊢
      exact ih h
/-- every kept one is one that waits -/
theorem sw_lo (A : Int → Int) (n : Nat) (i : Int) (h0 : 0 ≤ i) (h1 : i < (sw A n).1) : ∃ p, 0 ≤ p ∧ p < (n : Int) ∧ A (7 * p + 5) = 0 ∧ ∀ j, 0 ≤ j → j < 7 → (sw A n).2 (7 * i + j) = A (7 * p + j) := by
  induction n with
  | zero => exact absurd h1 (by show ¬ i < 0; omega)
  | succ n ih =>
    have hk := sw_k A n
    by_cases c : A (7 * (n : Int) + 5) = 0
    · have e : sw A (n + 1) = ((sw A n).1 + 1, fun x => if 7 * (sw A n).1 ≤ x ∧ x < 7 * (sw A n).1 + 7 then A (7 * (n : Int) + (x - 7 * (sw A n).1)) else (sw A n).2 x) := by
        rw [sw, if_pos c]
      rw [e] at h1 ⊢
      have h1' : i < (sw A n).1 + 1 := h1
      by_cases ci : i < (sw A n).1
      · obtain ⟨p, p0, p1, p2, p3⟩ := ih ci
        refine ⟨p, p0, by omega, p2, fun j j0 j1 => ?_⟩
        show (if 7 * (sw A n).1 ≤ 7 * i + j ∧ 7 * i + j < 7 * (sw A n).1 + 7 then _ else (sw A n).2 (7 * i + j)) = _
        rw [if_neg (by omega)]
        exact p3 j j0 j1
      · refine ⟨n, by omega, by omega, c, fun j j0 j1 => ?_⟩
        show (if 7 * (sw A n).1 ≤ 7 * i + j ∧ 7 * i + j < 7 * (sw A n).1 + 7 then A (7 * (n : Int) + (7 * i + j - 7 * (sw A n).1)) else _) = _
        rw [if_pos (by omega)]
        congr 1; omega
    · have e : sw A (n + 1) = sw A n := by rw [sw, if_neg c]
      rw [e] at h1 ⊢
      obtain ⟨p, p0, p1, p2⟩ := ih h1
      exact ⟨p, p0, by omega, p2⟩
/-- the row when all is done -/
def sw_A (A : Int → Int) : Int → Int := wrA (sw A (A 168).toNat).2 168 (sw A (A 168).toNat).1
theorem sw_A_hi {A : Int → Int} (h : 0 ≤ A 168 ∧ A 168 ≤ 24) {x : Int} (hx : 169 ≤ x) : sw_A A x = A x := by
  have := sw_k A (A 168).toNat
  unfold sw_A
  rw [wrA_ne _ (by omega), sw_hi _ _ _ (by omega)]
theorem sw_A_W {A : Int → Int} (hw : wf_A 16 A) (hH : wf_H A) : wf_A 16 (sw_A A) ∧ wf_H (sw_A A) := by
  obtain ⟨g1, g2, g3⟩ := hw.2.1
  have hk := sw_k A (A 168).toNat
  have e168 : sw_A A 168 = (sw A (A 168).toNat).1 := wrA_same _ _ _
  have elo : ∀ x, x < 168 → sw_A A x = (sw A (A 168).toNat).2 x := fun x hx => wrA_ne _ (by omega)
  refine ⟨wf_of hw (fun x hx => sw_A_hi (by omega) (by omega)) ⟨by rw [e168]; omega, by rw [sw_A_hi (by omega) (by omega)]; exact g2, fun i i0 i1 => ?_⟩ (fun x x0 x1 => ?_), fun i i0 i1 i2 => ?_⟩
  · rw [e168] at i1
    obtain ⟨p, p0, p1, p2, p3⟩ := sw_lo A _ i i0 i1
    have a0 := p3 0 (by omega) (by omega)
    rw [Int.add_zero, Int.add_zero] at a0
    rw [elo _ (by omega), elo _ (by omega), elo _ (by omega), elo _ (by omega), elo _ (by omega), elo _ (by omega), elo _ (by omega), a0, p3 1 (by omega) (by omega), p3 2 (by omega) (by omega), p3 3 (by omega) (by omega), p3 4 (by omega) (by omega), p3 5 (by omega) (by omega), p3 6 (by omega) (by omega)]
    exact g3 p p0 (by omega)
  · by_cases c8 : x = 168
    · subst c8; rw [e168]; omega
    · by_cases c : x < 7 * (sw A (A 168).toNat).1
      · obtain ⟨p, p0, p1, p2, p3⟩ := sw_lo A (A 168).toNat (x / 7) (by omega) (by omega)
        have := p3 (x % 7) (by omega) (by omega)
        rw [show 7 * (x / 7) + x % 7 = x by omega] at this
        rw [elo _ (by omega), this]
        exact hw.2.2.2 _ (by omega) (by omega)
      · unfold sw_A
        rw [wrA_ne _ c8, sw_hi _ _ _ (by omega)]
        exact hw.2.2.2 x x0 x1
  · rw [e168] at i1
    obtain ⟨p, p0, p1, p2, p3⟩ := sw_lo A _ i i0 i1
    rw [elo _ (by omega), p3 6 (by omega) (by omega)]
    exact hH p p0 (by omega) p2
theorem sw_succ {A : Int → Int} {i : Int} (h : 0 ≤ i) : sw A (i + 1).toNat = if A (7 * i + 5) = 0 then ((sw A i.toNat).1 + 1, fun x => if 7 * (sw A i.toNat).1 ≤ x ∧ x < 7 * (sw A i.toNat).1 + 7 then A (7 * i + (x - 7 * (sw A i.toNat).1)) else (sw A i.toNat).2 x) else sw A i.toNat := by
  rw [show (i + 1).toNat = i.toNat + 1 by omega, sw, show ((i.toNat : Nat) : Int) = i by omega]
theorem cdropHeard {m : am_M} {A : Int → Int} (hv : vg_P m 12 A) (h168 : 0 ≤ A 168 ∧ A 168 ≤ 24) {K : am_KK}
    (hK : ∀ m', vg_P m' 12 (sw_A A) → (∀ o k, ¬ (o = 14 ∨ (o = 13 ∧ k = 2)) → m' o k = m o k) → K (A 168 - (sw A (A 168).toNat).1) m') : M_X9_dropHeard 12 K m := by
  have r13 : am_RF m 13 7 168 A 168 0 := hv.1
  unfold M_X9_dropHeard M_X9_dropHeard_L1
  refine ⟨fun j k i m1 => 0 ≤ i ∧ i ≤ A 168 ∧ j = (A 168 - i).toNat ∧ k = (sw A i.toNat).1 ∧ (∀ o k, ¬ (o = 14) → m1 o k = m o k) ∧ ∀ x, 0 ≤ x → x < 7 * A 168 → m1 14 x = (sw A i.toNat).2 x, ⟨_, by omega, by omega, rfl, rfl, fun _ _ _ => rfl, fun x x0 x1 => ?_⟩, ?_⟩
  · have := r13.2.2 x x0 (by omega)
    rw [Int.zero_add] at this
    exact this
  rintro j k i m1 ⟨i0, i1, rfl, rfl, c1, c2⟩
  have k1 : rk m1 13 7 168 := rk_of r13.1 (c1 _ _ (by omega)) (c1 _ _ (by omega))
  have e2 : m1 13 2 = A 168 := by rw [c1 _ _ (by omega), r13.2.1]
  have hk := sw_k A i.toNat
  have hin : ∀ x, 7 * i ≤ x → x < 7 * i + 7 → i < A 168 → m1 14 x = A x := fun x x0 x1 q => by
    rw [c2 x (by omega) (by omega), sw_hi _ _ _ (by omega)]
  unfold M_X9_dropHeard_L1B M_X9_dropHeard_J1
  simp only [am_rf_all, e2]
  refine ⟨fun q => ?_, fun q => ?_⟩
  · have : i = A 168 := by omega
    subst this
    simp only [forall_eq]
    rw [cut_eq, e2, w32_of (by omega) (by omega)]
    have eA : ∀ x, x < 168 → sw_A A x = (sw A (A 168).toNat).2 x := fun x hx => wrA_ne _ (by omega)
    have fin : ∀ m2 : am_M, m2 13 2 = (sw A (A 168).toNat).1 → (∀ o k, ¬ (o = 13 ∧ k = 2) → m2 o k = m1 o k) → K (A 168 - (sw A (A 168).toNat).1) m2 := by
      intro m2 a1 a2
      refine hK m2 ⟨⟨rk_to k1 (a2 _ _ (by omega)) (by rw [show (12 : Int) + 1 = 13 by omega, a1]; omega), by rw [show (12 : Int) + 1 = 13 by omega, a1]; exact (wrA_same _ _ _).symm, fun x x0 x1 => ?_⟩, by rw [a2 _ _ (by omega), c1 _ _ (by omega), hv.2, sw_A_hi h168 (by omega)]⟩ (fun o k ho => by rw [a2 o k (by omega)]; exact c1 o k (by omega))
      rw [show sw_A A 168 = (sw A (A 168).toNat).1 from wrA_same _ _ _] at x1
      rw [Int.zero_add, a2 _ _ (by omega), eA x (by omega)]
      exact c2 x x0 (by omega)
    by_cases c : (sw A (A 168).toNat).1 < A 168
    · rw [if_pos (by omega)]
      exact fin _ (am_st_same _ _ _ _) (fun o k ho => am_st_ne _ ho)
    · rw [if_neg (by omega)]
      exact fin _ (by rw [e2]; omega) (fun _ _ _ => rfl)
  · have hv1 : ∀ p, p = i → M_X9_waits 12 p = fun K m => M_X9_waits 12 p K m := fun _ _ => rfl
    have v1 : vg_P m1 12 (sw A i.toNat).2 := by
      refine ⟨⟨k1, by rw [show (12 : Int) + 1 = 13 by omega, e2, sw_hi _ _ _ (by omega)], fun x x0 x1 => ?_⟩, by rw [c1 _ _ (by omega), hv.2, sw_hi _ _ _ (by omega)]⟩
      rw [sw_hi _ _ 168 (by omega)] at x1
      rw [Int.zero_add]
      exact c2 x x0 (by omega)
    rw [cwaits_eq (Or.inl rfl) v1, sw_hi _ _ 168 (by omega), sw_hi _ _ (7 * i + 5) (by omega)]
    simp only [forall_eq]
    rw [b01, Classical.not_not, w32_of (z := i + 1) (by omega) (by omega)]
    by_cases cw : A (7 * i + 5) = 0
    · refine ⟨fun z => absurd ⟨by omega, cw⟩ z, fun _ => ?_⟩
      rw [copyRow_eq k1, e2, if_pos (by omega), w32_of (by omega) (by omega)]
      refine ⟨_, by omega, by omega, by omega, rfl, by rw [sw_succ i0, if_pos cw], fun o k ho => by rw [am_cp_eq, if_neg (by omega)]; exact c1 o k ho, fun x x0 x1 => ?_⟩
      rw [sw_succ i0, if_pos cw, am_cp_eq]
      show _ = if 7 * (sw A i.toNat).1 ≤ x ∧ x < 7 * (sw A i.toNat).1 + 7 then A (7 * i + (x - 7 * (sw A i.toNat).1)) else (sw A i.toNat).2 x
      by_cases cx : 7 * (sw A i.toNat).1 ≤ x ∧ x < 7 * (sw A i.toNat).1 + 7
      · rw [if_pos (by omega), if_pos cx, show (13 : Int) + 1 = 14 by omega, hin (i * 7 + (x - (sw A i.toNat).1 * 7)) (by omega) (by omega) (by omega)]
        congr 1; omega
      · rw [if_neg (by omega), if_neg cx]
        exact c2 x x0 x1
    · refine ⟨fun _ => ?_, fun z => absurd z.2 cw⟩
      refine ⟨_, by omega, by omega, by omega, rfl, by rw [sw_succ i0, if_neg cw], c1, fun x x0 x1 => ?_⟩
      rw [sw_succ i0, if_neg cw]
      exact c2 x x0 x1
theorem msweep {m : am_M} (h168 : 0 ≤ m 170 168 ∧ m 170 168 ≤ 24) {K : am_KK}
    (hK : ∀ m', (∀ o k, ¬ (o = 170 ∨ (o = 168 ∧ k = 38)) → m' o k = m o k) → m' 170 = sw_A (m 170) → m' 168 38 = 0 → K (m 170 168 - (sw (m 170) (m 170 168).toNat).1) m') : M_X12_sweep 168 K m := by
  generalize hA : m 170 = A at *
  unfold M_X12_sweep M_X12_sweep_L1
  refine ⟨fun j g k i m1 => 0 ≤ i ∧ i ≤ A 168 ∧ j = (A 168 - i).toNat ∧ k = (sw A i.toNat).1 ∧ g = i - k ∧ (∀ o k, ¬ (o = 170) → m1 o k = m o k) ∧ m1 170 = (sw A i.toNat).2, ⟨_, by omega, by omega, rfl, rfl, by show (0 : Int) = 0 - 0; omega, fun _ _ _ => rfl, hA⟩, ?_⟩
  rintro j g k i m1 ⟨i0, i1, rfl, rfl, rfl, c1, c2⟩
  have hk := sw_k A i.toNat
  unfold M_X12_sweep_L1B
  have e168 : m1 170 168 = A 168 := by rw [c2, sw_hi _ _ _ (by omega)]
  rw [prayers_eq, e168]
  refine ⟨fun q => ?_, fun q => ?_⟩
  · have : i = A 168 := by omega
    subst this
    simp only [am_rf_all, am_ln_all, forall_eq]
    refine ⟨by omega, hK _ (fun o k ho => by rw [am_st_ne _ (by omega), am_st_ne _ (by omega)]; exact c1 o k (by omega)) ?_ (am_st_same _ _ _ _)⟩
    rw [st_rne _ _ _ (by omega), st_row, c2]
    rfl
  · rw [fact_eq (by omega) (by omega), c2, sw_hi _ _ _ (by omega)]
    refine ⟨fun cw => ?_, fun cw => ?_⟩
    · unfold M_X12_sweep_L2
      refine ⟨fun j4 v4 m2 => 0 ≤ v4 ∧ v4 ≤ 7 ∧ j4 = (7 - v4).toNat ∧ (∀ o k, ¬ (o = 170) → m2 o k = m o k) ∧ (∀ x, ¬ (7 * (sw A i.toNat).1 ≤ x ∧ x < 7 * (sw A i.toNat).1 + v4) → m2 170 x = (sw A i.toNat).2 x) ∧ ∀ x, 7 * (sw A i.toNat).1 ≤ x → x < 7 * (sw A i.toNat).1 + v4 → m2 170 x = A (7 * i + (x - 7 * (sw A i.toNat).1)), ⟨_, by omega, by omega, rfl, c1, fun x _ => by rw [c2], fun x x0 x1 => by omega⟩, ?_⟩
      rintro j4 v4 m2 ⟨a0, a1, rfl, a2, a3, a4⟩
      unfold M_X12_sweep_L2B M_X12_sweep_J1
      simp only [am_rf_all, am_ln_all, forall_eq]
      refine ⟨fun z => ?_, fun z => ?_⟩
      · have : v4 = 7 := by omega
        subst this
        rw [w32_of (by omega) (by omega), w32_of (by omega) (by omega)]
        refine ⟨_, by omega, by omega, by omega, rfl, by rw [sw_succ i0, if_pos cw], by omega, a2, ?_⟩
        rw [sw_succ i0, if_pos cw]
        funext x
        show _ = if 7 * (sw A i.toNat).1 ≤ x ∧ x < 7 * (sw A i.toNat).1 + 7 then A (7 * i + (x - 7 * (sw A i.toNat).1)) else (sw A i.toNat).2 x
        by_cases cx : 7 * (sw A i.toNat).1 ≤ x ∧ x < 7 * (sw A i.toNat).1 + 7
        · rw [if_pos cx]; exact a4 x cx.1 cx.2
        · rw [if_neg cx]; exact a3 x cx
      · rw [fact_eq (by omega) (by omega)]
        rw [w32_of (z := 7 * (sw A i.toNat).1) (by omega) (by omega), w32_of (z := 0 + 7 * (sw A i.toNat).1) (by omega) (by omega), w32_of (z := 0 + 7 * (sw A i.toNat).1 + v4) (by omega) (by omega), w32_of (z := v4 + 1) (by omega) (by omega)]
        refine ⟨by omega, _, by omega, by omega, by omega, rfl, fun o k ho => by rw [am_st_ne _ (by omega)]; exact a2 o k ho, fun x hx => by rw [am_st_ne _ (by omega)]; exact a3 x (by omega), fun x x0 x1 => ?_⟩
        by_cases cx : x = 0 + 7 * (sw A i.toNat).1 + v4
        · subst cx
          rw [am_st_same]
          rw [show 7 * i + (0 + 7 * (sw A i.toNat).1 + v4 - 7 * (sw A i.toNat).1) = 7 * i + v4 by omega]
          by_cases ck : (sw A i.toNat).1 = i
          · rw [a3 _ (by omega), sw_hi _ _ _ (by omega)]
          · rw [a3 _ (by omega), sw_hi _ _ _ (by omega)]
        · rw [am_st_ne _ (by omega)]
          exact a4 x x0 (by omega)
    · unfold M_X12_sweep_J1
      simp only [forall_eq]
      rw [w32_of (by omega) (by omega), w32_of (by omega) (by omega)]
      exact ⟨_, by omega, by omega, by omega, rfl, by rw [sw_succ i0, if_neg cw], by omega, c1, by rw [sw_succ i0, if_neg cw]; exact c2⟩
theorem j_sweep : Joint (M_X11_sweep 0) (M_X12_sweep 168) := by
  intro m h K hK
  have hb := h.1.1
  have hv := h.1.2.1
  have hf := h.1.2.2.1
  have hud := h.2.2.2.2.2.1
  have l6 := hf.2.2.1.1.2
  have h168 := hf.2.1.1
  unfold M_X11_sweep
  simp only [am_rf_all]
  rw [deeds_cut hud _ _ (fun _ => rfl)]
  generalize hm1 : (if 0 < m 168 38 then am_st m 148 2 0 else m) = m1
  have f1 : ∀ o k, ¬ (o = 148 ∧ k = 2) → m1 o k = m o k := fun o k ho => by
    rw [← hm1]; split
    · exact am_st_ne _ ho
    · rfl
  have e148 : m1 148 2 = 0 := by
    rw [← hm1]; split
    · exact am_st_same _ _ _ _
    · have := hud.2.1; have := hud.2.2.1; omega
  have v1 : vg_P m1 12 (m 170) := vg_of hv (fun o k _ _ => f1 o k (by omega)) (fun _ _ => rfl)
  refine cdropHeard v1 (by omega) (fun m2 v2 f2 => ?_)
  have e170 : m2 170 = m 170 := funext fun x => by rw [f2 _ _ (by omega)]; exact f1 _ _ (by omega)
  refine msweep (by rw [e170]; omega) (fun m3 a1 a2 a3 => ?_)
  rw [e170] at a2 ⊢
  have e : ∀ o k, ¬ (o = 14 ∨ (o = 13 ∧ k = 2) ∨ (o = 148 ∧ k = 2) ∨ o = 170 ∨ (o = 168 ∧ k = 38)) → m3 o k = m o k := fun o k ho => by rw [a1 o k (by omega), f2 o k (by omega)]; exact f1 o k (by omega)
  have e3 : m3 148 2 = 0 := by rw [a1 _ _ (by omega), f2 _ _ (by omega)]; exact e148
  obtain ⟨w1, w2⟩ := sw_A_W hf h.1.2.2.2
  refine hK _ _ (Rel_mk h (fun o k ho => e o k (by omega)) ?_ ?_ (by rw [a2]; exact w1) (by rw [a2]; exact w2) (tp_of h.2.2.1 (fun o k ho => e o k (by omega))) (sc_of h.2.2.2.1 (fun o k ho => e o k (by omega))) (ud_clear (rk_to hud.1 (e _ _ (by omega)) (by rw [e3]; omega)) e3 a3) (fun q hq => by have := wd_ne q hq; exact e _ _ (by omega)) (ww_of h.2.2.2.2.2.2.2.2 (e _ _ (by omega)) (e _ _ (by omega)) (fun _ => e _ _ (by omega)) (fun _ _ _ => e _ _ (by omega))))
  · rw [a2]; exact bk_of hb (fun o k _ _ _ => e o k (by omega)) (fun x hx => sw_A_hi (by omega) (by omega)) l6
  · rw [a2]; exact vg_of v2 (fun o k _ _ => a1 o k (by omega)) (fun _ _ => rfl)
