/-! ORDER. -/
def ab_ord (R : Int → Int) (i : Int) : Nat → Int → (Int → Int) → Int
  | 0, _, _ => if i = -1 then 16 else -1
  | f + 1, place, A => if (ab_low A R (A 168).toNat).1 = -1 ∨ place = i then (if i = -1 then place else (ab_low A R (A 168).toNat).1) else ab_ord R i f (place + 1) (wrA A (7 * (ab_low A R (A 168).toNat).1 + 5) 2)
theorem qu_mark {A R : Int → Int} {n x : Int} {L : List Int} (hS : qu_S R (x :: L)) (hM : qu_M A R n (x :: L)) : qu_S R L ∧ qu_M (wrA A (7 * x + 5) 2) R n L := by
  refine ⟨(List.pairwise_cons.mp hS).2, fun p => ?_⟩
  obtain ⟨g1, g2, g3, g4⟩ := (hM x).mp (by simp)
  have hne : p ∈ L → p ≠ x := fun hp e => by
    subst e
    have := (List.pairwise_cons.mp hS).1 p hp
    omega
  constructor
  · intro hp
    obtain ⟨k1, k2, k3, k4⟩ := (hM p).mp (by simp [hp])
    have := hne hp
    exact ⟨k1, k2, by rw [wrA_ne _ (by omega)]; exact k3, k4⟩
  · rintro ⟨k1, k2, k3, k4⟩
    by_cases e : p = x
    · subst e
      rw [wrA_same] at k3
      omega
    · rw [wrA_ne _ (by omega)] at k3
      have := (hM p).mpr ⟨k1, k2, k3, k4⟩
      rcases List.mem_cons.mp this with h | h
      · exact absurd h e
      · exact h
theorem ab_ord_eq {R : Int → Int} {i : Int} (hi : -1 ≤ i) : ∀ (f : Nat) (place : Int) (A : Int → Int) (L : List Int), 0 ≤ A 168 → A 168 ≤ 23 → 0 ≤ place → place + f = 16 → place + L.length ≤ 16 → (i = -1 ∨ place ≤ i) → qu_S R L → qu_M A R (A 168) L → ab_ord R i f place A = if i = -1 then place + L.length else if i < place + L.length then L.getD (i - place).toNat 0 else -1 := by
  intro f
  induction f with
  | zero =>
    intro place A L h0 h24 hp hf hl hpi hS hM
    unfold ab_ord
    cases L with
    | nil => simp only [List.length_nil]; split <;> (try split) <;> omega
    | cons x L => simp only [List.length_cons] at hl; omega
  | succ f ih =>
    intro place A L h0 h24 hp hf hl hpi hS hM
    unfold ab_ord
    have hlow := qu_low hS hM
    cases L with
    | nil =>
      have hlow : (ab_low A R (A 168).toNat).1 = -1 := hlow
      rw [if_pos (Or.inl hlow), hlow]
      simp only [List.length_nil]
      by_cases c : i = -1
      · rw [if_pos c, if_pos c]; omega
      · rw [if_neg c, if_neg c, if_neg (by omega)]
    | cons x L =>
      obtain ⟨g1, g2, g3, g4⟩ := (hM x).mp (by simp)
      obtain ⟨hS2, hM2⟩ := qu_mark hS hM
      have hlow : (ab_low A R (A 168).toNat).1 = x := hlow
      rw [hlow]
      simp only [List.length_cons] at hl ⊢
      by_cases c : place = i
      · rw [if_pos (Or.inr c), if_neg (by omega), if_neg (by omega), if_pos (by omega), show (i - place).toNat = 0 by omega]
        rfl
      · rw [if_neg (by omega), ih (place + 1) (wrA A (7 * x + 5) 2) L (by rw [wrA_ne _ (by omega)]; exact h0) (by rw [wrA_ne _ (by omega)]; exact h24) (by omega) (by omega) (by omega) (by omega) hS2 (by rw [wrA_ne _ (by omega)]; exact hM2)]
        by_cases c1 : i = -1
        · rw [if_pos c1, if_pos c1]; omega
        · rw [if_neg c1, if_neg c1]
          by_cases c2 : i < place + ((L.length + 1 : Nat) : Int)
          · rw [if_pos (by omega), if_pos c2, show (i - place).toNat = (i - (place + 1)).toNat + 1 by omega]
            rfl
          · rw [if_neg (by omega), if_neg c2]
theorem wf_mark {n : Int} {A : Int → Int} {p : Int} (hn : n ≤ 24) (hw : wf_A n A) (h0 : 0 ≤ p) (h1 : p < A 168) : wf_A n (wrA A (7 * p + 5) 2) := by
  have h24 := hw.2.1.1
  refine wf_of hw (fun x hx => wrA_ne _ (by omega)) ⟨by rw [wrA_ne _ (by omega)]; exact hw.2.1.1, by rw [wrA_ne _ (by omega)]; exact hw.2.1.2.1, fun i i0 i1 => ?_⟩ (fun x x0 x1 => ?_)
  · rw [wrA_ne _ (by omega)] at i1
    obtain ⟨q0, q1, q2, q3, q4, q5, q6⟩ := hw.2.1.2.2 i i0 i1
    rw [wrA_ne _ (show 7 * i ≠ 7 * p + 5 by omega), wrA_ne _ (show 7 * i + 1 ≠ 7 * p + 5 by omega), wrA_ne _ (show 7 * i + 2 ≠ 7 * p + 5 by omega), wrA_ne _ (show 7 * i + 3 ≠ 7 * p + 5 by omega), wrA_ne _ (show 7 * i + 4 ≠ 7 * p + 5 by omega), wrA_ne _ (show 7 * i + 6 ≠ 7 * p + 5 by omega)]
    refine ⟨q0, q1, q2, q3, q4, ?_, q6⟩
    unfold wrA
    split <;> omega
  · have := hw.2.2.2 x x0 x1
    unfold wrA
    split <;> omega
theorem corder {m : am_M} {i : Int} {K : am_KK} (h : Rel m) (hi : -1 ≤ i) (hK : ∀ m', (∀ o k, ¬ (o = 137 ∨ o = 139 ∨ (140 ≤ o ∧ o ≤ 144 ∧ ¬ (o = 143 ∧ k = 1))) → m' o k = m o k) → K (ab_ord (fun q => ab_fore (m 170) q (m 170 169 + 1)) i 16 0 (m 170)) m') : M_X11_order 0 i K m := by
  have hb := h.1.1
  have hv := h.1.2.1
  have hf := h.1.2.2.1
  have hw := wf_mono hf (show (16 : Int) ≤ 24 by omega)
  have hn := hf.2.1.1
  have l6 := hf.2.2.1.1.2
  unfold M_X11_order
  simp only [am_rf_all]
  refine ⟨fun _ => ?_, fun q => absurd hi q⟩
  refine paper_take h.2.2.2.2.2.2.2.1 hv (by omega) (fun m1 v1 f1 => ?_)
  have hb1 : bk_P m1 1 (m 170) := bk_of hb (fun o k _ _ _ => f1 o k (by omega)) (fun _ _ => rfl) l6
  refine cforeseeAll (Or.inr rfl) hw hb1 v1 (by omega) (fun m2 f2 r2 => ?_)
  have v2 : vg_P m2 142 (m 170) := vg_of v1 (fun o k _ _ => f2 o k (by omega)) (fun _ _ => rfl)
  unfold M_X11_order_L1
  refine ⟨fun j place m3 => 0 ≤ place ∧ place ≤ 16 ∧ j = (16 - place).toNat ∧ ∃ A : Int → Int, ab_ord (fun q => ab_fore (m 170) q (m 170 169 + 1)) i (16 - place).toNat place A = ab_ord (fun q => ab_fore (m 170) q (m 170 169 + 1)) i 16 0 (m 170) ∧ vg_P m3 142 A ∧ wf_A 24 A ∧ A 168 = m 170 168 ∧ (∀ q, 0 ≤ q → q < m 170 168 → A (7 * q + 5) = 0 → m 170 (7 * q + 5) = 0) ∧ ∀ o k, ¬ (o = 144) → m3 o k = m2 o k, ⟨_, by omega, by omega, rfl, m 170, rfl, v2, hw, rfl, fun _ _ _ q => q, fun _ _ _ => rfl⟩, ?_⟩
  rintro j place m3 ⟨p0, p16, rfl, A, hA, v3, w3, a168, aw, f3⟩
  have hfr : ∀ o k, ¬ (o = 137 ∨ o = 139 ∨ (140 ≤ o ∧ o ≤ 144 ∧ ¬ (o = 143 ∧ k = 1))) → m3 o k = m o k := fun o k q => by rw [f3 o k (by omega), f2 o k (by omega), f1 o k (by omega)]
  unfold M_X11_order_L1B M_X11_order_J1
  refine ⟨fun hp => ?_, fun hp => ?_⟩
  · have : place = 16 := by omega
    subst this
    have hA' : (if i = -1 then (16 : Int) else -1) = ab_ord (fun q => ab_fore (m 170) q (m 170 169 + 1)) i 16 0 (m 170) := hA
    have hk := hK m3 hfr
    rw [← hA'] at hk
    refine ⟨fun q => by rwa [if_neg q] at hk, fun q => by rwa [if_pos (by omega)] at hk⟩
  · simp only [am_rf_all]
    refine clowest (Or.inr rfl) w3 v3 (by omega) ?_
    have hlow : ab_low A (fun q => m3 141 (1 * 24 + q)) (A 168).toNat = ab_low A (fun q => ab_fore (m 170) q (m 170 169 + 1)) (A 168).toNat := ab_low_congr _ (fun q q0 q1 => ⟨rfl, fun hz => by
      rw [f3 _ _ (by omega)]
      exact r2 1 q (by omega) (by omega) q0 (by omega) (aw q q0 (by omega) hz)⟩)
    rw [hlow]
    have hl := ab_low_ge (A := A) (R := fun q => ab_fore (m 170) q (m 170 169 + 1)) (A 168).toNat
    rw [show (16 - place).toNat = (16 - (place + 1)).toNat + 1 by omega, ab_ord] at hA
    generalize hg : (ab_low A (fun q => ab_fore (m 170) q (m 170 169 + 1)) (A 168).toNat).1 = p at hA hl ⊢
    by_cases c : p = -1 ∨ place = i
    · rw [if_pos c] at hA
      have hk := hK m3 hfr
      rw [← hA] at hk
      have hJ : (i ≠ -1 → K p m3) ∧ (¬ i ≠ -1 → K place m3) := ⟨fun q => by rwa [if_neg q] at hk, fun q => by rwa [if_pos (by omega)] at hk⟩
      exact ⟨fun _ => hJ, fun q => ⟨fun r => absurd (c.resolve_left q) r, fun _ => hJ⟩⟩
    · rw [if_neg c] at hA
      refine ⟨fun q => absurd (Or.inl q) c, fun q => ⟨fun r => ?_, fun r => absurd (Or.inr (by omega)) c⟩⟩
      have hp0 : 0 ≤ p ∧ p < A 168 := by omega
      have k143 : rk m3 143 7 168 := v3.1.1
      rw [set_eq k143, show m3 143 2 = A 168 from v3.1.2.1, if_pos (by omega)]
      intro v2' hv2
      rw [w32_of (by omega) (by omega)] at hv2
      subst hv2
      refine ⟨_, by omega, by omega, by omega, rfl, wrA A (7 * p + 5) 2, hA, ?_, wf_mark (by omega) w3 hp0.1 hp0.2, by rw [wrA_ne _ (by omega)]; exact a168, fun q q0 q1 hz => ?_, fun o k ho => by rw [am_st_ne _ (by omega)]; exact f3 o k ho⟩
      · refine ⟨⟨rk_st v3.1.1 (by omega), by rw [am_st_ne _ (by omega), wrA_ne _ (by omega)]; exact v3.1.2.1, fun x x0 x1 => ?_⟩, by rw [am_st_ne _ (by omega), wrA_ne _ (by omega)]; exact v3.2⟩
        rw [wrA_ne _ (by omega)] at x1
        have := v3.1.2.2 x x0 x1
        rw [Int.zero_add] at this ⊢
        by_cases cx : x = 7 * p + 5
        · rw [cx, show p * 7 + 5 = 7 * p + 5 by omega, show (142 : Int) + 1 + 1 = 143 + 1 by omega, am_st_same, wrA_same]
        · rw [am_st_ne _ (by omega), wrA_ne _ cx]; exact this
      · by_cases e : q = p
        · subst e; rw [wrA_same] at hz; omega
        · rw [wrA_ne _ (by omega)] at hz; exact aw q q0 q1 hz
theorem j_order (i : Int) : Joint (M_X11_order 0 i) (M_X12_order 168 i) := by
  intro m h K hK
  have hf := h.1.2.2.1
  have hw := wf_mono hf (show (16 : Int) ≤ 24 by omega)
  have hn := hf.2.1.1
  have hd := hf.2.1.2.1
  have hmodel : ∀ m1 : am_M, (∀ o k, ¬ (o = 137 ∨ o = 139 ∨ (140 ≤ o ∧ o ≤ 144 ∧ ¬ (o = 143 ∧ k = 1))) → m1 o k = m o k) → ∀ x, (-1 ≤ i → x = ab_ord (fun q => ab_fore (m 170) q (m 170 169 + 1)) i 16 0 (m 170)) → (¬ -1 ≤ i → x = -1) → M_X12_order 168 i (fun r2 m2 => K x r2 m2) m1 := by
    intro m1 f1 x hx1 hx2
    have e1 : m1 170 = m 170 := funext fun y => f1 _ _ (by omega)
    unfold M_X12_order
    simp only [am_rf_all, am_ln_all, e1]
    rw [w32_of (z := m 170 169 + 1) (by omega) (by omega)]
    refine ⟨by omega, mqueues (by rw [e1]; exact hw) (by omega) (fun m2 L f2 hc hl hat hS hM => ?_)⟩
    rw [e1] at hS hM
    have hR : Rel m2 := Rel_of (Rel_of h (fun o k q => f1 o k (by unfold rl_s at q; omega))) (fr_q_s f2)
    have hlen : (L.length : Int) ≤ 16 := by rw [e1] at hl; omega
    rw [hc, lies_eq, w32_of (by omega) (by omega)]
    by_cases ci : -1 ≤ i
    · have hv := hx1 ci
      rw [ab_ord_eq ci 16 0 (m 170) L hn.1 (by omega) (by omega) (by omega) (by omega) (by omega) hS hM, Int.zero_add, Int.sub_zero] at hv
      by_cases c1 : i = -1
      · rw [if_pos c1] at hv
        subst hv
        exact ⟨fun q => absurd c1 q, fun _ => hK _ _ hR⟩
      · rw [if_neg c1] at hv
        refine ⟨fun _ => ?_, fun q => absurd c1 (by omega)⟩
        by_cases c2 : i < L.length
        · rw [if_pos c2] at hv
          rw [if_pos (by omega)]
          refine ⟨fun q => absurd q (by decide), fun _ => ⟨by omega, ?_⟩⟩
          have := hat i.toNat (by omega)
          rw [show (0 : Int) + (i.toNat : Int) = i by omega] at this
          rw [this, hv]
          exact hK _ _ hR
        · rw [if_neg c2] at hv
          rw [if_neg (by omega), hv]
          exact ⟨fun _ => hK _ _ hR, fun q => absurd rfl q⟩
    · rw [hx2 ci]
      refine ⟨fun _ => ?_, fun q => by omega⟩
      rw [if_neg (by omega)]
      exact ⟨fun _ => hK _ _ hR, fun q => absurd rfl q⟩
  by_cases ci : -1 ≤ i
  · exact corder h ci (fun m1 f1 => hmodel m1 f1 _ (fun _ => rfl) (fun q => absurd ci q))
  · unfold M_X11_order
    exact ⟨fun q => absurd q ci, fun _ => hmodel m (fun _ _ _ => rfl) _ (fun q => absurd q ci) (fun _ => rfl)⟩
