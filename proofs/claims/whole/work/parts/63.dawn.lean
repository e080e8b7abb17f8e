/-! DAWN on both sides; who was heard, as bits. -/
theorem ab_hear_congr {R R' : Int → Int} : ∀ (e : Nat) (s : ab_H), wf_A 24 s.2.2.2 → (∀ q : Int, 0 ≤ q → q < s.2.2.2 168 → s.2.2.2 (7 * q + 5) = 0 → R' q = R q) → ab_hear R' e s = ab_hear R e s := by
  intro e
  induction e with
  | zero => intro s _ _; rfl
  | succ e ih =>
    intro s hw hR
    have h24 := hw.2.1.1
    have hl : ab_low s.2.2.2 R' (s.2.2.2 168).toNat = ab_low s.2.2.2 R (s.2.2.2 168).toNat := ab_low_congr _ (fun q q0 q1 => ⟨rfl, hR q q0 (by omega)⟩)
    unfold ab_hear
    rw [hl]
    by_cases c : (ab_low s.2.2.2 R (s.2.2.2 168).toNat).1 = -1
    · rw [if_pos c, if_pos c]
    · rw [if_neg c, if_neg c]
      have hg := ab_low_ge (A := s.2.2.2) (R := R) (s.2.2.2 168).toNat
      have hp : 0 ≤ (ab_low s.2.2.2 R (s.2.2.2 168).toNat).1 ∧ (ab_low s.2.2.2 R (s.2.2.2 168).toNat).1 < s.2.2.2 168 := by omega
      refine ih _ (ab_one_wf (by omega) hw hp.1 hp.2) (fun q q0 q1 hz => ?_)
      have hi := ab_one_in (A := s.2.2.2) hp.1 (show (ab_low s.2.2.2 R (s.2.2.2 168).toNat).1 < 24 by omega)
      simp only [] at q1 hz
      rw [hi.1 _ (by omega)] at q1
      refine hR q q0 q1 ?_
      by_cases eq : q = (ab_low s.2.2.2 R (s.2.2.2 168).toNat).1
      · rw [eq]; omega
      · have hval : ab_one s.2.2.2 (ab_low s.2.2.2 R (s.2.2.2 168).toNat).1 (7 * q + 5) = s.2.2.2 (7 * q + 5) := by
          unfold ab_one; rw [wrA_ne _ (by omega), wrA_ne _ (by omega)]
        rw [← hval]; exact hz
theorem ab_hear_bits {R : Int → Int} : ∀ (e : Nat) (s : ab_H), wf_A 24 s.2.2.2 → (0 ≤ s.2.2.1 ∧ s.2.2.1 < 16777216) → (0 ≤ (ab_hear R e s).2.2.1 ∧ (ab_hear R e s).2.2.1 < 16777216) ∧ ∀ p, 0 ≤ p → p < 24 → (bitI (ab_hear R e s).2.2.1 p ↔ bitI s.2.2.1 p ∨ (ab_hear R e s).2.2.2 (7 * p + 5) ≠ s.2.2.2 (7 * p + 5)) ∧ ((ab_hear R e s).2.2.2 (7 * p + 5) ≠ s.2.2.2 (7 * p + 5) → s.2.2.2 (7 * p + 5) = 0) ∧ ((ab_hear R e s).2.2.2 (7 * p + 5) = s.2.2.2 (7 * p + 5) → (ab_hear R e s).2.2.2 (7 * p + 6) = s.2.2.2 (7 * p + 6)) := by
  intro e
  induction e with
  | zero => intro s _ hb; exact ⟨hb, fun p _ _ => ⟨by unfold ab_hear; simp, fun h => absurd rfl h, fun _ => rfl⟩⟩
  | succ e ih =>
    intro s hw hb
    have h24 := hw.2.1.1
    unfold ab_hear
    by_cases c : (ab_low s.2.2.2 R (s.2.2.2 168).toNat).1 = -1
    · rw [if_pos c]
      exact ⟨hb, fun p _ _ => ⟨by simp, fun h => absurd rfl h, fun _ => rfl⟩⟩
    · rw [if_neg c]
      have hg := ab_low_ge (A := s.2.2.2) (R := R) (s.2.2.2 168).toNat
      generalize hq : (ab_low s.2.2.2 R (s.2.2.2 168).toNat).1 = q at c hg ⊢
      have hp : (0 ≤ q ∧ q < s.2.2.2 168) ∧ s.2.2.2 (7 * q + 5) = 0 := by omega
      have hsh := bit_shl_le (i := q) (n := 24) (by omega) (by omega)
      have hor := bit_or_le (x := s.2.2.1) (y := am_shl 1 q) (n := 24) (by omega) (by omega) (by omega)
      obtain ⟨g1, g2⟩ := ih (if ab_denied s.2.2.2 q = true then s.1 else s.1 + 1, if ab_denied s.2.2.2 q = true then s.2.1 else am_or s.2.1 (am_shl 1 (s.2.2.2 (7 * q + 1))), am_or s.2.2.1 (am_shl 1 q), ab_one s.2.2.2 q) (ab_one_wf (by omega) hw hp.1.1 hp.1.2) (by simp only []; omega)
      refine ⟨g1, fun p p0 p1 => ?_⟩
      obtain ⟨k1, k2, k3⟩ := g2 p p0 p1
      simp only [] at k1 k2 k3
      generalize hX : (ab_hear R e (if ab_denied s.2.2.2 q = true then s.1 else s.1 + 1, if ab_denied s.2.2.2 q = true then s.2.1 else am_or s.2.1 (am_shl 1 (s.2.2.2 (7 * q + 1))), am_or s.2.2.1 (am_shl 1 q), ab_one s.2.2.2 q)) = X at k1 k2 k3 ⊢
      have hval : ∀ x, ab_one s.2.2.2 q x = if x = 7 * q + 6 then s.2.2.2 169 else if x = 7 * q + 5 then (if ab_denied s.2.2.2 q = true then 2 else 1) else s.2.2.2 x := fun x => rfl
      rw [bit_or (by omega) (by omega), bit_shl (by omega) p0] at k1
      by_cases epq : p = q
      · subst epq
        rw [hval (7 * p + 5), if_neg (by omega), if_pos rfl] at k1 k2 k3
        have hne : X.2.2.2 (7 * p + 5) ≠ 0 := by
          by_cases z : X.2.2.2 (7 * p + 5) = (if ab_denied s.2.2.2 p = true then 2 else 1)
          · rw [z]; split <;> omega
          · have := k2 z; split at this <;> omega
        refine ⟨⟨fun _ => Or.inr (by rw [hp.2]; exact hne), fun _ => k1.mpr (Or.inl (Or.inr rfl))⟩, fun _ => hp.2, fun z => absurd (by rw [z]; exact hp.2) hne⟩
      · rw [hval (7 * p + 5), if_neg (by omega), if_neg (by omega)] at k1 k2 k3
        rw [hval (7 * p + 6), if_neg (by omega), if_neg (by omega)] at k3
        refine ⟨k1.trans ⟨fun z => ?_, fun z => ?_⟩, k2, k3⟩
        · rcases z with (z | z) | z
          · exact Or.inl z
          · exact absurd z.symm epq
          · exact Or.inr z
        · rcases z with z | z
          · exact Or.inl (Or.inl z)
          · exact Or.inr z
theorem ab_dawn_ud {A : Int → Int} (hw : wf_A 16 A) (hH : wf_H A) (hd : A 169 < 999) : ud_1 ((ab_dawn A).2.2.1 * 2 + 1) 1 (ab_dawn A).2.2.2 A ∧ wf_H (ab_dawn A).2.2.2 ∧ 0 ≤ (ab_dawn A).2.2.1 ∧ (ab_dawn A).2.2.1 < 16777216 := by
  have hw24 := wf_mono hw (show (16 : Int) ≤ 24 by omega)
  have h168 := hw.2.1.1
  obtain ⟨g1, g2⟩ := ab_dawnR_wf (R := fun p => ab_fore A p (A 169 + 1)) hw24 (by omega) hd
  obtain ⟨b1, b2⟩ := ab_hear_bits (R := fun p => ab_fore A p (A 169 + 1)) (A 360).toNat (0, 0, 0, wrA A 169 (A 169 + 1)) (ab_day_wf hw24 (by omega) hd) (by simp only []; omega)
  have e : ∀ x, x ≠ 169 → wrA A 169 (A 169 + 1) x = A x := fun x hx => wrA_ne _ hx
  have key : ∀ p, 0 ≤ p → p < A 168 → (bitI (ab_dawn A).2.2.1 p ↔ (ab_dawn A).2.2.2 (7 * p + 5) ≠ A (7 * p + 5)) ∧ ((ab_dawn A).2.2.2 (7 * p + 5) ≠ A (7 * p + 5) → A (7 * p + 5) = 0) ∧ ((ab_dawn A).2.2.2 (7 * p + 5) = A (7 * p + 5) → (ab_dawn A).2.2.2 (7 * p + 6) = A (7 * p + 6)) := by
    intro p p0 p1
    obtain ⟨k1, k2, k3⟩ := b2 p p0 (by omega)
    simp only [] at k1 k2 k3
    rw [e (7 * p + 5) (by omega)] at k1 k2 k3
    rw [e (7 * p + 6) (by omega)] at k3
    refine ⟨k1.trans ⟨fun z => z.resolve_left (bit_0 p), Or.inr⟩, k2, k3⟩
  refine ⟨Or.inr ⟨rfl, by rw [show (ab_dawn A).2.2.2 168 = wrA A 169 (A 169 + 1) 168 from g2.1 168 (by omega), e _ (by omega)], by rw [show (ab_dawn A).2.2.2 169 = wrA A 169 (A 169 + 1) 169 from g2.1 169 (by omega), wrA_same], (ab_dawn A).2.2.1, rfl, b1.1, b1.2, fun p p0 p1 => ?_⟩, fun p p0 p1 p2 => ?_, b1⟩
  · obtain ⟨k1, k2, k3⟩ := key p p0 p1
    refine ⟨fun j j0 j1 => ?_, fun hb => ?_, fun hb => ?_⟩
    · rw [show (ab_dawn A).2.2.2 (7 * p + j) = wrA A 169 (A 169 + 1) (7 * p + j) from g2.2 p j p0 j0 j1, e _ (by omega)]
    · have z := k2 (k1.mp hb)
      exact ⟨z, hH p p0 p1 z⟩
    · have z : (ab_dawn A).2.2.2 (7 * p + 5) = A (7 * p + 5) := Classical.byContradiction fun q => hb (k1.mpr q)
      exact ⟨z, k3 z⟩
  · rw [show (ab_dawn A).2.2.2 168 = wrA A 169 (A 169 + 1) 168 from g2.1 168 (by omega), e _ (by omega)] at p1
    obtain ⟨k1, k2, k3⟩ := key p p0 p1
    have z : (ab_dawn A).2.2.2 (7 * p + 5) = A (7 * p + 5) := Classical.byContradiction fun q => q (by rw [p2, k2 q])
    rw [k3 z]
    exact hH p p0 p1 (by rw [← z]; exact p2)
/-- a DAWN of truth on the one side: the Vigil, what was heard -/
theorem ab_dawn_n {A R : Int → Int} : ∀ (e : Nat) (s : ab_H), s.1 ≤ (ab_hear R e s).1 ∧ (ab_hear R e s).1 ≤ s.1 + e := by
  intro e
  induction e with
  | zero => intro s; unfold ab_hear; omega
  | succ e ih =>
    intro s
    unfold ab_hear
    split
    · omega
    · have := ih (if ab_denied s.2.2.2 (ab_low s.2.2.2 R (s.2.2.2 168).toNat).1 = true then s.1 else s.1 + 1,
        if ab_denied s.2.2.2 (ab_low s.2.2.2 R (s.2.2.2 168).toNat).1 = true then s.2.1 else am_or s.2.1 (am_shl 1 (s.2.2.2 (7 * (ab_low s.2.2.2 R (s.2.2.2 168).toNat).1 + 1))),
        am_or s.2.2.1 (am_shl 1 (ab_low s.2.2.2 R (s.2.2.2 168).toNat).1), ab_one s.2.2.2 (ab_low s.2.2.2 R (s.2.2.2 168).toNat).1)
      refine ⟨Int.le_trans ?_ this.1, Int.le_trans this.2 ?_⟩
      · simp only []; split <;> omega
      · simp only []; split <;> omega
theorem ab_dawn_0 (A : Int → Int) : 0 ≤ (ab_dawn A).1 := (ab_dawn_n (A := A) (A 360).toNat (0, 0, 0, wrA A 169 (A 169 + 1))).1
/-- foreseen and heard: the paper, or the truth -/
theorem cdawn {m : am_M} {A : Int → Int} {v : Int} (hvv : vg_v v) (hw : wf_A 24 A) (hd : A 169 < 999) (hB : bk_P m 1 A) (hv : vg_P m v A) {K : am_KK}
    (hK : ∀ m', (∀ o k, ¬ (o = 137 ∨ o = 139 ∨ o = 141 ∨ o = v + 2 ∨ (o = v ∧ k = 1) ∨ (o = 140 ∧ (k = 2 ∨ k = 3))) → m' o k = m o k) → vg_P m' v (ab_dawn A).2.2.2 → m' 140 2 = (ab_dawn A).2.2.1 → m' 140 3 = (ab_dawn A).2.1 → K (ab_dawn A).1 m') : M_X2_foreseeAll 140 1 v 1 (fun _ m2 => M_X2_hear 140 1 v 1 K m2) m := by
  have h6 := hw.2.2.1.1.2
  have hvx : v = 12 ∨ v = 142 := hvv
  refine cforeseeAll hvv hw hB hv (by omega) (fun m1 f1 r1 => ?_)
  have hB1 : bk_P m1 1 A := bk_of hB (fun o k _ _ _ => f1 o k (by omega)) (fun _ _ => rfl) h6
  have hv1 : vg_P m1 v A := vg_of hv (fun o k _ _ => f1 o k (by omega)) (fun _ _ => rfl)
  have hc : ab_dawnR A (fun q => m1 141 (1 * 24 + q)) = ab_dawn A := ab_hear_congr _ _ (ab_day_wf hw (by omega) hd) (fun q q0 q1 hz => by
    simp only [] at q1 hz
    have := hw.2.1.1
    rw [wrA_ne _ (by omega)] at q1
    rw [wrA_ne _ (by omega)] at hz
    exact r1 1 q (by omega) (by omega) q0 q1 hz)
  refine chear hvv hw hd hB1 hv1 (by omega) ?_
  rw [hc]
  exact fun m2 f2 a1 a2 a3 => hK m2 (fun o k ho => by rw [f2 o k (by omega), f1 o k (by omega)]) a1 a2 a3
theorem j_dawn : Joint (M_X11_dawn 0) (M_X12_dawn 168) := by
  intro m h K hK
  have hb := h.1.1
  have hv := h.1.2.1
  have hf := h.1.2.2.1
  have hH := h.1.2.2.2
  have hw := wf_mono hf (show (16 : Int) ≤ 24 by omega)
  have hn := hf.2.1.1
  have hd := hf.2.1.2.1
  have l6 := hf.2.2.1.1.2
  have hud := h.2.2.2.2.2.1
  unfold M_X11_dawn M_X12_dawn M_X11_tryDawn M_X12_dawnsKept
  simp only [am_rf_all, am_ln_all]
  rw [hv.2]
  refine ⟨fun hlt => ?_, fun hge => ?_⟩
  · refine cdawn (Or.inl rfl) hw hlt hb hv (fun m1 f1 v1 b2 b3 => ?_)
    obtain ⟨u1, u2, u3, u4⟩ := ab_dawn_ud hf hH hlt
    rw [b2, w32_of (z := (ab_dawn (m 170)).2.2.1 * 2) (by omega) (by omega), w32_of (by omega) (by omega)]
    refine cnote (u := m 168 38) (rk_of hud.1 (f1 _ _ (by omega)) (f1 _ _ (by omega))) (by rw [f1 _ _ (by omega)]; exact hud.2.1) hud.2.2.1.2 (fun m2 f2 d1 d2 => ?_)
    have v2 : vg_P m2 12 (ab_dawn (m 170)).2.2.2 := vg_of v1 (fun o k _ _ => f2 o k (by omega)) (fun _ _ => rfl)
    have hn0 := ab_dawn_0 (m 170)
    refine ⟨fun _ => ?_, fun q => absurd hn0 q⟩
    rw [fine_eq]
    generalize hm3 : am_st m2 0 17 0 = m3
    have f3 : ∀ o k, ¬ (o = 137 ∨ o = 139 ∨ o = 141 ∨ o = 14 ∨ (o = 12 ∧ k = 1) ∨ (o = 140 ∧ (k = 2 ∨ k = 3)) ∨ (o = 148 ∧ k = 2) ∨ o = 149 ∨ (o = 0 ∧ k = 17)) → m3 o k = m o k := fun o k ho => by rw [← hm3, am_st_ne _ (by omega), f2 _ _ (by omega)]; exact f1 o k (by omega)
    have e170 : m3 170 = m 170 := funext fun x => f3 _ _ (by omega)
    have u38 : m3 168 38 = m 168 38 := f3 _ _ (by omega)
    rw [e170]
    refine ⟨by omega, fun _ => ?_, fun q => by omega⟩
    refine mkeeps (by rw [u38]; exact hud.2.2.1) (fun m5 f5 k1 k2 => ?_)
    have g5 : m5 170 = m 170 := by rw [← e170]; exact funext fun x => f5 _ _ (by omega)
    refine mdawns (by rw [g5]; exact hw) (by rw [g5]; exact hlt) (fun m6 f6 r6 _ => ?_)
    rw [g5] at r6 ⊢
    unfold M_X12_goodOr
    refine ⟨fun _ => ?_, fun q => absurd hn0 q⟩
    rw [good_eq]
    refine hK _ _ (rel_intro (fun m' hm => ?_))
    have er : m' 170 = (ab_dawn (m 170)).2.2.2 := by rw [hm, st_rne _ _ _ (by omega)]; exact r6
    have e : ∀ o k, ¬ rl_s o k → ¬ (o = 14 ∨ (o = 12 ∧ k = 1) ∨ (o = 148 ∧ k = 2) ∨ o = 149 ∨ (o = 0 ∧ k = 17) ∨ o = 170 ∨ o = 189 ∨ (o = 168 ∧ (k = 0 ∨ k = 38))) → m' o k = m o k := fun o k hq ho => by
      unfold rl_s at hq
      rw [hm, am_st_ne _ (by omega), f6 _ _ (by omega), f5 _ _ (by omega)]; exact f3 o k (by omega)
    have ec2 : ∀ o k, o < 168 → ¬ (o = 0 ∧ k = 17) → m' o k = m2 o k := fun o k ho hq => by rw [hm, am_st_ne _ (by omega), f6 _ _ (by omega), f5 _ _ (by omega), ← hm3, am_st_ne _ hq]
    have er2 : ∀ o k, (o = 189 ∨ (o = 168 ∧ k = 38)) → m' o k = m5 o k := fun o k h1 => by rw [hm, am_st_ne _ (by omega), f6 _ _ (by omega)]
    obtain ⟨w1, w2⟩ := ab_dawnR_wf (R := fun p => ab_fore (m 170) p (m 170 169 + 1)) hf (by omega) hlt
    have w2' : ∀ x, 168 ≤ x → x ≠ 169 → (ab_dawn (m 170)).2.2.2 x = m 170 x := fun x hx h9 => by
      rw [show (ab_dawn (m 170)).2.2.2 x = wrA (m 170) 169 (m 170 169 + 1) x from w2.1 x hx, wrA_ne _ h9]
    refine Rel_mk h (fun o k ho => e o k (by unfold rl_s; omega) (by omega)) ?_ ?_ (by rw [er]; exact w1) (by rw [er]; exact u2) (tp_of h.2.2.1 (fun o k ho => e o k (by unfold rl_s; omega) (by omega))) ⟨?_, ?_, ?_, ?_⟩ (ud_push (d := (ab_dawn (m 170)).2.2.1 * 2 + 1) (what := 1) hud (e _ _ (by unfold rl_s; omega) (by omega)) (fun q => ?_) (fun q => ?_) ?_ ?_ ?_) (fun q hq => by have := wd_ne q hq; exact e _ _ (by unfold rl_s; omega) (by omega)) (ww_of h.2.2.2.2.2.2.2.2 (e _ _ (by unfold rl_s; omega) (by omega)) (e _ _ (by unfold rl_s; omega) (by omega)) (fun _ => e _ _ (by unfold rl_s; omega) (by omega)) (fun _ _ _ => e _ _ (by unfold rl_s; omega) (by omega)))
    · rw [er]; exact bk_of hb (fun o k _ _ _ => e o k (by unfold rl_s; omega) (by omega)) (fun x hx => w2' x (by omega) (by omega)) l6
    · rw [er]; exact vg_of v2 (fun o k _ _ => ec2 o k (by omega) (by omega)) (fun _ _ => rfl)
    · rw [hm, am_st_same, am_st_ne _ (by omega), f6 _ _ (by omega), f5 _ _ (by omega), ← hm3, am_st_same]
    · rw [e _ _ (by unfold rl_s; omega) (by omega), e _ _ (by unfold rl_s; omega) (by omega)]; exact h.2.2.2.1.2.1
    · rw [e _ _ (by unfold rl_s; omega) (by omega), e _ _ (by unfold rl_s; omega) (by omega)]; exact h.2.2.2.1.2.2.1
    · rw [e _ _ (by unfold rl_s; omega) (by omega), e _ _ (by unfold rl_s; omega) (by omega)]; exact h.2.2.2.1.2.2.2
    · obtain ⟨p1, p2, p3⟩ := d1 q
      obtain ⟨q1, q2, q3, q4⟩ := k1 (by rw [u38]; exact q)
      rw [u38, e170] at q2
      rw [u38] at q1 q3 q4
      refine ⟨by rw [ec2 _ _ (by omega) (by omega), p1], by rw [er2 _ _ (by omega), q1], by rw [ec2 _ _ (by omega) (by omega), p2], fun j j0 j1 => by rw [ec2 _ _ (by omega) (by omega), p3 j j0 j1, f1 _ _ (by omega)], fun x x0 x1 => by rw [er2 _ _ (by omega), q2 x x0 x1], by rw [er2 _ _ (by omega), q3], fun y y0 y1 => by rw [er2 _ _ (by omega), q4 y y0 y1, f3 _ _ (by omega)]⟩
    · obtain ⟨p1, p2, p3⟩ := d2 q
      obtain ⟨q1, q2, q3, q4⟩ := k2 (by rw [u38]; exact q)
      rw [e170] at q2
      refine ⟨by rw [ec2 _ _ (by omega) (by omega), p1], by rw [er2 _ _ (by omega), q1], by rw [ec2 _ _ (by omega) (by omega), p2], fun j j0 j1 => by rw [ec2 _ _ (by omega) (by omega), p3 j j0 j1, f1 _ _ (by omega)], fun x x0 x1 => by rw [er2 _ _ (by omega), q2 x x0 x1], by rw [er2 _ _ (by omega), q3], fun y y0 y1 => by rw [er2 _ _ (by omega), q4 y y0 y1, f3 _ _ (by omega)]⟩
    · rw [er]; exact u1
    · rw [er, w2' _ (by omega) (by omega)]; exact ud_W_of hf hH
    · rw [er, w2' _ (by omega) (by omega)]; exact Int.le_refl _
  · refine ⟨fun q => by omega, fun _ => ?_⟩
    rw [refuse_eq (Or.inr (Or.inr (Or.inl rfl)))]
    have e4 : am_st (am_st m 0 17 (-3)) 167 (- -3) (w32 (m 167 (- -3) + 1)) 170 = m 170 := by simp (disch := omega) only [st_rne]
    rw [e4]
    refine ⟨by omega, fun q => absurd (by omega) q, fun _ => ?_⟩
    unfold M_X12_goodOr
    refine ⟨fun q => by omega, fun _ => ?_⟩
    rw [refuses_eq (Or.inr (Or.inr (Or.inl rfl)))]
    exact refuses_end (Or.inr (Or.inr (Or.inl rfl))) h hK
