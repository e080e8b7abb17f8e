/-! LONGEST. -/
def lo_F (A : Int → Int) (a t w : Int) : Nat → Int
  | 0 => -1
  | n + 1 => if (ab_dawn (ab_say A a t ((n : Int) + 1) w)).2.2.2 (7 * A 168 + 5) ≠ 1 then lo_F A a t w n else (n : Int) + 1
theorem lo_s {A : Int → Int} {a t w l : Int} (h : 0 < l) : lo_F A a t w l.toNat = if (ab_dawn (ab_say A a t l w)).2.2.2 (7 * A 168 + 5) ≠ 1 then lo_F A a t w (l - 1).toNat else l := by
  obtain ⟨n, rfl⟩ : ∃ n : Nat, l = (n : Int) + 1 := ⟨(l - 1).toNat, by omega⟩
  rw [show ((n : Int) + 1).toNat = n + 1 by omega, show ((n : Int) + 1 - 1).toNat = n by omega, lo_F]
section LON
variable {m : am_M} {A : Int → Int} {a t w b : Int}
theorem clongest (hw : wf_A 16 A) (hB : bk_P m 1 A) (hv : vg_P m 12 A) (hd : A 169 < 999) (h143 : m 143 1 = 7) (ha : 0 ≤ a ∧ a < A 365) (ht : 0 ≤ t ∧ t ≤ 7) (hww : 1 ≤ w ∧ w ≤ 6) (hb : 0 ≤ b ∧ b ≤ 99) (h141 : ∀ q, 0 ≤ q → q < A 168 → A (7 * q + 5) = 0 → m 141 (1 * 24 + q) = ab_fore A q (A 169 + 1)) {K : am_KK}
    (hK : ∀ m', fr_p m m' → K (lo_F A a t w b.toNat) m') : M_X11_longest_L1 0 a t w b K m := by
  have l6 := hw.2.2.1.1.2
  have h16 := hw.2.1.1
  have hday := hw.2.1.2.1
  have hf9 := hw.2.2.1.2.1
  unfold M_X11_longest_L1
  refine ⟨fun j l m1 => 0 ≤ l ∧ l ≤ 99 ∧ j = l.toNat ∧ fr_p m m1 ∧ lo_F A a t w l.toNat = lo_F A a t w b.toNat ∧ ∀ q, 0 ≤ q → q < A 168 → A (7 * q + 5) = 0 → m1 141 (1 * 24 + q) = ab_fore A q (A 169 + 1), ⟨_, by omega, by omega, rfl, fun _ _ _ => rfl, rfl, h141⟩, ?_⟩
  rintro j l m1 ⟨l0, l1, rfl, f1, e, r1⟩
  unfold M_X11_longest_L1B
  simp only [am_rf_all]
  refine ⟨fun q => ?_, fun q => ?_⟩
  · have hr := hK m1 f1
    rw [← e, show l.toNat = 0 by omega] at hr
    exact hr
  refine vg_take (v := 142) (v2 := 12) rs_143 (by decide +kernel) (by decide +kernel) (show m1 143 1 = 7 by rw [f1 _ _ (by omega)]; exact h143) (vg_of hv (fun o k _ _ => f1 o k (by omega)) (fun _ _ => rfl)) (by omega) (by omega) (fun m2 v2 f2 => ?_)
  refine cutter (Or.inr rfl) v2 (by omega) (fun m3 v3 f3 => ?_)
  obtain ⟨s0, s1, s2, s3, s4, s5, s6, s7⟩ := ab_say_n (A := A) (a := a) (t := t) (l := l) (w := w) (by omega)
  have wS : wf_A 24 (ab_say A a t l w) := wf_say (wf_mono hw (by omega)) (by omega) (by omega) ha ht (by omega) hww
  have hiS : ∀ x, 169 ≤ x → ab_say A a t l w x = A x := fun x hx => ab_say_o (by omega) (by omega)
  have g3 : ∀ o k, ¬ (o = 137 ∨ o = 139 ∨ o = 141 ∨ o = 144 ∨ (o = 142 ∧ k = 1) ∨ (o = 143 ∧ k = 2) ∨ (o = 140 ∧ (k = 2 ∨ k = 3))) → m3 o k = m o k := fun o k ho => by rw [f3 o k (by omega), f2 o k (by omega)]; exact f1 o k ho
  have B3 : bk_P m3 1 (ab_say A a t l w) := bk_of hB (fun o k _ _ _ => g3 o k (by omega)) (fun x hx => hiS x (by omega)) l6
  have e9 : m3 142 1 = A 169 := by rw [v3.2, hiS _ (by omega)]
  rw [e9, w32_of (by omega) (by omega)]
  refine cforesee (Or.inr rfl) wS B3 v3 (by omega) (by omega) (by omega) (by omega) (fun m4 f4 => ?_)
  have v4 : vg_P m4 142 (ab_say A a t l w) := vg_of v3 (fun o k _ _ => by rw [f4 o k (by omega), am_st_ne _ (by omega)]) (fun _ _ => rfl)
  have B4 : bk_P m4 1 (ab_say A a t l w) := bk_of B3 (fun o k _ _ _ => by rw [f4 o k (by omega), am_st_ne _ (by omega)]) (fun _ _ => rfl) (by rw [hiS _ (by omega)]; exact l6)
  have d9 : ab_say A a t l w 169 = A 169 := hiS _ (by omega)
  have r4 : ∀ q, 0 ≤ q → q < A 168 → A (7 * q + 5) = 0 → m4 141 (1 * 24 + q) = ab_fore A q (A 169 + 1) := fun q q0 q1 q2 => by
    rw [f4 _ _ (by omega), am_st_ne _ (by omega), f3 _ _ (by omega), f2 _ _ (by omega)]
    exact r1 q q0 q1 q2
  have hc : ab_dawnR (ab_say A a t l w) (fun q => m4 141 (1 * 24 + q)) = ab_dawn (ab_say A a t l w) := ab_hear_congr _ _ (ab_day_wf wS (by omega) (by omega)) (fun q q0 q1 hz => by
    simp only [] at q1 hz
    rw [wrA_ne _ (by omega), s0] at q1
    rw [wrA_ne _ (by omega)] at hz
    show m4 141 (1 * 24 + q) = ab_fore (ab_say A a t l w) q (ab_say A a t l w 169 + 1)
    rw [d9]
    by_cases cq : q = A 168
    · subst cq
      rw [f4 _ _ (by omega), am_st_same]
    · rw [ab_say_o (by omega) (by omega)] at hz
      rw [r4 q q0 (by omega) hz]
      refine (fore_of (fun x hx => hiS x (by omega)) (fun j j0 j1 => ab_say_o (by omega) (by omega)) ?_ (by omega)).2.2.2.symm
      rw [Int.add_zero]
      exact (hw.2.1.2.2 q q0 (by omega)).1.1)
  refine chear (Or.inr rfl) wS (by omega) B4 v4 (by omega) ?_
  rw [hc]
  intro m5 f5 v5 _ _
  obtain ⟨d1, d2, d3⟩ := ab_dawn_hi wS (show ab_say A a t l w 169 < 999 by omega)
  have hg : ∀ K : am_KK, M_X7_get 143 (A 168) 5 K m5 ↔ K ((ab_dawn (ab_say A a t l w)).2.2.2 (7 * A 168 + 5)) m5 := fun K => vg_get v5 (by omega) (by rw [d2 _ (by omega) (by omega)]; omega) (by omega) K
  rw [hg]
  have g5 : fr_p m m5 := fun o k ho => by rw [f5 o k (by omega), f4 o k (by omega), am_st_ne _ (by omega)]; exact g3 o k ho
  have es := lo_s (A := A) (a := a) (t := t) (w := w) (show 0 < l by omega)
  refine ⟨fun c => ?_, fun c => ?_⟩
  · rw [if_pos c] at es
    simp only [forall_eq]
    rw [w32_of (by omega) (by omega)]
    refine ⟨_, by omega, by omega, by omega, rfl, g5, by rw [← e, es]; rfl, fun q q0 q1 q2 => by rw [f5 _ _ (by omega)]; exact r4 q q0 q1 q2⟩
  · rw [if_neg c] at es
    have hr := hK m5 g5
    rw [← e, es] at hr
    exact hr
theorem mlongest (hw : wf_A 16 A) (hA : m 170 = A) (h173 : ∀ x, 0 ≤ x → x < 170 → m 173 x = A x) (hd : A 169 < 999) (ha : 0 ≤ a ∧ a < A 365) (ht : 0 ≤ t ∧ t ≤ 7) (hww : 1 ≤ w ∧ w ≤ 6) (hb : 0 ≤ b ∧ b ≤ 99) {K : am_KK}
    (hK : ∀ m', fr_d m m' → m' 170 = A → K (lo_F A a t w b.toNat) m') : M_X12_longest_L1 168 a t w (-1) b K m := by
  have h16 := hw.2.1.1
  unfold M_X12_longest_L1
  refine ⟨fun j r l m1 => fr_d m m1 ∧ m1 170 = A ∧ ((r = -1 ∧ 0 ≤ l ∧ l ≤ 99 ∧ lo_F A a t w l.toNat = lo_F A a t w b.toNat ∧ j = l.toNat + 1) ∨ (r ≠ -1 ∧ r = lo_F A a t w b.toNat ∧ j = 0)), ⟨_, fr_d_refl _, hA, Or.inl ⟨rfl, by omega, by omega, rfl, rfl⟩⟩, ?_⟩
  rintro j r l m1 ⟨f1, e1, hh⟩
  unfold M_X12_longest_L1B
  rcases hh with ⟨rfl, l0, l1, e, rfl⟩ | ⟨hr, rfl, rfl⟩
  case inr =>
    exact ⟨fun _ => hK m1 f1 e1, fun _ => ⟨fun _ => hK m1 f1 e1, fun z => absurd hr z⟩⟩
  refine ⟨fun q => ?_, fun q => ⟨fun z => absurd rfl z, fun _ => ?_⟩⟩
  · have hr := hK m1 f1 e1
    rw [← e, show l.toNat = 0 by omega] at hr
    exact hr
  rw [prayers_eq, e1, msays (by rw [e1]; omega), e1]
  obtain ⟨s0, s1, s2, s3, s4, s5, s6, s7⟩ := ab_say_n (A := A) (a := a) (t := t) (l := l) (w := w) (by omega)
  have wS : wf_A 24 (ab_say A a t l w) := wf_say (wf_mono hw (by omega)) (by omega) (by omega) ha ht (by omega) hww
  have hiS : ∀ x, 169 ≤ x → ab_say A a t l w x = A x := fun x hx => ab_say_o (by omega) (by omega)
  have d9 : ab_say A a t l w 169 = A 169 := hiS _ (by omega)
  generalize hm2 : am_row m1 170 (ab_say A a t l w) = m2
  have r2 : m2 170 = ab_say A a t l w := by rw [← hm2]; funext x; exact row_eq _ _ _ _
  have f2 : ∀ o k, o ≠ 170 → m2 o k = m1 o k := fun o k ho => by rw [← hm2]; exact row_ne _ _ _ ho
  refine mdawns (by rw [r2]; exact wS) (by rw [r2]; omega) (fun m3 f3 r3 _ => ?_)
  rw [r2] at r3
  rw [fact_eq (by omega) (by omega), r3]
  obtain ⟨d1, d2, d3⟩ := ab_dawn_hi wS (show ab_say A a t l w 169 < 999 by omega)
  have g3 : fr_d m m3 := fun o k ho => by rw [f3 o k ho, f2 o k (by omega)]; exact f1 o k ho
  have hi3 : ∀ x, ¬ (0 ≤ x ∧ x < 170) → m3 170 x = A x := fun x hx => by
    rw [r3]
    by_cases cx : x < 0
    · rw [ab_dawn_neg cx]; exact ab_say_o (by omega) (by omega)
    · rw [d2 x (by omega) (by omega)]; exact hiS x (by omega)
  have h3 : ∀ x, 0 ≤ x → x < 170 → m3 173 x = A x := fun x x0 x1 => by rw [g3 _ _ (by omega)]; exact h173 x x0 x1
  have es := lo_s (A := A) (a := a) (t := t) (w := w) (show 0 < l by omega)
  unfold M_X12_longest_J1
  refine ⟨fun c => ?_, fun c => ?_⟩
  · rw [if_pos c] at es
    refine mtakes hi3 h3 (fun m4 f4 r4 => ?_)
    simp only [forall_eq]
    rw [w32_of (by omega) (by omega)]
    refine ⟨(l - 1).toNat + 1, by omega, fun o k ho => by rw [f4 o k (by omega)]; exact g3 o k ho, r4, Or.inl ⟨trivial, by omega, by omega, by rw [← e, es]; rfl, by omega⟩⟩
  · rw [if_neg c] at es
    refine mtakes hi3 h3 (fun m4 f4 r4 => ?_)
    simp only [forall_eq]
    refine ⟨0, by omega, fun o k ho => by rw [f4 o k (by omega)]; exact g3 o k ho, r4, Or.inr ⟨by omega, by rw [← e, es], rfl⟩⟩
end LON
theorem j_longest (a t w : Int) : Joint (M_X11_longest 0 a t w) (M_X12_longest 168 a t w) := by
  intro m h K hK
  have hb := h.1.1
  have hv := h.1.2.1
  have hf := h.1.2.2.1
  have hw := wf_mono hf (show (16 : Int) ≤ 24 by omega)
  have hn := hf.2.1.1
  have hd := hf.2.1.2.1
  have l6 := hf.2.2.1.1.2
  have hp := hf.1.2.2.1
  have hwd := h.2.2.2.2.2.2.2.1
  obtain ⟨-, -, R3, -⟩ := bk_rows hb
  unfold M_X11_longest M_X12_longest M_X12_isThing
  simp only [am_rf_all, am_ln_all, has_eq, isThing_eq, within_eq, lies_eq, b01, R3.2.1, hv.2]
  have mw : ∀ (m1 : am_M), m1 170 = m 170 → ∀ K : am_KK, M_X12_isPerson 168 a K m1 ↔ K (if 0 ≤ a ∧ a < m 170 365 then 1 else 0) m1 := fun m1 e K => by
    rw [isPerson_eq _ _ _ (by rw [e]; omega), e]
  by_cases c1 : 0 ≤ a ∧ a < m 170 365
  case neg =>
    refine ⟨fun _ => ?_, fun z => absurd c1 z⟩
    rw [mw m rfl, if_neg c1]
    exact ⟨fun _ => hK _ _ h, fun z => absurd rfl z⟩
  refine ⟨fun z => absurd c1 z, fun _ => ?_⟩
  by_cases c2 : 0 ≤ t ∧ t ≤ 7
  case neg =>
    refine ⟨fun _ => ?_, fun z => absurd c2 z⟩
    rw [mw m rfl, if_pos c1]
    exact ⟨fun z => absurd z (by decide), fun _ => ⟨fun _ => hK _ _ h, fun z => absurd c2 z⟩⟩
  refine ⟨fun z => absurd c2 z, fun _ => ?_⟩
  by_cases c3 : 1 ≤ w ∧ w ≤ 6
  case neg =>
    refine ⟨fun _ => ?_, fun z => absurd c3 z⟩
    rw [mw m rfl, if_pos c1]
    exact ⟨fun z => absurd z (by decide), fun _ => ⟨fun z => absurd c2 z, fun _ => ⟨fun _ => hK _ _ h, fun z => absurd c3 z⟩⟩⟩
  refine ⟨fun z => absurd c3 z, fun _ => ?_⟩
  by_cases c4 : m 170 169 < 999
  case neg =>
    refine ⟨fun z => absurd z c4, fun _ => ?_⟩
    rw [mw m rfl, if_pos c1]
    exact ⟨fun z => absurd z (by decide), fun _ => ⟨fun z => absurd c2 z, fun _ => ⟨fun z => absurd c3 z, fun _ => ⟨by omega, fun z => absurd (by omega) z, fun _ => hK _ _ h⟩⟩⟩⟩
  refine ⟨fun _ => ?_, fun z => absurd c4 z⟩
  refine cforeseeAll (Or.inl rfl) hw hb hv (by omega) (fun m1 f1 r1 => ?_)
  have B1 : bk_P m1 1 (m 170) := bk_of hb (fun o k _ _ _ => f1 o k (by omega)) (fun _ _ => rfl) l6
  have e12 : m1 12 1 = m 170 169 := by rw [f1 _ _ (by omega)]; exact hv.2
  rw [e12]
  refine cbreathOf hw B1 c1.1 c1.2 (by omega) (fun m2 f2 => ?_)
  have hbr := breath_le (A := m 170) (q := a) (day := m 170 169)
  have g2 : ∀ o k, ¬ (o = 137 ∨ o = 139 ∨ o = 141) → m2 o k = m o k := fun o k ho => by rw [f2 o k (by omega)]; exact f1 o k ho
  refine clongest hf (bk_of hb (fun o k _ _ _ => g2 o k (by omega)) (fun _ _ => rfl) l6) (vg_of hv (fun o k _ _ => g2 o k (by omega)) (fun _ _ => rfl)) c4 (by rw [g2 _ _ (by omega)]; exact hwd (143, 7) (by decide)) c1 c2 c3 hbr (fun q q0 q1 q2 => by rw [f2 _ _ (by omega)]; exact r1 1 q (by omega) (by omega) q0 q1 q2) (fun m3 f3 => ?_)
  have g3 : ∀ o k, ¬ (136 ≤ o ∧ o ≤ 144 ∧ ¬ (o = 143 ∧ k = 1)) → m3 o k = m o k := fun o k ho => by rw [f3 o k (by omega)]; exact g2 o k (by omega)
  have e170 : m3 170 = m 170 := funext fun x => g3 _ _ (by omega)
  rw [mw m3 e170, if_pos c1]
  refine ⟨fun z => absurd z (by decide), fun _ => ⟨fun z => absurd c2 z, fun _ => ⟨fun z => absurd c3 z, fun _ => ⟨by omega, fun _ => ?_, fun z => absurd (by rw [e170]; omega) z⟩⟩⟩⟩
  refine mlays (fun m4 f4 s4 => ?_)
  have e4 : m4 170 = m 170 := by rw [← e170]; exact funext fun x => f4 _ _ (by omega)
  rw [e170] at s4
  refine mbreathOf (by rw [e4]; exact hw.2.2.1) (by rw [e4]; exact hw.2.2.2) (by omega) (by rw [e4]; omega) (fun m5 f5 => ?_)
  rw [e4]
  have e5 : m5 170 = m 170 := by rw [fr_law_170 f5]; exact e4
  refine mlongest hf e5 (fun x x0 x1 => by rw [f5 _ _ (by omega)]; exact s4 x x0 x1) c4 c1 c2 c3 hbr (fun m6 f6 r6 => ?_)
  refine hK _ _ (Rel_of h (fun o k ho => ?_))
  by_cases q : o = 170
  · subst q; rw [r6]
  · unfold rl_s at ho
    rw [f6 o k (by omega), f5 o k (by omega), f4 o k (by omega)]
    exact g3 o k (by omega)
