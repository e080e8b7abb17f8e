/-! WHEN: the paper is a Vigil to try things on; the row is laid aside and taken back. -/
theorem ab_hear_neg {R : Int → Int} : ∀ (e : Nat) (s : ab_H) (x : Int), x < 0 → (ab_hear R e s).2.2.2 x = s.2.2.2 x := by
  intro e
  induction e with
  | zero => intro s x _; rfl
  | succ e ih =>
    intro s x hx
    unfold ab_hear
    split
    · rfl
    · rename_i c
      rw [ih _ x hx]
      show ab_one s.2.2.2 _ x = _
      have := ab_low_ge (A := s.2.2.2) (R := R) (s.2.2.2 168).toNat
      unfold ab_one
      rw [wrA_ne _ (by omega), wrA_ne _ (by omega)]
theorem ab_dawn_neg {A : Int → Int} {x : Int} (hx : x < 0) : (ab_dawn A).2.2.2 x = A x := by
  unfold ab_dawn ab_dawnR
  rw [ab_hear_neg _ _ x hx]
  exact wrA_ne _ (by omega)
theorem ab_dawn_hi {A : Int → Int} (hw : wf_A 24 A) (hd : A 169 < 999) : wf_A 24 (ab_dawn A).2.2.2 ∧ (∀ x, 168 ≤ x → x ≠ 169 → (ab_dawn A).2.2.2 x = A x) ∧ (ab_dawn A).2.2.2 169 = A 169 + 1 := by
  obtain ⟨w1, w2⟩ := ab_dawnR_wf (R := fun p => ab_fore A p (A 169 + 1)) hw (by omega) hd
  refine ⟨w1, fun x hx h9 => ?_, ?_⟩
  · rw [show (ab_dawn A).2.2.2 x = wrA A 169 (A 169 + 1) x from w2.1 x hx, wrA_ne _ h9]
  · rw [show (ab_dawn A).2.2.2 169 = wrA A 169 (A 169 + 1) 169 from w2.1 169 (by omega), wrA_same]
theorem mlays {m : am_M} {K : am_KK} (hK : ∀ m', (∀ o x, o ≠ 173 → m' o x = m o x) → (∀ x, 0 ≤ x → x < 170 → m' 173 x = m 170 x) → K 0 m') : M_X12_laysAside 168 0 K m := by
  unfold M_X12_laysAside M_X12_laysAside_L1
  refine ⟨fun j i m1 => 0 ≤ i ∧ i ≤ 170 ∧ j = (170 - i).toNat ∧ (∀ o x, o ≠ 173 → m1 o x = m o x) ∧ ∀ x, 0 ≤ x → x < i → m1 173 x = m 170 x, ⟨_, by omega, by omega, rfl, fun _ _ _ => rfl, fun x x0 x1 => by omega⟩, ?_⟩
  rintro j i m1 ⟨i0, i1, rfl, c1, c2⟩
  unfold M_X12_laysAside_L1B
  simp only [am_rf_all, am_ln_all, forall_eq]
  rw [show w32 (170 * 0) = 0 by decide, w32_of (z := 0 + i) (by omega) (by omega)]
  refine ⟨fun q => hK _ c1 (fun x x0 x1 => c2 x x0 (by omega)), fun q => ⟨by omega, by omega, ?_⟩⟩
  rw [w32_of (by omega) (by omega)]
  refine ⟨_, by omega, by omega, by omega, rfl, fun o x ho => by rw [am_st_ne _ (by omega)]; exact c1 o x ho, fun x x0 x1 => ?_⟩
  by_cases e : x = i
  · subst e; rw [show 0 + x = x by omega, am_st_same, c1 _ _ (by omega)]
  · rw [am_st_ne _ (by omega)]; exact c2 x x0 (by omega)
theorem mtakes {m : am_M} {A : Int → Int} (h1 : ∀ x, ¬ (0 ≤ x ∧ x < 170) → m 170 x = A x) (h2 : ∀ x, 0 ≤ x → x < 170 → m 173 x = A x) {K : am_KK} (hK : ∀ m', (∀ o x, o ≠ 170 → m' o x = m o x) → m' 170 = A → K 0 m') : M_X12_takesBack 168 0 K m := by
  unfold M_X12_takesBack M_X12_takesBack_L1
  refine ⟨fun j i m1 => 0 ≤ i ∧ i ≤ 170 ∧ j = (170 - i).toNat ∧ (∀ o x, o ≠ 170 → m1 o x = m o x) ∧ (∀ x, 0 ≤ x → x < i → m1 170 x = A x) ∧ ∀ x, ¬ (0 ≤ x ∧ x < 170) → m1 170 x = A x, ⟨_, by omega, by omega, rfl, fun _ _ _ => rfl, fun x x0 x1 => by omega, h1⟩, ?_⟩
  rintro j i m1 ⟨i0, i1, rfl, c1, c2, c3⟩
  unfold M_X12_takesBack_L1B
  simp only [am_rf_all, am_ln_all, forall_eq]
  rw [show w32 (170 * 0) = 0 by decide, w32_of (z := 0 + i) (by omega) (by omega)]
  refine ⟨fun q => hK _ c1 (funext fun x => ?_), fun q => ⟨by omega, by omega, ?_⟩⟩
  · by_cases cx : 0 ≤ x ∧ x < 170
    · exact c2 x cx.1 (by omega)
    · exact c3 x cx
  rw [w32_of (by omega) (by omega)]
  refine ⟨_, by omega, by omega, by omega, rfl, fun o x ho => by rw [am_st_ne _ (by omega)]; exact c1 o x ho, fun x x0 x1 => ?_, fun x hx => by rw [am_st_ne _ (by omega)]; exact c3 x hx⟩
  by_cases e : x = i
  · subst e; rw [am_st_same, c1 _ _ (by omega), show 0 + x = x by omega]; exact h2 x x0 (by omega)
  · rw [am_st_ne _ (by omega)]; exact c2 x x0 (by omega)
/-- what a paper's day leaves alone -/
def fr_p (m m' : am_M) : Prop := ∀ o k, ¬ (o = 137 ∨ o = 139 ∨ o = 141 ∨ o = 144 ∨ (o = 142 ∧ k = 1) ∨ (o = 143 ∧ k = 2) ∨ (o = 140 ∧ (k = 2 ∨ k = 3))) → m' o k = m o k
def wn_A (p : Int) : Nat → (Int → Int) → Int → Int
  | 0, A => A
  | n + 1, A => if A (7 * p + 5) ≠ 0 ∨ 999 ≤ A 169 then A else wn_A p n (ab_dawn A).2.2.2
def wn_r (A : Int → Int) (p v : Int) : Int := if A (7 * p + 5) = 0 then -1 else if v ≠ 0 then (if A (7 * p + 5) ≠ 1 then 0 else 1) else A (7 * p + 6)
theorem wn_s {p i n : Int} {A : Int → Int} (h : i < n) : wn_A p (n - i).toNat A = if A (7 * p + 5) ≠ 0 ∨ 999 ≤ A 169 then A else wn_A p (n - (i + 1)).toNat (ab_dawn A).2.2.2 := by
  rw [show (n - i).toNat = (n - (i + 1)).toNat + 1 by omega, wn_A]
theorem cwhen {m : am_M} {A0 : Int → Int} {p n v : Int} (hw : wf_A 24 A0) (hB : bk_P m 1 A0) (hv : vg_P m 142 A0) (h0 : 0 ≤ p ∧ p < A0 168) (hn : 1 ≤ n ∧ n ≤ 50) {K : am_KK}
    (hK : ∀ m', fr_p m m' → K (wn_r (wn_A p n.toNat A0) p v) m') : M_X11_when_L1 0 p n v 0 K m := by
  have l6 := hw.2.2.1.1.2
  unfold M_X11_when_L1
  refine ⟨fun j i m1 => 0 ≤ i ∧ i ≤ n ∧ j = (n - i).toNat ∧ fr_p m m1 ∧ ∃ A, wf_A 24 A ∧ A 168 = A0 168 ∧ (∀ x, 170 ≤ x → A x = A0 x) ∧ vg_P m1 142 A ∧ wn_A p (n - i).toNat A = wn_A p n.toNat A0, ⟨_, by omega, by omega, rfl, fun _ _ _ => rfl, A0, hw, rfl, fun _ _ => rfl, hv, by rw [Int.sub_zero]⟩, ?_⟩
  rintro j i m1 ⟨i0, i1, rfl, f1, A, w1, e8, ehi, v1, e⟩
  have hB1 : bk_P m1 1 A := bk_of hB (fun o k _ _ _ => f1 o k (by omega)) (fun x hx => ehi x hx) l6
  have fin : wn_A p (n - i).toNat A = A → M_X11_when_J1 0 p v K m1 := by
    intro q
    rw [q] at e
    have ww : ∀ K : am_KK, M_X9_waits 142 p K m1 ↔ K (if A (7 * p + 5) = 0 then 1 else 0) m1 := fun K => vg_waits (Or.inr rfl) v1 h0.1 (by omega) K
    have g5 : ∀ K : am_KK, M_X7_get 143 p 5 K m1 ↔ K (A (7 * p + 5)) m1 := fun K => vg_get v1 h0.1 (by omega) (by omega) K
    have g6 : ∀ K : am_KK, M_X7_get 143 p 6 K m1 ↔ K (A (7 * p + 6)) m1 := fun K => vg_get v1 h0.1 (by omega) (by omega) K
    have hr := hK m1 f1
    rw [← e] at hr
    unfold wn_r at hr
    unfold M_X11_when_J1 M_X11_when_J2
    simp only [am_rf_all, ww, g5, g6]
    by_cases c : A (7 * p + 5) = 0
    · rw [if_pos c] at hr
      rw [if_pos c]
      exact ⟨fun z => absurd z (by decide), fun _ => hr⟩
    · rw [if_neg c] at hr
      rw [if_neg c]
      refine ⟨fun _ => ⟨fun c1 => ⟨fun c2 => ?_, fun c2 => ?_⟩, fun c1 => ⟨fun c2 => ?_, fun c2 => ?_⟩⟩, fun z => absurd rfl z⟩
      · rw [if_pos c2, if_pos c1] at hr; exact hr
      · rw [if_neg c2] at hr; exact hr
      · rw [if_pos c2, if_neg c1] at hr; exact hr
      · rw [if_neg c2] at hr; exact hr
  unfold M_X11_when_L1B
  simp only [am_rf_all]
  refine ⟨fun q => fin (by rw [show (n - i).toNat = 0 by omega]; rfl), fun q => ?_⟩
  have es := wn_s (p := p) (A := A) (show i < n by omega)
  rw [vg_waits (Or.inr rfl) v1 h0.1 (by omega)]
  by_cases c : A (7 * p + 5) = 0
  · rw [if_pos c]
    refine ⟨fun z => absurd z (by decide), fun _ => ?_⟩
    have e9 : m1 142 1 = A 169 := v1.2
    rw [e9]
    refine ⟨fun c9 => fin (by rw [es, if_pos (Or.inr c9)]), fun c9 => ?_⟩
    rw [if_neg (by omega)] at es
    refine cdawn (Or.inr rfl) w1 (by omega) hB1 v1 (fun m2 f2 v2 _ _ => ?_)
    simp only [forall_eq]
    rw [w32_of (by omega) (by omega)]
    obtain ⟨d1, d2, d3⟩ := ab_dawn_hi w1 (show A 169 < 999 by omega)
    refine ⟨_, by omega, by omega, by omega, rfl, fun o k ho => by rw [f2 o k (by omega)]; exact f1 o k ho, _, d1, by rw [d2 _ (by omega) (by omega)]; exact e8, fun x hx => by rw [d2 x (by omega) (by omega)]; exact ehi x hx, v2, by rw [← es]; exact e⟩
  · rw [if_neg c]
    refine ⟨fun _ => fin (by rw [es, if_pos (Or.inl c)]), fun z => absurd rfl z⟩
theorem mwhen {m : am_M} {A0 : Int → Int} {p n v : Int} (hw : wf_A 24 A0) (hA : m 170 = A0) (h173 : ∀ x, 0 ≤ x → x < 170 → m 173 x = A0 x) (h0 : 0 ≤ p ∧ p < A0 168) (hn : 1 ≤ n ∧ n ≤ 50) {K : am_KK}
    (hK : ∀ m', (∀ o k, o ≠ 170 → (¬ (o = 180 ∨ o = 187 ∨ o = 188 ∨ (o = 168 ∧ (k = 8 ∨ k = 22 ∨ k = 23 ∨ k = 24 ∨ k = 34 ∨ k = 35)))) → m' o k = m o k) → m' 170 = A0 → K (wn_r (wn_A p n.toNat A0) p v) m') : M_X12_when_L1 168 p n v 0 K m := by
  have h24 := hw.2.1.1
  unfold M_X12_when_L1
  refine ⟨fun j i m1 => 0 ≤ i ∧ i ≤ n ∧ j = (n - i).toNat ∧ fr_d m m1 ∧ wf_A 24 (m1 170) ∧ m1 170 168 = A0 168 ∧ (∀ x, ¬ (0 ≤ x ∧ x < 170) → m1 170 x = A0 x) ∧ wn_A p (n - i).toNat (m1 170) = wn_A p n.toNat A0, ⟨_, by omega, by omega, rfl, fr_d_refl _, by rw [hA]; exact hw, by rw [hA], fun _ _ => by rw [hA], by rw [Int.sub_zero, hA]⟩, ?_⟩
  rintro j i m1 ⟨i0, i1, rfl, f1, w1, e8, ehi, e⟩
  have fk : ∀ j, 0 ≤ j ∧ j < 7 → ∀ K : am_KK, M_X12_fact 168 p j K m1 ↔ K (m1 170 (7 * p + j)) m1 := fun j hj K => fact_eq (by omega) hj K m1
  have fin : wn_A p (n - i).toNat (m1 170) = m1 170 → M_X12_when_J1 168 p v K m1 := by
    intro q
    rw [q] at e
    have tb : M_X12_takesBack 168 0 (fun _ m2 => K (wn_r (wn_A p n.toNat A0) p v) m2) m1 := mtakes ehi (fun x x0 x1 => by rw [f1 _ _ (by omega)]; exact h173 x x0 x1) (fun m2 f2 r2 => hK m2 (fun o k h1 h2 => by rw [f2 o k h1]; exact f1 o k (by omega)) r2)
    rw [← e] at tb
    unfold wn_r at tb
    unfold M_X12_when_J1 M_X12_when_J2
    rw [fk 5 (by omega)]
    by_cases c : m1 170 (7 * p + 5) = 0
    · rw [if_pos c] at tb
      exact ⟨fun z => absurd c z, fun _ => tb⟩
    · rw [if_neg c] at tb
      refine ⟨fun _ => ⟨fun c1 => ?_, fun c1 => ?_⟩, fun z => absurd c z⟩
      · rw [if_pos c1] at tb
        rw [fk 5 (by omega)]
        refine ⟨fun c2 => ?_, fun c2 => ?_⟩
        · rw [if_pos c2] at tb; exact tb
        · rw [if_neg c2] at tb; exact tb
      · rw [if_neg c1] at tb
        rw [fk 6 (by omega)]
        exact tb
  unfold M_X12_when_L1B
  simp only [am_rf_all, am_ln_all]
  refine ⟨fun q => fin (by rw [show (n - i).toNat = 0 by omega]; rfl), fun q => ?_⟩
  have es := wn_s (p := p) (A := m1 170) (show i < n by omega)
  rw [fk 5 (by omega)]
  refine ⟨fun c => fin (by rw [es, if_pos (Or.inl c)]), fun c => ⟨by omega, fun c9 => fin (by rw [es, if_pos (Or.inr c9)]), fun c9 => ?_⟩⟩
  rw [if_neg (by omega)] at es
  refine mdawns w1 (by omega) (fun m2 f2 r2 _ => ?_)
  simp only [forall_eq]
  rw [w32_of (by omega) (by omega)]
  obtain ⟨d1, d2, d3⟩ := ab_dawn_hi w1 (show m1 170 169 < 999 by omega)
  refine ⟨_, by omega, by omega, by omega, rfl, fr_d_t f1 f2, by rw [r2]; exact d1, by rw [r2, d2 _ (by omega) (by omega)]; exact e8, fun x hx => ?_, by rw [r2, ← es]; exact e⟩
  rw [r2]
  by_cases cx : x < 0
  · rw [ab_dawn_neg cx]; exact ehi x hx
  · rw [d2 x (by omega) (by omega)]; exact ehi x hx
theorem j_when (p n v : Int) : Joint (M_X11_when 0 p n v) (M_X12_when 168 p n v) := by
  intro m h K hK
  have hb := h.1.1
  have hv := h.1.2.1
  have hf := h.1.2.2.1
  have hw := wf_mono hf (show (16 : Int) ≤ 24 by omega)
  have hn := hf.2.1.1
  have l6 := hf.2.2.1.1.2
  have hwd := h.2.2.2.2.2.2.2.1
  unfold M_X11_when M_X12_when
  simp only [am_rf_all, cwaits_eq (Or.inl rfl) hv, within_eq, b01, b01']
  have mw : ∀ (m1 : am_M), m1 170 = m 170 → ∀ K : am_KK, M_X12_isWaiting 168 p K m1 ↔ K (if (0 ≤ p ∧ p < m 170 168) ∧ m 170 (7 * p + 5) = 0 then 1 else 0) m1 := fun m1 e K => by
    rw [isWaiting_eq _ _ _ (by rw [e]; omega), e]
  by_cases c1 : (0 ≤ p ∧ p < m 170 168) ∧ m 170 (7 * p + 5) = 0
  case neg =>
    refine ⟨fun _ => ?_, fun z => absurd c1 z⟩
    rw [mw m rfl, if_neg c1]
    exact ⟨fun _ => hK _ _ h, fun z => absurd rfl z⟩
  refine ⟨fun z => absurd c1 z, fun _ => ?_⟩
  by_cases c2 : 1 ≤ n ∧ n ≤ 50
  case neg =>
    refine ⟨fun _ => ?_, fun z => absurd c2 z⟩
    rw [mw m rfl, if_pos c1]
    refine ⟨fun z => absurd z (by decide), fun _ => ?_⟩
    rw [lies_eq, if_neg c2]
    exact ⟨fun _ => hK _ _ h, fun z => absurd rfl z⟩
  refine ⟨fun z => absurd c2 z, fun _ => ?_⟩
  by_cases c3 : 0 ≤ v ∧ v ≤ 1
  case neg =>
    refine ⟨fun z => absurd z c3, fun _ => ?_⟩
    rw [mw m rfl, if_pos c1]
    refine ⟨fun z => absurd z (by decide), fun _ => ?_⟩
    rw [lies_eq, if_pos c2]
    refine ⟨fun z => absurd z (by decide), fun _ => ?_⟩
    rw [lies_eq, if_neg c3]
    exact ⟨fun z => absurd rfl z, fun _ => hK _ _ h⟩
  refine ⟨fun _ => ?_, fun z => absurd c3 z⟩
  refine paper_take hwd hv (by omega) (fun m1 v1 f1 => ?_)
  have hB1 : bk_P m1 1 (m 170) := bk_of hb (fun o k _ _ _ => f1 o k (by omega)) (fun _ _ => rfl) l6
  refine cwhen hw hB1 v1 c1.1 c2 (fun m2 f2 => ?_)
  have g2 : ∀ o k, ¬ (136 ≤ o ∧ o ≤ 144 ∧ ¬ (o = 143 ∧ k = 1)) → m2 o k = m o k := fun o k ho => by rw [f2 o k (by omega)]; exact f1 o k (by omega)
  have e170 : m2 170 = m 170 := funext fun x => g2 _ _ (by omega)
  rw [mw m2 e170, if_pos c1]
  refine ⟨fun z => absurd z (by decide), fun _ => ?_⟩
  rw [lies_eq, if_pos c2]
  refine ⟨fun z => absurd z (by decide), fun _ => ?_⟩
  rw [lies_eq, if_pos c3]
  refine ⟨fun _ => ?_, fun z => absurd (by decide) z⟩
  refine mlays (fun m3 f3 s3 => ?_)
  have e3 : m3 170 = m 170 := by rw [← e170]; exact funext fun x => f3 _ _ (by omega)
  rw [e170] at s3
  refine mwhen hw e3 s3 c1.1 c2 (fun m4 f4 r4 => ?_)
  refine hK _ _ (Rel_of h (fun o k ho => ?_))
  by_cases q : o = 170
  · subst q; rw [r4]
  · unfold rl_s at ho
    rw [f4 o k q (by omega), f3 o k (by omega)]
    exact g2 o k (by omega)
