/-! THE ROW'S OWN DAWN. -/
theorem misDenied {m : am_M} {p : Int} (hw : wf_A 24 (m 170)) (h0 : 0 ≤ p) (h1 : p < m 170 168) {K : am_KK} (hK : K (if ab_denied (m 170) p = true then 1 else 0) m) : M_X12_isDenied 168 p K m := by
  have h24 := hw.2.1.1
  have hday := hw.2.1.2.1
  have hpp := (hw.2.1.2.2 p h0 h1).2.1
  unfold M_X12_isDenied M_X12_isDenied_L1
  refine ⟨fun j i m1 => 0 ≤ i ∧ i ≤ m 170 168 ∧ j = (m 170 168 - i).toNat ∧ m1 = m ∧ ab_den (m 170) (m 170 (7 * p + 1)) i.toNat = false, ⟨_, by omega, by omega, rfl, rfl, rfl⟩, ?_⟩
  rintro j i m1 ⟨i0, i1, rfl, rfl, hden⟩
  unfold M_X12_isDenied_L1B
  rw [prayers_eq]
  refine ⟨fun hi => ?_, fun hi => ?_⟩
  · have : i = m1 170 168 := by omega
    unfold ab_denied at hK
    rw [← this, hden] at hK
    exact hK
  · have hii := hw.2.1.2.2 i i0 (by omega)
    have hn : ab_den (m1 170) (m1 170 (7 * p + 1)) (i + 1).toNat = (m1 170 (7 * i + 5) == 1 && decide (m1 170 169 - m1 170 (7 * i + 6) < m1 170 361) && (m1 170 (7 * i + 1) == m1 170 (7 * p + 1) || m1 170 (244 + 8 * m1 170 (7 * i + 1) + m1 170 (7 * p + 1)) == 1)) := by
      rw [show (i + 1).toNat = i.toNat + 1 by omega, ab_den, hden, Bool.false_or, show (i.toNat : Int) = i by omega]
    have next : ab_den (m1 170) (m1 170 (7 * p + 1)) (i + 1).toNat = false → M_X12_isDenied_J1 168 p i (fun v2' m' => ∃ j', j' < (m1 170 168 - i).toNat ∧ 0 ≤ v2' ∧ v2' ≤ m1 170 168 ∧ j' = (m1 170 168 - v2').toNat ∧ m' = m1 ∧ ab_den (m1 170) (m1 170 (7 * p + 1)) v2'.toNat = false) K m1 := by
      intro h
      unfold M_X12_isDenied_J1
      intro v2' hv
      rw [w32_of (by omega) (by omega)] at hv
      subst hv
      exact ⟨_, by omega, by omega, by omega, rfl, rfl, h⟩
    generalize (fun (v2' : Int) (m' : am_M) => ∃ j', j' < (m1 170 168 - i).toNat ∧ 0 ≤ v2' ∧ v2' ≤ m1 170 168 ∧ j' = (m1 170 168 - v2').toNat ∧ m' = m1 ∧ ab_den (m1 170) (m1 170 (7 * p + 1)) v2'.toNat = false) = C at next ⊢
    have dn : ab_den (m1 170) (m1 170 (7 * p + 1)) (i + 1).toNat = true → K 1 m1 := by
      intro h
      have mono : ∀ d n : Nat, ab_den (m1 170) (m1 170 (7 * p + 1)) n = true → ab_den (m1 170) (m1 170 (7 * p + 1)) (n + d) = true := by
        intro d
        induction d with
        | zero => intro n h; exact h
        | succ d ih => intro n h; rw [Nat.add_succ, ab_den, ih n h, Bool.true_or]
      have := mono ((m1 170 168).toNat - (i + 1).toNat) _ h
      rw [show (i + 1).toNat + ((m1 170 168).toNat - (i + 1).toNat) = (m1 170 168).toNat by omega] at this
      unfold ab_denied at hK
      rw [this] at hK
      exact hK
    have hb : 0 ≤ i ∧ i < 24 := by omega
    have hbp : 0 ≤ p ∧ p < 24 := by omega
    simp only [fact_eq hb (show 0 ≤ (5 : Int) ∧ (5 : Int) < 7 by omega), fact_eq hb (show 0 ≤ (1 : Int) ∧ (1 : Int) < 7 by omega), fact_eq hb (show 0 ≤ (6 : Int) ∧ (6 : Int) < 7 by omega), fact_eq hbp (show 0 ≤ (1 : Int) ∧ (1 : Int) < 7 by omega), am_rf_all, am_ln_all]
    have t1 := hii.2.1
    have t6 := hii.2.2.2.2.2.2
    rw [w32_of (z := m1 170 169 - m1 170 (7 * i + 6)) (by omega) (by omega), w32_of (z := 8 * m1 170 (7 * i + 1)) (by omega) (by omega), w32_of (z := 244 + 8 * m1 170 (7 * i + 1)) (by omega) (by omega), w32_of (z := 244 + 8 * m1 170 (7 * i + 1) + m1 170 (7 * p + 1)) (by omega) (by omega)]
    refine ⟨fun hs => next (by rw [hn]; simp [hs]), fun hs => ⟨by omega, by omega, fun ht => ?_, fun ht => next ?_⟩⟩
    · have u0 : (m1 170 (7 * i + 5) == 1) = true := by simp; omega
      have u1 : decide (m1 170 169 - m1 170 (7 * i + 6) < m1 170 361) = true := by simp; omega
      rw [u0, u1, Bool.true_and] at hn
      refine ⟨fun he => dn (by rw [hn]; simp [he]), fun he => ⟨by omega, fun hc => next (by rw [hn]; simp [he, hc]), fun hc => dn ?_⟩⟩
      have hc' : m1 170 (244 + 8 * m1 170 (7 * i + 1) + m1 170 (7 * p + 1)) = 1 := by omega
      rw [hn]; simp [hc']
    · have u1 : decide (m1 170 169 - m1 170 (7 * i + 6) < m1 170 361) = false := by simp; omega
      rw [hn, u1]; simp
/-- what a DAWN leaves alone besides the row -/
def fr_d (m m' : am_M) : Prop := ∀ o k, ¬ (o = 170 ∨ o = 180 ∨ o = 187 ∨ o = 188 ∨ (o = 168 ∧ (k = 8 ∨ k = 22 ∨ k = 23 ∨ k = 24 ∨ k = 34 ∨ k = 35))) → m' o k = m o k
theorem fr_d_refl (m : am_M) : fr_d m m := fun _ _ _ => rfl
theorem fr_d_t {a b c : am_M} (h : fr_d a b) (g : fr_d b c) : fr_d a c := fun o k q => by rw [g o k q, h o k q]
theorem fr_d_q {a b : am_M} (h : fr_q a b) : fr_d a b := fun o k q => h o k (by omega)
theorem fr_d_law {a b : am_M} (h : fr_law a b) : fr_d a b := fun o k q => h o k (by omega)
theorem bit_or0 {x : Int} (h : 0 ≤ x ∧ x < 256) : am_or x 0 = x := by
  obtain ⟨a, rfl⟩ := bit_nat h.1
  have := bn_or (a := a) (b := 0) (by omega) (by omega)
  rw [Nat.or_zero] at this
  exact this
theorem st_row (m : am_M) (o k v : Int) : am_st m o k v o = wrA (m o) k v := by
  funext x
  simp [am_st_eq, wrA]
theorem mdawns {m : am_M} (hw : wf_A 24 (m 170)) (hd : m 170 169 < 999) {K : am_KK}
    (hK : ∀ m', fr_d m m' → m' 170 = (ab_dawn (m 170)).2.2.2 → m' 168 35 = (ab_dawn (m 170)).2.1 → K (ab_dawn (m 170)).1 m') : M_X12_dawns 168 K m := by
  have h24 := hw.2.1.1
  have hday := hw.2.1.2.1
  have hears := hw.1.2.2.2.2.2.2.2.1
  have hw1 := ab_day_wf hw (by omega) hd
  unfold M_X12_dawns
  simp only [am_rf_all, am_ln_all, forall_eq]
  rw [w32_of (z := m 170 169 + 1) (by omega) (by omega), am_st_same]
  refine ⟨by omega, by omega, by omega, ?_⟩
  have er : am_st m 170 169 (m 170 169 + 1) 170 = wrA (m 170) 169 (m 170 169 + 1) := st_row _ _ _ _
  refine mqueues (by rw [er]; exact hw1) (by omega) (fun m1 L f1 hc hl24 hL hS hM => ?_)
  rw [er] at hS hM
  rw [er, wrA_ne _ (by omega)] at hl24
  have e1 := fr_q_170 f1
  rw [er] at e1
  have hfore : ∀ q, 0 ≤ q → q < m 170 168 → ab_fore (wrA (m 170) 169 (m 170 169 + 1)) q (m 170 169 + 1) = ab_fore (m 170) q (m 170 169 + 1) := by
    intro q q0 q1
    refine (fore_of (fun x hx => wrA_ne _ (by omega)) (fun j j0 j5 => wrA_ne _ (by omega)) ?_ (by have := hw.2.2.1.2.1; omega)).2.2.2
    have := (hw.2.1.2.2 q q0 q1).1; rw [Int.add_zero]; exact this.1
  have h168 : wrA (m 170) 169 (m 170 169 + 1) 168 = m 170 168 := wrA_ne _ (by omega)
  rw [h168] at hM
  -- by the ranks foreseen
  have hS' : qu_S (fun p => ab_fore (m 170) p (m 170 169 + 1)) L := by
    refine List.Pairwise.imp_of_mem (fun {a b} ha hb h => ?_) hS
    have g1 := (hM a).mp ha
    have g2 := (hM b).mp hb
    simp only [hfore a g1.1 g1.2.1, hfore b g2.1 g2.2.1] at h
    exact h
  have hM' : qu_M (wrA (m 170) 169 (m 170 169 + 1)) (fun p => ab_fore (m 170) p (m 170 169 + 1)) (m 170 168) L := by
    intro q
    rw [hM q]
    constructor
    · rintro ⟨a, b, c, d⟩; simp only [] at d ⊢; rw [hfore q a b] at d; exact ⟨a, b, c, d⟩
    · rintro ⟨a, b, c, d⟩; simp only [] at d ⊢; rw [← hfore q a b] at d; exact ⟨a, b, c, d⟩
  unfold M_X12_dawns_L1
  refine ⟨fun j g i m2 => 0 ≤ i ∧ i ≤ m 170 360 ∧ j = (m 170 360 - i).toNat ∧ ∃ (s : ab_H) (L2 : List Int), ab_hear (fun p => ab_fore (m 170) p (m 170 169 + 1)) (m 170 360 - i).toNat s = ab_dawn (m 170) ∧ m2 170 = s.2.2.2 ∧ m2 168 35 = s.2.1 ∧ g = s.1 ∧ (0 ≤ g ∧ g ≤ i) ∧ fr_d m m2 ∧ m2 168 34 = i + L2.length ∧ i + L2.length ≤ 24 ∧ pz_at (m2 187) i L2 ∧ qu_S (fun p => ab_fore (m 170) p (m 170 169 + 1)) L2 ∧ qu_M s.2.2.2 (fun p => ab_fore (m 170) p (m 170 169 + 1)) (m 170 168) L2 ∧ wf_A 24 s.2.2.2 ∧ ab_in (wrA (m 170) 169 (m 170 169 + 1)) s.2.2.2 ∧ 0 ≤ s.2.1 ∧ s.2.1 < 256, ⟨_, by omega, by omega, rfl, (0, 0, 0, wrA (m 170) 169 (m 170 169 + 1)), L, by rw [Int.sub_zero]; rfl, ?_, by rw [am_st_same], rfl, by omega, fun o k h => ?_, ?_, by omega, pz_at_of hL (fun x _ _ => am_st_ne _ (by omega)), hS', hM', hw1, ab_in_refl _, by simp only []; omega, by simp only []; omega⟩, ?_⟩
  · rw [← e1]; funext x; exact am_st_ne _ (by omega)
  · rw [am_st_ne _ (by omega), f1 o k (by omega), am_st_ne _ (by omega)]
  · rw [am_st_ne _ (by omega), hc, Int.zero_add]
  rintro j g i m2 ⟨i0, i1, rfl, s, L2, hs, a170, a35, rfl, hgb, hf, hq, hq24, hat, hS2, hM2, hsw, hsi, hb256⟩
  have s360 : s.2.2.2 360 = m 170 360 := by rw [hsi.1 _ (by omega), wrA_ne _ (by omega)]
  have s168 : s.2.2.2 168 = m 170 168 := by rw [hsi.1 _ (by omega), wrA_ne _ (by omega)]
  have hlow := qu_low hS2 hM2
  unfold M_X12_dawns_L1B
  simp only [am_rf_all, am_ln_all, hq, a170, s360]
  have stop : s = ab_dawn (m 170) → K s.1 m2 := fun h => by
    have := hK m2 hf (by rw [a170, h]) (by rw [a35, h])
    rwa [← h] at this
  refine ⟨fun hi => ?_, fun hi => ⟨by omega, fun hi2 => ?_, fun hi2 => ?_⟩⟩
  · have hl : L2 = [] := by
      cases L2 with
      | nil => rfl
      | cons x l => simp at hi; omega
    subst hl
    refine stop ?_
    rcases Nat.eq_zero_or_pos (m 170 360 - i).toNat with e | e
    · rw [e] at hs; exact hs
    · obtain ⟨d, hd'⟩ : ∃ d, (m 170 360 - i).toNat = d + 1 := ⟨(m 170 360 - i).toNat - 1, by omega⟩
      rw [hd', ab_hear, s168, hlow] at hs
      simpa using hs
  · have : (m 170 360 - i).toNat = 0 := by omega
    rw [this] at hs
    exact stop hs
  · cases L2 with
    | nil => simp at hi
    | cons p L3 =>
      rw [show (m 170 360 - i).toNat = (m 170 360 - (i + 1)).toNat + 1 by omega, ab_hear, s168, hlow, List.headD_cons] at hs
      obtain ⟨p0, p1, p2, p3⟩ := (hM2 p).mp (by simp)
      rw [if_neg (by omega)] at hs
      obtain ⟨at1, at2⟩ := (pz_at_app (a := [p]) (b := L3)).mp hat
      have at1 := pz_at_one.mp at1
      simp only [at1, forall_eq]
      rw [w32_of (z := 7 * p) (by omega) (by omega), w32_of (z := 0 + 7 * p) (by omega) (by omega), Int.zero_add]
      refine ⟨by omega, by omega, ?_⟩
      refine misDenied (by rw [a170]; exact hsw) p0 (by rw [a170, s168]; exact p1) ?_
      rw [a170]
      obtain ⟨hS3, hM3⟩ := qu_one (A := s.2.2.2) h24.2 hS2 hM2
      have hw3 := ab_one_wf (by omega) hsw p0 (by omega)
      have hi3 := ab_in_t hsi (ab_one_in (A := s.2.2.2) p0 (show p < 24 by omega))
      have fin : ∀ (g' : Int) (b' : Int) (h' : Int) (m4 : am_M), (g' = if ab_denied s.2.2.2 p = true then s.1 else s.1 + 1) → (b' = if ab_denied s.2.2.2 p = true then s.2.1 else am_or s.2.1 (am_shl 1 (s.2.2.2 (7 * p + 1)))) → m4 170 = ab_one s.2.2.2 p → m4 168 35 = b' → (∀ o k, ¬ (o = 170 ∨ (o = 168 ∧ k = 35)) → m4 o k = m2 o k) → (0 ≤ b' ∧ b' < 256) → (fun (v1' v2' : Int) (m' : am_M) => ∃ j', j' < (m 170 360 - i).toNat ∧ 0 ≤ v2' ∧ v2' ≤ m 170 360 ∧ j' = (m 170 360 - v2').toNat ∧ ∃ (s : ab_H) (L2 : List Int), ab_hear (fun p => ab_fore (m 170) p (m 170 169 + 1)) (m 170 360 - v2').toNat s = ab_dawn (m 170) ∧ m' 170 = s.2.2.2 ∧ m' 168 35 = s.2.1 ∧ v1' = s.1 ∧ (0 ≤ v1' ∧ v1' ≤ v2') ∧ fr_d m m' ∧ m' 168 34 = v2' + L2.length ∧ v2' + L2.length ≤ 24 ∧ pz_at (m' 187) v2' L2 ∧ qu_S (fun p => ab_fore (m 170) p (m 170 169 + 1)) L2 ∧ qu_M s.2.2.2 (fun p => ab_fore (m 170) p (m 170 169 + 1)) (m 170 168) L2 ∧ wf_A 24 s.2.2.2 ∧ ab_in (wrA (m 170) 169 (m 170 169 + 1)) s.2.2.2 ∧ 0 ≤ s.2.1 ∧ s.2.1 < 256) g' (i + 1) m4 := by
        intro g' b' h' m4 hg hb h170 h35 hfr hb2
        simp only [List.length_cons] at hq hq24
        refine ⟨_, by omega, by omega, by omega, rfl, (g', b', _, ab_one s.2.2.2 p), L3, by rw [hg, hb]; exact hs, h170, h35, rfl, ?_, fun o k h => ?_, ?_, by omega, pz_at_of (f := m2 187) ?_ (fun x _ _ => hfr _ _ (by omega)), hS3, hM3, hw3, hi3, hb2⟩
        · rw [hg]; split <;> omega
        · rw [hfr o k (by omega)]; exact hf o k h
        · rw [hfr _ _ (by omega), hq]; omega
        · simpa using at2
      generalize (fun (v1' v2' : Int) (m' : am_M) => ∃ j', j' < (m 170 360 - i).toNat ∧ 0 ≤ v2' ∧ v2' ≤ m 170 360 ∧ j' = (m 170 360 - v2').toNat ∧ ∃ (s : ab_H) (L2 : List Int), ab_hear (fun p => ab_fore (m 170) p (m 170 169 + 1)) (m 170 360 - v2').toNat s = ab_dawn (m 170) ∧ m' 170 = s.2.2.2 ∧ m' 168 35 = s.2.1 ∧ v1' = s.1 ∧ (0 ≤ v1' ∧ v1' ≤ v2') ∧ fr_d m m' ∧ m' 168 34 = v2' + L2.length ∧ v2' + L2.length ≤ 24 ∧ pz_at (m' 187) v2' L2 ∧ qu_S (fun p => ab_fore (m 170) p (m 170 169 + 1)) L2 ∧ qu_M s.2.2.2 (fun p => ab_fore (m 170) p (m 170 169 + 1)) (m 170 168) L2 ∧ wf_A 24 s.2.2.2 ∧ ab_in (wrA (m 170) 169 (m 170 169 + 1)) s.2.2.2 ∧ 0 ≤ s.2.1 ∧ s.2.1 < 256) = C at fin ⊢
      unfold M_X12_dawns_J1 M_X12_dawns_J2 M_X12_dawns_J3 M_X12_dawns_J4
      have s169 : s.2.2.2 169 = m 170 169 + 1 := by rw [hsi.1 _ (by omega), wrA_same]
      have e35 : ∀ z, am_st (am_st m2 170 (7 * p + 5) z) 170 (7 * p + 6) (m 170 169 + 1) 168 35 = s.2.1 := fun z => by rw [am_st_ne _ (by omega), am_st_ne _ (by omega), a35]
      have e169 : ∀ z, am_st m2 170 (7 * p + 5) z 170 169 = m 170 169 + 1 := fun z => by rw [am_st_ne _ (by omega), a170, s169]
      have e187 : ∀ z, am_st (am_st m2 170 (7 * p + 5) z) 170 (7 * p + 6) (m 170 169 + 1) 187 i = p := fun z => by rw [am_st_ne _ (by omega), am_st_ne _ (by omega), at1]
      have rows : ∀ z, z = (if ab_denied s.2.2.2 p = true then 2 else 1) → am_st (am_st m2 170 (7 * p + 5) z) 170 (7 * p + 6) (m 170 169 + 1) 170 = ab_one s.2.2.2 p := fun z hz => by
        rw [st_row, st_row, a170]
        unfold ab_one
        rw [hz, s169]
      have hpb : 0 ≤ p ∧ p < 24 := by omega
      simp only [am_rf_all, am_ln_all, forall_eq]
      rw [w32_of (z := 7 * p + 5) (by omega) (by omega), w32_of (z := 7 * p + 6) (by omega) (by omega), w32_of (z := i + 1) (by omega) (by omega)]
      simp only [e169, e35, e187, fact_eq hpb (show 0 ≤ (1 : Int) ∧ (1 : Int) < 7 by omega)]
      by_cases cd : ab_denied s.2.2.2 p = true
      · simp only [if_pos cd] at fin rows ⊢
        rw [w32_of (z := s.1 + 0) (by omega) (by omega), Int.add_zero]
        refine ⟨fun _ => ⟨fun _ => ⟨by omega, by omega, by omega, fun _ => ⟨fun _ => ?_, fun h => absurd trivial h⟩, fun h => absurd trivial h⟩, fun h => absurd trivial h⟩, fun h => absurd (by decide) h⟩
        rw [bit_or0 hb256]
        refine fin s.1 s.2.1 0 _ rfl rfl ?_ (by rw [am_st_same]) (fun o k h => ?_) hb256
        · rw [← rows 2 rfl]; funext x; exact am_st_ne _ (by omega)
        · rw [am_st_ne _ (by omega), am_st_ne _ (by omega), am_st_ne _ (by omega)]
      · simp only [if_neg cd] at fin rows ⊢
        rw [w32_of (z := s.1 + 1) (by omega) (by omega)]
        have eth : ∀ z, am_st (am_st m2 170 (7 * p + 5) z) 170 (7 * p + 6) (m 170 169 + 1) 170 (7 * p + 1) = s.2.2.2 (7 * p + 1) := fun z => by rw [am_st_ne _ (by omega), am_st_ne _ (by omega), a170]
        have hth := (hsw.2.1.2.2 p p0 (by omega)).2.1
        have hb1 := bit_shl_le (i := s.2.2.2 (7 * p + 1)) (n := 8) (by omega) (by omega)
        have hb2 := bit_or_le (x := s.2.1) (y := am_shl 1 (s.2.2.2 (7 * p + 1))) (n := 8) (by omega) hb256 (by omega)
        simp only [ne_eq, not_true_eq_false, not_false_eq_true, false_imp_iff, true_imp_iff, true_and, and_true, show ¬ ((1 : Int) = 0) by decide, eth]
        refine ⟨by omega, by omega, by omega, by omega, ?_⟩
        refine fin (s.1 + 1) (am_or s.2.1 (am_shl 1 (s.2.2.2 (7 * p + 1)))) 0 _ rfl rfl ?_ (by rw [am_st_same]) (fun o k h => ?_) hb2
        · rw [← rows 1 rfl]; funext x; exact am_st_ne _ (by omega)
        · rw [am_st_ne _ (by omega), am_st_ne _ (by omega), am_st_ne _ (by omega)]
