/-! CODE, the model: the answer is the same. -/
theorem code_same {A : Int → Int} {k : Int} {L L' w : Int → Int} {n : Nat} {r b l : Int → Int} {c : Int} (hn : 0 < n) (h0 : l 0 = 0) (hp : pm k L L') (hr : kb w n (Cod k L n (fun _ => True)) r) (hc : c = kc w b n ∧ Cod k L' n (fun _ => True) b) (hall : ∀ s, srd w n s → lf_H k L' n 1 l s → kd w n c b s) : c = kc w r n ∧ ke n b r := by
  obtain ⟨tu, si, p1, p2⟩ := hp
  have to' : ∀ t, Cod k L n (fun _ => True) t → Cod k L' n (fun _ => True) t := fun t ht => by
    obtain ⟨f, ht⟩ := ht
    exact ⟨f, cod_let (tu := tu) (si := si) p1 f ht⟩
  have from' : ∀ t, Cod k L' n (fun _ => True) t → Cod k L n (fun _ => True) t := fun t ht => by
    obtain ⟨f, ht⟩ := ht
    exact ⟨f, cod_let (tu := si) (si := tu) p2 f ht⟩
  have hs : srd w n r := fun i j i0 i1 j0 j1 hb => kb_sort hr (fun x y x0 x1 y0 y1 => by
    obtain ⟨f, hf⟩ := hr.1
    exact ⟨f, cod_sw ⟨x0, x1⟩ ⟨y0, y1⟩ hf⟩) ⟨i0, i1⟩ ⟨j0, j1⟩ (by unfold bf at hb; omega)
  have k1 := hall r hs (lf_H1 hn h0 (to' r hr.1))
  have k2 := hr.2 b (from' b hc.2)
  have k3 : kl w n b r := by
    unfold kd at k1
    unfold kl
    rw [← hc.1]
    exact k1
  have e := kl_anti k3 k2
  exact ⟨by rw [hc.1]; exact kc_e e, e⟩
section MCO
variable {m : am_M} {A : Int → Int}
/-- things asked for are listed -/
theorem masked (hw : am_WA A) (hA : m 170 = A) {what : Int} {K : am_KK} (h46 : m 168 46 = 0) (h0 : 6 < th_n A 8 → ∀ m' : am_M, (∀ o x, ¬ (o = 168 ∧ x = 46) → o ≠ 192 → m' o x = m o x) → K (-1) m')
    (h1 : th_n A 8 ≤ 6 → ∀ m' : am_M, (∀ o x, ¬ (o = 168 ∧ x = 46) → o ≠ 192 → m' o x = m o x) → m' 168 46 = th_n A 8 → (∀ l, 0 ≤ l → l < th_n A 8 → m' 192 l = th_T A 8 l) → ∀ m_8 : am_M, m_8 = am_st m' 168 47 1000000000 →
  (((m_8 168 46) ≠ 0) →
  M_X12_code_J2 168 what K m_8) ∧ (¬ ((m_8 168 46) ≠ 0) →
  ∀ m_9 : am_M, m_9 = am_st m_8 168 47 0 →
  M_X12_code_J2 168 what K m_9)) : M_X12_code_L1 168 what 0 K m := by
  have hob := hw.2.2.2.2.2.2.1
  unfold M_X12_code_L1
  refine ⟨fun j i m2 => 0 ≤ i ∧ i ≤ 8 ∧ j = (8 - i).toNat ∧ (∀ o x, ¬ (o = 168 ∧ x = 46) → o ≠ 192 → m2 o x = m o x) ∧ m2 168 46 = th_n A i.toNat ∧ (th_n A i.toNat ≤ 6) ∧ ∀ l, 0 ≤ l → l < th_n A i.toNat → m2 192 l = th_T A i.toNat l, ⟨_, by omega, by omega, rfl, fun _ _ _ _ => rfl, h46, by show (0 : Int) ≤ 6; omega, fun l l0 l1 => by have : l < 0 := l1; omega⟩, ?_⟩
  rintro j i m2 ⟨i0, i1, rfl, f2, c2, c6, l2⟩
  obtain ⟨en, eT⟩ := th_s A i0
  have hb := th_b A i.toNat
  have e170 : m2 170 = A := by rw [← hA]; funext x; exact f2 _ _ (by omega) (by omega)
  unfold M_X12_code_L1B M_X12_code_J1
  simp only [am_rf_all, am_ln_all]
  rw [c2, e170]
  refine ⟨fun q => ?_, fun q => ?_⟩
  · have hi : i = 8 := by omega
    subst hi
    exact h1 c6 m2 f2 c2 l2
  rw [w32_of (z := 308 + i) (by omega) (by omega)]
  have ob := hob i i0 (by omega)
  refine ⟨by omega, fun c => ⟨fun c3 => ⟨by omega, ?_⟩, fun c3 => ?_⟩, fun c => ?_⟩
  · rw [if_pos c] at en eT
    intro m3 e3 m4 e4 z hz
    rw [w32_of (by omega) (by omega)] at hz
    rw [hz]
    have c3' : m3 168 46 = th_n A i.toNat := by rw [e3, am_st_ne _ (by omega)]; exact c2
    rw [c3', w32_of (by omega) (by omega)] at e4
    refine ⟨_, ?_, by omega, by omega, rfl, fun o x ho ho2 => ?_, ?_, by rw [en]; omega, fun l l0 l1 => ?_⟩
    · omega
    · rw [e4, am_st_ne _ (by omega), e3, am_st_ne _ (by omega)]; exact f2 o x ho ho2
    · rw [e4, am_st_eq, if_pos ⟨rfl, rfl⟩, en]
    · rw [en] at l1
      rw [e4, am_st_ne _ (by omega), e3, eT]
      by_cases cl : l = th_n A i.toNat
      · rw [cl, kup_s, am_st_eq, if_pos ⟨rfl, rfl⟩]
      · rw [kup_o cl, am_st_ne _ (by omega)]; exact l2 l l0 (by omega)
  · rw [if_pos c] at en
    have := th_mono A (a := (i + 1).toNat) (b := 8) (by omega)
    exact h0 (by omega) m2 f2
  · rw [if_neg c] at en eT
    intro z hz
    rw [w32_of (by omega) (by omega)] at hz
    rw [hz]
    refine ⟨_, ?_, by omega, by omega, rfl, f2, by first | (rw [en]; exact c2) | rw [en], by rw [en]; exact c6, by rw [en, eT]; exact l2⟩
    omega
/-- what is found is told -/
theorem mtell {n : Nat} {what : Int} (hwh : 0 ≤ what ∧ what ≤ 8) (hn : m 168 46 = n ∧ n ≤ 6) {K : am_KK} (h0 : what = 0 → K (m 168 47) m) (h1 : what ≠ 0 → ∀ i, 0 ≤ i → i < (n : Int) → (∀ x, 0 ≤ x → x < i → m 192 x ≠ what - 1) → m 192 i = what - 1 → K (m 196 i) m) (h2 : what ≠ 0 → (∀ i, 0 ≤ i → i < (n : Int) → m 192 i ≠ what - 1) → K (-1) m) : M_X12_code_J4 168 what K m := by
  unfold M_X12_code_J4
  refine ⟨fun c => ?_, fun c => h0 (Classical.not_not.mp c)⟩
  unfold M_X12_code_L2
  refine ⟨fun j i m1 => m1 = m ∧ 0 ≤ i ∧ i ≤ n ∧ j = ((n : Int) - i).toNat ∧ ∀ x, 0 ≤ x → x < i → m 192 x ≠ what - 1, ⟨_, rfl, by omega, by omega, rfl, fun x x0 x1 => by omega⟩, ?_⟩
  rintro j i m1 ⟨rfl, i0, i1, rfl, hx⟩
  unfold M_X12_code_L2B
  simp only [am_rf_all, am_ln_all]
  rw [hn.1, w32_of (z := what - 1) (by omega) (by omega)]
  refine ⟨fun q => h2 c (fun x x0 x1 => hx x x0 (by omega)), fun q => ⟨by omega, fun c2 => ?_, fun c2 => ⟨by omega, h1 c i i0 (by omega) hx (Classical.not_not.mp c2)⟩⟩⟩
  intro z hz
  rw [w32_of (by omega) (by omega)] at hz
  rw [hz]
  refine ⟨_, ?_, by first | rfl | trivial, by omega, by omega, rfl, fun x x0 x1 => ?_⟩
  · omega
  · by_cases cx : x = i
    · rw [cx]; exact c2
    · exact hx x x0 (by omega)
theorem mcode (hw : am_WA (m 170)) {s what a : Int} (hwh : 0 ≤ what ∧ what ≤ 8) (ha : cd_A (m 170) s what a) {K : am_KK} (hK : ∀ m' : am_M, (∀ o x, ¬ (o = 168 ∧ 45 ≤ x ∧ x ≤ 47) → ¬ (191 ≤ o ∧ o ≤ 196) → m' o x = m o x) → K a m') : M_X12_code 168 s what K m := by
  obtain ⟨A, hA⟩ : ∃ A, m 170 = A := ⟨_, rfl⟩
  have hw0 := hw
  rw [hA] at hw ha
  unfold M_X12_code
  refine mletters hw0 (fun nok m1 f1 => ?_) (fun ok m1 f1 c1 so pe => ?_)
  · rw [hA] at nok
    have hm1 : a = -1 := by
      rcases ha with ⟨-, h⟩ | ⟨h, -⟩ | ⟨h, -⟩
      · exact h
      · exact absurd h nok
      · exact absurd h nok
    rw [hm1] at hK
    refine ⟨fun _ => hK m1 (fun o x o1 o2 => f1 o x (by omega) (by omega)), fun z => absurd rfl z⟩
  rw [hA] at ok c1 so pe
  refine ⟨fun z => absurd z (by decide), fun _ => ?_⟩
  rw [lies_eq]
  simp only [b01']
  refine ⟨fun _ => ?_, fun z => absurd hwh z⟩
  intro m2 e2
  have f2 : ∀ o x, ¬ (o = 168 ∧ (x = 45 ∨ x = 46)) → o ≠ 191 → m2 o x = m o x := fun o x o1 o2 => by rw [e2, am_st_ne _ (by omega)]; exact f1 o x (by omega) o2
  have e170 : m2 170 = A := by rw [← hA]; funext x; exact f2 _ _ (by omega) (by omega)
  refine masked hw e170 (by rw [e2, am_st_eq, if_pos ⟨rfl, rfl⟩]) (fun n7 m3 f3 => ?_) (fun n6 m3 f3 c3 t3 => ?_)
  · have hm1 : a = -1 := by
      rcases ha with ⟨h, -⟩ | ⟨-, -, h⟩ | ⟨-, h, -⟩
      · exact absurd ok h
      · exact h
      · omega
    rw [hm1] at hK
    exact hK m3 (fun o x o1 o2 => by rw [f3 o x (by omega) (by omega)]; exact f2 o x (by omega) (by omega))
  obtain ⟨c, r, hb, hans⟩ : ∃ (c : Int) (r : Int → Int), cd_B A s c r ∧ ((what = 0 ∧ a = c) ∨ (what ≠ 0 ∧ ((∃ i, 0 ≤ i ∧ i < th_n A 8 ∧ (∀ x, 0 ≤ x → x < i → th_T A 8 x ≠ what - 1) ∧ th_T A 8 i = what - 1 ∧ a = r i) ∨ ((∀ i, 0 ≤ i → i < th_n A 8 → th_T A 8 i ≠ what - 1) ∧ a = -1)))) := by
    rcases ha with ⟨h, -⟩ | ⟨-, h, -⟩ | ⟨-, -, h⟩
    · exact absurd ok h
    · omega
    · exact h
  obtain ⟨n, hn⟩ : ∃ n : Nat, th_n A 8 = n := ⟨(th_n A 8).toNat, by have := (th_b A 8).1; omega⟩
  obtain ⟨k, hk⟩ : ∃ k, cv_1 s (A 363).toNat = k := ⟨_, rfl⟩
  have hk23 : 2 ≤ k ∧ k ≤ 3 := by rw [← hk]; exact ok.2
  rw [hk] at c1 so pe
  have hLb := lt_b (A := A) s (W := A 363) hw.1.2.2 (A 363).toNat (by have := hw.1.1; omega)
  rw [hk] at hLb
  have e191 : m3 191 = m1 191 := funext fun x => by rw [f3 _ _ (by omega) (by omega), e2, am_st_ne _ (by omega)]
  rw [← e191] at so pe
  have pe' := pe
  obtain ⟨tu, si, p1, p2⟩ := pe'
  have hL'b : ∀ l, 0 ≤ l → l < k → 1 ≤ m3 191 l ∧ m3 191 l ≤ 9 := fun l l0 l1 => by
    obtain ⟨b1, b2, b3⟩ := p2 l l0 l1
    rw [← b2]; exact hLb _ b1.1 b1.2
  have hP3 : mdP n k (m3 191) (th_w A) m3 := by
    refine ⟨⟨by rw [c3, hn], by omega⟩, ⟨by rw [f3 _ _ (by omega) (by omega), e2, am_st_ne _ (by omega)]; exact c1, hk23⟩, ⟨fun _ => rfl, hL'b⟩, fun i i0 i1 => ?_⟩
    obtain ⟨w1, w2, w3⟩ := th_wb hw i0 (by rw [hn]; exact i1)
    rw [t3 i i0 (by omega)]
    refine ⟨w2, ?_, w3⟩
    rw [w1, f3 170 _ (by omega) (by omega), e170]
  have fr3 : ∀ o x, ¬ (o = 168 ∧ 45 ≤ x ∧ x ≤ 47) → ¬ (191 ≤ o ∧ o ≤ 196) → m3 o x = m o x := fun o x o1 o2 => by rw [f3 o x (by omega) (by omega)]; exact f2 o x (by omega) (by omega)
  -- the end: the best is told
  have fin : ∀ m4 : am_M, (∀ o x, ¬ (o = 168 ∧ x = 47) → ¬ (193 ≤ o ∧ o ≤ 196) → m4 o x = m3 o x) → m4 168 47 = c → (∀ i, 0 ≤ i → i < (n : Int) → m4 196 i = r i) → M_X12_code_J4 168 what K m4 := fun m4 f4 ec er => by
    have fr4 : ∀ o x, ¬ (o = 168 ∧ 45 ≤ x ∧ x ≤ 47) → ¬ (191 ≤ o ∧ o ≤ 196) → m4 o x = m o x := fun o x o1 o2 => by rw [f4 o x (by omega) (by omega)]; exact fr3 o x o1 o2
    have t4 : ∀ l, 0 ≤ l → l < (n : Int) → m4 192 l = th_T A 8 l := fun l l0 l1 => by rw [f4 _ _ (by omega) (by omega)]; exact t3 l l0 (by omega)
    refine mtell (n := n) hwh ⟨by rw [f4 _ _ (by omega) (by omega), c3, hn], by omega⟩ (fun w0 => ?_) (fun w1 i i0 i1 hx hi => ?_) (fun w1 hx => ?_)
    · have : a = c := by
        rcases hans with ⟨-, h⟩ | ⟨h, -⟩
        · exact h
        · exact absurd w0 h
      rw [ec, ← this]; exact hK m4 fr4
    · have : a = r i := by
        rcases hans with ⟨h, -⟩ | ⟨-, ⟨i', j0, j1, jx, ji, h⟩ | ⟨h, -⟩⟩
        · exact absurd h w1
        · have e : i' = i := by
            by_cases q : i' < i
            · exact absurd ji (by rw [← t4 i' j0 (by omega)]; exact hx i' j0 q)
            · by_cases q2 : i < i'
              · exact absurd (by rw [← t4 i i0 i1]; exact hi) (jx i i0 q2)
              · omega
          rw [h, e]
        · exact absurd (by rw [← t4 i i0 i1]; exact hi) (h i i0 (by omega))
      rw [er i i0 i1, ← this]; exact hK m4 fr4
    · have : a = -1 := by
        rcases hans with ⟨h, -⟩ | ⟨-, ⟨i', j0, j1, jx, ji, h⟩ | ⟨-, h⟩⟩
        · exact absurd h w1
        · exact absurd (by rw [t4 i' j0 (by omega)]; exact ji) (hx i' j0 (by omega))
        · exact h
      rw [this] at hK; exact hK m4 fr4
  intro m4 e4
  have c4 : m4 168 46 = n := by rw [e4, am_st_ne _ (by omega), c3, hn]
  have f4 : ∀ o x, ¬ (o = 168 ∧ x = 47) → m4 o x = m3 o x := fun o x ho => by rw [e4, am_st_ne _ ho]
  rw [c4]
  refine ⟨fun q => ?_, fun q => ?_⟩
  · -- some thing is asked for
    unfold M_X12_code_J2
    simp only [am_rf_all, am_ln_all]
    rw [c4]
    refine ⟨fun q1 => ?_, fun q1 => ?_⟩
    · -- two or more
      have h2n : 2 ≤ n := by omega
      unfold M_X12_code_J3
      simp only [am_rf_all, am_ln_all]
      refine ⟨by omega, ?_⟩
      intro m5 e5
      have f5 : ∀ o x, ¬ (o = 168 ∧ x = 47) → ¬ (o = 193 ∧ x = 0) → m5 o x = m3 o x := fun o x o1 o2 => by rw [e5, am_st_ne _ o2]; exact f4 o x o1
      have c5 : m5 168 46 = n := by rw [e5, am_st_ne _ (by omega)]; exact c4
      rw [c5]
      refine ⟨fun z => absurd z (by omega), fun _ => ?_⟩
      have e193 : m5 193 (6 * 0 + 0) = 0 := by rw [e5, am_st_eq, if_pos ⟨rfl, rfl⟩]
      have hP5 : mdP n k (m3 191) (th_w A) m5 := mdP_of hP3 (fun o x ho => f5 o x (by omega) (by omega))
      refine mparts so 301 1 0 m5 _ (by omega) (by omega) (by omega) hP5 (fun y y0 y1 => by rw [show y = 0 by omega, e193]; omega) (lf_G1 (by omega) e193) (fun m6 g1 g2 g3 g4 g5 => ?_)
      rcases hb with ⟨h, -⟩ | ⟨h, -⟩ | ⟨h, hc, hcb, hkb⟩
      · omega
      · omega
      · rw [show (th_n A 8).toNat = n by omega] at hc hkb
        rw [hk] at hkb
        have f47 : m5 168 47 = 1000000000 := by rw [e5, am_st_ne _ (by omega), e4, am_st_eq, if_pos ⟨rfl, rfl⟩]
        have got : m6 168 47 = kc (th_w A) (m6 196) n ∧ Cod k (m3 191) n (fun _ => True) (m6 196) := by
          rcases g4 with ⟨z1, -⟩ | z
          · -- nothing found: but the best is found
            have hs : srd (th_w A) n r := fun i j i0 i1 j0 j1 hbf => kb_sort hkb (fun x y x0 x1 y0 y1 => by
              obtain ⟨f, hf⟩ := hkb.1
              exact ⟨f, cod_sw ⟨x0, x1⟩ ⟨y0, y1⟩ hf⟩) ⟨i0, i1⟩ ⟨j0, j1⟩ (by unfold bf at hbf; omega)
            have hH := lf_H1 (k := k) (L := m3 191) (n := n) (l := fun y => m5 193 (6 * 0 + y)) (by omega) e193 (s := r) (by
              obtain ⟨f, hf⟩ := hkb.1
              exact ⟨f, cod_let (tu := tu) (si := si) p1 f hf⟩)
            rcases g5 r hs hH with z | ⟨z, -⟩
            · omega
            · omega
          · exact z
        obtain ⟨r1, r2⟩ := code_same (A := A) (l := fun y => m5 193 (6 * 0 + y)) (by omega) e193 pe hkb got g5
        refine fin m6 (fun o x o1 o2 => by rw [g1 o x (by omega) o1]; exact f5 o x o1 (by omega)) (by rw [r1, hc]) (fun i i0 i1 => r2 i i0 i1)
    · -- one thing
      have hn1 : n = 1 := by omega
      subst hn1
      rcases hb with ⟨h, -⟩ | ⟨h, hc, ⟨l, l0, l1, hl⟩, hmin⟩ | ⟨h, -⟩
      · omega
      · rw [hk] at l1 hmin
        have er : m3 191 0 = r 0 := by
          obtain ⟨b1, b2, b3⟩ := p1 l l0 l1
          obtain ⟨d1, d2, d3⟩ := p2 0 (by omega) (by omega)
          have h1 := hmin (si 0) d1.1 d1.2
          have h2 := so 0 (tu l) (by omega) b1.1 b1.2
          omega
        have hb0 := hL'b 0 (by omega) (by omega)
        obtain ⟨x1, x2, x3⟩ := hP3.2.2.2 0 (by omega) (by omega)
        refine ⟨by omega, by omega, ?_⟩
        intro m5 e5
        have f5 : ∀ o x, ¬ (o = 168 ∧ x = 47) → o ≠ 196 → m5 o x = m3 o x := fun o x o1 o2 => by rw [e5, am_st_ne _ (by omega)]; exact f4 o x o1
        rw [f5 191 0 (by omega) (by omega), f5 192 0 (by omega) (by omega), w32_of (z := 308 + m3 192 0) (by omega) (by omega), f5 170 _ (by omega) (by omega), x2]
        have hp : 0 ≤ m3 191 0 * th_w A 0 ∧ m3 191 0 * th_w A 0 ≤ 9 * 99 := ⟨Int.mul_nonneg (by omega) (by omega), Int.mul_le_mul (by omega) (by omega) (by omega) (by omega)⟩
        rw [w32_of (z := m3 191 0 * th_w A 0) (by omega) (by omega)]
        refine ⟨by omega, by omega, by omega, ?_⟩
        intro m6 e6
        unfold M_X12_code_J3
        simp only [am_rf_all, am_ln_all]
        refine ⟨by omega, ?_⟩
        intro m7 e7
        have c7 : m7 168 46 = 1 := by rw [e7, am_st_ne _ (by omega), e6, am_st_ne _ (by omega), f5 _ _ (by omega) (by omega), c3, hn]; rfl
        rw [c7]
        refine ⟨fun _ => ?_, fun z => absurd (by omega) z⟩
        refine fin m7 (fun o x o1 o2 => by rw [e7, am_st_ne _ (by omega), e6, am_st_ne _ (by omega)]; exact f5 o x o1 (by omega)) ?_ (fun i i0 i1 => ?_)
        · rw [e7, am_st_ne _ (by omega), e6, am_st_eq, if_pos ⟨rfl, rfl⟩, hc, er, Int.mul_comm]
        · rw [show i = 0 by omega, e7, am_st_ne _ (by omega), e6, am_st_ne _ (by omega), e5, am_st_eq, if_pos ⟨rfl, rfl⟩, f4 191 0 (by omega), er]
      · omega
  · -- nothing is asked for
    have hn0 : n = 0 := by omega
    subst hn0
    intro m5 e5
    unfold M_X12_code_J2
    simp only [am_rf_all, am_ln_all]
    have c5 : m5 168 46 = 0 := by rw [e5, am_st_ne _ (by omega), c4]; rfl
    rw [c5]
    refine ⟨fun _ => ?_, fun z => absurd (by decide) z⟩
    unfold M_X12_code_J3
    simp only [am_rf_all, am_ln_all]
    refine ⟨by omega, ?_⟩
    intro m6 e6
    have c6 : m6 168 46 = 0 := by rw [e6, am_st_ne _ (by omega)]; exact c5
    rw [c6]
    refine ⟨fun _ => ?_, fun z => absurd (by omega) z⟩
    rcases hb with ⟨h, hc⟩ | ⟨h, -⟩ | ⟨h, -⟩
    · refine fin m6 (fun o x o1 o2 => by rw [e6, am_st_ne _ (by omega), e5, am_st_ne _ (by omega)]; exact f4 o x o1) (by rw [e6, am_st_ne _ (by omega), e5, am_st_eq, if_pos ⟨rfl, rfl⟩, hc]) (fun i i0 i1 => by omega)
    · omega
    · omega
end MCO
theorem j_code (s what : Int) : Joint (M_X11_code 0 s what) (M_X12_code 168 s what) := by
  intro m h K hK
  have hb := h.1.1
  have hf := h.1.2.2.1
  unfold M_X11_code
  simp only [within_eq, b01, am_rf_all]
  refine ⟨fun c => ?_, fun c => ?_⟩
  · -- not within the bounds
    unfold M_X12_code
    refine mletters hf.1 (fun nok m1 f1 => ?_) (fun ok m1 f1 c1 so pe => ?_)
    · refine ⟨fun _ => hK _ _ (Rel_of h (fun o x ho => f1 o x (by unfold rl_s at ho; omega) (by unfold rl_s at ho; omega))), fun z => absurd rfl z⟩
    · refine ⟨fun z => absurd z (by decide), fun _ => ?_⟩
      rw [lies_eq]
      simp only [b01']
      exact ⟨fun z => absurd z c, fun _ => hK _ _ (Rel_of h (fun o x ho => f1 o x (by unfold rl_s at ho; omega) (by unfold rl_s at ho; omega)))⟩
  · have hwh : 0 ≤ what ∧ what ≤ 8 := Classical.not_not.mp c
    refine ccode hf.1 hb hwh (fun a m1 f1 ha => ?_)
    have e170 : m1 170 = m 170 := funext fun x => f1 _ _ (by omega)
    rw [← e170] at ha
    refine mcode (by rw [e170]; exact hf.1) hwh ha (fun m2 f2 => ?_)
    exact hK _ _ (Rel_of h (fun o x ho => by
      unfold rl_s at ho
      rw [f2 o x (by omega) (by omega)]
      exact f1 o x (by omega)))
