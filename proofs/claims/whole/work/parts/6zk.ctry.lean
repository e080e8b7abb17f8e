/-! CODE, the class: a sharing tried. -/
section CDU
variable {n : Nat} {k : Int} {L w : Int → Int} {m : am_M} {set a b c : Int}
theorem cdG_bd {s : Int} (hP : cdP n k L w m) (hs : 0 ≤ s ∧ s < 64) (g : cdG w L k n m s) : (0 ≤ m 159 s ∧ m 159 s ≤ 594) ∧ 0 ≤ m 160 s ∧ m 160 s ≤ 342144 := by
  obtain ⟨⟨-, h2⟩, -, -, h7⟩ := hP
  obtain ⟨g1, g2, g3, -⟩ := g
  have b1 := kc_bd (w := w) (r := bt s) (B := 1) (n := n) (fun j j0 j1 => ⟨by have := bt_01 s j; omega, by have := (h7 j j0 j1).2; omega⟩)
  have b2 := kc_bd (w := w) (r := fun j => m 161 (s * 6 + j)) (B := 576) (n := n) (fun j j0 j1 => ⟨by have := (g3 j j0 (by omega)).1; omega, by have := (h7 j j0 j1).2; omega⟩)
  rw [g1, g2]
  omega
/-- the loop over the places, and what comes behind it -/
theorem ctry_loop (hP : cdP n k L w m) (hset : 0 ≤ set ∧ set < 64) (hn : ∀ j, 0 ≤ j → bitI set j → j < (n : Int)) (hv : cdV k set a b c) (ga : cdG w L k n m a) (gb : cdG w L k n m b) (gc : cdG w L k n m c) {T : Int} (hT : T = kc w (trow m L set a b c) n)
    (hS : m 160 set ≠ -1 → T ≤ m 160 set ∧ m 160 set = kc w (fun j => m 161 (set * 6 + j)) n ∧ ∀ j, (n : Int) ≤ j → j < 6 → m 161 (set * 6 + j) = 0) {K : am_KK}
    (hK : ∀ m' : am_M, (∀ o x, o ≠ 162 → (o ≠ 160 ∨ x ≠ set) → (o ≠ 161 ∨ x < set * 6 ∨ set * 6 + 6 ≤ x) → m' o x = m o x) →
      ((m' 160 set = kc w (trow m L set a b c) n ∧ (∀ j, 0 ≤ j → j < 6 → m' 161 (set * 6 + j) = trow m L set a b c j) ∧ (m 160 set ≠ -1 → kl w n (trow m L set a b c) (fun j => m 161 (set * 6 + j)))) ∨
       (m 160 set ≠ -1 ∧ m' 160 set = m 160 set ∧ (∀ j, 0 ≤ j → j < 6 → m' 161 (set * 6 + j) = m 161 (set * 6 + j)) ∧ kl w n (fun j => m 161 (set * 6 + j)) (trow m L set a b c))) → K 0 m') : M_X1_tryShares_J2 156 set a b c T K m := by
  have hn6 : n ≤ 6 := hP.1.2
  have hk := hP.2.1.2
  have hL := hP.2.2.1
  have tb := fun j j0 j1 => trow_b (j := j) hset hL.2 hk hv ga gb gc j0 j1
  have hvv := hv
  obtain ⟨v1, v2, v3, v4, v5⟩ := hvv
  unfold M_X1_tryShares_J2 M_X1_tryShares_L1
  refine ⟨fun j i m1 => 0 ≤ i ∧ i ≤ 6 ∧ j = (6 - i).toNat ∧ (∀ o x, o ≠ 162 → m1 o x = m o x) ∧ ∀ j, 0 ≤ j → j < i → m1 162 j = trow m L set a b c j, ⟨_, by omega, by omega, rfl, fun _ _ _ => rfl, fun j j0 j1 => by omega⟩, ?_⟩
  rintro j i m1 ⟨i0, i1, rfl, hf, hz⟩
  generalize hC : (fun (v6' : Int) (m' : am_M) => ∃ j', j' < (6 - i).toNat ∧ 0 ≤ v6' ∧ v6' ≤ 6 ∧ j' = (6 - v6').toNat ∧ (∀ o x, o ≠ 162 → m' o x = m o x) ∧ ∀ j, 0 ≤ j → j < v6' → m' 162 j = trow m L set a b c j) = C
  have go : i < 6 → ∀ m2 : am_M, m2 = am_st m1 162 i (trow m L set a b c i) → C (i + 1) m2 := fun q m2 h2 => by
    rw [← hC]
    refine ⟨_, ?_, by omega, by omega, rfl, fun o x ho => ?_, fun j j0 j1 => ?_⟩
    · omega
    · rw [h2, am_st_ne _ (by omega)]; exact hf o x ho
    · rw [h2, am_st_eq]
      by_cases cj : j = i
      · rw [cj, if_pos ⟨rfl, rfl⟩]
      · rw [if_neg (fun z => cj z.2)]; exact hz j j0 (by omega)
  clear hC
  unfold M_X1_tryShares_L1B
  simp only [am_rf_all, am_ln_all]
  refine ⟨fun q => ⟨by omega, ?_⟩, fun q => ?_⟩
  · -- all places are written
    have hi : i = 6 := by omega
    subst hi
    have tail : (m 160 set ≠ -1 → kl w n (trow m L set a b c) (fun j => m 161 (set * 6 + j))) → M_X1_tryShares_J7 156 set T K m1 := fun hkl => by
      unfold M_X1_tryShares_J7
      simp only [am_rf_all, am_ln_all]
      rw [w32_of (z := set * 6) (by omega) (by omega)]
      refine ⟨by omega, ?_⟩
      intro m2 h2
      refine ⟨by omega, ?_⟩
      intro m3 h3
      refine hK m3 (fun o x h4 h5 h6 => ?_) (Or.inl ⟨?_, fun j j0 j1 => ?_, hkl⟩)
      · rw [h3, am_cp_eq, if_neg (by omega), h2, am_st_ne _ (by omega)]; exact hf o x h4
      · rw [h3, am_cp_eq, if_neg (by omega), h2, am_st_eq, if_pos ⟨rfl, rfl⟩]; exact hT
      · rw [h3, am_cp_eq, if_pos (by omega), h2, am_st_ne _ (by omega), show (0 : Int) + (set * 6 + j - set * 6) = j by omega]; exact hz j j0 j1
    rw [hf 160 _ (by omega)]
    refine ⟨fun c1 => tail (fun z => absurd c1 z), fun c1 => ⟨by omega, fun c2 => ?_, fun c2 => ?_⟩⟩
    · obtain ⟨s1, s2, s3⟩ := hS c1
      exact tail (fun _ => Or.inl (by rw [← hT, ← s2]; exact c2))
    · obtain ⟨s1, s2, s3⟩ := hS c1
      have eT : T = m 160 set := by omega
      have kx' : kx 6 (m1 162) (fun j => m1 161 (set * 6 + j)) ↔ kx n (trow m L set a b c) (fun j => m 161 (set * 6 + j)) := by
        have e1 : ke 6 (m1 162) (trow m L set a b c) := fun j j0 j1 => hz j j0 j1
        have e2 : (fun j => m1 161 (set * 6 + j)) = fun j => m 161 (set * 6 + j) := funext fun j => hf 161 _ (by omega)
        rw [e2]
        refine Iff.trans ⟨fun z => kx_el z (fun j j0 j1 => (e1 j j0 j1).symm) (fun _ _ _ => rfl), fun z => kx_el z e1 (fun _ _ _ => rfl)⟩ (kx_6 hn6 (fun j j0 j1 => ?_) s3)
        exact (tb j (by omega) j1).2 (fun z => by have := hn j (by omega) z; omega)
      refine cahead hset (fun ca => ?_) (fun ca => ?_)
      · refine ⟨fun z => absurd z (by decide), fun _ => tail (fun _ => Or.inr ⟨by rw [← hT, ← s2]; exact eT, Or.inl (kx'.mp ca)⟩)⟩
      · refine ⟨fun _ => ?_, fun z => absurd rfl z⟩
        refine hK m1 (fun o x h4 h5 h6 => hf o x h4) (Or.inr ⟨c1, hf 160 _ (by omega), fun j _ _ => hf 161 _ (by omega), Or.inr ⟨by rw [← hT, ← s2]; exact eT.symm, ?_⟩⟩)
        rcases kx_tri (trow m L set a b c) (fun j => m 161 (set * 6 + j)) n with z | z | z
        · exact absurd (kx'.mpr z) ca
        · exact Or.inr (fun j j0 j1 => (z j j0 j1).symm)
        · exact Or.inl z
  · have go' := go (by omega)
    have tbi := tb i i0 (by omega)
    have step : ∀ first share : Int, (0 ≤ first ∧ first < 3) → (0 ≤ share ∧ share < 64) → (bt set i = 1 → m 161 (share * 6 + i) + L first = trow m L set a b c i) → M_X1_tryShares_J4 156 set a b c T i first share C K m1 := fun first share hfi hsh hval => by
      have nx : ∀ v : Int, v = w32 (i + 1) → v = i + 1 := fun v hv => by rw [hv, w32_of (by omega) (by omega)]
      unfold M_X1_tryShares_J4 M_X1_tryShares_J5 M_X1_tryShares_J6
      simp only [am_rf_all, am_ln_all]
      rw [w32_of (z := share * 6) (by omega) (by omega), w32_of (z := share * 6 + i) (by omega) (by omega), hf 161 _ (by omega), hf 158 _ (by omega), hL.1]
      refine ⟨fun c1 => ⟨fun _ => ⟨by omega, ?_⟩, fun z => (by first | exact absurd rfl z | exact absurd trivial z | exact absurd z (by decide) | exact z.elim)⟩, fun c1 => ⟨fun z => (by first | exact absurd z (by decide) | exact z.elim), fun _ => ⟨by omega, by omega, by omega, ?_⟩⟩⟩
      · intro m2 h2 v hv
        rw [nx v hv]
        refine go' m2 ?_
        rw [h2]
        congr 1
        unfold trow
        rw [if_pos (show bt set i ≠ 1 from c1)]
      · intro m2 h2 v hv
        rw [nx v hv]
        have := hval (Classical.not_not.mp c1)
        rw [this, w32_of (by omega) (by omega)] at h2
        exact go' m2 h2
    have ba : trow m L set a b c i = if bt set i ≠ 1 then 0 else if bt a i = 1 then m 161 (a * 6 + i) + L 0 else if bt b i = 1 then m 161 (b * 6 + i) + L 1 else m 161 (c * 6 + i) + L 2 := rfl
    unfold M_X1_tryShares_J3
    refine ⟨fun c1 => ⟨fun c2 => ?_, fun c2 => ?_⟩, fun c1 => ?_⟩
    · refine ⟨fun _ => ⟨fun _ => step 2 c (by omega) (by omega) (fun z => ?_), fun z => absurd (by decide) z⟩, fun z => absurd (by decide) z⟩
      rw [ba, if_neg (fun y => y z), if_neg (show ¬ bt a i = 1 from c1), if_neg (show ¬ bt b i = 1 from c2)]
    · refine ⟨fun _ => ⟨fun z => absurd rfl z, fun _ => step 1 b (by omega) (by omega) (fun z => ?_)⟩, fun z => absurd (by decide) z⟩
      rw [ba, if_neg (fun y => y z), if_neg (show ¬ bt a i = 1 from c1), if_pos (show bt b i = 1 from Classical.not_not.mp c2)]
    · refine ⟨fun z => absurd rfl z, fun _ => step 0 a (by omega) (by omega) (fun z => ?_)⟩
      rw [ba, if_neg (fun y => y z), if_pos (show bt a i = 1 from Classical.not_not.mp c1)]
/-- what is a set passes the look at it -/
theorem cisset {v : Int} (hv : 0 ≤ v ∧ v < 64) {K : am_KK} {m : am_M} (h : K 1 m) : M_X1_isSet v K m := by
  unfold M_X1_isSet
  simp only [within_eq, b01]
  rw [if_pos (by omega)]
  exact h
theorem cdtry (hP : cdP n k L w m) (hset : 0 ≤ set ∧ set < 64) (hn : ∀ j, 0 ≤ j → bitI set j → j < (n : Int)) (hv : cdV k set a b c) (ga : cdG w L k n m a) (gb : cdG w L k n m b) (gc : cdG w L k n m c)
    (hS : m 160 set ≠ -1 → m 160 set = kc w (fun j => m 161 (set * 6 + j)) n ∧ ∀ j, (n : Int) ≤ j → j < 6 → m 161 (set * 6 + j) = 0) {K : am_KK}
    (hK : ∀ m' : am_M, (∀ o x, o ≠ 162 → (o ≠ 160 ∨ x ≠ set) → (o ≠ 161 ∨ x < set * 6 ∨ set * 6 + 6 ≤ x) → m' o x = m o x) →
      ((m' 160 set = kc w (trow m L set a b c) n ∧ (∀ j, 0 ≤ j → j < 6 → m' 161 (set * 6 + j) = trow m L set a b c j) ∧ (m 160 set ≠ -1 → kl w n (trow m L set a b c) (fun j => m 161 (set * 6 + j)))) ∨
       (m 160 set ≠ -1 ∧ m' 160 set = m 160 set ∧ (∀ j, 0 ≤ j → j < 6 → m' 161 (set * 6 + j) = m 161 (set * 6 + j)) ∧ kl w n (fun j => m 161 (set * 6 + j)) (trow m L set a b c))) → K 0 m') : M_X1_tryShares 156 set a b c K m := by
  have hL := hP.2.2.1
  have hk := hP.2.1.2
  have hvv := hv
  obtain ⟨v1, v2, v3, v4, v5⟩ := hvv
  have da := cdG_bd hP (by omega) ga
  have db := cdG_bd hP (by omega) gb
  have dc := cdG_bd hP (by omega) gc
  have l0 := hL.2 0 (by omega) (by omega)
  have l1 := hL.2 1 (by omega) (by omega)
  have hT : kc w (trow m L set a b c) n = m 160 a + L 0 * m 159 a + m 160 b + L 1 * m 159 b + m 160 c + L 2 * m 159 c := by
    rw [kc_3 (fun j j0 j1 => trow_3 hset hv ga gb gc j0 (by have := hP.1.2; omega)), ga.1, gb.1, gc.1, ga.2.1, gb.2.1, gc.2.1]
  have go : M_X1_tryShares_J1 156 set a b c (m 160 a + L 0 * m 159 a + m 160 b + L 1 * m 159 b + m 160 c) (L 2 * m 159 c) K m := by
    unfold M_X1_tryShares_J1
    simp only [am_rf_all, am_ln_all]
    intro v hv5
    have p0 : 0 ≤ L 0 * m 159 a ∧ L 0 * m 159 a ≤ 9 * 594 := ⟨Int.mul_nonneg (by omega) (by omega), Int.mul_le_mul (by omega) (by omega) (by omega) (by omega)⟩
    have p1 : 0 ≤ L 1 * m 159 b ∧ L 1 * m 159 b ≤ 9 * 594 := ⟨Int.mul_nonneg (by omega) (by omega), Int.mul_le_mul (by omega) (by omega) (by omega) (by omega)⟩
    have p2 : 0 ≤ L 2 * m 159 c ∧ L 2 * m 159 c ≤ 9 * 594 := by
      rcases v4 with z | z
      · have : m 159 c = 0 := by
          rw [gc.1, z]
          have := kc_bd (w := w) (r := bt 0) (B := 0) (n := n) (fun j j0 j1 => ⟨by rw [bt_0 (by omega) (by have := hP.1.2; omega) (bit_0 j)]; omega, by have := (hP.2.2.2 j j0 j1).2; omega⟩)
          omega
        rw [this]; omega
      · have l2 := hL.2 2 (by omega) (by omega)
        exact ⟨Int.mul_nonneg (by omega) (by omega), Int.mul_le_mul (by omega) (by omega) (by omega) (by omega)⟩
    rw [w32_of (by omega) (by omega)] at hv5
    have hT' : v = kc w (trow m L set a b c) n := by rw [hT]; exact hv5
    refine ⟨by omega, fun c1 => ctry_loop hP hset hn hv ga gb gc hT' (fun z => absurd c1 z) hK, fun c1 => ⟨by omega, fun c2 => ctry_loop hP hset hn hv ga gb gc hT' (fun z => ⟨c2, hS z⟩) hK, fun c2 => ?_⟩⟩
    refine hK m (fun _ _ _ _ _ => rfl) (Or.inr ⟨c1, rfl, fun _ _ _ => rfl, Or.inl ?_⟩)
    have := (hS c1).1
    omega
  unfold M_X1_tryShares
  refine cisset hset ⟨fun z => absurd z (by decide), fun _ => cisset (by omega) ⟨fun z => absurd z (by decide), fun _ => cisset (by omega) ⟨fun z => absurd z (by decide), fun _ => cisset (by omega) ⟨fun _ => ?_, fun z => absurd z (by decide)⟩⟩⟩⟩
  simp only [am_rf_all, am_ln_all, hL.1]
  have p0 : 0 ≤ L 0 * m 159 a ∧ L 0 * m 159 a ≤ 9 * 594 := ⟨Int.mul_nonneg (by omega) (by omega), Int.mul_le_mul (by omega) (by omega) (by omega) (by omega)⟩
  have p1 : 0 ≤ L 1 * m 159 b ∧ L 1 * m 159 b ≤ 9 * 594 := ⟨Int.mul_nonneg (by omega) (by omega), Int.mul_le_mul (by omega) (by omega) (by omega) (by omega)⟩
  rw [w32_of (z := L 0 * m 159 a) (by omega) (by omega), w32_of (z := L 1 * m 159 b) (by omega) (by omega), w32_of (z := m 160 a + L 0 * m 159 a) (by omega) (by omega), w32_of (z := m 160 a + L 0 * m 159 a + m 160 b) (by omega) (by omega), w32_of (z := m 160 a + L 0 * m 159 a + m 160 b + L 1 * m 159 b) (by omega) (by omega), w32_of (z := m 160 a + L 0 * m 159 a + m 160 b + L 1 * m 159 b + m 160 c) (by omega) (by omega)]
  refine ⟨by omega, by omega, by omega, by omega, by omega, by omega, by omega, fun c1 => ⟨by omega, by omega, ?_⟩, fun c1 => ?_⟩
  · have p2 : 0 ≤ L 2 * m 159 c ∧ L 2 * m 159 c ≤ 9 * 594 := by
      have l2 := hL.2 2 (by omega) (by omega)
      exact ⟨Int.mul_nonneg (by omega) (by omega), Int.mul_le_mul (by omega) (by omega) (by omega) (by omega)⟩
    rw [w32_of (z := L 2 * m 159 c) (by omega) (by omega)]
    exact go
  · have z : c = 0 := Classical.not_not.mp c1
    have : m 159 c = 0 := by
      rw [gc.1, z]
      have := kc_bd (w := w) (r := bt 0) (B := 0) (n := n) (fun j j0 j1 => ⟨by rw [bt_0 (by omega) (by have := hP.1.2; omega) (bit_0 j)]; omega, by have := (hP.2.2.2 j j0 j1).2; omega⟩)
      omega
    rw [this, Int.mul_zero] at go
    exact go
end CDU
