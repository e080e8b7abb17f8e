/-! CODE, the class: the best of what was tried so far. -/
def cdM (k set : Int) (n : Nat) (w L : Int → Int) (m0 : am_M) (Mt : Int → Int → Prop) (m' : am_M) : Prop :=
  (∀ o x, o ≠ 162 → (o ≠ 160 ∨ x ≠ set) → (o ≠ 161 ∨ x < set * 6 ∨ set * 6 + 6 ≤ x) → m' o x = m0 o x) ∧
  ((m' 160 set = -1 ∧ ∀ x y z, cdV k set x y z → ¬ Mt x y) ∨
   ∃ x y z, cdV k set x y z ∧ m' 160 set = kc w (trow m0 L set x y z) n ∧ (∀ j, 0 ≤ j → j < 6 → m' 161 (set * 6 + j) = trow m0 L set x y z j) ∧ ∀ x' y' z', cdV k set x' y' z' → Mt x' y' → kl w n (trow m0 L set x y z) (trow m0 L set x' y' z'))
theorem cdM_mono {k set : Int} {n : Nat} {w L : Int → Int} {m0 m' : am_M} {Mt Mt' : Int → Int → Prop} (h : cdM k set n w L m0 Mt m') (hm : ∀ x y z, cdV k set x y z → Mt' x y → Mt x y) : cdM k set n w L m0 Mt' m' := by
  obtain ⟨h1, h2⟩ := h
  refine ⟨h1, ?_⟩
  rcases h2 with ⟨h2, h3⟩ | ⟨x, y, z, h2, h3, h4, h5⟩
  · exact Or.inl ⟨h2, fun x y z hv q => h3 x y z hv (hm x y z hv q)⟩
  · exact Or.inr ⟨x, y, z, h2, h3, h4, fun x' y' z' hv q => h5 x' y' z' hv (hm x' y' z' hv q)⟩
theorem cdV_z {k set a b c c' : Int} (h : cdV k set a b c) (g : cdV k set a b c') : c = c' := by
  obtain ⟨-, -, h3, -, h5⟩ := h
  obtain ⟨-, -, g3, -, g5⟩ := g
  exact bit_ext h3.1 g3.1 (fun j j0 => (h5 j j0).2.2.trans (g5 j j0).2.2.symm)
section CDX
variable {n : Nat} {k : Int} {L w : Int → Int} {m0 m1 : am_M} {set a b c : Int} {Mt : Int → Int → Prop}
theorem cdM_P (hP : cdP n k L w m0) (hM : cdM k set n w L m0 Mt m1) : cdP n k L w m1 := cdP_of hP (fun o x ho => hM.1 o x (by omega) (by omega) (by omega))
theorem cdM_G (hP : cdP n k L w m0) (hG : ∀ s, 0 ≤ s → s < set → cdG w L k n m0 s) (hM : cdM k set n w L m0 Mt m1) {s : Int} (s0 : 0 ≤ s) (s1 : s < set) : cdG w L k n m1 s := by
  refine cdG_of (hG s s0 s1) (hM.1 _ _ (by omega) (by omega) (by omega)) (hM.1 _ _ (by omega) (by omega) (by omega)) (fun j => ?_) hP.1.2
  by_cases c : 0 ≤ j ∧ j < 6
  · exact Or.inl (hM.1 _ _ (by omega) (by omega) (by omega))
  · exact Or.inr (by omega)
theorem trow_e (hM : cdM k set n w L m0 Mt m1) (hv : cdV k set a b c) {j : Int} (j0 : 0 ≤ j) (j1 : j < 6) : trow m1 L set a b c j = trow m0 L set a b c j := by
  obtain ⟨v1, v2, v3, v4, v5⟩ := hv
  unfold trow
  rw [hM.1 161 (a * 6 + j) (by omega) (by omega) (by omega), hM.1 161 (b * 6 + j) (by omega) (by omega) (by omega), hM.1 161 (c * 6 + j) (by omega) (by omega) (by omega)]
theorem cdM_try (hP : cdP n k L w m0) (hset : 0 ≤ set ∧ set < 64) (hn : ∀ j, 0 ≤ j → bitI set j → j < (n : Int)) (hG : ∀ s, 0 ≤ s → s < set → cdG w L k n m0 s) (hM : cdM k set n w L m0 Mt m1) (hv : cdV k set a b c) {K : am_KK} (hK : ∀ m2, cdM k set n w L m0 (fun x y => Mt x y ∨ (x = a ∧ y = b)) m2 → K 0 m2) : M_X1_tryShares 156 set a b c K m1 := by
  have hn6 : n ≤ 6 := hP.1.2
  have hk := hP.2.1.2
  have hL := hP.2.2.1
  have hvv := hv
  obtain ⟨v1, v2, v3, v4, v5⟩ := hvv
  have ga := cdM_G hP hG hM v1.1 v1.2
  have gb := cdM_G hP hG hM v2.1 v2.2
  have gc := cdM_G hP hG hM v3.1 v3.2
  have te : ke n (trow m1 L set a b c) (trow m0 L set a b c) := fun j j0 j1 => trow_e hM hv j0 (by omega)
  refine cdtry (cdM_P hP hM) hset hn hv ga gb gc (fun hne => ?_) (fun m2 hf hr => hK m2 ⟨fun o x o1 o2 o3 => (hf o x o1 o2 o3).trans (hM.1 o x o1 o2 o3), ?_⟩)
  · rcases hM.2 with ⟨h2, -⟩ | ⟨x, y, z, h2, h3, h4, h5⟩
    · exact absurd h2 hne
    · refine ⟨by rw [h3]; exact kc_e (fun j j0 j1 => (h4 j j0 (by omega)).symm), fun j j0 j1 => ?_⟩
      rw [h4 j (by omega) j1]
      exact (trow_b hset hL.2 hk h2 (hG _ h2.1.1 h2.1.2) (hG _ h2.2.1.1 h2.2.1.2) (hG _ h2.2.2.1.1 h2.2.2.1.2) (by omega) j1).2 (fun q => by have := hn j (by omega) q; omega)
  · have same : ∀ x' y' z', cdV k set x' y' z' → (x' = a ∧ y' = b) → trow m0 L set x' y' z' = trow m0 L set a b c := fun x' y' z' hv' q => by
      obtain ⟨rfl, rfl⟩ := q
      rw [cdV_z hv' hv]
    rcases hr with ⟨r1, r2, r3⟩ | ⟨r1, r2, r3, r4⟩
    · refine Or.inr ⟨a, b, c, hv, r1.trans (kc_e te), fun j j0 j1 => (r2 j j0 j1).trans (trow_e hM hv j0 j1), fun x' y' z' hv' q => ?_⟩
      by_cases qe : x' = a ∧ y' = b
      · rw [same x' y' z' hv' qe]; exact kl_refl _ _ _
      · have q1 : Mt x' y' := q.resolve_right qe
        rcases hM.2 with ⟨h2, h3⟩ | ⟨x, y, z, h2, h3, h4, h5⟩
        · exact absurd q1 (h3 x' y' z' hv')
        · have hne : m1 160 set ≠ -1 := by
            rw [h3]
            have := kc_bd (w := w) (r := trow m0 L set x y z) (B := 576) (n := n) (fun j j0 j1 => ⟨by have := (trow_b hset hL.2 hk h2 (hG _ h2.1.1 h2.1.2) (hG _ h2.2.1.1 h2.2.1.2) (hG _ h2.2.2.1.1 h2.2.2.1.2) j0 (by omega)).1; omega, by have := (hP.2.2.2 j j0 j1).2; omega⟩)
            omega
          refine kl_trans (kl_ke (fun j j0 j1 => (te j j0 j1).symm)) (kl_trans (r3 hne) (kl_trans (kl_ke (fun j j0 j1 => h4 j j0 (by omega))) (h5 x' y' z' hv' q1)))
    · rcases hM.2 with ⟨h2, h3⟩ | ⟨x, y, z, h2, h3, h4, h5⟩
      · exact absurd h2 r1
      · refine Or.inr ⟨x, y, z, h2, r2.trans h3, fun j j0 j1 => (r3 j j0 j1).trans (h4 j j0 j1), fun x' y' z' hv' q => ?_⟩
        by_cases qe : x' = a ∧ y' = b
        · rw [same x' y' z' hv' qe]
          exact kl_trans (kl_ke (fun j j0 j1 => (h4 j j0 (by omega)).symm)) (kl_trans r4 (kl_ke te))
        · exact h5 x' y' z' hv' (q.resolve_right qe)
/-- one set lies in another, as the machine tests it -/
theorem cispart {x s : Int} (hx : 0 ≤ x ∧ x < 64) (hs : 0 ≤ s ∧ s < 64) {K : am_KK} {m : am_M} (h1 : sb x s → K 1 m) (h0 : ¬ sb x s → K 0 m) : M_X1_isPartOf x s K m := by
  obtain ⟨⟨d1, d2⟩, d3⟩ := andn (s := x) (a := s) hx hs
  unfold M_X1_isPartOf
  refine ⟨fun c => h0 (fun q => c (bit_ext d1 (Int.le_refl _) (fun j j0 => ⟨fun hj => absurd (q j j0 ((d3 j j0).mp hj).1) ((d3 j j0).mp hj).2, fun hj => absurd hj (bit_0 j)⟩))), fun c => h1 (fun j j0 hj => Classical.byContradiction fun hb => ?_)⟩
  have e : am_and x (am_xor s (-1)) = 0 := Classical.not_not.mp c
  have := (d3 j j0).mpr ⟨hj, hb⟩
  rw [e] at this
  exact bit_0 j this
/-- the loop over the second part -/
theorem cinner (hP : cdP n k L w m0) (hset : 0 ≤ set ∧ set < 64) (hn : ∀ j, 0 ≤ j → bitI set j → j < (n : Int)) (hG : ∀ s, 0 ≤ s → s < set → cdG w L k n m0 s) (ha : 0 ≤ a ∧ a < set) {C9 : Int → am_M → Prop} {K : am_KK} (hM : cdM k set n w L m0 (fun x _ => x < a) m1)
    (hC : ∀ m2, cdM k set n w L m0 (fun x _ => x ≤ a) m2 → C9 (a + 1) m2) : M_X1_share_L2 156 set a 0 C9 K m1 := by
  obtain ⟨⟨d1, d2⟩, d3⟩ := andn hset (a := a) (by omega)
  have fin : ∀ m2, cdM k set n w L m0 (fun x _ => x ≤ a) m2 → M_X1_share_J3 156 set a C9 K m2 := fun m2 hM2 => by
    unfold M_X1_share_J3
    intro v hv
    rw [hv, w32_of (by omega) (by omega)]
    exact hC m2 hM2
  unfold M_X1_share_L2
  refine ⟨fun j b m2 => 0 ≤ b ∧ b ≤ set ∧ j = (set - b).toNat ∧ cdM k set n w L m0 (fun x y => x < a ∨ (x = a ∧ y < b)) m2, ⟨_, by omega, hset.1, rfl, ?_⟩, ?_⟩
  · refine cdM_mono hM (fun x y z hv q => ?_)
    rcases q with q | ⟨q, q2⟩
    · exact q
    · have := hv.2.1.1; omega
  rintro j b m2 ⟨b0, b1, rfl, hM2⟩
  generalize hK : (fun (v3' : Int) (m' : am_M) => ∃ j', j' < (set - b).toNat ∧ 0 ≤ v3' ∧ v3' ≤ set ∧ j' = (set - v3').toNat ∧ cdM k set n w L m0 (fun x y => x < a ∨ (x = a ∧ y < v3')) m') = C
  have nxt : b < set → ∀ m3, cdM k set n w L m0 (fun x y => (x < a ∨ (x = a ∧ y < b)) ∨ (x = a ∧ y = b)) m3 → M_X1_share_J2 156 set a b C C9 K m3 := fun hb m3 hM3 => by
    unfold M_X1_share_J2
    intro v hv
    rw [hv, w32_of (by omega) (by omega), ← hK]
    refine ⟨_, ?_, by omega, by omega, rfl, cdM_mono hM3 (fun x y z _ q => ?_)⟩
    · omega
    · omega
  clear hK
  unfold M_X1_share_L2B
  refine ⟨fun c1 => fin m2 (cdM_mono hM2 (fun x y z hv q => by have := hv.2.1.2; omega)), fun c1 => ?_⟩
  refine cispart (by omega) hset (fun hsa => ⟨fun z => absurd z (by decide), fun _ => ?_⟩) (fun hsa => ⟨fun _ => ?_, fun z => absurd rfl z⟩)
  · intro c hc
    have hb0 : b < set := by omega
    obtain ⟨⟨f1, f2⟩, f3⟩ := andn (s := am_and set (am_xor a (-1))) (a := b) (by omega) (by omega)
    rw [← hc] at f1 f2 f3
    generalize am_and set (am_xor a (-1)) = rest at d1 d2 d3 f2 f3 ⊢
    have skip : (∀ z, ¬ cdV k set a b z) → M_X1_share_J2 156 set a b C C9 K m2 := fun hno => nxt hb0 m2 (cdM_mono hM2 (fun x y z hv q => by
      rcases q with q | ⟨q, q2⟩
      · exact q
      · subst q; subst q2; exact absurd hv (hno z)))
    have bits : ∀ z, cdV k set a b z → z = c := fun z hv => bit_ext hv.2.2.1.1 f1 (fun j j0 => by
      rw [(hv.2.2.2.2 j j0).2.2, f3 j j0, d3 j j0]
      exact ⟨fun q => ⟨⟨q.1, q.2.1⟩, q.2.2⟩, fun q => ⟨q.1.1, q.1.2, q.2⟩⟩)
    refine cispart (by omega) (by omega) (fun hsb => ⟨fun z => absurd z (by decide), fun _ => ?_⟩) (fun hsb => ⟨fun _ => skip (fun z hv => hsb (fun j j0 hj => ?_)), fun z => absurd rfl z⟩)
    · refine ⟨fun c3 => skip (fun z hv => ?_), fun c3 => ?_⟩
      · have := hv.2.2.1.2; have := bits z hv; omega
      · have hv : (c = 0 ∨ k = 3) → cdV k set a b c := fun q => by
          refine ⟨ha, ⟨b0, hb0⟩, ⟨f1, by omega⟩, q, fun j j0 => ⟨fun hj => ⟨hsa j j0 hj, fun z => ((d3 j j0).mp (hsb j j0 z)).2 hj⟩, fun hj => ((d3 j j0).mp (hsb j j0 hj)).1, ?_⟩⟩
          rw [f3 j j0, d3 j j0]
          exact ⟨fun q => ⟨q.1.1, q.1.2, q.2⟩, fun q => ⟨⟨q.1, q.2.1⟩, q.2.2⟩⟩
        have dotry : (c = 0 ∨ k = 3) → M_X1_share_J1 156 set a b c C C9 K m2 := fun q => by
          unfold M_X1_share_J1
          refine cdM_try hP hset hn hG hM2 (hv q) (fun m3 hM3 => nxt hb0 m3 hM3)
        refine ⟨fun c4 => dotry (Or.inl c4), fun c4 => ⟨fun c5 => skip (fun z hv' => ?_), fun c5 => dotry (Or.inr ?_)⟩⟩
        · have e := bits z hv'
          rw [(cdM_P hP hM2).2.1.1] at c5
          rcases hv'.2.2.2.1 with q | q
          · exact c4 (e ▸ q)
          · exact c5 q
        · rw [(cdM_P hP hM2).2.1.1] at c5
          exact Classical.not_not.mp c5
    · obtain ⟨g1, g2, g3, g4, g5⟩ := hv
      exact (d3 j j0).mpr ⟨(g5 j j0).2.1 hj, fun q => ((g5 j j0).1 q).2 hj⟩
  · refine fin m2 (cdM_mono hM2 (fun x y z hv q => ?_))
    by_cases ce : x = a
    · subst ce
      exact absurd (fun j j0 hj => ((hv.2.2.2.2 j j0).1 hj).1) hsa
    · exact Or.inl (by omega)
/-- all sharings -/
theorem cshare_loop (hP : cdP n k L w m0) (hset : 0 < set ∧ set < 64) (hn : ∀ j, 0 ≤ j → bitI set j → j < (n : Int)) (hG : ∀ s, 0 ≤ s → s < set → cdG w L k n m0 s) {K : am_KK} (hK : ∀ m2, cdM k set n w L m0 (fun _ _ => True) m2 → K 0 m2) : M_X1_share 156 set K m0 := by
  unfold M_X1_share
  simp only [am_rf_all, am_ln_all]
  refine ⟨by omega, ?_⟩
  intro m1 h1
  unfold M_X1_share_L1
  refine ⟨fun j a m2 => 0 ≤ a ∧ a ≤ set ∧ j = (set - a).toNat ∧ cdM k set n w L m0 (fun x _ => x < a) m2, ⟨_, by omega, by omega, rfl, ?_⟩, ?_⟩
  · refine ⟨fun o x o1 o2 o3 => by rw [h1, am_st_ne _ (by omega)], Or.inl ⟨by rw [h1, am_st_eq, if_pos ⟨rfl, rfl⟩], fun x y z hv q => ?_⟩⟩
    have := hv.1.1
    omega
  rintro j a m2 ⟨a1, a2, rfl, hM⟩
  unfold M_X1_share_L1B
  refine ⟨fun c1 => hK m2 (cdM_mono hM (fun x y z hv _ => by have := hv.1.2; omega)), fun c1 => ?_⟩
  refine cinner hP (by omega) hn hG (by omega) hM (fun m3 hM3 => ?_)
  refine ⟨_, ?_, by omega, by omega, rfl, cdM_mono hM3 (fun x y z hv q => ?_)⟩
  · omega
  · omega
end CDX
