/-! CODE, the class: the best of what was tried so far. -/
def cdM (k set : Int) (n : Nat) (w L : Int → Int) (m0 : am_M) (Mt : Int → Int → Prop) (m' : am_M) : Prop :=
  (∀ o x, o ≠ 162 → (o ≠ 160 ∨ x ≠ set) → (o ≠ 161 ∨ x < set * 6 ∨ set * 6 + 6 ≤ x) → m' o x = m0 o x) ∧
  ((m' 160 set = -1 ∧ ∀ x y z, cdV k set x y z → ¬ Mt x y) ∨
   ∃ x y z, cdV k set x y z ∧ m' 160 set = kc w (trow m0 L set x y z) n ∧ (∀ j, 0 ≤ j → j < 6 → m' 161 (set * 6 + j) = trow m0 L set x y z j) ∧ ∀ x' y' z', cdV k set x' y' z' → Mt x' y' → kl w n (trow m0 L set x y z) (trow m0 L set x' y' z'))
theorem cdM_mono {k set : Int} {n : Nat} {w L : Int → Int} {m0 m' : am_M} {Mt Mt' : Int → Int → Prop} (h : cdM k set n w L m0 Mt m') (hm : ∀ x y z, cdV k set x y z → Mt' x y → Mt x y) : cdM k set n w L m0 Mt' m' := by
  obtain ⟨h1, h2⟩ := h
  refine ⟨h1, ?_⟩
  rcases h2 with ⟨h2, h3⟩ | ⟨x, y, z, h2, h3, h4, h5⟩
  · exact Or.inl ⟨h2, fun x y z hv q => h3 x y z hv (hm x y z hv q)⟩
  · exact Or.inr ⟨x, y, z, h2, h3, h4, fun x' y' z' hv q => h5 x' y' z' hv (hm x' y' z' hv q)⟩
theorem cdV_z {k set a b c c' : Int} (h : cdV k set a b c) (g : cdV k set a b c') : c = c' := by
  obtain ⟨-, -, h3, -, h5⟩ := h
  obtain ⟨-, -, g3, -, g5⟩ := g
  exact bit_ext h3.1 g3.1 (fun j j0 => (h5 j j0).2.2.trans (g5 j j0).2.2.symm)
section CDX
variable {n : Nat} {k : Int} {L w : Int → Int} {m0 m1 : am_M} {set a b c : Int} {Mt : Int → Int → Prop}
theorem cdM_P (hP : cdP n k L w m0) (hM : cdM k set n w L m0 Mt m1) : cdP n k L w m1 := cdP_of hP (fun o x ho => hM.1 o x (by omega) (by omega) (by omega))
theorem cdM_G (hP : cdP n k L w m0) (hG : ∀ s, 0 ≤ s → s < set → cdG w L k n m0 s) (hM : cdM k set n w L m0 Mt m1) {s : Int} (s0 : 0 ≤ s) (s1 : s < set) : cdG w L k n m1 s := by
  refine cdG_of (hG s s0 s1) (hM.1 _ _ (by omega) (by omega) (by omega)) (hM.1 _ _ (by omega) (by omega) (by omega)) (fun j => ?_) hP.1.2
  by_cases c : 0 ≤ j ∧ j < 6
  · exact Or.inl (hM.1 _ _ (by omega) (by omega) (by omega))
  · exact Or.inr (by omega)
theorem trow_e (hM : cdM k set n w L m0 Mt m1) (hv : cdV k set a b c) {j : Int} (j0 : 0 ≤ j) (j1 : j < 6) : trow m1 L set a b c j = trow m0 L set a b c j := by
  obtain ⟨v1, v2, v3, v4, v5⟩ := hv
  unfold trow
  rw [hM.1 161 (a * 6 + j) (by omega) (by omega) (by omega), hM.1 161 (b * 6 + j) (by omega) (by omega) (by omega), hM.1 161 (c * 6 + j) (by omega) (by omega) (by omega)]
theorem cdM_try (hP : cdP n k L w m0) (hset : 0 ≤ set ∧ set < 64) (hn : ∀ j, 0 ≤ j → bitI set j → j < (n : Int)) (hG : ∀ s, 0 ≤ s → s < set → cdG w L k n m0 s) (hM : cdM k set n w L m0 Mt m1) (hv : cdV k set a b c) {K : am_KK} (hK : ∀ m2, cdM k set n w L m0 (fun x y => Mt x y ∨ (x = a ∧ y = b)) m2 → K 0 m2) : M_X1_tryShares 156 set a b c K m1 := by
  have hn6 : n ≤ 6 := hP.1.2
  have hk := hP.2.1.2
  have hL := hP.2.2.1
  have hvv := hv
  obtain ⟨v1, v2, v3, v4, v5⟩ := hvv
  have ga := cdM_G hP hG hM v1.1 v1.2
  have gb := cdM_G hP hG hM v2.1 v2.2
  have gc := cdM_G hP hG hM v3.1 v3.2
  have te : ke n (trow m1 L set a b c) (trow m0 L set a b c) := fun j j0 j1 => trow_e hM hv j0 (by omega)
  refine cdtry (cdM_P hP hM) hset hn hv ga gb gc (fun hne => ?_) (fun m2 hf hr => hK m2 ⟨fun o x o1 o2 o3 => (hf o x o1 o2 o3).trans (hM.1 o x o1 o2 o3), ?_⟩)
  · rcases hM.2 with ⟨h2, -⟩ | ⟨x, y, z, h2, h3, h4, h5⟩
    · exact absurd h2 hne
    · refine ⟨by rw [h3]; exact kc_e (fun j j0 j1 => (h4 j j0 (by omega)).symm), fun j j0 j1 => ?_⟩
      rw [h4 j (by omega) j1]
      exact (trow_b hset hL.2 hk h2 (hG _ h2.1.1 h2.1.2) (hG _ h2.2.1.1 h2.2.1.2) (hG _ h2.2.2.1.1 h2.2.2.1.2) (by omega) j1).2 (fun q => by have := hn j (by omega) q; omega)
  · have same : ∀ x' y' z', cdV k set x' y' z' → (x' = a ∧ y' = b) → trow m0 L set x' y' z' = trow m0 L set a b c := fun x' y' z' hv' q => by
      obtain ⟨rfl, rfl⟩ := q
      rw [cdV_z hv' hv]
    rcases hr with ⟨r1, r2, r3⟩ | ⟨r1, r2, r3, r4⟩
    · refine Or.inr ⟨a, b, c, hv, r1.trans (kc_e te), fun j j0 j1 => (r2 j j0 j1).trans (trow_e hM hv j0 j1), fun x' y' z' hv' q => ?_⟩
      by_cases qe : x' = a ∧ y' = b
      · rw [same x' y' z' hv' qe]; exact kl_refl _ _ _
      · have q1 : Mt x' y' := q.resolve_right qe
        rcases hM.2 with ⟨h2, h3⟩ | ⟨x, y, z, h2, h3, h4, h5⟩
        · exact absurd q1 (h3 x' y' z' hv')
        · have hne : m1 160 set ≠ -1 := by
            rw [h3]
            have := kc_bd (w := w) (r := trow m0 L set x y z) (B := 576) (n := n) (fun j j0 j1 => ⟨by have := (trow_b hset hL.2 hk h2 (hG _ h2.1.1 h2.1.2) (hG _ h2.2.1.1 h2.2.1.2) (hG _ h2.2.2.1.1 h2.2.2.1.2) j0 (by omega)).1; omega, by have := (hP.2.2.2 j j0 j1).2; omega⟩)
            omega
          refine kl_trans (kl_ke (fun j j0 j1 => (te j j0 j1).symm)) (kl_trans (r3 hne) (kl_trans (kl_ke (fun j j0 j1 => h4 j j0 (by omega))) (h5 x' y' z' hv' q1)))
    · rcases hM.2 with ⟨h2, h3⟩ | ⟨x, y, z, h2, h3, h4, h5⟩
      · exact absurd h2 r1
      · refine Or.inr ⟨x, y, z, h2, r2.trans h3, fun j j0 j1 => (r3 j j0 j1).trans (h4 j j0 j1), fun x' y' z' hv' q => ?_⟩
        by_cases qe : x' = a ∧ y' = b
        · rw [same x' y' z' hv' qe]
          exact kl_trans (kl_ke (fun j j0 j1 => (h4 j j0 (by omega)).symm)) (kl_trans r4 (kl_ke te))
        · exact h5 x' y' z' hv' (q.resolve_right qe)
/-- the loop over the second part -/
theorem cinner (hP : cdP n k L w m0) (hset : 0 ≤ set ∧ set < 64) (hn : ∀ j, 0 ≤ j → bitI set j → j < (n : Int)) (hG : ∀ s, 0 ≤ s → s < set → cdG w L k n m0 s) (ha : 0 ≤ a ∧ a < set) (hsa : sb a set) {C13 : Int → am_M → Prop} {K : am_KK} (hM : cdM k set n w L m0 (fun x _ => a < x) m1)
    (hC1 : a ≠ 0 → ∀ m2, cdM k set n w L m0 (fun x _ => a ≤ x) m2 → C13 (am_and (w32 (a - 1)) set) m2) (hC0 : a = 0 → ∀ m2, cdM k set n w L m0 (fun x _ => a ≤ x) m2 → C13 (-1) m2) : M_X1_share_L2 156 set a (am_and set (am_xor a (-1))) (am_and set (am_xor a (-1))) C13 K m1 := by
  obtain ⟨⟨d1, d2⟩, d3⟩ := andn hset (a := a) (by omega)
  generalize am_and set (am_xor a (-1)) = rest at d1 d2 d3 ⊢
  unfold M_X1_share_L2
  refine ⟨fun j b m2 => -1 ≤ b ∧ b ≤ rest ∧ (0 ≤ b → sb b rest) ∧ j = (b + 1).toNat ∧ cdM k set n w L m0 (fun x y => a < x ∨ (x = a ∧ b < y)) m2, ⟨_, by omega, Int.le_refl _, fun _ => fun _ _ h => h, rfl, ?_⟩, ?_⟩
  · refine cdM_mono hM (fun x y z hv q => ?_)
    rcases q with q | ⟨q, q2⟩
    · exact q
    · obtain ⟨g1, g2, g3, g4, g5⟩ := hv
      have : y ≤ rest := sb_le g2.1 d1 (fun j j0 hj => (d3 j j0).mpr ⟨(g5 j j0).2.1 hj, fun z => ((g5 j j0).1 (q ▸ z)).2 hj⟩)
      omega
  rintro j b m2 ⟨b0, b1, b2, rfl, hM2⟩
  generalize hC : (fun (v4' : Int) (m' : am_M) => ∃ j', j' < (b + 1).toNat ∧ -1 ≤ v4' ∧ v4' ≤ rest ∧ (0 ≤ v4' → sb v4' rest) ∧ j' = (v4' + 1).toNat ∧ cdM k set n w L m0 (fun x y => a < x ∨ (x = a ∧ v4' < y)) m') = C
  have nxt : 0 ≤ b → ∀ m3, cdM k set n w L m0 (fun x y => (a < x ∨ (x = a ∧ b < y)) ∨ (x = a ∧ y = b)) m3 → M_X1_share_J2 156 set a rest b C C13 K m3 := fun hb m3 hM3 => by
    unfold M_X1_share_J2 M_X1_share_J3
    refine ⟨fun c1 => ?_, fun c1 => ?_⟩
    · obtain ⟨⟨e1, e2⟩, e3, e4⟩ := nx_i (a := b) (s := rest) (by omega) (by omega) (b2 hb)
      rw [← hC]
      refine ⟨_, ?_, by omega, by omega, fun _ => e3, rfl, cdM_mono hM3 (fun x y z hv q => ?_)⟩
      · omega
      · rcases q with q | ⟨q, q2⟩
        · exact Or.inl (Or.inl q)
        · obtain ⟨g1, g2, g3, g4, g5⟩ := hv
          have hy : sb y rest := fun j j0 hj => (d3 j j0).mpr ⟨(g5 j j0).2.1 hj, fun z => ((g5 j j0).1 (q ▸ z)).2 hj⟩
          by_cases cy : y < b
          · have := e4 y g2.1 hy cy; omega
          · by_cases cy2 : y = b
            · exact Or.inr ⟨q, cy2⟩
            · exact Or.inl (Or.inr ⟨q, by omega⟩)
    · have cb : b = 0 := Classical.not_not.mp c1
      rw [← hC]
      refine ⟨_, ?_, by omega, by omega, fun z => by omega, rfl, cdM_mono hM3 (fun x y z hv q => ?_)⟩
      · omega
      · rcases q with q | ⟨q, q2⟩
        · exact Or.inl (Or.inl q)
        · by_cases cy2 : y = b
          · exact Or.inr ⟨q, cy2⟩
          · exact Or.inl (Or.inr ⟨q, by omega⟩)
  clear hC
  unfold M_X1_share_L2B
  refine ⟨fun c1 => ?_, fun c1 => ?_⟩
  · unfold M_X1_share_J4
    have hb : b = -1 := by omega
    have hM3 : cdM k set n w L m0 (fun x _ => a ≤ x) m2 := cdM_mono hM2 (fun x y z hv q => by
      by_cases ce : x = a
      · exact Or.inr ⟨ce, by have := hv.2.1.1; omega⟩
      · exact Or.inl (by omega))
    exact ⟨fun c2 => hC1 c2 m2 hM3, fun c2 => hC0 (Classical.not_not.mp c2) m2 hM3⟩
  · intro c hc
    obtain ⟨⟨f1, f2⟩, f3⟩ := andn (s := rest) (a := b) (by omega) (by omega)
    rw [← hc] at f1 f2 f3
    have hb0 : 0 ≤ b := by omega
    have skip : (∀ z, ¬ cdV k set a b z) → M_X1_share_J2 156 set a rest b C C13 K m2 := fun hno => nxt hb0 m2 (cdM_mono hM2 (fun x y z hv q => by
      rcases q with q | ⟨q, q2⟩
      · exact q
      · subst q; subst q2; exact absurd hv (hno z)))
    have bits : ∀ z, cdV k set a b z → z = c := fun z hv => bit_ext hv.2.2.1.1 f1 (fun j j0 => by
      rw [(hv.2.2.2.2 j j0).2.2, f3 j j0, d3 j j0]
      exact ⟨fun q => ⟨⟨q.1, q.2.1⟩, q.2.2⟩, fun q => ⟨q.1.1, q.1.2, q.2⟩⟩)
    refine ⟨fun c2 => skip (fun z hv => ?_), fun c2 => ⟨fun c3 => skip (fun z hv => ?_), fun c3 => ?_⟩⟩
    · have := hv.2.1.2; omega
    · have := hv.2.2.1.2; have := bits z hv; omega
    · have hv : (c = 0 ∨ k = 3) → cdV k set a b c := fun q => by
        have sb1 : sb b set := fun j j0 hj => ((d3 j j0).mp (b2 hb0 j j0 hj)).1
        have hb1 := sb_le hb0 hset.1 sb1
        refine ⟨ha, ⟨hb0, by omega⟩, ⟨f1, by omega⟩, q, fun j j0 => ⟨fun hj => ⟨hsa j j0 hj, fun z => ((d3 j j0).mp (b2 hb0 j j0 z)).2 hj⟩, fun hj => sb1 j j0 hj, ?_⟩⟩
        rw [f3 j j0, d3 j j0]
        exact ⟨fun q => ⟨q.1.1, q.1.2, q.2⟩, fun q => ⟨⟨q.1, q.2.1⟩, q.2.2⟩⟩
      have dotry : (c = 0 ∨ k = 3) → M_X1_share_J1 156 set a rest b c C C13 K m2 := fun q => by
        unfold M_X1_share_J1
        refine cdM_try hP hset hn hG hM2 (hv q) (fun m3 hM3 => nxt hb0 m3 hM3)
      refine ⟨fun c4 => dotry (Or.inl c4), fun c4 => ⟨fun c5 => skip (fun z hv' => ?_), fun c5 => dotry (Or.inr ?_)⟩⟩
      · have e := bits z hv'
        rw [(cdM_P hP hM2).2.1.1] at c5
        rcases hv'.2.2.2.1 with q | q
        · exact c4 (e ▸ q)
        · exact c5 q
      · rw [(cdM_P hP hM2).2.1.1] at c5
        exact Classical.not_not.mp c5
/-- all sharings -/
theorem cshare_loop (hP : cdP n k L w m0) (hset : 0 < set ∧ set < 64) (hn : ∀ j, 0 ≤ j → bitI set j → j < (n : Int)) (hG : ∀ s, 0 ≤ s → s < set → cdG w L k n m0 s) {K : am_KK} (hK : ∀ m2, cdM k set n w L m0 (fun _ _ => True) m2 → K 0 m2) : M_X1_share 156 set K m0 := by
  obtain ⟨⟨e1, e2⟩, e3, e4⟩ := nx_i (a := set) (s := set) (by omega) (by omega) (fun _ _ h => h)
  unfold M_X1_share
  simp only [am_rf_all, am_ln_all]
  refine ⟨by omega, ?_⟩
  intro m1 h1 a0 ha0
  rw [← ha0] at e1 e2 e3 e4
  unfold M_X1_share_L1
  refine ⟨fun j a m2 => -1 ≤ a ∧ a < set ∧ (0 ≤ a → sb a set) ∧ j = (a + 1).toNat ∧ cdM k set n w L m0 (fun x _ => a < x) m2, ⟨_, by omega, e2, fun _ => e3, rfl, ?_⟩, ?_⟩
  · refine ⟨fun o x o1 o2 o3 => by rw [h1, am_st_ne _ (by omega)], Or.inl ⟨by rw [h1, am_st_eq, if_pos ⟨rfl, rfl⟩], fun x y z hv q => ?_⟩⟩
    have := e4 x hv.1.1 (fun j j0 hj => ((hv.2.2.2.2 j j0).1 hj).1) hv.1.2
    omega
  rintro j a m2 ⟨a1, a2, a3, rfl, hM⟩
  unfold M_X1_share_L1B
  refine ⟨fun c1 => hK m2 (cdM_mono hM (fun x y z hv _ => by have := hv.1.1; omega)), fun c1 => ?_⟩
  intro r hr
  rw [hr]
  refine cinner hP (by omega) hn hG (by omega) (a3 (by omega)) hM (fun c2 m3 hM3 => ?_) (fun c2 m3 hM3 => ?_)
  · obtain ⟨⟨g1, g2⟩, g3, g4⟩ := nx_i (a := a) (s := set) (by omega) (by omega) (a3 (by omega))
    refine ⟨_, ?_, by omega, by omega, fun _ => g3, rfl, cdM_mono hM3 (fun x y z hv q => ?_)⟩
    · omega
    · by_cases cx : x < a
      · have := g4 x hv.1.1 (fun j j0 hj => ((hv.2.2.2.2 j j0).1 hj).1) cx; omega
      · omega
  · refine ⟨_, ?_, by omega, by omega, fun z => by omega, rfl, cdM_mono hM3 (fun x y z hv q => ?_)⟩
    · omega
    · have := hv.1.1; omega
end CDX
