/-! CODE, the model: a leaf list is looked at. -/
def mdP (n : Nat) (k : Int) (L w : Int → Int) (m : am_M) : Prop :=
  (m 168 46 = n ∧ n ≤ 6) ∧ (m 168 45 = k ∧ 2 ≤ k ∧ k ≤ 3) ∧ ((∀ l, m 191 l = L l) ∧ ∀ l, 0 ≤ l → l < k → 1 ≤ L l ∧ L l ≤ 9) ∧ ∀ i, 0 ≤ i → i < (n : Int) → (0 ≤ m 192 i ∧ m 192 i ≤ 7) ∧ m 170 (308 + m 192 i) = w i ∧ 1 ≤ w i ∧ w i ≤ 99
theorem mdP_of {n : Nat} {k : Int} {L w : Int → Int} {m m' : am_M} (h : mdP n k L w m) (e : ∀ o x, o = 170 ∨ o = 191 ∨ o = 192 ∨ (o = 168 ∧ (x = 45 ∨ x = 46)) → m' o x = m o x) : mdP n k L w m' := by
  obtain ⟨⟨h1, h2⟩, ⟨h3, h4⟩, ⟨h5, h6⟩, h7⟩ := h
  refine ⟨⟨by rw [e _ _ (by omega)]; exact h1, h2⟩, ⟨by rw [e _ _ (by omega)]; exact h3, h4⟩, ⟨fun l => by rw [e _ _ (by omega)]; exact h5 l, h6⟩, fun i i0 i1 => ?_⟩
  rw [e 192 _ (by omega), e 170 _ (by omega)]
  exact h7 i i0 i1
/-- what is kept as the best is no worse than s -/
def kd (w : Int → Int) (n : Nat) (c : Int) (b s : Int → Int) : Prop := c < kc w s n ∨ (c = kc w s n ∧ (kx n b s ∨ ke n b s))
section MLK
variable {n : Nat} {k : Int} {L w : Int → Int} {m : am_M}
/-- the best copied -/
theorem mlook_6 (hP : mdP n k L w m) {K : am_KK} (hK : ∀ m' : am_M, (∀ o x, o ≠ 196 → m' o x = m o x) → ke n (m' 196) (m 195) → K 0 m') : M_X12_looksAt_L6 168 0 K m := by
  have h1 := hP.1
  unfold M_X12_looksAt_L6
  refine ⟨fun j i m1 => 0 ≤ i ∧ i ≤ n ∧ j = ((n : Int) - i).toNat ∧ (∀ o x, o ≠ 196 → m1 o x = m o x) ∧ ∀ j, 0 ≤ j → j < i → m1 196 j = m 195 j, ⟨_, by omega, by omega, rfl, fun _ _ _ => rfl, fun j j0 j1 => by omega⟩, ?_⟩
  rintro j i m1 ⟨i0, i1, rfl, f1, c1⟩
  unfold M_X12_looksAt_L6B
  simp only [am_rf_all, am_ln_all]
  rw [f1 168 46 (by omega), h1.1, f1 195 i (by omega)]
  refine ⟨fun q => hK m1 f1 (fun j j0 j1 => c1 j j0 (by omega)), fun q => ⟨by omega, by omega, ?_⟩⟩
  intro m2 e2 z hz
  rw [w32_of (by omega) (by omega)] at hz
  rw [hz]
  refine ⟨_, ?_, by omega, by omega, rfl, fun o x ho => ?_, fun j j0 j1 => ?_⟩
  · omega
  · rw [e2, am_st_ne _ (by omega)]; exact f1 o x ho
  · rw [e2, am_st_eq]
    by_cases cj : j = i
    · rw [cj, if_pos ⟨rfl, rfl⟩]
    · rw [if_neg (fun z => cj z.2)]; exact c1 j j0 (by omega)
/-- the cost and the row of it are there: is it better? -/
theorem mlook_5 (hP : mdP n k L w m) (hn : 0 < n) {cost : Int} (hc : cost = kc w (m 195) n) {K : am_KK} (hK : ∀ m' : am_M, (∀ o x, o ≠ 196 → ¬ (o = 168 ∧ x = 47) → m' o x = m o x) → kd w n (m' 168 47) (m' 196) (m 195) → (∀ s, kd w n (m 168 47) (m 196) s → kd w n (m' 168 47) (m' 196) s) → ((m' 168 47 = kc w (m 195) n ∧ ke n (m' 196) (m 195)) ∨ (m' 168 47 = m 168 47 ∧ ke n (m' 196) (m 196))) → K 0 m') {v3 : Int} (hv : (m 168 47 ≤ cost ∧ v3 = 0) ∨ (cost < m 168 47 ∧ v3 = 1)) : M_X12_looksAt_J5 168 cost v3 K m := by
  have h1 := hP.1
  have keep : m 168 47 ≤ cost → (cost = m 168 47 → ¬ kx n (m 195) (m 196)) → K 0 m := fun q1 q2 => by
    refine hK m (fun _ _ _ _ => rfl) ?_ (fun _ h => h) (Or.inr ⟨rfl, fun _ _ _ => rfl⟩)
    by_cases c : m 168 47 < cost
    · exact Or.inl (by rw [← hc]; exact c)
    · refine Or.inr ⟨by rw [← hc]; omega, ?_⟩
      rcases kx_tri (m 195) (m 196) n with z | z | z
      · exact absurd z (q2 (by omega))
      · exact Or.inr (fun j j0 j1 => (z j j0 j1).symm)
      · exact Or.inl z
  have take : (cost < m 168 47 ∨ (cost = m 168 47 ∧ kx n (m 195) (m 196))) → ∀ v : Int, v ≠ 0 → M_X12_looksAt_J7 168 cost v K m := fun q v hv0 => by
    unfold M_X12_looksAt_J7
    refine ⟨fun _ => ?_, fun z => absurd hv0 z⟩
    intro m1 e1
    have hP1 : mdP n k L w m1 := mdP_of hP (fun o x ho => by rw [e1, am_st_ne _ (by omega)])
    have e195 : m1 195 = m 195 := funext fun x => by rw [e1, am_st_ne _ (by omega)]
    refine mlook_6 hP1 (fun m2 f2 k2 => ?_)
    rw [e195] at k2
    have ec : m2 168 47 = kc w (m 195) n := by rw [f2 _ _ (by omega), e1, am_st_eq, if_pos ⟨rfl, rfl⟩]; exact hc
    refine hK m2 (fun o x ho ho2 => by rw [f2 _ _ ho, e1, am_st_ne _ ho2]) (Or.inr ⟨ec, Or.inr k2⟩) (fun s hs => ?_) (Or.inl ⟨ec, k2⟩)
    rw [ec]
    rcases q with q | ⟨q, q2⟩
    · rcases hs with hs | ⟨hs, -⟩
      · exact Or.inl (by omega)
      · exact Or.inl (by omega)
    · rcases hs with hs | ⟨hs, hs2⟩
      · exact Or.inl (by omega)
      · refine Or.inr ⟨by omega, ?_⟩
        rcases hs2 with hs2 | hs2
        · exact Or.inl (kx_el (kx_trans q2 hs2) k2 (fun _ _ _ => rfl))
        · exact Or.inl (kx_el q2 k2 (fun j j0 j1 => (hs2 j j0 j1).symm))
  unfold M_X12_looksAt_J5 M_X12_looksAt_L5
  refine ⟨fun j i m1 => m1 = m ∧ 0 ≤ i ∧ i ≤ n ∧ j = ((n : Int) - i).toNat ∧ ∀ j, 0 ≤ j → j < i → m 195 j = m 196 j, ⟨_, rfl, by omega, by omega, rfl, fun j j0 j1 => by omega⟩, ?_⟩
  rintro j i m1 ⟨rfl, i0, i1, rfl, c1⟩
  have direct : (cost = m1 168 47 → ¬ kx n (m1 195) (m1 196)) → M_X12_looksAt_J7 168 cost v3 K m1 := fun q => by
    rcases hv with ⟨hv, e⟩ | ⟨hv, e⟩
    · rw [e]
      unfold M_X12_looksAt_J7
      exact ⟨fun z => absurd rfl z, fun _ => keep hv q⟩
    · exact take (Or.inl hv) v3 (by omega)
  unfold M_X12_looksAt_L5B M_X12_looksAt_J6
  simp only [am_rf_all, am_ln_all]
  rw [h1.1]
  refine ⟨fun q => direct (fun _ z => kx_ne z (fun j j0 j1 => c1 j j0 (by omega))), fun q => ⟨fun c2 => direct (fun z => absurd z c2), fun c2 => ⟨by omega, by omega, fun c3 => ⟨by omega, by omega, fun c4 => ?_, fun c4 => ?_⟩, fun c3 => ?_⟩⟩⟩
  · have e := Classical.not_not.mp c2
    unfold M_X12_looksAt_J7
    refine ⟨fun z => absurd rfl z, fun _ => keep (by omega) (fun _ => ?_)⟩
    rintro ⟨x, x0, x1, g1, g2⟩
    by_cases c5 : x < i
    · have := c1 x x0 c5; omega
    · by_cases c6 : x = i
      · subst c6; omega
      · exact c3 (g1 i i0 (by omega))
  · have e := Classical.not_not.mp c2
    exact take (Or.inr ⟨e, ⟨i, i0, by omega, c1, by omega⟩⟩) 1 (by decide)
  · intro z hz
    rw [w32_of (by omega) (by omega)] at hz
    rw [hz]
    refine ⟨_, ?_, by first | rfl | trivial, by omega, by omega, rfl, fun j j0 j1 => ?_⟩
    · omega
    · by_cases cj : j = i
      · rw [cj]; exact Classical.not_not.mp c3
      · exact c1 j j0 (by omega)
/-- things are given out -/
theorem mlook_3 (hP : mdP n k L w m) (hn : 0 < n) (hT : ∀ j, 0 ≤ j → j < (n : Int) → 0 ≤ m 194 j ∧ m 194 j ≤ 45) {K : am_KK} (hK : ∀ m' : am_M, (∀ o x, o ≠ 195 → o ≠ 196 → ¬ (o = 168 ∧ x = 47) → m' o x = m o x) → kd w n (m' 168 47) (m' 196) (fun j => m 194 (ahd w j n)) → (∀ s, kd w n (m 168 47) (m 196) s → kd w n (m' 168 47) (m' 196) s) → ((m' 168 47 = kc w (fun j => m 194 (ahd w j n)) n ∧ ke n (m' 196) (fun j => m 194 (ahd w j n))) ∨ (m' 168 47 = m 168 47 ∧ ke n (m' 196) (m 196))) → K 0 m') : M_X12_looksAt_L3 168 0 0 K m := by
  have h1 := hP.1
  have h7 := hP.2.2.2
  obtain ⟨R, hR⟩ : ∃ R : Int → Int, R = fun j => m 194 (ahd w j n) := ⟨_, rfl⟩
  rw [← hR] at hK
  have hRj : ∀ j, R j = m 194 (ahd w j n) := fun j => by rw [hR]
  have hRb : ∀ j, 0 ≤ j → j < (n : Int) → 0 ≤ R j ∧ R j ≤ 45 := fun j j0 j1 => by
    rw [hRj]
    have := ahd_b (w := w) j j0 n
    exact hT _ this.1 (this.2.2 j1)
  unfold M_X12_looksAt_L3
  refine ⟨fun j c i m1 => 0 ≤ i ∧ i ≤ n ∧ j = ((n : Int) - i).toNat ∧ (∀ o x, o ≠ 195 → m1 o x = m o x) ∧ (∀ j, 0 ≤ j → j < i → m1 195 j = R j) ∧ c = kc w R i.toNat, ⟨_, by omega, by omega, rfl, fun _ _ _ => rfl, fun j j0 j1 => by omega, rfl⟩, ?_⟩
  rintro j c i m1 ⟨i0, i1, rfl, f1, r1, rfl⟩
  generalize hC : (fun (v2' v3' : Int) (m' : am_M) => ∃ j', j' < ((n : Int) - i).toNat ∧ 0 ≤ v3' ∧ v3' ≤ n ∧ j' = ((n : Int) - v3').toNat ∧ (∀ o x, o ≠ 195 → m' o x = m o x) ∧ (∀ j, 0 ≤ j → j < v3' → m' 195 j = R j) ∧ v2' = kc w R v3'.toNat) = C
  have go : i < (n : Int) → ∀ m2 : am_M, (∀ o x, o ≠ 195 → m2 o x = m o x) → (∀ j, 0 ≤ j → j < i + 1 → m2 195 j = R j) → C (kc w R (i + 1).toNat) (i + 1) m2 := fun q m2 a1 a2 => by
    rw [← hC]
    refine ⟨_, ?_, by omega, by omega, rfl, a1, a2, rfl⟩
    omega
  clear hC
  have hP1 : mdP n k L w m1 := mdP_of hP (fun o x ho => f1 o x (by omega))
  have h1' := hP1.1
  have h7' := hP1.2.2.2
  unfold M_X12_looksAt_L3B
  rw [h1'.1]
  refine ⟨fun q => ?_, fun q => ?_⟩
  · have hi : i.toNat = n := by omega
    rw [hi]
    have er : ke n (m1 195) R := fun j j0 j1 => r1 j j0 (by omega)
    have hK' : ∀ m' : am_M, (∀ o x, o ≠ 196 → ¬ (o = 168 ∧ x = 47) → m' o x = m1 o x) → kd w n (m' 168 47) (m' 196) (m1 195) → (∀ s, kd w n (m1 168 47) (m1 196) s → kd w n (m' 168 47) (m' 196) s) → ((m' 168 47 = kc w (m1 195) n ∧ ke n (m' 196) (m1 195)) ∨ (m' 168 47 = m1 168 47 ∧ ke n (m' 196) (m1 196))) → K 0 m' := fun m' a1 a2 a3 a4 => by
      have e196 : m1 196 = m 196 := funext fun x => f1 _ _ (by omega)
      rw [e196, f1 168 47 (by omega)] at a3 a4
      refine hK m' (fun o x o1 o2 o3 => by rw [a1 o x o2 o3]; exact f1 o x o1) ?_ a3 ?_
      · rcases a2 with a2 | ⟨a2, a5⟩
        · exact Or.inl (by rw [kc_e (fun j j0 j1 => (er j j0 j1).symm)]; exact a2)
        · refine Or.inr ⟨by rw [a2]; exact kc_e er, ?_⟩
          rcases a5 with a5 | a5
          · exact Or.inl (kx_el a5 (fun _ _ _ => rfl) (fun j j0 j1 => (er j j0 j1).symm))
          · exact Or.inr (fun j j0 j1 => (a5 j j0 j1).trans (er j j0 j1))
      · rcases a4 with ⟨a4, a5⟩ | a4
        · exact Or.inl ⟨by rw [a4]; exact kc_e er, fun j j0 j1 => (a5 j j0 j1).trans (er j j0 j1)⟩
        · exact Or.inr a4
    have hcc : kc w R n = kc w (m1 195) n := (kc_e er).symm
    refine ⟨fun c1 => mlook_5 hP1 hn hcc hK' (Or.inl ⟨c1, rfl⟩), fun c1 => mlook_5 hP1 hn hcc hK' (Or.inr ⟨by omega, rfl⟩)⟩
  · obtain ⟨x1, x2, x3⟩ := h7' i i0 (by omega)
    have hw3 : w32 (308 + m1 192 i) = 308 + m1 192 i := w32_of (by omega) (by omega)
    have e194 : m1 194 = m 194 := funext fun x => f1 _ _ (by omega)
    unfold M_X12_looksAt_L4
    refine ⟨fun j a o m2 => m2 = m1 ∧ 0 ≤ o ∧ o ≤ n ∧ j = ((n : Int) - o).toNat ∧ a = ahd w i o.toNat, ⟨_, rfl, by omega, by omega, rfl, rfl⟩, ?_⟩
    rintro j a o m2 ⟨rfl, o0, o1, rfl, rfl⟩
    have hab := ahd_b (w := w) i i0 o.toNat
    have hab2 := ahd_b (w := w) i i0 n
    have ea : ahd w i (o + 1).toNat = if w i < w o ∨ (w o = w i ∧ o < i) then ahd w i o.toNat + 1 else ahd w i o.toNat := by rw [show (o + 1).toNat = o.toNat + 1 by omega, ahd, show ((o.toNat : Nat) : Int) = o by omega]
    unfold M_X12_looksAt_L4B
    simp only [am_rf_all, am_ln_all]
    rw [h1'.1]
    refine ⟨fun q2 => ?_, fun q2 => ?_⟩
    · have ho : o.toNat = n := by omega
      rw [ho] at hab ⊢
      have hlt := hab2.2.2 (by omega)
      refine ⟨by omega, by omega, ?_⟩
      intro m3 e3
      have e192 : m3 192 i = m2 192 i := by rw [e3, am_st_ne _ (by omega)]
      have e195 : m3 195 i = R i := by rw [e3, am_st_eq, if_pos ⟨rfl, rfl⟩, e194, hRj]
      rw [e192, hw3, e195]
      have e170 : m3 170 (308 + m2 192 i) = w i := by rw [e3, am_st_ne _ (by omega)]; exact x2
      rw [e170]
      have hb := hRb i i0 (by omega)
      have hp : 0 ≤ R i * w i ∧ R i * w i ≤ 45 * 99 := ⟨Int.mul_nonneg (by omega) (by omega), Int.mul_le_mul (by omega) (by omega) (by omega) (by omega)⟩
      have hk := kc_bd (w := w) (r := R) (B := 45) (n := i.toNat) (fun j j0 j1 => ⟨hRb j j0 (by omega), by have := (h7 j j0 (by omega)).2; omega⟩)
      have ek : kc w R (i + 1).toNat = kc w R i.toNat + R i * w i := by rw [show (i + 1).toNat = i.toNat + 1 by omega, kc, show ((i.toNat : Nat) : Int) = i by omega, Int.mul_comm]
      refine ⟨by omega, by omega, by omega, ?_⟩
      intro y hy z hz
      rw [w32_of (z := R i * w i) (by omega) (by omega), w32_of (by omega) (by omega)] at hy
      rw [w32_of (by omega) (by omega)] at hz
      rw [hz, hy, ← ek]
      refine go (by omega) m3 (fun o x ho => by rw [e3, am_st_ne _ (by omega)]; exact f1 o x ho) (fun j j0 j1 => ?_)
      by_cases cj : j = i
      · rw [cj]; exact e195
      · rw [e3, am_st_ne _ (by omega)]; exact r1 j j0 (by omega)
    · obtain ⟨y1, y2, y3⟩ := h7' o o0 (by omega)
      have hw3o : w32 (308 + m2 192 o) = 308 + m2 192 o := w32_of (by omega) (by omega)
      rw [hw3, hw3o]
      refine ⟨by omega, by omega, ?_⟩
      intro a6 ha6
      refine ⟨by omega, by omega, ?_⟩
      intro a7 ha7
      rw [y2] at ha6
      rw [x2] at ha7
      have nx : ∀ z, z = w32 (o + 1) → z = o + 1 := fun z hz => by rw [hz, w32_of (by omega) (by omega)]
      have one : (w i < w o ∨ (w o = w i ∧ o < i)) → ∀ C' : Int → Int → am_M → Prop, C' (ahd w i (o + 1).toNat) (o + 1) m2 → M_X12_looksAt_J2 168 (kc w R i.toNat) i o (ahd w i o.toNat) C' C K m2 := fun q3 C' hC' => by
        unfold M_X12_looksAt_J2 M_X12_looksAt_J4
        intro y hy z hz
        rw [w32_of (by omega) (by omega)] at hy
        rw [nx z hz, hy]
        rw [ea, if_pos q3] at hC'
        exact hC'
      have none : ¬ (w i < w o ∨ (w o = w i ∧ o < i)) → ∀ C' : Int → Int → am_M → Prop, C' (ahd w i (o + 1).toNat) (o + 1) m2 → M_X12_looksAt_J3 168 (kc w R i.toNat) i o (ahd w i o.toNat) C' C K m2 := fun q3 C' hC' => by
        unfold M_X12_looksAt_J3 M_X12_looksAt_J4
        intro y hy z hz
        rw [Int.add_zero, w32_of (by omega) (by omega)] at hy
        rw [nx z hz, hy]
        rw [ea, if_neg q3] at hC'
        exact hC'
      rw [ha6, ha7]
      refine ⟨fun c2 => one (Or.inl c2) _ ?_, fun c2 => ⟨fun c3 => none ?_ _ ?_, fun c3 => ⟨fun c4 => none ?_ _ ?_, fun c4 => one (Or.inr ⟨Classical.not_not.mp c3, by omega⟩) _ ?_⟩⟩⟩
      · exact ⟨_, by omega, by first | rfl | trivial, by omega, by omega, rfl, rfl⟩
      · rintro (z | ⟨z, -⟩)
        · exact c2 z
        · exact c3 z
      · exact ⟨_, by omega, by first | rfl | trivial, by omega, by omega, rfl, rfl⟩
      · rintro (z | ⟨-, z⟩)
        · exact c2 z
        · omega
      · exact ⟨_, by omega, by first | rfl | trivial, by omega, by omega, rfl, rfl⟩
      · exact ⟨_, by omega, by first | rfl | trivial, by omega, by omega, rfl, rfl⟩
theorem mlook (hP : mdP n k L w m) (hn : 0 < n) {step : Int} (hs : 0 ≤ step ∧ step ≤ 5) (hl : ∀ j, 0 ≤ j → j < (n : Int) → 0 ≤ m 193 (6 * step + j) ∧ m 193 (6 * step + j) ≤ 45) {K : am_KK} (hK : ∀ m' : am_M, (∀ o x, o ≠ 194 → o ≠ 195 → o ≠ 196 → ¬ (o = 168 ∧ x = 47) → m' o x = m o x) → ∀ T : Int → Int, srt n T → pm n (fun j => m 193 (6 * step + j)) T → kd w n (m' 168 47) (m' 196) (fun j => T (ahd w j n)) → (∀ s, kd w n (m 168 47) (m 196) s → kd w n (m' 168 47) (m' 196) s) → ((m' 168 47 = kc w (fun j => T (ahd w j n)) n ∧ ke n (m' 196) (fun j => T (ahd w j n))) ∨ (m' 168 47 = m 168 47 ∧ ke n (m' 196) (m 196))) → K 0 m') : M_X12_looksAt 168 step K m := by
  have h1 := hP.1
  obtain ⟨F, hF⟩ : ∃ F : Int → Int, F = fun j => m 193 (6 * step + j) := ⟨_, rfl⟩
  rw [← hF] at hK
  have hFj : ∀ j, m 193 (6 * step + j) = F j := fun j => by rw [hF]
  unfold M_X12_looksAt M_X12_looksAt_L1
  refine ⟨fun j i m1 => 0 ≤ i ∧ i ≤ n ∧ j = ((n : Int) - i).toNat ∧ (∀ o x, o ≠ 194 → m1 o x = m o x) ∧ srt i (m1 194) ∧ pm i F (m1 194), ⟨_, by omega, by omega, rfl, fun _ _ _ => rfl, fun a b a0 ab b1 => by omega, pm_0⟩, ?_⟩
  rintro j i m1 ⟨i0, i1, rfl, f1, so, pe⟩
  have hP1 : mdP n k L w m1 := mdP_of hP (fun o x ho => f1 o x (by omega))
  generalize hC : (fun (v2' : Int) (m' : am_M) => ∃ j', j' < ((n : Int) - i).toNat ∧ 0 ≤ v2' ∧ v2' ≤ n ∧ j' = ((n : Int) - v2').toNat ∧ (∀ o x, o ≠ 194 → m' o x = m o x) ∧ srt v2' (m' 194) ∧ pm v2' F (m' 194)) = C
  have go : i < (n : Int) → ∀ m3 : am_M, (∀ o x, o ≠ 194 → m3 o x = m o x) → srt (i + 1) (m3 194) → pm (i + 1) F (m3 194) → C (i + 1) m3 := fun q m3 a1 a2 a3 => by
    rw [← hC]
    refine ⟨_, ?_, by omega, by omega, rfl, a1, a2, a3⟩
    omega
  clear hC
  unfold M_X12_looksAt_L1B
  simp only [am_rf_all, am_ln_all]
  rw [hP1.1.1]
  refine ⟨fun q => ?_, fun q => ?_⟩
  · have hi : i = n := by omega
    rw [hi] at so pe
    have hb : ∀ j, 0 ≤ j → j < (n : Int) → 0 ≤ m1 194 j ∧ m1 194 j ≤ 45 := fun j j0 j1 => by
      obtain ⟨tu, si, g1, g2⟩ := pe
      obtain ⟨b1, b2, b3⟩ := g2 j j0 j1
      have := hl _ b1.1 b1.2
      rw [hFj, b2] at this
      exact this
    refine mlook_3 hP1 hn hb (fun m' a1 a2 a3 a4 => ?_)
    have e196 : m1 196 = m 196 := funext fun x => f1 _ _ (by omega)
    rw [e196, f1 168 47 (by omega)] at a3 a4
    exact hK m' (fun o x o1 o2 o3 o4 => by rw [a1 o x o2 o3 o4]; exact f1 o x o1) (m1 194) so pe a2 a3 a4
  · rw [w32_of (z := 6 * step) (by omega) (by omega), w32_of (z := 6 * step + i) (by omega) (by omega), f1 193 _ (by omega), hFj]
    refine ⟨by omega, ?_⟩
    intro v hv
    rw [hv]
    unfold M_X12_looksAt_L2
    refine ⟨fun j a m3 => 0 ≤ a ∧ a ≤ i ∧ j = a.toNat ∧ (∀ o x, o ≠ 194 → m3 o x = m o x) ∧ (∀ l, 0 ≤ l → l < a → m3 194 l = m1 194 l) ∧ (∀ l, a < l → l ≤ i → m3 194 l = m1 194 (l - 1)) ∧ ∀ l, a ≤ l → l < i → F i ≤ m1 194 l, ⟨_, by omega, by omega, rfl, f1, fun _ _ _ => rfl, fun l l0 l1 => by omega, fun l l0 l1 => by omega⟩, ?_⟩
    rintro j a m3 ⟨a0, a1, rfl, f3, k1, k2, k3⟩
    have done : (a ≤ 0 ∨ m1 194 (a - 1) ≤ F i) → ∀ v2 : Int, M_X12_looksAt_J1 168 step i a (F i) C K m3 := fun hd _ => by
      unfold M_X12_looksAt_J1
      simp only [am_rf_all, am_ln_all]
      refine ⟨by omega, ?_⟩
      intro m4 e4 z hz
      rw [w32_of (by omega) (by omega)] at hz
      rw [hz]
      have ins : insd i a (F i) (m1 194) (m4 194) := by
        refine ⟨⟨a0, a1⟩, fun l l0 l1 => ?_, ?_, fun l l0 l1 => ?_⟩
        · rw [e4, am_st_ne _ (by omega)]; exact k1 l l0 l1
        · rw [e4, am_st_eq, if_pos ⟨rfl, rfl⟩]
        · rw [e4, am_st_ne _ (by omega)]; exact k2 l l0 l1
      exact go (by omega) m4 (fun o x ho => by rw [e4, am_st_ne _ (by omega)]; exact f3 o x ho) (srt_ins so ins hd k3) (pm_ins pe i0 ins (fun _ _ _ => rfl) rfl)
    unfold M_X12_looksAt_L2B
    simp only [am_rf_all, am_ln_all]
    refine ⟨fun c7 => done (Or.inl c7) 0, fun c7 => ?_⟩
    rw [w32_of (z := a - 1) (by omega) (by omega), k1 (a - 1) (by omega) (by omega)]
    refine ⟨by omega, fun c8 => done (Or.inr c8) 0, fun c8 => ⟨by omega, by omega, ?_⟩⟩
    intro m4 e4 z hz
    rw [w32_of (by omega) (by omega)] at hz
    rw [hz, show a + -1 = a - 1 by omega]
    refine ⟨_, ?_, by omega, by omega, rfl, fun o x ho => ?_, fun l l0 l1 => ?_, fun l l0 l1 => ?_, fun l l0 l1 => ?_⟩
    · omega
    · rw [e4, am_st_ne _ (by omega)]; exact f3 o x ho
    · rw [e4, am_st_ne _ (by omega)]; exact k1 l l0 (by omega)
    · by_cases cl : l = a
      · rw [cl, e4, am_st_eq, if_pos ⟨rfl, rfl⟩]
      · rw [e4, am_st_ne _ (by omega)]; exact k2 l (by omega) l1
    · by_cases cl : l = a - 1
      · rw [cl]; omega
      · exact k3 l (by omega) l1
end MLK
