/-! ORDERS on the other side: what is granted of a kind, and going along one order as a whole. -/
/-- a text of orders stands in the row -/
def og_T (A c v : Int → Int) (N : Int) : Prop := (0 ≤ N ∧ N ≤ 400) ∧ (∀ x, 0 ≤ x → x < N → A (377 + (2400 + x)) = c x ∧ A (3177 + (2400 + x)) = v x) ∧ (∀ x, N ≤ x → c x = 0) ∧ ∀ x, 0 ≤ v x
theorem og_T_of {A A' c v : Int → Int} {N : Int} (h : og_T A c v N) (e : ∀ x, 170 ≤ x → A' x = A x) : og_T A' c v N := ⟨h.1, fun x x0 x1 => by rw [e _ (by omega), e _ (by omega)]; exact h.2.1 x x0 x1, h.2.2.1, h.2.2.2⟩
theorem st_row_o {m : am_M} {o k w o' : Int} (h : o' ≠ o) : am_st m o k w o' = m o' := funext fun x => am_st_ne _ (by omega)
section OGG
variable {m : am_M} {A : Int → Int}
theorem mzero {live : Int} {K : am_KK} (hX : ∀ m', (∀ o k, o ≠ 182 → m' o k = m o k) → (∀ t, 0 ≤ t → t < 8 → m' 182 t = 0) → M_X12_goesAlong_L2 168 live 0 K m') : M_X12_goesAlong_L1 168 live 0 K m := by
  unfold M_X12_goesAlong_L1
  refine ⟨fun j x m1 => (0 ≤ x ∧ x ≤ 8) ∧ j = (8 - x).toNat ∧ (∀ o k, o ≠ 182 → m1 o k = m o k) ∧ ∀ t, 0 ≤ t → t < x → m1 182 t = 0, ⟨_, by omega, rfl, fun _ _ _ => rfl, fun t t0 t1 => by omega⟩, ?_⟩
  rintro j x m1 ⟨bx, rfl, f1, e1⟩
  unfold M_X12_goesAlong_L1B
  simp only [am_rf_all, am_ln_all, forall_eq]
  refine ⟨fun c => hX m1 f1 (fun t t0 t1 => e1 t t0 (by omega)), fun c => ⟨by omega, ?_⟩⟩
  rw [w32_of (z := x + 1) (by omega) (by omega)]
  refine ⟨_, by omega, by omega, rfl, fun o k ho => by rw [am_st_ne _ (by omega)]; exact f1 o k ho, fun t t0 t1 => ?_⟩
  by_cases ct : t = x
  · rw [ct, am_st_same]
  · rw [am_st_ne _ (by omega)]; exact e1 t t0 (by omega)
theorem mgrants {live : Int} (hA : m 170 = A) (hw : wf_A 16 A) (h0 : ∀ t, 0 ≤ t → t < 8 → m 182 t = 0) {K : am_KK} (hX : ∀ m' C, (∀ o k, o ≠ 182 → m' o k = m o k) → (∀ t, 0 ≤ t → t < 8 → m' 182 t = or_gr A t (A 168).toNat) → M_X12_goesAlong_L2B 168 live (A 168) C K m') : M_X12_goesAlong_L2 168 live 0 K m := by
  have h16 := hw.2.1.1
  unfold M_X12_goesAlong_L2
  refine ⟨fun j x m1 => ∃ n : Nat, x = n ∧ (n : Int) ≤ A 168 ∧ j = (A 168 - n).toNat ∧ (∀ o k, o ≠ 182 → m1 o k = m o k) ∧ ∀ t, 0 ≤ t → t < 8 → m1 182 t = or_gr A t n, ⟨_, 0, rfl, by omega, rfl, fun _ _ _ => rfl, fun t t0 t1 => by rw [or_gr]; exact h0 t t0 t1⟩, ?_⟩
  rintro j x m1 ⟨n, rfl, hn, rfl, f1, e1⟩
  by_cases cx : A 168 ≤ (n : Int)
  · rw [show (n : Int) = A 168 by omega]
    exact hX m1 _ f1 (fun t t0 t1 => by rw [show (A 168).toNat = n by omega]; exact e1 t t0 t1)
  · have a1 : m1 170 = A := by rw [← hA]; exact funext fun x => f1 _ _ (by omega)
    have p := (hw.2.1.2.2 (n : Int) (by omega) (by omega)).2.1
    unfold M_X12_goesAlong_L2B M_X12_goesAlong_J1
    rw [prayers_eq, a1]
    refine ⟨fun z => absurd z cx, fun _ => ?_⟩
    rw [fact_eq (by omega) (by omega), a1]
    simp only [forall_eq]
    rw [w32_of (z := (n : Int) + 1) (by omega) (by omega)]
    refine ⟨fun c1 => ?_, fun c1 => ?_⟩
    · refine ⟨_, by omega, n + 1, by omega, by omega, rfl, f1, fun t t0 t1 => ?_⟩
      rw [or_gr, if_neg (fun z => c1 z.1), e1 t t0 t1]; omega
    · rw [fact_eq (by omega) (by omega), a1]
      simp only [am_rf_all, am_ln_all]
      have c1 := Classical.not_not.mp c1
      have b := or_gr_le A (A (7 * (n : Int) + 1)) n
      rw [e1 _ p.1 (by omega), w32_of (by omega) (by omega)]
      refine ⟨by omega, by omega, _, by omega, n + 1, by omega, by omega, rfl, fun o k ho => by rw [am_st_ne _ (by omega)]; exact f1 o k ho, fun t t0 t1 => ?_⟩
      rw [or_gr]
      by_cases ct : t = A (7 * (n : Int) + 1)
      · rw [ct, am_st_same, if_pos ⟨c1, rfl⟩]
      · rw [am_st_ne _ (by omega), e1 t t0 t1, if_neg (fun z => ct z.2.symm)]; omega
theorem mgoes {c v S : Int → Int} {N i l done live : Int} {R : Int × Int × pz_C} (hA : m 170 = A) (hw : wf_A 16 A) (hT : og_T A c v N) (hlv : live = 0 ∨ live = 1) (hSm : ∀ t, 0 ≤ t → t < 8 → m 181 t = S t) (hS : ∀ t, -1 ≤ S t ∧ S t ≤ 1000000) (hd : m 168 49 = done) (hd0 : 0 ≤ done ∧ done ≤ 1000) (h5 : m 168 50 = 2400 + i) (h0 : 0 ≤ i) (hN : i ≤ N) (hl : 0 ≤ l) (h50 : l ≤ 50) (hR : pz_order c v i l = .inr R) {K : am_KK}
    (hK : ∀ m', (∀ o k, ¬ ((o = 168 ∧ (k = 8 ∨ k = 22 ∨ k = 23 ∨ k = 24 ∨ k = 51 ∨ k = 52 ∨ k = 53 ∨ k = 54)) ∨ o = 180 ∨ o = 182 ∨ o = 197) → m' o k = m o k) → m' 168 51 = R.2.2.2.1 → m' 168 22 = 2400 + (R.1 + 1) → (m' 168 52 = 24 ↔ R.2.2.1 = 4) → (live = 1 → (m' 168 54 ≠ 0 ↔ R.2.2.2.2.2.2.2.2 (or_env S A done) = some 1)) → (R.2.2.1 = 4 → m' 168 53 ≠ 0) → (R.2.2.1 ≠ 4 → live = 1 → (m' 168 53 ≠ 0 ↔ (R.2.2.2.2.1.2 (or_env S A done) ≠ none ∧ R.2.2.2.2.2.1.2 (or_env S A done) ≠ none ∧ R.2.2.2.2.2.2.1.2 (or_env S A done) ≠ none)) ∧ m' 197 0 = (R.2.2.2.2.1.2 (or_env S A done)).getD 0 ∧ m' 197 1 = (R.2.2.2.2.2.1.2 (or_env S A done)).getD 0 ∧ m' 197 2 = (R.2.2.2.2.2.2.1.2 (or_env S A done)).getD 0) → K 0 m') : M_X12_goesAlong 168 (2400 + N) live K m := by
  have h16 := hw.2.1.1
  have h9 := hw.2.1.2.1
  have hE := or_env_le (S := S) (A := A) (done := done) hS (by omega) (by omega) hd0
  obtain ⟨h400, t1, t2, t3⟩ := hT
  unfold M_X12_goesAlong
  simp only [forall_eq]
  refine mzero (fun m1 f1 e1 => ?_)
  have g1 : ∀ o k, ¬ (o = 182 ∨ (o = 168 ∧ (k = 8 ∨ k = 23))) → m1 o k = m o k := fun o k ho => by rw [f1 o k (by omega), am_st_ne _ (by omega), am_st_ne _ (by omega)]
  have q8 : m1 168 8 = 15 := by rw [f1 _ _ (by omega), am_st_ne _ (by omega), am_st_same]
  have q23 : m1 168 23 = 2400 + N := by rw [f1 _ _ (by omega), am_st_same]
  refine mgrants (A := A) (by rw [← hA]; exact funext fun x => g1 _ _ (by omega)) hw e1 (fun m2 C f2 e2 => ?_)
  have g2 : ∀ o k, ¬ (o = 182 ∨ (o = 168 ∧ (k = 8 ∨ k = 23))) → m2 o k = m o k := fun o k ho => by rw [f2 o k (by omega)]; exact g1 o k ho
  have a2 : m2 170 = A := by rw [← hA]; exact funext fun x => g2 _ _ (by omega)
  unfold M_X12_goesAlong_L2B
  rw [prayers_eq, a2]
  refine ⟨fun _ => ?_, fun z => absurd (Int.le_refl _) z⟩
  simp only [am_rf_all, am_ln_all, forall_eq]
  refine ⟨by omega, by omega, ?_⟩
  rw [prayers_eq]
  refine ⟨by omega, ?_⟩
  rw [am_st_ne (o' := 170) _ (by omega), a2]
  have a2' : am_st (am_st m2 180 0 (A 169)) 180 1 (A 168) 170 = A := by rw [st_row_o (by omega), st_row_o (by omega)]; exact a2
  refine mwaiting (by rw [a2']; omega) ?_
  rw [a2']
  refine ⟨by omega, by omega, ?_⟩
  rw [am_st_ne (k' := 49) _ (by omega), am_st_ne (k' := 49) _ (by omega), am_st_ne (k' := 49) _ (by omega), g2 168 49 (by omega), hd]
  generalize hm3 : am_st (am_st (am_st (am_st m2 180 0 (A 169)) 180 1 (A 168)) 180 2 (ab_wait A (A 168).toNat)) 180 3 done = m3
  have f3 : ∀ o k, o ≠ 180 → m3 o k = m2 o k := fun o k ho => by rw [← hm3, am_st_ne _ (by omega), am_st_ne _ (by omega), am_st_ne _ (by omega), am_st_ne _ (by omega)]
  have v0 : m3 180 0 = A 169 := by rw [← hm3, am_st_ne _ (by omega), am_st_ne _ (by omega), am_st_ne _ (by omega), am_st_same]
  have v1 : m3 180 1 = A 168 := by rw [← hm3, am_st_ne _ (by omega), am_st_ne _ (by omega), am_st_same]
  have v2 : m3 180 2 = ab_wait A (A 168).toNat := by rw [← hm3, am_st_ne _ (by omega), am_st_same]
  have v3 : m3 180 3 = done := by rw [← hm3, am_st_same]
  clear hm3
  have a3 : m3 170 = A := by rw [← a2]; exact funext fun x => f3 _ _ (by omega)
  have H3 : ev_H m3 1 2400 N c v (or_env S A done) := by
    refine ⟨fun x x0 x1 => by rw [a3]; exact (t1 x x0 x1).1, t2, fun x x0 x1 => by rw [a3]; exact (t1 x x0 x1).2, ⟨by rw [f3 _ _ (by omega), f2 _ _ (by omega)]; exact q23, by omega, by omega, h400.1, h400.2⟩, t3, Or.inr rfl, by rw [f3 _ _ (by omega), f2 _ _ (by omega)]; exact q8, hE, fun z => absurd z (by decide), fun _ => ⟨fun x x0 x1 => ?_, fun t t0 t1 => ⟨?_, ?_⟩⟩⟩
    · have hx : x = 0 ∨ x = 1 ∨ x = 2 ∨ x = 3 := by omega
      rcases hx with rfl | rfl | rfl | rfl
      · exact v0
      · exact v1
      · exact v2
      · exact v3
    · rw [f3 _ _ (by omega), g2 _ _ (by omega), hSm t t0 t1]
      unfold or_env
      rw [if_neg (by omega), if_neg (by omega), if_neg (by omega), if_neg (by omega), if_pos (by omega), show 8 + t - 8 = t by omega]
    · rw [f3 _ _ (by omega), e2 t t0 t1]
      unfold or_env
      rw [if_neg (by omega), if_neg (by omega), if_neg (by omega), if_neg (by omega), if_neg (by omega), if_pos (by omega), show 16 + t - 16 = t by omega]
  rw [f3 168 50 (by omega), g2 168 50 (by omega), h5]
  have q22 : am_st m3 168 22 (2400 + i) 168 22 = 2400 + i := am_st_same _ _ _ _
  have hcode := fun K => (ocode (m := am_st m3 168 22 (2400 + i)) (ev_H_of H3 (fun o k ho => am_st_ne _ (by omega))) q22 h0 hN K)
  rw [hcode]
  rw [am_st_ne (k' := 22) _ (by omega), q22, w32_of (z := 2400 + i + 1) (by omega) (by omega)]
  generalize hm4 : am_st (am_st (am_st (am_st m3 168 22 (2400 + i)) 168 52 (c i)) 168 22 (2400 + i + 1)) 168 53 1 = m4
  have f4 : ∀ o k, ¬ (o = 168 ∧ (k = 22 ∨ k = 52 ∨ k = 53)) → m4 o k = m3 o k := fun o k ho => by rw [← hm4, am_st_ne _ (by omega), am_st_ne _ (by omega), am_st_ne _ (by omega), am_st_ne _ (by omega)]
  have w52 : m4 168 52 = c i := by rw [← hm4, am_st_ne _ (by omega), am_st_ne _ (by omega), am_st_same]
  have w22 : m4 168 22 = 2400 + (i + 1) := by rw [← hm4, am_st_ne _ (by omega), am_st_same]; omega
  have w53 : m4 168 53 = 1 := by rw [← hm4, am_st_same]
  clear hm4
  have H4 : ev_H m4 1 2400 N c v (or_env S A done) := ev_H_of H3 (fun o k ho => f4 o k (by omega))
  have g4 : ∀ o k, ¬ (o = 182 ∨ o = 180 ∨ (o = 168 ∧ (k = 8 ∨ k = 23 ∨ k = 22 ∨ k = 52 ∨ k = 53))) → m4 o k = m o k := fun o k ho => by rw [f4 o k (by omega), f3 o k (by omega)]; exact g2 o k (by omega)
  have hi : c i ≠ 0 → i < N := fun z => by
    by_cases q : i < N
    · exact q
    · exact absurd (t2 i (by omega)) z
  unfold pz_order at hR
  unfold M_X12_goesAlong_J2
  rw [w52]
  by_cases e1 : c i = 21
  · rw [if_pos e1] at hR
    obtain ⟨r, hr, hR⟩ := pz_bd_inr hR
    have hk4 : R.2.2.1 = 3 ∧ R.2.2.2.2.1 = r.2.2.1 ∧ R.2.2.2.2.2.1 = r.2.2.2.1 ∧ R.2.2.2.2.2.2.1 = r.2.2.2.2 := by
      have hR' := hR
      unfold pz_tail at hR'
      obtain ⟨t, -, hR'⟩ := pz_bd_inr hR'
      obtain ⟨q, -, hR'⟩ := pz_bd_inr hR'
      cases hR'
      exact ⟨rfl, rfl, rfl, rfl⟩
    obtain ⟨k1, k2, k3, k4⟩ := hk4
    rw [k1, k2, k3, k4] at hK
    refine ⟨fun _ => ?_, fun z => absurd (by omega) z⟩
    refine opray (i := i + 1) (l := l) H4 hlv w22 w53 (by omega) (by have := hi (by omega); omega) hl h50 hr hR (fun m5 f5 x51 x22 x54 x53 u0 u1 u2 => ?_)
    refine hK m5 (fun o k ho => by rw [f5 o k (by omega)]; exact g4 o k (by omega)) x51 x22 ?_ x54 (fun z => absurd z (by decide)) (fun _ hl1 => ?_)
    · rw [f5 _ _ (by omega), w52, e1]; decide
    · subst hl1
      have bb : ∀ d : am_Val, (ev_bb 1 0 d (or_env S A done) = 0 ↔ d (or_env S A done) ≠ none) ∧ ev_v 1 0 d (or_env S A done) = (d (or_env S A done)).getD 0 := fun d => by
        unfold ev_bb ev_v
        cases d (or_env S A done) <;> simp
      rw [(bb _).1, (bb _).1, (bb _).1] at x53
      rw [(bb _).2] at u0 u1 u2
      exact ⟨x53, u0, u1, u2⟩
  · rw [if_neg e1] at hR
    by_cases e2 : c i = 24
    · rw [if_pos e2] at hR
      have hk4 : R.2.2.1 = 4 := by
        have hR' := hR
        unfold pz_tail at hR'
        obtain ⟨t, -, hR'⟩ := pz_bd_inr hR'
        obtain ⟨q, -, hR'⟩ := pz_bd_inr hR'
        cases hR'
        rfl
      refine ⟨fun z => absurd e2 z, fun _ => ?_⟩
      unfold M_X12_goesAlong_L3
      refine ⟨fun _ x m5 => x = 0 ∧ m5 = m4, ⟨0, rfl, rfl⟩, ?_⟩
      rintro _ x m5 ⟨rfl, rfl⟩
      refine otail (i := i + 1) (l := l) H4 hlv w22 (by omega) (by have := hi (by omega); omega) hl h50 hR (Int.le_refl _) (fun m5 f5 x51 x22 x54 => ?_)
      refine hK m5 (fun o k ho => by rw [f5 o k (by omega)]; exact g4 o k (by omega)) x51 x22 ?_ x54 (fun _ => by rw [f5 _ _ (by omega), w53]; decide) (fun z => absurd hk4 z)
      rw [f5 _ _ (by omega), w52, e2, hk4]; decide
    · rw [if_neg e2] at hR; cases hR
end OGG
