/-! ORDERS on the other side: going along one of them. -/
theorem ev_H_of {m m' : am_M} {od B N : Int} {c v env : Int → Int} (H : ev_H m od B N c v env) (e : ∀ o k, (o = 170 ∨ o = 180 ∨ o = 181 ∨ o = 182 ∨ (o = 168 ∧ (k = 8 ∨ k = 23))) → m' o k = m o k) : ev_H m' od B N c v env := by
  obtain ⟨h1, h2, h3, ⟨h4, h5⟩, h6, h7, h8, h9, h10, h11⟩ := H
  exact ⟨fun x x0 x1 => by rw [e _ _ (by omega)]; exact h1 x x0 x1, h2, fun x x0 x1 => by rw [e _ _ (by omega)]; exact h3 x x0 x1, ⟨by rw [e _ _ (by omega)]; exact h4, h5⟩, h6, h7, by rw [e _ _ (by omega)]; exact h8, h9, fun q x x0 x1 => by rw [e _ _ (by omega)]; exact h10 q x x0 x1, fun q => ⟨fun x x0 x1 => by rw [e _ _ (by omega)]; exact (h11 q).1 x x0 x1, fun t t0 t1 => ⟨by rw [e _ _ (by omega)]; exact ((h11 q).2 t t0 t1).1, by rw [e _ _ (by omega)]; exact ((h11 q).2 t t0 t1).2⟩⟩⟩
section OGO
variable {m : am_M} {N : Int} {c v env : Int → Int} {live : Int}
theorem oself {i b : Int} (h22 : m 168 22 = 2400 + i) (h24 : m 168 24 = b) : am_ev m (2400 + i) b = m := by
  have := ev_self m
  rw [h22, h24] at this
  exact this
theorem opass (H : ev_H m 1 2400 N c v env) {i y : Int} (h22 : m 168 22 = 2400 + i) (h0 : 0 ≤ i) (hN : i ≤ N) (K : am_KK) : M_X12_passes0 168 y K m ↔ if c i = y then K 1 (am_st m 168 22 (2400 + (i + 1))) else K 0 m := by
  have e := oself h22 (rfl : m 168 24 = m 168 24)
  have h := passes0_ev (b := m 168 24) (y := y) H h0 hN K
  have e2 : am_ev m (2400 + (i + 1)) (m 168 24) = am_st m 168 22 (2400 + (i + 1)) := by
    rw [← ev_sg m (2400 + i) (m 168 24), e]
  rw [e, e2] at h
  exact h
theorem ocode (H : ev_H m 1 2400 N c v env) {i : Int} (h22 : m 168 22 = 2400 + i) (h0 : 0 ≤ i) (hN : i ≤ N) (K : am_KK) : M_X12_codeAt 168 (m 168 22) K m ↔ K (c i) m := by
  have e := oself h22 (rfl : m 168 24 = m 168 24)
  have h := codeAt_ev (g := 2400 + i) (b := m 168 24) H h0 hN K
  rw [e] at h
  rw [h22]
  exact h
theorem osum (H : ev_H m 1 2400 N c v env) (hlv : live = 0 ∨ live = 1) {i l : Int} {r : Int × Int × List Int × am_Val} (h22 : m 168 22 = 2400 + i) (h24 : m 168 24 = 0) (ha : pz_sum 1 c v 8 i l = .inr r) (h0 : 0 ≤ i) (hN : i ≤ N) (hl : 0 ≤ l) (h50 : l ≤ 50) {K : am_KK}
    (hK : ∀ m', (∀ o k, ¬ (o = 168 ∧ (k = 22 ∨ k = 24)) → m' o k = m o k) → m' 168 22 = 2400 + r.1 → m' 168 24 = ev_bb live 0 r.2.2.2 env → K (ev_v live 0 r.2.2.2 env) m') : R_X12_sumOf 301 0 [168, live] K m := by
  have h := ev_sum_ok (lim := 24) H (by decide) 8 301 (by omega) live 0 i l r K ha h0 hN hl h50 hlv (Or.inl rfl) (hK _ (fun o k ho => by rw [ev_eq, if_neg (by omega), if_neg (by omega)]) (ev_g _ _ _) (ev_b _ _ _))
  rw [oself h22 h24] at h
  exact h
theorem otest (H : ev_H m 1 2400 N c v env) (hlv : live = 0 ∨ live = 1) {i l : Int} {r : Int × Int × List Int × am_Val} (h22 : m 168 22 = 2400 + i) (h24 : m 168 24 = 0) (ha : pz_test 1 c v 8 i l = .inr r) (h0 : 0 ≤ i) (hN : i ≤ N) (hl : 0 ≤ l) (h50 : l ≤ 50) {K : am_KK}
    (hK : ∀ x m', (x = 0 ∨ x = 1) → (live = 1 → ∀ a, r.2.2.2 env = some a → x = a) → (∀ o k, ¬ (o = 168 ∧ (k = 22 ∨ k = 24)) → m' o k = m o k) → m' 168 22 = 2400 + r.1 → m' 168 24 = ev_bb live 0 r.2.2.2 env → K x m') : R_X12_testOf 301 0 [168, live] K m := by
  have h := ev_test_ok (lim := 24) H (by decide) 8 301 (by omega) (by omega) live 0 i l r K ha h0 hN hl h50 hlv (Or.inl rfl) (fun x hx hxa => hK x _ hx (fun q => hxa q rfl) (fun o k ho => by rw [ev_eq, if_neg (by omega), if_neg (by omega)]) (ev_g _ _ _) (ev_b _ _ _))
  rw [oself h22 h24] at h
  exact h
theorem ofin {i s1 : Int} (h22 : m 168 22 = 2400 + i) (hi : 0 ≤ i ∧ i ≤ 400) {K : am_KK} (hK : ∀ m', (∀ o k, ¬ (o = 168 ∧ (k = 22 ∨ k = 54)) → m' o k = m o k) → m' 168 22 = 2400 + (i + 1) → (m' 168 54 ≠ 0 ↔ s1 ≠ 0 ∧ m 168 24 = 0) → K 0 m') : M_X12_goesAlong_J8 168 168 s1 K m := by
  have fin : ∀ s : Int, (s ≠ 0 ↔ s1 ≠ 0 ∧ m 168 24 = 0) → M_X12_goesAlong_J10 168 168 s K (am_st m 168 54 s1) := by
    intro s hs
    unfold M_X12_goesAlong_J10
    simp only [forall_eq]
    rw [am_st_ne (k' := 22) _ (by omega), am_st_ne (k' := 22) _ (by omega), h22, w32_of (by omega) (by omega)]
    refine hK _ (fun o k ho => by rw [am_st_ne _ (by omega), am_st_ne _ (by omega), am_st_ne _ (by omega)]) (by rw [am_st_same]; omega) ?_
    rw [am_st_ne _ (by omega), am_st_same]
    exact hs
  unfold M_X12_goesAlong_J8 M_X12_goesAlong_J9
  simp only [forall_eq]
  rw [am_st_same, am_st_ne (k' := 24) _ (by omega)]
  refine ⟨fun z => fin 0 (by omega), fun z => ⟨fun z2 => fin 0 (by omega), fun z2 => fin 1 (by omega)⟩⟩
theorem oJ6 (H : ev_H m 1 2400 N c v env) (hlv : live = 0 ∨ live = 1) {i l : Int} {q : Int × Int × pz_S} (h22 : m 168 22 = 2400 + i) (h0 : 0 ≤ i) (hN : i ≤ N) (hl : 0 ≤ l) (h50 : l ≤ 50) (h2 : pz_if 1 c v i l = .inr q) {K : am_KK}
    (hK : ∀ m', (∀ o k, ¬ (o = 168 ∧ (k = 22 ∨ k = 24 ∨ k = 54)) → m' o k = m o k) → m' 168 22 = 2400 + (q.1 + 1) → (live = 1 → (m' 168 54 ≠ 0 ↔ q.2.2.2 env = some 1)) → K 0 m') : M_X12_goesAlong_J6 168 live K m := by
  have hB := ev_H_b H
  have hN0 := ev_H_N H
  have hv : ∀ i, 0 ≤ v i := H.2.2.2.2.1
  have hto := pz_test_ok (lim := 24) (od := 1) (c := c) (v := v) hN0 hB.2.2.2 hv (Or.inr rfl) (by decide) 8
  unfold M_X12_goesAlong_J6
  simp only [forall_eq]
  rw [opass (m := am_st m 168 24 0) (ev_H_of H (fun o k ho => am_st_ne _ (by omega))) (i := i) (by rw [am_st_ne _ (by omega)]; exact h22) h0 hN]
  unfold pz_if at h2
  by_cases e : c i = 4
  · rw [if_pos e] at h2
    rw [if_pos e]
    have hne : i ≠ N := fun q => by rw [q, hN0] at e; cases e
    obtain ⟨a, ha, h2⟩ := pz_bd_inr h2
    cases h2
    have hp := (hto (i + 1) l (by omega) (by omega) hl h50).2 a ha
    have p1 := hp.1
    refine ⟨fun z => absurd z (by decide), fun _ => ?_⟩
    refine otest (i := i + 1) (l := l) (r := a) (ev_H_of H (fun o k ho => by rw [am_st_ne _ (by omega), am_st_ne _ (by omega)])) hlv (am_st_same _ _ _ _) (by rw [am_st_ne _ (by omega), am_st_same]) ha (by omega) (by omega) hl h50 (fun x m1 hx hxa f1 g22 g24 => ?_)
    have key : live = 1 → ((x ≠ 0 ∧ ev_bb live 0 a.2.2.2 env = 0) ↔ a.2.2.2 env = some 1) := by
      intro h1
      subst h1
      have hxa := hxa rfl
      unfold ev_bb
      cases hd : a.2.2.2 env with
      | none => simp
      | some w =>
        have h1 := hxa w hd
        have h2 := hp.2.2.2.1 env w hd
        subst h1
        rcases h2 with rfl | rfl <;> simp
    have fin : M_X12_goesAlong_J8 168 168 x K m1 := by
      refine ofin (i := a.1) g22 (by omega) (fun m2 f2 q22 q54 => hK m2 (fun o k ho => by rw [f2 o k (by omega), f1 o k (by omega), am_st_ne _ (by omega), am_st_ne _ (by omega)]) q22 (fun h1 => ?_))
      rw [g24] at q54
      exact q54.trans (key h1)
    refine ⟨fun z => ?_, fun z => ?_⟩
    · rw [z] at fin; exact fin
    · unfold M_X12_goesAlong_J7
      rw [show x = 1 by omega] at fin
      exact fin
  · rw [if_neg e] at h2
    rw [if_neg e]
    cases h2
    refine ⟨fun _ => ?_, fun z => absurd rfl z⟩
    unfold M_X12_goesAlong_J7
    refine ofin (i := i) (by rw [am_st_ne _ (by omega)]; exact h22) (by omega) (fun m2 f2 q22 q54 => hK m2 (fun o k ho => by rw [f2 o k (by omega), am_st_ne _ (by omega)]) q22 (fun h1 => ?_))
    rw [am_st_same] at q54
    refine q54.trans ⟨fun _ => rfl, fun _ => by omega⟩
theorem otail (H : ev_H m 1 2400 N c v env) (hlv : live = 0 ∨ live = 1) {i l kind v3 v4 : Int} {s0 s1 s2 : pz_S} {r : Int × Int × pz_C} (h22 : m 168 22 = 2400 + i) (h0 : 0 ≤ i) (hN : i ≤ N) (hl : 0 ≤ l) (h50 : l ≤ 50) (ht : pz_tail 1 c v kind s0 s1 s2 i l = .inr r) {C : Int → am_M → Prop} {K : am_KK} (hge : v3 ≤ v4)
    (hK : ∀ m', (∀ o k, ¬ (o = 168 ∧ (k = 22 ∨ k = 24 ∨ k = 51 ∨ k = 54)) → m' o k = m o k) → m' 168 51 = r.2.2.2.1 → m' 168 22 = 2400 + (r.1 + 1) → (live = 1 → (m' 168 54 ≠ 0 ↔ r.2.2.2.2.2.2.2.2 env = some 1)) → K 0 m') : M_X12_goesAlong_L3B 168 live v3 v4 C K m := by
  have hB := ev_H_b H
  have hN0 : ∀ x, N ≤ x → c x = 0 := H.2.1
  have hvv : ∀ x, 0 ≤ x → x < N → m 170 (3177 + (2400 + x)) = v x := H.2.2.1
  unfold pz_tail at ht
  rw [if_neg (by decide)] at ht
  obtain ⟨t, h1, ht⟩ := pz_bd_inr ht
  obtain ⟨q, h2, ht⟩ := pz_bd_inr ht
  cases ht
  simp only [] at hK
  unfold M_X12_goesAlong_L3B
  refine ⟨fun _ => ?_, fun z => absurd hge z⟩
  simp only [am_rf_all, am_ln_all, forall_eq]
  rw [opass (m := am_st m 168 51 1) (ev_H_of H (fun o k ho => am_st_ne _ (by omega))) (i := i) (by rw [am_st_ne _ (by omega)]; exact h22) h0 hN]
  unfold pz_times at h1
  by_cases e : c i = 25
  · rw [if_pos e] at h1
    rw [if_pos e]
    by_cases e2 : c (i + 1) = 50 ∧ 1 ≤ v (i + 1) ∧ v (i + 1) ≤ 20
    · rw [if_pos e2] at h1
      cases h1
      have hN1 : i + 1 < N := by
        by_cases q : i + 1 < N
        · exact q
        · have := hN0 (i + 1) (by omega); omega
      refine ⟨fun z => absurd z (by decide), fun _ => ?_⟩
      rw [am_st_same, w32_of (z := 3177 + (2400 + (i + 1))) (by omega) (by omega)]
      refine ⟨by omega, ?_⟩
      rw [am_st_ne (k' := 22) _ (by omega), am_st_same, w32_of (z := 2400 + (i + 1) + 1) (by omega) (by omega), am_st_ne (o' := 170) _ (by omega), am_st_ne (o' := 170) _ (by omega), hvv (i + 1) (by omega) hN1]
      refine oJ6 (i := i + 2) (l := l) (q := q) (ev_H_of H (fun o k ho => by rw [am_st_ne _ (by omega), am_st_ne _ (by omega), am_st_ne _ (by omega), am_st_ne _ (by omega)])) hlv (by rw [am_st_same]; omega) (by omega) (by omega) hl h50 h2 (fun m1 f1 g22 g54 => ?_)
      refine hK m1 (fun o k ho => by rw [f1 o k (by omega), am_st_ne _ (by omega), am_st_ne _ (by omega), am_st_ne _ (by omega), am_st_ne _ (by omega)]) ?_ g22 g54
      rw [f1 _ _ (by omega), am_st_ne _ (by omega), am_st_same]
    · rw [if_neg e2] at h1; cases h1
  · rw [if_neg e] at h1
    rw [if_neg e]
    cases h1
    refine ⟨fun _ => ?_, fun z => absurd rfl z⟩
    refine oJ6 (i := i) (l := l) (q := q) (ev_H_of H (fun o k ho => am_st_ne _ (by omega))) hlv (by rw [am_st_ne _ (by omega)]; exact h22) h0 hN hl h50 h2 (fun m1 f1 g22 g54 => ?_)
    exact hK m1 (fun o k ho => by rw [f1 o k (by omega), am_st_ne _ (by omega)]) (by rw [f1 _ _ (by omega), am_st_same]) g22 g54
theorem ostep (H : ev_H m 1 2400 N c v env) (hlv : live = 0 ∨ live = 1) {k i l v3 : Int} {r : Int × Int × List Int × am_Val} (hk : 0 ≤ k ∧ k < 3) (h22 : m 168 22 = 2400 + i) (ha : pz_sum 1 c v 8 i l = .inr r) (h0 : 0 ≤ i) (hN : i ≤ N) (hl : 0 ≤ l) (h50 : l ≤ 50) {C : Int → am_M → Prop} {K : am_KK}
    (hC : ∀ m', (∀ o x, ¬ ((o = 168 ∧ (x = 22 ∨ x = 24 ∨ x = 53)) ∨ (o = 197 ∧ x = k)) → m' o x = m o x) → m' 168 22 = 2400 + r.1 → (m' 168 53 ≠ 0 ↔ m 168 53 ≠ 0 ∧ ev_bb live 0 r.2.2.2 env = 0) → m' 197 k = ev_v live 0 r.2.2.2 env → C (k + 1) m') : M_X12_goesAlong_J3 168 live v3 k C K m := by
  unfold M_X12_goesAlong_J3 M_X12_goesAlong_J4
  simp only [am_rf_all, am_ln_all, forall_eq]
  refine osum (m := am_st m 168 24 0) (i := i) (l := l) (r := r) (ev_H_of H (fun o k ho => am_st_ne _ (by omega))) hlv (by rw [am_st_ne _ (by omega)]; exact h22) (am_st_same _ _ _ _) ha h0 hN hl h50 (fun m1 f1 g22 g24 => ?_)
  refine ⟨by omega, ?_⟩
  have fin : ∀ s : Int, (s ≠ 0 ↔ m 168 53 ≠ 0 ∧ ev_bb live 0 r.2.2.2 env = 0) → M_X12_goesAlong_J5 168 live v3 k 168 s C K (am_st m1 197 k (ev_v live 0 r.2.2.2 env)) := by
    intro s hs
    unfold M_X12_goesAlong_J5
    simp only [forall_eq]
    rw [w32_of (z := k + 1) (by omega) (by omega)]
    refine hC _ (fun o x ho => by rw [am_st_ne _ (by omega), am_st_ne _ (by omega), f1 o x (by omega), am_st_ne _ (by omega)]) (by rw [am_st_ne _ (by omega), am_st_ne _ (by omega)]; exact g22) ?_ (by rw [am_st_ne _ (by omega), am_st_same])
    rw [am_st_same]
    exact hs
  rw [am_st_ne (o' := 168) (k' := 53) _ (by omega), am_st_ne (o' := 168) (k' := 24) _ (by omega), g24, f1 168 53 (by omega), am_st_ne (o' := 168) (k' := 53) _ (by omega)]
  refine ⟨fun z => fin 0 (by omega), fun z => ⟨fun z2 => fin 0 (by omega), fun z2 => fin 1 (by omega)⟩⟩
theorem opray (H : ev_H m 1 2400 N c v env) (hlv : live = 0 ∨ live = 1) {i l : Int} {r : Int × Int × pz_S × pz_S × pz_S} {R : Int × Int × pz_C} (h22 : m 168 22 = 2400 + i) (h53 : m 168 53 = 1) (h0 : 0 ≤ i) (hN : i ≤ N) (hl : 0 ≤ l) (h50 : l ≤ 50) (hr : pz_pray c v i l = .inr r) (hR : pz_tail 1 c v 3 r.2.2.1 r.2.2.2.1 r.2.2.2.2 r.1 r.2.1 = .inr R) {K : am_KK}
    (hK : ∀ m', (∀ o k, ¬ ((o = 168 ∧ (k = 22 ∨ k = 24 ∨ k = 51 ∨ k = 53 ∨ k = 54)) ∨ o = 197) → m' o k = m o k) → m' 168 51 = R.2.2.2.1 → m' 168 22 = 2400 + (R.1 + 1) → (live = 1 → (m' 168 54 ≠ 0 ↔ R.2.2.2.2.2.2.2.2 env = some 1)) → (m' 168 53 ≠ 0 ↔ (ev_bb live 0 r.2.2.1.2 env = 0 ∧ ev_bb live 0 r.2.2.2.1.2 env = 0 ∧ ev_bb live 0 r.2.2.2.2.2 env = 0)) → m' 197 0 = ev_v live 0 r.2.2.1.2 env → m' 197 1 = ev_v live 0 r.2.2.2.1.2 env → m' 197 2 = ev_v live 0 r.2.2.2.2.2 env → K 0 m') : M_X12_goesAlong_L3 168 live 3 0 K m := by
  have hB := ev_H_b H
  have hN0 : ∀ x, N ≤ x → c x = 0 := H.2.1
  have hv : ∀ i, 0 ≤ v i := H.2.2.2.2.1
  have hso := pz_sum_ok (lim := 24) (od := 1) (c := c) (v := v) (ev_H_N H) hv (Or.inr rfl) (by decide) 8
  unfold pz_pray at hr
  obtain ⟨a, ha, hr⟩ := pz_bd_inr hr
  have p1 := ((hso i l h0 hN hl h50).2 a ha).1
  by_cases e1 : c a.1 = 22
  · rw [if_pos e1] at hr
    have n1 : a.1 < N := by
      by_cases q : a.1 < N
      · exact q
      · have := hN0 a.1 (by omega); omega
    obtain ⟨b, hb, hr⟩ := pz_bd_inr hr
    have p2 := ((hso (a.1 + 1) a.2.1 (by omega) (by omega) (by omega) (by omega)).2 b hb).1
    by_cases e2 : c b.1 = 23
    · rw [if_pos e2] at hr
      have n2 : b.1 < N := by
        by_cases q : b.1 < N
        · exact q
        · have := hN0 b.1 (by omega); omega
      obtain ⟨d, hd, hr⟩ := pz_bd_inr hr
      have p3 := ((hso (b.1 + 1) b.2.1 (by omega) (by omega) (by omega) (by omega)).2 d hd).1
      cases hr
      simp only [] at hR hK
      unfold M_X12_goesAlong_L3
      refine ⟨fun j x m1 => (∀ o k, ¬ ((o = 168 ∧ (k = 22 ∨ k = 24 ∨ k = 53)) ∨ o = 197) → m1 o k = m o k) ∧ ((x = 0 ∧ j = 3 ∧ m1 = m) ∨ (x = 1 ∧ j = 2 ∧ m1 168 22 = 2400 + a.1 ∧ (m1 168 53 ≠ 0 ↔ ev_bb live 0 a.2.2.2 env = 0) ∧ m1 197 0 = ev_v live 0 a.2.2.2 env) ∨ (x = 2 ∧ j = 1 ∧ m1 168 22 = 2400 + b.1 ∧ (m1 168 53 ≠ 0 ↔ ev_bb live 0 a.2.2.2 env = 0 ∧ ev_bb live 0 b.2.2.2 env = 0) ∧ m1 197 0 = ev_v live 0 a.2.2.2 env ∧ m1 197 1 = ev_v live 0 b.2.2.2 env) ∨ (x = 3 ∧ j = 0 ∧ m1 168 22 = 2400 + d.1 ∧ (m1 168 53 ≠ 0 ↔ ev_bb live 0 a.2.2.2 env = 0 ∧ ev_bb live 0 b.2.2.2 env = 0 ∧ ev_bb live 0 d.2.2.2 env = 0) ∧ m1 197 0 = ev_v live 0 a.2.2.2 env ∧ m1 197 1 = ev_v live 0 b.2.2.2 env ∧ m1 197 2 = ev_v live 0 d.2.2.2 env)), ⟨3, fun _ _ _ => rfl, Or.inl ⟨rfl, rfl, rfl⟩⟩, ?_⟩
      rintro j x m1 ⟨f1, hh⟩
      rcases hh with ⟨rfl, rfl, rfl⟩ | ⟨rfl, rfl, g22, g53, u0⟩ | ⟨rfl, rfl, g22, g53, u0, u1⟩ | ⟨rfl, rfl, g22, g53, u0, u1, u2⟩
      · unfold M_X12_goesAlong_L3B
        refine ⟨fun z => absurd z (by decide), fun _ => ⟨fun _ => ?_, fun z => absurd (by decide) z⟩⟩
        refine ostep (k := 0) (i := i) (l := l) (r := a) H hlv (by omega) h22 ha h0 hN hl h50 (fun m2 f2 q22 q53 w0 => ?_)
        refine ⟨2, by omega, fun o k ho => f2 o k (by omega), Or.inr (Or.inl ⟨rfl, rfl, q22, ?_, w0⟩)⟩
        rw [h53] at q53
        exact q53.trans ⟨fun z => z.2, fun z => ⟨by decide, z⟩⟩
      · unfold M_X12_goesAlong_L3B
        refine ⟨fun z => absurd z (by decide), fun _ => ⟨fun z => absurd z (by decide), fun _ => ?_⟩⟩
        simp only [forall_eq]
        rw [g22, w32_of (z := 2400 + a.1 + 1) (by omega) (by omega)]
        refine ostep (k := 1) (i := a.1 + 1) (l := a.2.1) (r := b) (ev_H_of H (fun o k ho => by rw [am_st_ne _ (by omega)]; exact f1 o k (by omega))) hlv (by omega) (by rw [am_st_same]; omega) hb (by omega) (by omega) (by omega) (by omega) (fun m2 f2 q22 q53 w0 => ?_)
        refine ⟨1, by omega, fun o k ho => by rw [f2 o k (by omega), am_st_ne _ (by omega)]; exact f1 o k ho, Or.inr (Or.inr (Or.inl ⟨rfl, rfl, q22, ?_, by rw [f2 _ _ (by omega), am_st_ne _ (by omega)]; exact u0, w0⟩))⟩
        rw [am_st_ne _ (by omega)] at q53
        rw [q53, g53]
      · unfold M_X12_goesAlong_L3B
        refine ⟨fun z => absurd z (by decide), fun _ => ⟨fun z => absurd z (by decide), fun _ => ?_⟩⟩
        simp only [forall_eq]
        rw [g22, w32_of (z := 2400 + b.1 + 1) (by omega) (by omega)]
        refine ostep (k := 2) (i := b.1 + 1) (l := b.2.1) (r := d) (ev_H_of H (fun o k ho => by rw [am_st_ne _ (by omega)]; exact f1 o k (by omega))) hlv (by omega) (by rw [am_st_same]; omega) hd (by omega) (by omega) (by omega) (by omega) (fun m2 f2 q22 q53 w0 => ?_)
        refine ⟨0, by omega, fun o k ho => by rw [f2 o k (by omega), am_st_ne _ (by omega)]; exact f1 o k ho, Or.inr (Or.inr (Or.inr ⟨rfl, rfl, q22, ?_, by rw [f2 _ _ (by omega), am_st_ne _ (by omega)]; exact u0, by rw [f2 _ _ (by omega), am_st_ne _ (by omega)]; exact u1, w0⟩))⟩
        rw [am_st_ne _ (by omega)] at q53
        rw [q53, g53, and_assoc]
      · refine otail (i := d.1) (l := d.2.1) (r := R) (ev_H_of H (fun o k ho => f1 o k (by omega))) hlv g22 (by omega) (by omega) (by omega) (by omega) hR (by omega) (fun m2 f2 q51 q22 q54 => ?_)
        exact hK m2 (fun o k ho => by rw [f2 o k (by omega)]; exact f1 o k (by omega)) q51 q22 q54 (by rw [f2 _ _ (by omega)]; exact g53) (by rw [f2 _ _ (by omega)]; exact u0) (by rw [f2 _ _ (by omega)]; exact u1) (by rw [f2 _ _ (by omega)]; exact u2)
    · rw [if_neg e2] at hr; cases hr
  · rw [if_neg e1] at hr; cases hr
end OGO
