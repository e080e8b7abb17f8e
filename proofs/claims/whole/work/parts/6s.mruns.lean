/-! ORDERS on the other side: a deed noted, an order done so often. -/
def sml (z : Int) : Int := if 0 ≤ z ∧ z ≤ 1000000 then z else -1
theorem osmall_eq {z : Int} (hz : R32 z) (K : am_KK) (m : am_M) : M_X12_small z K m ↔ K (sml z) m := by
  have c0 : (am_cmp z 0 < 0) ↔ z < 0 := by unfold am_cmp; repeat' split <;> omega
  unfold M_X12_small sml
  rw [cmp_4, c0, am_l2i_id hz]
  by_cases h1 : z < 0
  · rw [if_neg (by omega)]
    exact ⟨fun h => h.1 h1, fun h => ⟨fun _ => h, fun q => absurd h1 q⟩⟩
  · by_cases h2 : z ≤ 1000000
    · rw [if_pos (by omega)]
      exact ⟨fun h => (h.2 h1).1 h2, fun h => ⟨fun q => absurd q h1, fun _ => ⟨fun _ => h, fun q => absurd h2 q⟩⟩⟩
    · rw [if_neg (by omega)]
      exact ⟨fun h => (h.2 h1).2 h2, fun h => ⟨fun q => absurd q h1, fun _ => ⟨fun q => absurd q h2, fun _ => h⟩⟩⟩
theorem why_sml {A : Int → Int} {a t l w d : Int} (h6 : A 365 ≤ 6) : ab_why A (sml a) (sml t) (sml l) w d = ab_why A a t l w d := by
  have e1 : (0 ≤ sml t ∧ sml t ≤ 7) ↔ (0 ≤ t ∧ t ≤ 7) := by unfold sml; split <;> omega
  have e2 : (1 ≤ sml l ∧ sml l ≤ 99) ↔ (1 ≤ l ∧ l ≤ 99) := by unfold sml; split <;> omega
  have e3 : (0 ≤ sml a ∧ sml a < A 365) ↔ (0 ≤ a ∧ a < A 365) := by unfold sml; split <;> omega
  unfold ab_why
  simp only [e1, e2, e3]
  by_cases c1 : (0 ≤ t ∧ t ≤ 7) ∧ (1 ≤ l ∧ l ≤ 99) ∧ 1 ≤ w ∧ w ≤ 6
  · by_cases c2 : 0 ≤ a ∧ a < A 365
    · rw [show sml l = l from by unfold sml; rw [if_pos (by omega)], show sml a = a from by unfold sml; rw [if_pos (by omega)]]
    · rw [if_neg (by omega), if_pos c2, if_neg (by omega), if_pos c2]
  · rw [if_pos c1, if_pos c1]
section ORM
variable {m : am_M} {A0 S : Int → Int} {g : am_M}
def om_R (m g : am_M) : Prop := m 170 = g 170 ∧ m 168 38 = g 168 38 ∧ ∀ y, 0 ≤ y → y < 171 * g 168 38 → m 189 y = g 189 y
theorem om_of {m' : am_M} (R : om_R m g) (e : ∀ o k, (o = 170 ∨ o = 189 ∨ (o = 168 ∧ k = 38)) → m' o k = m o k) : om_R m' g := ⟨by rw [← R.1]; exact funext fun x => e _ _ (by omega), by rw [e _ _ (by omega)]; exact R.2.1, fun y y0 y1 => by rw [e _ _ (by omega)]; exact R.2.2 y y0 y1⟩
theorem om_gp {m' : am_M} {d w : Int} {V : Int → Int} (R : om_R m g) (hu : 0 ≤ g 168 38 ∧ g 168 38 ≤ 16) (e : m' 170 = V) (k1 : g 168 38 < 16 → m' 168 38 = g 168 38 + 1 ∧ (∀ x, 0 ≤ x → x < 170 → m' 189 (171 * g 168 38 + x) = m 170 x) ∧ m' 189 (171 * g 168 38 + 170) = w ∧ ∀ y, 0 ≤ y → y < 171 * g 168 38 → m' 189 y = m 189 y) (k2 : g 168 38 = 16 → m' 168 38 = 16 ∧ (∀ x, 0 ≤ x → x < 170 → m' 189 (171 * 15 + x) = m 170 x) ∧ m' 189 (171 * 15 + 170) = w ∧ ∀ y, 0 ≤ y → y < 171 * 15 → m' 189 y = m 189 (y + 171)) : om_R m' (gp_ g d w V) := by
  obtain ⟨n1, n2⟩ := gp_n (g := g) (d := d) (w := w) (V := V)
  obtain ⟨r1, r2, r3⟩ := R
  refine ⟨by rw [gp_170]; exact e, ?_, fun y y0 y1 => ?_⟩
  · rw [n2]
    by_cases c : g 168 38 < 16
    · rw [if_pos c]; exact (k1 c).1
    · rw [if_neg c]; exact (k2 (by omega)).1
  · rw [n2] at y1
    rw [gp_189]
    by_cases c : g 168 38 < 16
    · rw [if_pos c] at y1 ⊢
      obtain ⟨a1, a2, a3, a4⟩ := k1 c
      by_cases cy : y < 171 * g 168 38
      · rw [if_neg (by omega), if_neg (by omega), if_pos c, a4 y y0 cy]
        exact r3 y y0 cy
      · by_cases cz : y = 171 * g 168 38 + 170
        · rw [if_neg (by omega), if_pos cz, cz]; exact a3
        · rw [if_pos (by omega), ← r1, ← a2 (y - 171 * g 168 38) (by omega) (by omega)]
          congr 1; omega
    · rw [if_neg c] at y1 ⊢
      obtain ⟨a1, a2, a3, a4⟩ := k2 (by omega)
      by_cases cy : y < 2565
      · rw [if_neg (by omega), if_neg (by omega), if_neg c, a4 y y0 (by omega)]
        exact r3 (y + 171) (by omega) (by omega)
      · by_cases cz : y = 2565 + 170
        · rw [if_neg (by omega), if_pos cz, cz, show (2565 : Int) + 170 = 171 * 15 + 170 by omega]; exact a3
        · rw [if_pos (by omega), ← r1, ← a2 (y - 2565) (by omega) (by omega)]
          congr 1; omega
/-- what an order's run leaves alone -/
def fr_r (m m' : am_M) : Prop := ∀ o k, ¬ ((o = 168 ∧ (k = 8 ∨ k = 22 ∨ k = 23 ∨ k = 24 ∨ k = 34 ∨ k = 35 ∨ k = 38 ∨ k = 49 ∨ k = 50 ∨ k = 51 ∨ k = 52 ∨ k = 53 ∨ k = 54)) ∨ o = 170 ∨ o = 180 ∨ o = 182 ∨ o = 187 ∨ o = 188 ∨ o = 189 ∨ o = 197) → m' o k = m o k
theorem fr_r_t {a b c : am_M} (h : fr_r a b) (k : fr_r b c) : fr_r a c := fun o x q => by rw [k o x q, h o x q]
theorem mprayed {done a t l : Int} {x : pz_C} (G : or_G A0 g) (R : om_R m g) (hT : x.2.2.2.2.2.2 (or_env S (g 170) done) = some 1) (h4 : x.1 ≠ 4) (ea : x.2.2.1.2 (or_env S (g 170) done) = some a) (et : x.2.2.2.1.2 (or_env S (g 170) done) = some t) (el : x.2.2.2.2.1.2 (or_env S (g 170) done) = some l) {K : am_KK}
    (k1 : (or_1 S x g done).1 = 1 → ∀ m' r, (∀ o k, ¬ ((o = 168 ∧ (k = 8 ∨ k = 22 ∨ k = 23 ∨ k = 24 ∨ k = 38)) ∨ o = 170 ∨ o = 180 ∨ o = 189) → m' o k = m o k) → om_R m' (or_1 S x g done).2 → 0 ≤ r → K r m') (k2 : (or_1 S x g done).1 ≠ 1 → (or_1 S x g done).1 ≠ 0 → ∀ m' r, (∀ o k, ¬ ((o = 168 ∧ (k = 8 ∨ k = 22 ∨ k = 23 ∨ k = 24 ∨ k = 38)) ∨ o = 170 ∨ o = 180 ∨ o = 189) → m' o k = m o k) → om_R m' g → r < 0 → (r = -5 ↔ (or_1 S x g done).1 = -5) → K r m') : M_X12_praysKept 168 (sml a) (sml t) (sml l) 1 K m := by
  obtain ⟨hud, hw, hH, hA⟩ := id G
  have h16 := hw.2.1.1
  have l6 := hw.1.2.1
  have hu := hud.2.2.1
  have h365 : g 170 365 ≤ 6 := by have := hw.1; unfold am_WA at this; omega
  unfold or_1 at k1 k2
  rw [if_neg (by rw [hT]; exact fun z => z rfl), if_neg h4, ea, et, el] at k1 k2
  simp only [] at k1 k2
  unfold M_X12_praysKept
  refine mwhy (by rw [R.1]; exact wf_mono hw (by omega)) (fun m1 f1 => ?_)
  have e170 : m1 170 = g 170 := by rw [← R.1]; exact funext fun y => f1 _ _ (by omega)
  rw [R.1, why_sml h365]
  have hc := why_cases (g 170) a t l 1 (g 170 169)
  by_cases c0 : ab_why (g 170) a t l 1 (g 170 169) = 0
  · rw [if_pos c0] at k1
    obtain ⟨y1, y2, y3, y4⟩ := why_0 c0
    rw [show sml a = a from by unfold sml; rw [if_pos (by omega)], show sml t = t from by unfold sml; rw [if_pos (by omega)], show sml l = l from by unfold sml; rw [if_pos (by omega)]]
    refine ⟨fun _ => ?_, fun z => absurd (by omega) z⟩
    have u1 : m1 168 38 = g 168 38 := by rw [f1 _ _ (by omega)]; exact R.2.1
    refine mkeeps (by rw [u1]; exact hu) (fun m2 f2 a1 a2 => ?_)
    rw [u1] at a1 a2
    have e2 : m2 170 = g 170 := by rw [← e170]; exact funext fun y => f2 _ _ (by omega)
    rw [msays (by rw [e2]; omega), e2, prayers_eq, row_eq]
    obtain ⟨s0, -⟩ := ab_say_n (A := g 170) (a := a) (t := t) (l := l) (w := 1) (by omega)
    rw [s0, w32_of (by omega) (by omega)]
    refine k1 rfl _ _ (fun o k ho => by rw [row_ne _ _ _ (by omega), f2 o k (by omega)]; exact f1 o k (by omega)) ?_ (by omega)
    refine om_gp (m := m1) (om_of R (fun o k ho => f1 o k (by omega))) hu (funext fun y => row_eq _ _ _ _) (fun c => ?_) (fun c => ?_)
    · obtain ⟨b1, b2, b3, b4⟩ := a1 c
      exact ⟨by rw [row_ne _ _ _ (by omega)]; exact b1, fun x x0 x1 => by rw [row_ne _ _ _ (by omega)]; exact b2 x x0 x1, by rw [row_ne _ _ _ (by omega)]; exact b3, fun y y0 y1 => by rw [row_ne _ _ _ (by omega)]; exact b4 y y0 y1⟩
    · obtain ⟨b1, b2, b3, b4⟩ := a2 c
      exact ⟨by rw [row_ne _ _ _ (by omega)]; exact b1, fun x x0 x1 => by rw [row_ne _ _ _ (by omega)]; exact b2 x x0 x1, by rw [row_ne _ _ _ (by omega)]; exact b3, fun y y0 y1 => by rw [row_ne _ _ _ (by omega)]; exact b4 y y0 y1⟩
  · rw [if_neg c0] at k2
    refine ⟨fun z => by omega, fun _ => ?_⟩
    by_cases c5 : ab_why (g 170) a t l 1 (g 170 169) = -5
    · rw [if_pos c5] at k2
      exact k2 (by simp) (by simp) m1 _ (fun o k ho => f1 o k (by omega)) (om_of R (fun o k ho => f1 o k (by omega))) (by omega) ⟨fun _ => rfl, fun _ => c5⟩
    · rw [if_neg c5] at k2
      exact k2 (by simp) (by simp) m1 _ (fun o k ho => f1 o k (by omega)) (om_of R (fun o k ho => f1 o k (by omega))) (by omega) ⟨fun z => absurd z c5, fun z => absurd z (by simp)⟩
theorem mdawned {done : Int} {x : pz_C} (G : or_G A0 g) (R : om_R m g) (hT : x.2.2.2.2.2.2 (or_env S (g 170) done) = some 1) (h4 : x.1 = 4) {K : am_KK}
    (k1 : (or_1 S x g done).1 = 1 → ∀ m' r, fr_r m m' → m' 168 49 = m 168 49 → m' 168 50 = m 168 50 → om_R m' (or_1 S x g done).2 → 0 ≤ r → K r m') (k2 : (or_1 S x g done).1 ≠ 1 → (or_1 S x g done).1 ≠ 0 → ∀ m' r, fr_r m m' → om_R m' g → r < 0 → (r = -5 ↔ (or_1 S x g done).1 = -5) → K r m') : M_X12_dawnsKept 168 K m := by
  obtain ⟨hud, hw, hH, hA⟩ := id G
  have h16 := hw.2.1.1
  have h9 := hw.2.1.2.1
  have hu := hud.2.2.1
  unfold or_1 at k1 k2
  rw [if_neg (by rw [hT]; exact fun z => z rfl), if_pos h4] at k1 k2
  unfold M_X12_dawnsKept
  simp only [am_rf_all, am_ln_all]
  rw [show m 170 169 = g 170 169 by rw [R.1]]
  refine ⟨by omega, fun c => ?_, fun c => ?_⟩
  · rw [if_pos (by omega)] at k1
    have u1 : m 168 38 = g 168 38 := R.2.1
    refine mkeeps (by rw [u1]; exact hu) (fun m2 f2 a1 a2 => ?_)
    rw [u1] at a1 a2
    have e2 : m2 170 = g 170 := by rw [← R.1]; exact funext fun y => f2 _ _ (by omega)
    refine mdawns (by rw [e2]; exact wf_mono hw (by omega)) (by rw [e2]; omega) (fun m3 f3 e3 _ => ?_)
    rw [e2] at e3 ⊢
    refine k1 rfl m3 _ (fun o k ho => by rw [f3 o k (by omega), f2 o k (by omega)]) (by rw [f3 _ _ (by omega), f2 _ _ (by omega)]) (by rw [f3 _ _ (by omega), f2 _ _ (by omega)]) ?_ (ab_dawn_0 _)
    refine om_gp (m := m) R hu e3 (fun c => ?_) (fun c => ?_)
    · obtain ⟨b1, b2, b3, b4⟩ := a1 c
      exact ⟨by rw [f3 _ _ (by omega)]; exact b1, fun x x0 x1 => by rw [f3 _ _ (by omega)]; exact b2 x x0 x1, by rw [f3 _ _ (by omega)]; exact b3, fun y y0 y1 => by rw [f3 _ _ (by omega)]; exact b4 y y0 y1⟩
    · obtain ⟨b1, b2, b3, b4⟩ := a2 c
      exact ⟨by rw [f3 _ _ (by omega)]; exact b1, fun x x0 x1 => by rw [f3 _ _ (by omega)]; exact b2 x x0 x1, by rw [f3 _ _ (by omega)]; exact b3, fun y y0 y1 => by rw [f3 _ _ (by omega)]; exact b4 y y0 y1⟩
  · rw [if_neg (by omega)] at k2
    exact k2 (by simp) (by simp) m _ (fun _ _ _ => rfl) R (by omega) ⟨fun z => absurd z (by decide), fun z => absurd z (by simp)⟩
theorem mruns {c v : Int → Int} {N i l done : Int} {R : Int × Int × pz_C} (G : or_G A0 g) (hTx : og_T A0 c v N) (Rm : om_R m g) (hSm : ∀ t, 0 ≤ t → t < 8 → m 181 t = S t) (hS : ∀ t, -1 ≤ S t ∧ S t ≤ 1000000) (hd : m 168 49 = done) (hd0 : 0 ≤ done ∧ done ≤ 900) (h5 : m 168 50 = 2400 + i) (h0 : 0 ≤ i) (hN : i ≤ N) (hl : 0 ≤ l) (h50 : l ≤ 50) (hR : pz_order c v i l = .inr R) (hok : pz_cok 24 R.2.2) {RT : Int × am_M × Int} (hRT : or_t S R.2.2 R.2.2.2.1.toNat g done = RT) {K : am_KK}
    (k1 : RT.1 = 0 → ∀ m', fr_r m m' → om_R m' RT.2.1 → m' 168 49 = RT.2.2 → m' 168 50 = 2400 + (R.1 + 1) → K 0 m')
    (k2 : RT.1 ≠ 0 → ∀ m' r, fr_r m m' → (∀ x, (x < 0 ∨ 170 ≤ x) → m' 170 x = A0 x) → r ≠ 0 → (r = -5 ↔ RT.1 = -5) → K r m') : M_X12_runs 168 (2400 + N) K m := by
  have ht := hok.2.2.2.2.2
  have tx : ∀ g1 : am_M, or_G A0 g1 → og_T (g1 170) c v N := fun g1 q => og_T_of hTx (fun x hx => q.2.2.2 x (Or.inr hx))
  unfold M_X12_runs
  refine mgoes (A := g 170) (S := S) (done := done) (R := R) (l := l) Rm.1 G.2.1 (tx g G) (Or.inl rfl) hSm hS hd (by omega) h5 h0 hN hl h50 hR (fun m1 f1 q51 q22 _ _ _ _ => ?_)
  simp only [forall_eq]
  rw [q51, q22]
  unfold M_X12_runs_L1
  refine ⟨fun j x m2 => (0 ≤ x ∧ x ≤ R.2.2.2.1) ∧ j = (R.2.2.2.1 - x).toNat ∧ ∃ g1 dn, or_t S R.2.2 (R.2.2.2.1 - x).toNat g1 dn = RT ∧ or_G A0 g1 ∧ om_R m2 g1 ∧ fr_r m m2 ∧ m2 168 49 = dn ∧ m2 168 50 = 2400 + i ∧ 0 ≤ dn ∧ dn ≤ done + x, ⟨_, by omega, rfl, g, done, by rw [Int.sub_zero]; exact hRT, G, om_of Rm (fun o k ho => f1 o k (by omega)), fun o k ho => f1 o k (by omega), by rw [f1 _ _ (by omega)]; exact hd, by rw [f1 _ _ (by omega)]; exact h5, hd0.1, by omega⟩, ?_⟩
  rintro j x m2 ⟨bx, rfl, g1, dn, hrt, G1, R1, F1, e49, e50, d0, d1⟩
  unfold M_X12_runs_L1B
  simp only [forall_eq]
  refine ⟨fun cx => ?_, fun cx => ?_⟩
  · have hx : x = R.2.2.2.1 := by omega
    rw [show (R.2.2.2.1 - x).toNat = 0 by omega, or_t] at hrt
    subst hrt
    exact k1 rfl _ (fun o k ho => by rw [am_st_ne _ (by omega)]; exact F1 o k ho) (om_of R1 (fun o k ho => am_st_ne _ (by omega))) (by rw [am_st_ne _ (by omega)]; exact e49) (am_st_same _ _ _ _)
  · rw [show (R.2.2.2.1 - x).toNat = (R.2.2.2.1 - (x + 1)).toNat + 1 by omega, or_t] at hrt
    obtain ⟨G2, hcode⟩ := or_1_G (S := S) G1 R.2.2 dn
    have hE := or_env_le (S := S) (A := g1 170) (done := dn) hS (by have := G1.2.1.2.1.1; omega) (by have := G1.2.1.2.1.2.1; omega) (by omega)
    refine mgoes (A := g1 170) (S := S) (done := dn) (R := R) (l := l) R1.1 G1.2.1 (tx g1 G1) (Or.inr rfl) (fun t t0 t1 => by rw [F1 _ _ (by omega)]; exact hSm t t0 t1) hS e49 (by omega) e50 h0 hN hl h50 hR (fun m3 f3 _ _ q52 q54 q53 q53' => ?_)
    have q54 := q54 rfl
    have R3 : om_R m3 g1 := om_of R1 (fun o k ho => f3 o k (by omega))
    have F3 : fr_r m m3 := fr_r_t F1 (fun o k ho => f3 o k (by omega))
    have e49' : m3 168 49 = dn := by rw [f3 _ _ (by omega)]; exact e49
    have e50' : m3 168 50 = 2400 + i := by rw [f3 _ _ (by omega)]; exact e50
    have J1 : ∀ (m4 : am_M) (r : Int), fr_r m3 m4 → m4 168 49 = dn → m4 168 50 = 2400 + i → (or_1 S R.2.2 g1 dn).1 = 1 → om_R m4 (or_1 S R.2.2 g1 dn).2 → 0 ≤ r → M_X12_runs_J1 168 (2400 + N) R.2.2.2.1 (2400 + (R.1 + 1)) x r (fun v4' m' => ∃ j', j' < (R.2.2.2.1 - x).toNat ∧ (0 ≤ v4' ∧ v4' ≤ R.2.2.2.1) ∧ j' = (R.2.2.2.1 - v4').toNat ∧ ∃ g1 dn, or_t S R.2.2 (R.2.2.2.1 - v4').toNat g1 dn = RT ∧ or_G A0 g1 ∧ om_R m' g1 ∧ fr_r m m' ∧ m' 168 49 = dn ∧ m' 168 50 = 2400 + i ∧ 0 ≤ dn ∧ dn ≤ done + v4') K m4 := by
      intro m4 r F4 z49 z50 o1 R4 hr
      rw [if_neg (by omega), if_pos o1] at hrt
      unfold M_X12_runs_J1 M_X12_runs_J2
      simp only [forall_eq]
      refine ⟨fun _ => ?_, fun z => absurd hr z⟩
      rw [z49, w32_of (z := dn + 1) (by omega) (by omega), w32_of (z := x + 1) (by omega) (by omega)]
      refine ⟨_, by omega, by omega, rfl, _, dn + 1, hrt, G2, om_of R4 (fun o k ho => am_st_ne _ (by omega)), fun o k ho => by rw [am_st_ne _ (by omega), F4 o k ho]; exact F3 o k ho, am_st_same _ _ _ _, by rw [am_st_ne _ (by omega)]; exact z50, by omega, by omega⟩
    have J1n : ∀ (m4 : am_M) (r : Int), fr_r m3 m4 → om_R m4 g1 → (or_1 S R.2.2 g1 dn).1 ≠ 1 → (or_1 S R.2.2 g1 dn).1 ≠ 0 → r < 0 → (r = -5 ↔ (or_1 S R.2.2 g1 dn).1 = -5) → K r m4 := by
      intro m4 r F4 R4 o1 o0 hr h5'
      rw [if_neg o0, if_neg o1] at hrt
      subst hrt
      exact k2 o0 m4 r (fr_r_t F3 F4) (fun y hy => by rw [R4.1]; exact G1.2.2.2 y hy) (by omega) h5'
    refine ⟨fun c54 => ?_, fun c54 => ?_⟩
    · have hT := q54.mp c54
      refine ⟨fun c53 => ⟨fun c52 => ?_, fun c52 => ?_⟩, fun c53 => ?_⟩
      · have h4 : R.2.2.1 ≠ 4 := fun z => c52 (q52.mpr z)
        obtain ⟨z53, u0, u1, u2⟩ := q53' h4 rfl
        obtain ⟨n0, n1, n2⟩ := z53.mp c53
        obtain ⟨a, ea⟩ := Option.ne_none_iff_exists'.mp n0
        obtain ⟨t, et⟩ := Option.ne_none_iff_exists'.mp n1
        obtain ⟨l', el⟩ := Option.ne_none_iff_exists'.mp n2
        have ba := pz_seg_Q hok.1 pz_one_val _ hE a ea
        have bt := pz_seg_Q hok.2.1 pz_one_val _ hE t et
        have bl := pz_seg_Q hok.2.2.1 pz_one_val _ hE l' el
        rw [ea, Option.getD_some] at u0
        rw [et, Option.getD_some] at u1
        rw [el, Option.getD_some] at u2
        simp only [am_rf_all, am_ln_all]
        refine ⟨by omega, ?_⟩
        rw [u0, osmall_eq (by unfold R32; omega), u1]
        refine ⟨by omega, ?_⟩
        rw [osmall_eq (by unfold R32; omega), u2]
        refine ⟨by omega, ?_⟩
        rw [osmall_eq (by unfold R32; omega)]
        refine mprayed (done := dn) (x := R.2.2) G1 R3 hT h4 ea et el (fun o1 m4 r f4 R4 hr => ?_) (fun o1 o0 m4 r f4 R4 hr h5' => ?_)
        · exact J1 m4 r (fun o k ho => f4 o k (by omega)) (by rw [f4 _ _ (by omega)]; exact e49') (by rw [f4 _ _ (by omega)]; exact e50') o1 R4 hr
        · unfold M_X12_runs_J1
          exact ⟨fun z => by omega, fun _ => J1n m4 r (fun o k ho => f4 o k (by omega)) R4 o1 o0 hr h5'⟩
      · have h4 : R.2.2.1 = 4 := q52.mp (Classical.not_not.mp c52)
        refine mdawned (done := dn) (x := R.2.2) G1 R3 hT h4 (fun o1 m4 r f4 z49 z50 R4 hr => ?_) (fun o1 o0 m4 r f4 R4 hr h5' => ?_)
        · exact J1 m4 r f4 (by rw [z49]; exact e49') (by rw [z50]; exact e50') o1 R4 hr
        · unfold M_X12_runs_J1
          exact ⟨fun z => by omega, fun _ => J1n m4 r f4 R4 o1 o0 hr h5'⟩
      · have h4 : R.2.2.1 ≠ 4 := fun z => c53 (q53 z)
        obtain ⟨z53, -⟩ := q53' h4 rfl
        have hc : or_1 S R.2.2 g1 dn = (-3, g1) := by
          unfold or_1
          rw [if_neg (by rw [hT]; exact fun z => z rfl), if_neg h4]
          split
          · rename_i a t l' ea et el
            exact absurd (z53.mpr ⟨by rw [ea]; simp, by rw [et]; simp, by rw [el]; simp⟩) c53
          · rfl
        exact J1n m3 (-3) (fun _ _ _ => rfl) R3 (by rw [hc]; simp) (by rw [hc]; simp) (by omega) (by rw [hc])
    · have hz : or_1 S R.2.2 g1 dn = (0, g1) := by
        unfold or_1
        rw [if_pos (fun z => c54 (q54.mpr z))]
      rw [hz, if_pos rfl] at hrt
      unfold M_X12_runs_J2
      simp only [forall_eq]
      rw [w32_of (z := x + 1) (by omega) (by omega)]
      exact ⟨_, by omega, by omega, rfl, g1, dn, hrt, G1, R3, F3, e49', e50', d0, by omega⟩
end ORM
