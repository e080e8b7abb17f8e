/-! RANK, BREATH, BARS as functions of the flat row A; the row's own way to them. -/
def lw_c (A : Int → Int) (t x : Int) : Int := if 0 ≤ x ∧ x < A (370 + t) then A (377 + (400 * t + x)) else 0
def lw_v (A : Int → Int) (t x : Int) : Int := if 0 ≤ x ∧ x < A (370 + t) then A (3177 + (400 * t + x)) else 0
def lw_cs (A : Int → Int) (t : Int) : Sum Int (List pz_C) := pz_read 0 (lw_c A t) (lw_v A t) (A (370 + t))
def lw_W (A : Int → Int) : Prop := (0 ≤ A 368 ∧ A 368 ≤ 6) ∧ (-1 ≤ A 369 ∧ A 369 < A 368) ∧ ∀ t, 0 ≤ t → t < A 368 → (0 ≤ A (370 + t) ∧ A (370 + t) ≤ 400) ∧ (∀ x, 0 ≤ x → x < A (370 + t) → 0 ≤ A (3177 + (400 * t + x))) ∧ ∃ cs, lw_cs A t = .inr cs
def lw_tell (A : Int → Int) (kind lo hi : Int) (env : Int → Int) (w : Int) : Int := if A 369 = -1 then w else match lw_cs A (A 369) with
  | .inr cs => pz_tell kind lo hi env cs w
  | .inl _ => w
def fa_p (A : Int → Int) (p day : Int) : Int → Int := fun f => if f = 0 then A (7 * p + 2) else if f = 1 then A (7 * p + 3) else if f = 2 then A (7 * p + 0) else if f = 3 then A (316 + A (7 * p + 0)) else if f = 4 then A (7 * p + 1) else if f = 5 then day - A (7 * p + 4) else if f = 6 then day else if f = 7 then A 362 else 0
def fa_b (A : Int → Int) (q day : Int) : Int → Int := fun f => if f = 2 then q else if f = 3 then A (316 + q) else if f = 6 then day else if f = 7 then A 362 else -1
def ab_rank (A : Int → Int) (p day : Int) : Int := lw_tell A 0 (-9999) 9999 (fa_p A p day) (A (7 * p + 2))
def ab_bar (A : Int → Int) (p day : Int) : Int := lw_tell A 2 0 1 (fa_p A p day) 0
def ab_breath (A : Int → Int) (q day : Int) : Int := lw_tell A 1 0 99 (fa_b A q day) 99
/-- small numbers, as far as the functions here ask for them -/
def ab_sm (A : Int → Int) : Prop := ∀ x, 0 ≤ x → x < 370 → -1000000 ≤ A x ∧ A x ≤ 1000000
/-- PRAYER p is there, its ASKER too -/
def ab_ok (A : Int → Int) (p : Int) : Prop := (0 ≤ p ∧ p < 24) ∧ 0 ≤ A (7 * p + 0) ∧ A (7 * p + 0) < 6
theorem fa_p_le {A : Int → Int} {p day : Int} (hs : ab_sm A) (hp : ab_ok A p) (hd : 0 ≤ day ∧ day ≤ 1000000) : ∀ f, -1000000000 ≤ fa_p A p day f ∧ fa_p A p day f ≤ 1000000000 := by
  intro f
  obtain ⟨h1, h2, h3⟩ := hp
  have a0 := hs (7 * p + 0) (by omega) (by omega)
  have a1 := hs (7 * p + 1) (by omega) (by omega)
  have a2 := hs (7 * p + 2) (by omega) (by omega)
  have a3 := hs (7 * p + 3) (by omega) (by omega)
  have a4 := hs (7 * p + 4) (by omega) (by omega)
  have a5 := hs (316 + A (7 * p + 0)) (by omega) (by omega)
  have a6 := hs 362 (by omega) (by omega)
  unfold fa_p
  repeat' split
  all_goals omega
theorem fa_b_le {A : Int → Int} {q day : Int} (hs : ab_sm A) (hq : 0 ≤ q ∧ q < 6) (hd : 0 ≤ day ∧ day ≤ 1000000) : ∀ f, -1000000000 ≤ fa_b A q day f ∧ fa_b A q day f ≤ 1000000000 := by
  intro f
  have a5 := hs (316 + q) (by omega) (by omega)
  have a6 := hs 362 (by omega) (by omega)
  unfold fa_b
  repeat' split
  all_goals omega
/-- what the law's functions leave alone -/
def fr_law (m m' : am_M) : Prop := ∀ o k, ¬ (o = 180 ∨ (o = 168 ∧ (k = 8 ∨ k = 22 ∨ k = 23 ∨ k = 24))) → m' o k = m o k
theorem fr_law_170 {m m' : am_M} (h : fr_law m m') : m' 170 = m 170 := funext fun k => h 170 k (by omega)
theorem fr_law_t {a b c : am_M} (h : fr_law a b) (g : fr_law b c) : fr_law a c := fun o k q => by rw [g o k q, h o k q]
theorem mtells {m : am_M} (hW : lw_W (m 170)) {head lo hi w : Int} {env : Int → Int} {K : am_KK} (hlh : lo ≤ hi) (hlR : R32 lo) (hhR : R32 hi) (hwR : R32 w) (hE : ∀ f, -1000000000 ≤ env f ∧ env f ≤ 1000000000) (hl : ∀ x, 0 ≤ x → x < 8 → m 180 x = env (if x = 6 then 7 else if x = 7 then 6 else x))
    (hK : ∀ m', fr_law m m' → K (lw_tell (m 170) (head - 1) lo hi env w) m') : M_X12_tells 168 head lo hi w K m := by
  obtain ⟨w1, w2, w3⟩ := hW
  unfold M_X12_tells
  simp only [am_rf_all, am_ln_all, forall_eq]
  refine ⟨by omega, fun hf => ?_, fun hf => ?_⟩
  · have e1 : am_st m 168 8 8 170 369 = m 170 369 := am_st_ne _ (by omega)
    rw [e1, w32_of (z := 400 * m 170 369) (by omega) (by omega)]
    have e2 : ∀ z, am_st (am_st m 168 8 8) 168 22 z 170 = m 170 := fun z => by funext k; rw [am_st_ne _ (by omega), am_st_ne _ (by omega)]
    simp only [e2, am_st_same]
    obtain ⟨n1, n2, cs, n3⟩ := w3 (m 170 369) (by omega) (by omega)
    rw [w32_of (z := 370 + m 170 369) (by omega) (by omega), w32_of (z := 400 * m 170 369 + m 170 (370 + m 170 369)) (by omega) (by omega)]
    refine ⟨by omega, by omega, by omega, ?_⟩
    generalize hm1 : am_st (am_st (am_st m 168 8 8) 168 22 (400 * m 170 369)) 168 23 (400 * m 170 369 + m 170 (370 + m 170 369)) = m1
    have r : ∀ o k, o ≠ 168 → m1 o k = m o k := fun o k h => by rw [← hm1, am_st_ne _ (by omega), am_st_ne _ (by omega), am_st_ne _ (by omega)]
    have r22 : m1 168 22 = 400 * m 170 369 := by rw [← hm1, am_st_ne _ (by omega), am_st_same]
    have H : ev_H m1 0 (400 * m 170 369) (m 170 (370 + m 170 369)) (lw_c (m 170) (m 170 369)) (lw_v (m 170) (m 170 369)) env := by
      refine ⟨fun x h0 h1 => ?_, fun x h => ?_, fun x h0 h1 => ?_, ⟨by rw [← hm1, am_st_same], by omega, by omega, by omega, by omega⟩, fun x => ?_, Or.inl rfl, by rw [← hm1, am_st_ne _ (by omega), am_st_ne _ (by omega), am_st_same]; rfl, hE, fun _ x h0 h1 => by rw [r _ _ (by omega)]; exact hl x h0 h1, fun h => by cases h⟩
      · rw [r _ _ (by omega)]; unfold lw_c; rw [if_pos ⟨h0, h1⟩]
      · unfold lw_c; rw [if_neg (by omega)]
      · rw [r _ _ (by omega)]; unfold lw_v; rw [if_pos ⟨h0, h1⟩]
      · unfold lw_v
        split
        · exact n2 x (by omega) (by omega)
        · omega
    have hfin := ev_tells_L (K := K) (head := head) (lo := lo) (hi := hi) (w := w) (cs := cs) H hlh hlR hhR hwR n3 (fun g b => by
      have := hK (am_ev m1 g b) (fun o k h => by
        rw [ev_eq, if_neg (by omega), if_neg (by omega), ← hm1, am_st_ne _ (by omega), am_st_ne _ (by omega), am_st_ne _ (by omega)])
      unfold lw_tell at this
      rw [if_neg hf, n3] at this
      exact this) (m1 168 24)
    rw [← r22, ev_self] at hfin
    exact hfin
  · have := hK m (fun o k _ => rfl)
    unfold lw_tell at this
    rw [if_pos (by omega)] at this
    exact this
theorem fact_eq {p j : Int} (hp : 0 ≤ p ∧ p < 24) (hj : 0 ≤ j ∧ j < 7) (K : am_KK) (m : am_M) : M_X12_fact 168 p j K m ↔ K (m 170 (7 * p + j)) m := by
  unfold M_X12_fact
  rw [w32_of (z := 7 * p) (by omega) (by omega), w32_of (z := 0 + 7 * p) (by omega) (by omega), w32_of (z := 0 + 7 * p + j) (by omega) (by omega), show 0 + 7 * p + j = 7 * p + j by omega]
  simp only [am_rf_all, am_ln_all]
  have : 0 ≤ 7 * p + j ∧ 7 * p + j < 5977 := by omega
  simp [this]
theorem msets {m : am_M} {p day : Int} (hs : ab_sm (m 170)) (hp : ab_ok (m 170) p) (hd : 0 ≤ day ∧ day ≤ 1000000) {K : am_KK} (hK : ∀ m', fr_law m m' → (∀ x, 0 ≤ x → x < 8 → m' 180 x = fa_p (m 170) p day (if x = 6 then 7 else if x = 7 then 6 else x)) → K 0 m') : M_X12_sets 168 p day K m := by
  obtain ⟨h1, h2, h3⟩ := hp
  have s4 := hs (7 * p + 4) (by omega) (by omega)
  unfold M_X12_sets
  have e170 : ∀ (m : am_M) (x z k : Int), am_st m 180 x z 170 k = m 170 k := fun m x z k => am_st_ne _ (by omega)
  simp only [fact_eq h1 (show 0 ≤ (0 : Int) ∧ (0 : Int) < 7 by omega), fact_eq h1 (show 0 ≤ (1 : Int) ∧ (1 : Int) < 7 by omega), fact_eq h1 (show 0 ≤ (2 : Int) ∧ (2 : Int) < 7 by omega), fact_eq h1 (show 0 ≤ (3 : Int) ∧ (3 : Int) < 7 by omega), fact_eq h1 (show 0 ≤ (4 : Int) ∧ (4 : Int) < 7 by omega), am_rf_all, am_ln_all, forall_eq, e170]
  rw [w32_of (z := 316 + m 170 (7 * p + 0)) (by omega) (by omega), w32_of (z := day - m 170 (7 * p + 4)) (by omega) (by omega)]
  refine ⟨by omega, by omega, by omega, by omega, by omega, by omega, by omega, by omega, by omega, by omega, hK _ (fun o k h => ?_) (fun x x0 x8 => ?_)⟩
  · rw [am_st_ne _ (by omega), am_st_ne _ (by omega), am_st_ne _ (by omega), am_st_ne _ (by omega), am_st_ne _ (by omega), am_st_ne _ (by omega), am_st_ne _ (by omega), am_st_ne _ (by omega)]
  · have : x = 0 ∨ x = 1 ∨ x = 2 ∨ x = 3 ∨ x = 4 ∨ x = 5 ∨ x = 6 ∨ x = 7 := by omega
    rcases this with rfl | rfl | rfl | rfl | rfl | rfl | rfl | rfl <;> simp [am_st_eq, fa_p]
theorem mrankOf {m : am_M} {p day : Int} (hW : lw_W (m 170)) (hs : ab_sm (m 170)) (hp : ab_ok (m 170) p) (hd : 0 ≤ day ∧ day ≤ 1000000) {K : am_KK} (hK : ∀ m', fr_law m m' → K (ab_rank (m 170) p day) m') : M_X12_rankOf 168 p day K m := by
  unfold M_X12_rankOf
  refine msets hs hp hd (fun m1 h1 h2 => ?_)
  have e := fr_law_170 h1
  rw [fact_eq hp.1 (by omega)]
  have s2 := hs (7 * p + 2) (by have := hp.1; omega) (by have := hp.1; omega)
  refine mtells (env := fa_p (m 170) p day) (by rw [e]; exact hW) (by omega) (by unfold R32; omega) (by unfold R32; omega) (by rw [e]; unfold R32; omega) (fa_p_le hs hp hd) h2 (fun m2 h3 => ?_)
  rw [e]
  exact hK m2 (fr_law_t h1 h3)
theorem misBarred {m : am_M} {p day : Int} (hW : lw_W (m 170)) (hs : ab_sm (m 170)) (hp : ab_ok (m 170) p) (hd : 0 ≤ day ∧ day ≤ 1000000) {K : am_KK} (hK : ∀ m', fr_law m m' → K (if ab_bar (m 170) p day = 1 then 1 else 0) m') : M_X12_isBarred 168 p day K m := by
  unfold M_X12_isBarred
  refine msets hs hp hd (fun m1 h1 h2 => ?_)
  have e := fr_law_170 h1
  refine mtells (env := fa_p (m 170) p day) (by rw [e]; exact hW) (by omega) (by unfold R32; omega) (by unfold R32; omega) (by unfold R32; omega) (fa_p_le hs hp hd) h2 (fun m2 h3 => ?_)
  rw [e]
  have := hK m2 (fr_law_t h1 h3)
  unfold ab_bar at this
  rw [show (3 : Int) - 1 = 2 from by decide]
  refine ⟨fun h => ?_, fun h => ?_⟩
  · rw [if_neg h] at this; exact this
  · rw [if_pos (by omega)] at this; exact this
theorem mbreathOf {m : am_M} {q : Int} (hW : lw_W (m 170)) (hs : ab_sm (m 170)) (hq : 0 ≤ q ∧ q < 6) (hd : 0 ≤ m 170 169) {K : am_KK} (hK : ∀ m', fr_law m m' → K (ab_breath (m 170) q (m 170 169)) m') : M_X12_breathOf 168 q K m := by
  have s169 := hs 169 (by omega) (by omega)
  unfold M_X12_breathOf M_X12_breathOf_L1
  refine ⟨fun j x m' => 0 ≤ x ∧ x ≤ 8 ∧ j = (8 - x).toNat ∧ fr_law m m' ∧ ∀ y, 0 ≤ y → y < x → m' 180 y = -1, ⟨8, by omega, by omega, rfl, fun o k _ => rfl, fun y h0 h1 => by omega⟩, ?_⟩
  rintro j x m1 ⟨x0, x8, rfl, h1, h2⟩
  have e := fr_law_170 h1
  unfold M_X12_breathOf_L1B
  have e170 : ∀ (m : am_M) (x z k : Int), am_st m 180 x z 170 k = m 170 k := fun m x z k => am_st_ne _ (by omega)
  simp only [am_rf_all, am_ln_all, forall_eq, e170, e]
  rw [w32_of (z := 316 + q) (by omega) (by omega)]
  refine ⟨fun hx => ⟨by omega, by omega, by omega, by omega, by omega, by omega, by omega, ?_⟩, fun hx => ⟨by omega, ?_⟩⟩
  · have r : ∀ z1 z2 z3 z4, am_st (am_st (am_st (am_st m1 180 2 z1) 180 3 z2) 180 6 z3) 180 7 z4 170 = m 170 := fun z1 z2 z3 z4 => by funext k; rw [e170, e170, e170, e170, e]
    refine mtells (env := fa_b (m 170) q (m 170 169)) (by rw [r]; exact hW) (by omega) (by unfold R32; omega) (by unfold R32; omega) (by unfold R32; omega) (fa_b_le hs hq (by omega)) (fun y y0 y8 => ?_) (fun m2 h3 => ?_)
    · have g := fun z => h2 z
      have : y = 0 ∨ y = 1 ∨ y = 2 ∨ y = 3 ∨ y = 4 ∨ y = 5 ∨ y = 6 ∨ y = 7 := by omega
      rcases this with rfl | rfl | rfl | rfl | rfl | rfl | rfl | rfl <;> simp [am_st_eq, fa_b] <;> exact h2 _ (by omega) (by omega)
    · rw [r]
      refine hK m2 (fun o k h => ?_)
      rw [h3 o k h, am_st_ne _ (by omega), am_st_ne _ (by omega), am_st_ne _ (by omega), am_st_ne _ (by omega)]
      exact h1 o k h
  · rw [w32_of (by omega) (by omega)]
    refine ⟨_, ?_, by omega, by omega, rfl, fun o k h => by rw [am_st_ne _ (by omega)]; exact h1 o k h, fun y y0 y1 => ?_⟩
    · omega
    · by_cases ey : y = x
      · subst ey; exact am_st_same _ _ _ _
      · rw [am_st_ne _ (by omega)]; exact h2 y y0 (by omega)
