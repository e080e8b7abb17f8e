/-! THE QUEUE of those who are heard, in the order of their ranks. -/
theorem ab_low_spec {A R : Int → Int} : ∀ n : Nat, ((ab_low A R n).1 = -1 ∧ (ab_low A R n).2 = 1000000 ∧ ∀ q : Int, 0 ≤ q → q < n → A (7 * q + 5) = 0 → 1000000 ≤ R q) ∨ ((0 ≤ (ab_low A R n).1 ∧ (ab_low A R n).1 < n ∧ A (7 * (ab_low A R n).1 + 5) = 0 ∧ (ab_low A R n).2 = R (ab_low A R n).1 ∧ R (ab_low A R n).1 < 1000000) ∧ ∀ q : Int, 0 ≤ q → q < n → A (7 * q + 5) = 0 → R (ab_low A R n).1 < R q ∨ (R (ab_low A R n).1 = R q ∧ (ab_low A R n).1 ≤ q)) := by
  intro n
  induction n with
  | zero => exact Or.inl ⟨rfl, rfl, fun q h0 h1 => by omega⟩
  | succ n ih =>
    unfold ab_low
    by_cases c : R n < (ab_low A R n).2 ∧ A (7 * (n : Int) + 5) = 0
    · rw [if_pos c]
      right
      refine ⟨⟨by simp only []; omega, by simp only []; omega, c.2, rfl, ?_⟩, fun q h0 h1 h2 => ?_⟩
      · simp only []
        rcases ih with ⟨-, i2, -⟩ | ⟨⟨-, -, -, i2, i3⟩, -⟩ <;> omega
      · simp only []
        by_cases e : q = n
        · subst e; right; exact ⟨rfl, Int.le_refl _⟩
        · rcases ih with ⟨-, i2, i3⟩ | ⟨⟨-, -, -, i2, -⟩, i3⟩
          · have := i3 q h0 (by omega) h2; omega
          · have := i3 q h0 (by omega) h2; omega
    · rw [if_neg c]
      rcases ih with ⟨i1, i2, i3⟩ | ⟨⟨i1, i2, i3, i4, i5⟩, i6⟩
      · left
        refine ⟨i1, i2, fun q h0 h1 h2 => ?_⟩
        by_cases e : q = n
        · subst e
          rcases Int.lt_or_le (R n) 1000000 with q | q
          · exact absurd ⟨by omega, h2⟩ c
          · exact q
        · exact i3 q h0 (by omega) h2
      · right
        refine ⟨⟨i1, by omega, i3, i4, i5⟩, fun q h0 h1 h2 => ?_⟩
        by_cases e : q = n
        · subst e
          rcases Int.lt_or_le (R n) (ab_low A R n).2 with q | q
          · exact absurd ⟨q, h2⟩ c
          · omega
        · exact i6 q h0 (by omega) h2
def qu_S (R : Int → Int) (L : List Int) : Prop := L.Pairwise fun x y => R x < R y ∨ (R x = R y ∧ x < y)
def qu_M (A R : Int → Int) (n : Int) (L : List Int) : Prop := ∀ p, p ∈ L ↔ (0 ≤ p ∧ p < n ∧ A (7 * p + 5) = 0 ∧ R p < 1000000)
theorem qu_low {A R : Int → Int} {n : Int} {L : List Int} (hS : qu_S R L) (hM : qu_M A R n L) : (ab_low A R n.toNat).1 = L.headD (-1) := by
  rcases ab_low_spec (A := A) (R := R) n.toNat with ⟨h1, -, h3⟩ | ⟨⟨h1, h2, h3, -, h5⟩, h6⟩
  · cases L with
    | nil => exact h1
    | cons x L =>
      obtain ⟨g1, g2, g3, g4⟩ := (hM x).mp (by simp)
      have := h3 x g1 (by omega) g3
      omega
  · have hp := (hM _).mpr ⟨h1, by omega, h3, h5⟩
    cases L with
    | nil => cases hp
    | cons x L =>
      obtain ⟨g1, g2, g3, g4⟩ := (hM x).mp (by simp)
      rcases List.mem_cons.mp hp with e | e
      · exact e
      · have := List.rel_of_pairwise_cons hS e
        have := h6 x g1 (by omega) g3
        simp only [List.headD_cons]
        omega
theorem qu_one {A R : Int → Int} {n x : Int} {L : List Int} (hn : n ≤ 24) (hS : qu_S R (x :: L)) (hM : qu_M A R n (x :: L)) : qu_S R L ∧ qu_M (ab_one A x) R n L := by
  refine ⟨(List.pairwise_cons.mp hS).2, fun p => ?_⟩
  obtain ⟨g1, g2, g3, g4⟩ := (hM x).mp (by simp)
  have hne : p ∈ L → p ≠ x := fun hp e => by
    subst e
    have := (List.pairwise_cons.mp hS).1 p hp
    omega
  have hval : ∀ y, ab_one A x y = if y = 7 * x + 6 then A 169 else if y = 7 * x + 5 then (if ab_denied A x = true then 2 else 1) else A y := fun y => rfl
  constructor
  · intro hp
    obtain ⟨k1, k2, k3, k4⟩ := (hM p).mp (by simp [hp])
    have := hne hp
    exact ⟨k1, k2, by rw [hval, if_neg (by omega), if_neg (by omega)]; exact k3, k4⟩
  · rintro ⟨k1, k2, k3, k4⟩
    by_cases e : p = x
    · subst e
      rw [hval, if_neg (by omega), if_pos rfl] at k3
      split at k3 <;> omega
    · rw [hval, if_neg (by omega), if_neg (by omega)] at k3
      have := (hM p).mpr ⟨k1, k2, k3, k4⟩
      rcases List.mem_cons.mp this with h | h
      · exact absurd h e
      · exact h
theorem fore_of {A A' : Int → Int} {p day : Int} (e : ∀ x, 170 ≤ x → A' x = A x) (hp : ∀ j, 0 ≤ j → j < 5 → A' (7 * p + j) = A (7 * p + j)) (h0 : 0 ≤ A (7 * p + 0)) (hf : 0 ≤ A 369 ∨ A 369 = -1) : fa_p A' p day = fa_p A p day ∧ ab_bar A' p day = ab_bar A p day ∧ ab_rank A' p day = ab_rank A p day ∧ ab_fore A' p day = ab_fore A p day := by
  have e1 : fa_p A' p day = fa_p A p day := by
    funext f
    unfold fa_p
    rw [hp 0 (by omega) (by omega), hp 1 (by omega) (by omega), hp 2 (by omega) (by omega), hp 3 (by omega) (by omega), hp 4 (by omega) (by omega), e (316 + A (7 * p + 0)) (by omega), e 362 (by omega)]
  have e2 : ∀ kind lo hi env w, lw_tell A' kind lo hi env w = lw_tell A kind lo hi env w := by
    intro kind lo hi env w
    unfold lw_tell
    rw [e 369 (by omega)]
    by_cases c : A 369 = -1
    · rw [if_pos c, if_pos c]
    · rw [if_neg c, if_neg c, lw_cs_of e (by omega)]
  have e3 : ab_bar A' p day = ab_bar A p day := by unfold ab_bar; rw [e1, e2]
  have e4 : ab_rank A' p day = ab_rank A p day := by unfold ab_rank; rw [e1, e2, hp 2 (by omega) (by omega)]
  exact ⟨e1, e3, e4, by unfold ab_fore; rw [e3, e4]⟩
theorem ab_rank_lt {A : Int → Int} {p day : Int} (h : A (7 * p + 2) ≤ 99) : ab_rank A p day < 1000000 := by
  have key : ∀ (kind : Int) (env : Int → Int) (cs : List pz_C) (w : Int), w ≤ 9999 → pz_tell kind (-9999) 9999 env cs w ≤ 9999 := by
    intro kind env cs
    induction cs with
    | nil => intro w h; exact h
    | cons q cs ih =>
      intro w h
      refine ih _ ?_
      split
      · unfold pz_clamp
        repeat' split
        all_goals omega
      · exact h
  unfold ab_rank lw_tell
  split
  · omega
  · split
    · have := key 0 (fa_p A p day) (by assumption) (A (7 * p + 2)) (by omega)
      omega
    · omega
/-- what the queue's making leaves alone -/
def fr_q (m m' : am_M) : Prop := ∀ o k, ¬ (o = 180 ∨ o = 187 ∨ o = 188 ∨ (o = 168 ∧ (k = 8 ∨ k = 22 ∨ k = 23 ∨ k = 24 ∨ k = 34))) → m' o k = m o k
theorem fr_q_170 {m m' : am_M} (h : fr_q m m') : m' 170 = m 170 := funext fun k => h 170 k (by omega)
theorem prayers_eq (K : am_KK) (m : am_M) : M_X12_prayers 168 K m ↔ K (m 170 168) m := by
  unfold M_X12_prayers
  simp [am_rf_all, am_ln_all]
theorem mqueues {m : am_M} {day : Int} (hw : wf_A 24 (m 170)) (hd : 0 ≤ day ∧ day ≤ 1000000) {K : am_KK}
    (hK : ∀ (m' : am_M) (L : List Int), fr_q m m' → m' 168 34 = L.length → (L.length : Int) ≤ m 170 168 → pz_at (m' 187) 0 L → qu_S (fun p => ab_fore (m 170) p day) L → qu_M (m 170) (fun p => ab_fore (m 170) p day) (m 170 168) L → K 0 m') : M_X12_queues 168 day K m := by
  have h24 := hw.2.1.1
  have hR : ∀ p, 0 ≤ p → p < m 170 168 → (ab_bar (m 170) p day = 1 → ab_fore (m 170) p day = 1000000) ∧ (ab_bar (m 170) p day ≠ 1 → ab_fore (m 170) p day = ab_rank (m 170) p day ∧ ab_fore (m 170) p day < 1000000) := by
    intro p p0 p1
    have := (hw.2.1.2.2 p p0 p1).2.2.1
    have hlt := ab_rank_lt (A := m 170) (p := p) (day := day) this.2
    unfold ab_fore
    exact ⟨fun h => if_pos h, fun h => ⟨if_neg h, by rw [if_neg h]; exact hlt⟩⟩
  unfold M_X12_queues
  simp only [forall_eq]
  unfold M_X12_queues_L1
  refine ⟨fun j p m1 => 0 ≤ p ∧ p ≤ m 170 168 ∧ j = (m 170 168 - p).toNat ∧ fr_q m m1 ∧ ∃ L : List Int, m1 168 34 = L.length ∧ (L.length : Int) ≤ p ∧ pz_at (m1 187) 0 L ∧ pz_at (m1 188) 0 (L.map fun q => ab_fore (m 170) q day) ∧ qu_S (fun p => ab_fore (m 170) p day) L ∧ qu_M (m 170) (fun p => ab_fore (m 170) p day) p L, ⟨_, by omega, by omega, rfl, fun o k h => am_st_ne _ (by omega), [], by rw [am_st_same]; rfl, by simp, fun x hx => by simp at hx, fun x hx => by simp at hx, List.Pairwise.nil, fun q => by simp; omega⟩, ?_⟩
  rintro j p m1 ⟨p0, p1, rfl, f1, L, hc, hlp, hL, hLr, hS, hM⟩
  have e170 := fr_q_170 f1
  unfold M_X12_queues_L1B
  rw [prayers_eq, e170]
  refine ⟨fun hp => ?_, fun hp => ?_⟩
  · have : p = m 170 168 := by omega
    subst this
    exact hK m1 L f1 hc (by omega) hL hS hM
  · have hok := wf_ok hw p0 (by omega)
    have next : ∀ m', fr_q m m' → (∃ L : List Int, m' 168 34 = L.length ∧ (L.length : Int) ≤ p + 1 ∧ pz_at (m' 187) 0 L ∧ pz_at (m' 188) 0 (L.map fun q => ab_fore (m 170) q day) ∧ qu_S (fun p => ab_fore (m 170) p day) L ∧ qu_M (m 170) (fun p => ab_fore (m 170) p day) (p + 1) L) → M_X12_queues_J2 168 day p (fun v2' m' => ∃ j', j' < (m 170 168 - p).toNat ∧ 0 ≤ v2' ∧ v2' ≤ m 170 168 ∧ j' = (m 170 168 - v2').toNat ∧ fr_q m m' ∧ ∃ L : List Int, m' 168 34 = L.length ∧ (L.length : Int) ≤ v2' ∧ pz_at (m' 187) 0 L ∧ pz_at (m' 188) 0 (L.map fun q => ab_fore (m 170) q day) ∧ qu_S (fun p => ab_fore (m 170) p day) L ∧ qu_M (m 170) (fun p => ab_fore (m 170) p day) v2' L) K m' := by
      intro m' f hx
      unfold M_X12_queues_J2
      intro v2' hv
      rw [w32_of (by omega) (by omega)] at hv
      subst hv
      exact ⟨_, by omega, by omega, by omega, rfl, f, hx⟩
    generalize (fun (v2' : Int) (m' : am_M) => ∃ j', j' < (m 170 168 - p).toNat ∧ 0 ≤ v2' ∧ v2' ≤ m 170 168 ∧ j' = (m 170 168 - v2').toNat ∧ fr_q m m' ∧ ∃ L : List Int, m' 168 34 = L.length ∧ (L.length : Int) ≤ v2' ∧ pz_at (m' 187) 0 L ∧ pz_at (m' 188) 0 (L.map fun q => ab_fore (m 170) q day) ∧ qu_S (fun p => ab_fore (m 170) p day) L ∧ qu_M (m 170) (fun p => ab_fore (m 170) p day) v2' L) = C at next ⊢
    have skip : (m 170 (7 * p + 5) ≠ 0 ∨ ab_bar (m 170) p day = 1) → qu_M (m 170) (fun p => ab_fore (m 170) p day) (p + 1) L := by
      intro h q
      rw [hM q]
      constructor
      · rintro ⟨a, b, c, d⟩; exact ⟨a, by omega, c, d⟩
      · rintro ⟨a, b, c, d⟩
        refine ⟨a, ?_, c, d⟩
        by_cases e : q = p
        · subst e
          rcases h with h | h
          · exact absurd c h
          · have := (hR q p0 (by omega)).1 h; simp only [] at d; omega
        · omega
    rw [fact_eq hok.1 (by omega), e170]
    refine ⟨fun hs => next m1 f1 ⟨L, hc, by omega, hL, hLr, hS, skip (Or.inl hs)⟩, fun hs => ?_⟩
    refine misBarred (by rw [e170]; exact hw.2.2.1) (by rw [e170]; exact hw.2.2.2) (by rw [e170]; exact hok) hd (fun m2 f2 => ?_)
    have f12 : fr_q m m2 := fun o k h => by rw [f2 o k (by omega)]; exact f1 o k h
    have e2 := fr_q_170 f12
    rw [e170]
    by_cases hb : ab_bar (m 170) p day = 1
    · rw [if_pos hb]
      refine ⟨fun h => absurd h (by decide), fun _ => next m2 f12 ⟨L, by rw [f2 _ _ (by omega)]; exact hc, by omega, pz_at_of hL (fun x _ _ => f2 _ _ (by omega)), pz_at_of hLr (fun x _ _ => f2 _ _ (by omega)), hS, skip (Or.inr hb)⟩⟩
    · rw [if_neg hb]
      refine ⟨fun _ => ?_, fun h => absurd rfl h⟩
      refine mrankOf (by rw [e2]; exact hw.2.2.1) (by rw [e2]; exact hw.2.2.2) (by rw [e2]; exact hok) hd (fun m3 f3 => ?_)
      have f13 : fr_q m m3 := fun o k h => by rw [f3 o k (by omega)]; exact f12 o k h
      obtain ⟨r1, r2⟩ := (hR p p0 (by omega)).2 hb
      rw [e2, ← r1]
      have c3 : m3 168 34 = L.length := by rw [f3 _ _ (by omega), f2 _ _ (by omega)]; exact hc
      have g187 : pz_at (m3 187) 0 L := pz_at_of hL (fun x _ _ => by rw [f3 _ _ (by omega), f2 _ _ (by omega)])
      have g188 : pz_at (m3 188) 0 (L.map fun q => ab_fore (m 170) q day) := pz_at_of hLr (fun x _ _ => by rw [f3 _ _ (by omega), f2 _ _ (by omega)])
      intro v4 hv4
      rw [c3] at hv4
      subst hv4
      unfold M_X12_queues_L2
      refine ⟨fun j k m4 => fr_q m m4 ∧ m4 168 34 = L.length ∧ ∃ L1 L2 : List Int, L = L1 ++ L2 ∧ k = L1.length ∧ j = L1.length ∧ pz_at (m4 187) 0 L1 ∧ pz_at (m4 188) 0 (L1.map fun q => ab_fore (m 170) q day) ∧ pz_at (m4 187) ((L1.length : Int) + 1) L2 ∧ pz_at (m4 188) ((L1.length : Int) + 1) (L2.map fun q => ab_fore (m 170) q day) ∧ ∀ x ∈ L2, ab_fore (m 170) p day < ab_fore (m 170) x day, ⟨_, f13, c3, L, [], by simp, rfl, rfl, g187, g188, fun x hx => by simp at hx, fun x hx => by simp at hx, fun x hx => by cases hx⟩, ?_⟩
      rintro j k m4 ⟨f4, c4, L1, L2, rfl, rfl, rfl, a1, a2, b1, b2, hgt⟩
      simp only [List.length_append] at hlp c4
      -- here p is put
      have put : (∀ x ∈ L1, ab_fore (m 170) x day ≤ ab_fore (m 170) p day) → M_X12_queues_J1 168 day p (ab_fore (m 170) p day) L1.length C K m4 := by
        intro hle
        unfold M_X12_queues_J1
        simp only [am_rf_all, am_ln_all, forall_eq]
        refine ⟨by omega, by omega, ?_⟩
        rw [am_st_ne (o' := 168) _ (by omega), am_st_ne (o' := 168) _ (by omega), c4, w32_of (by omega) (by omega)]
        refine next _ (fun o k h => by rw [am_st_ne _ (by omega), am_st_ne _ (by omega), am_st_ne _ (by omega)]; exact f4 o k h) ⟨L1 ++ ([p] ++ L2), ?_, ?_, ?_, ?_, ?_, ?_⟩
        · rw [am_st_same]; simp; omega
        · simp; omega
        · refine pz_at_app.mpr ⟨pz_at_of a1 (fun x x0 x1 => ?_), pz_at_app.mpr ⟨pz_at_one.mpr ?_, pz_at_of (f := m4 187) ?_ (fun x x0 x1 => ?_)⟩⟩
          · rw [am_st_ne _ (by omega), am_st_ne _ (by omega), am_st_ne _ (by omega)]
          · rw [am_st_ne _ (by omega), am_st_ne _ (by omega), Int.zero_add, am_st_same]
          · rw [Int.zero_add]; exact b1
          · rw [am_st_ne _ (by omega), am_st_ne _ (by omega), am_st_ne _ (by simp at x0; omega)]
        · rw [List.map_append, List.map_append]
          refine pz_at_app.mpr ⟨pz_at_of a2 (fun x x0 x1 => ?_), pz_at_app.mpr ⟨pz_at_one.mpr ?_, pz_at_of (f := m4 188) ?_ (fun x x0 x1 => ?_)⟩⟩
          · simp at x1; rw [am_st_ne _ (by omega), am_st_ne _ (by omega), am_st_ne _ (by omega)]
          · rw [am_st_ne _ (by omega), List.length_map, Int.zero_add, am_st_same]
          · simp only [List.length_map, List.length_cons, List.length_nil, Int.zero_add, List.map_cons, List.map_nil]; exact b2
          · simp at x0; rw [am_st_ne _ (by omega), am_st_ne _ (by omega), am_st_ne _ (by omega)]
        · obtain ⟨s1, s2, s3⟩ := List.pairwise_append.mp hS
          refine List.pairwise_append.mpr ⟨s1, List.pairwise_append.mpr ⟨List.pairwise_singleton _ _, s2, fun x hx y hy => ?_⟩, fun x hx y hy => ?_⟩
          · simp only [List.mem_cons, List.not_mem_nil, or_false] at hx
            subst hx
            exact Or.inl (hgt y hy)
          · rcases List.mem_append.mp hy with hy | hy
            · simp only [List.mem_cons, List.not_mem_nil, or_false] at hy
              subst hy
              have := hle x hx
              have := (hM x).mp (by simp [hx])
              simp only []
              omega
            · exact s3 x hx y hy
        · intro q
          have := hM q
          simp only [List.mem_append, List.mem_cons, List.not_mem_nil, or_false] at this ⊢
          constructor
          · rintro (h | h | h)
            · obtain ⟨a, b, c, d⟩ := this.mp (Or.inl h); exact ⟨a, by omega, c, d⟩
            · subst h; exact ⟨p0, by omega, by omega, r2⟩
            · obtain ⟨a, b, c, d⟩ := this.mp (Or.inr h); exact ⟨a, by omega, c, d⟩
          · rintro ⟨a, b, c, d⟩
            by_cases e : q = p
            · exact Or.inr (Or.inl e)
            · rcases this.mpr ⟨a, by omega, c, d⟩ with h | h
              · exact Or.inl h
              · exact Or.inr (Or.inr h)
      unfold M_X12_queues_L2B
      by_cases e : L1 = []
      · subst e
        refine ⟨fun _ => put (fun x hx => by cases hx), fun h => by simp at h⟩
      · have hd' := (List.dropLast_concat_getLast e).symm
        obtain ⟨L0, y, rfl⟩ : ∃ q x, L1 = q ++ [x] := ⟨_, _, hd'⟩
        obtain ⟨a1a, a1b⟩ := pz_at_app.mp a1
        have a1b := pz_at_one.mp a1b
        rw [List.map_append] at a2
        obtain ⟨a2a, a2b⟩ := pz_at_app.mp a2
        have a2b := (pz_at_one (x := ab_fore (m 170) y day)).mp a2b
        rw [List.length_map] at a2b
        rw [Int.zero_add] at a1b a2b
        have hl1 : ((L0 ++ [y]).length : Int) = L0.length + 1 := by simp
        have hl1n : (L0 ++ [y]).length = L0.length + 1 := by simp
        rw [hl1n] at hlp c4
        refine ⟨fun h => by rw [hl1] at h; omega, fun _ => ?_⟩
        simp only [am_rf_all, am_ln_all, forall_eq]
        simp only [hl1]
        rw [w32_of (z := (L0.length : Int) + 1 - 1) (by omega) (by omega), show (L0.length : Int) + 1 - 1 = L0.length by omega]
        refine ⟨by omega, fun hle => ?_, fun hgt1 => ⟨by omega, by omega, by omega, by omega, ?_⟩⟩
        · have := put (fun x hx => by
            rcases List.mem_append.mp hx with h | h
            · have := (List.pairwise_append.mp (List.pairwise_append.mp hS).1).2.2 x h y (by simp)
              simp only [] at this
              omega
            · simp only [List.mem_cons, List.not_mem_nil, or_false] at h
              subst h; omega)
          rw [hl1] at this
          exact this
        · rw [w32_of (by omega) (by omega)]
          refine ⟨_, ?_, fun o k h => by rw [am_st_ne _ (by omega), am_st_ne _ (by omega)]; exact f4 o k h, by rw [am_st_ne _ (by omega), am_st_ne _ (by omega), c4]; simp; omega, L0, y :: L2, by simp, by omega, rfl, pz_at_of a1a (fun x x0 x1 => by rw [am_st_ne _ (by omega), am_st_ne _ (by omega)]), pz_at_of a2a (fun x x0 x1 => by rw [List.length_map] at x1; rw [am_st_ne _ (by omega), am_st_ne _ (by omega)]), ?_, ?_, fun x hx => ?_⟩
          · simp
          · refine (pz_at_app (a := [y]) (b := L2)).mpr ⟨pz_at_one.mpr ?_, pz_at_of (f := m4 187) ?_ (fun x x0 x1 => ?_)⟩
            · rw [am_st_ne _ (by omega), am_st_same]; exact a1b
            · rw [hl1] at b1; simpa using b1
            · simp at x0; rw [am_st_ne _ (by omega), am_st_ne _ (by omega)]
          · refine (pz_at_app (a := [ab_fore (m 170) y day]) (b := L2.map fun q => ab_fore (m 170) q day)).mpr ⟨pz_at_one.mpr ?_, pz_at_of (f := m4 188) ?_ (fun x x0 x1 => ?_)⟩
            · rw [am_st_same, am_st_ne _ (by omega)]; exact a2b
            · rw [hl1] at b2; simpa using b2
            · simp at x0; rw [am_st_ne _ (by omega), am_st_ne _ (by omega)]
          · rcases List.mem_cons.mp hx with rfl | hx
            · rw [a2b] at hgt1; omega
            · exact hgt x hx
