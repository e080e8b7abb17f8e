/-! WHAT THE JUDGE TELLS OF A LAW. -/
/-- the Program p holds the clauses cs -/
def pz_PG (m : am_M) (p : Int) (cs : List pz_C) : Prop := m p 1 = pz_tot cs ∧ pz_tot cs ≤ 400 ∧ (cs.length : Int) ≤ 12 ∧ rk m (p + 2) 7 84 ∧ m (p + 2) 2 = cs.length ∧ pz_pr (m (p + 3)) (m (p + 1)) cs 0 0
theorem pz_PG_of {m m' : am_M} {p : Int} {cs : List pz_C} (h : pz_PG m p cs) (e : ∀ o k, (o = p ∨ o = p + 1 ∨ o = p + 2 ∨ o = p + 3) → m' o k = m o k) : pz_PG m' p cs := by
  obtain ⟨h1, h2, h3, h4, h5, h6⟩ := h
  exact ⟨by rw [e _ _ (by omega)]; exact h1, h2, h3, rk_of h4 (e _ _ (by omega)) (e _ _ (by omega)), by rw [e _ _ (by omega)]; exact h5, pz_pr_of cs 0 0 (by omega) h6 (fun x _ _ => e _ _ (by omega)) (fun x _ _ => e _ _ (by omega))⟩
/-- the objects of a Program -/
def pz_pg (p : Int) : Prop := am_rfv p 0 = p + 1 ∧ am_rfv p 2 = p + 2 ∧ am_len (p + 1) = 400 ∧ am_len (p + 3) = 84 ∧ am_ob p 4 ∧ 19 ≤ p ∧ p ≤ 131
def pz_sel (x : pz_C) (part : Int) : pz_S := if part = 0 then x.2.2.1 else if part = 1 then x.2.2.2.1 else if part = 2 then x.2.2.2.2.1 else x.2.2.2.2.2
theorem cvalue {m0 : am_M} {p fa lim part : Int} {env : Int → Int} {pre post : List pz_C} {x : pz_C} {K : am_KK} (hp : pz_pg p) (hG : pz_PG m0 p (pre ++ x :: post)) (hx : pz_cok lim x) (hpart : 0 ≤ part ∧ part ≤ 3) (hf : am_len fa = lim ∧ fa ≠ 139) (henv : ∀ f, 0 ≤ f → f < lim → m0 fa f = env f) (hE : ∀ f, -1000000000 ≤ env f ∧ env f ≤ 1000000000)
    (hK : ∀ m', (∀ o k, o ≠ 139 → m' o k = m0 o k) → K (((pz_sel x part).2 env).getD (-2000000000)) m') : M_X6_value 138 p pre.length part fa K m0 := by
  obtain ⟨p1, p2, p3, p4, -, p5, p6⟩ := hp
  obtain ⟨g1, g2, g3, g4, g5, g6⟩ := hG
  obtain ⟨w1, w2⟩ := (pz_pr_app pre (x :: post) 0 0).mp g6
  obtain ⟨⟨h1, h2, h3, h4, h5, h6, h7⟩, h8, -⟩ := w2
  have t1 := pz_tot_app pre (x :: post)
  have t2 := pz_tot_0 pre
  have t3 := pz_tot_0 post
  simp only [pz_tot] at t1
  simp only [List.length_append, List.length_cons] at g3 g5
  unfold M_X6_value
  rw [p2]
  rw [get_eq g4, get_eq g4]
  have hget : ∀ j, 0 ≤ j → j < 7 → rget m0 (p + 2) 7 pre.length j = m0 (p + 3) (7 * (0 + (pre.length : Int)) + j) := by
    intro j j0 j7
    unfold rget
    rw [g5, if_pos (by omega)]
    congr 1 <;> omega
  rw [w32_of (z := 2 + part) (by omega) (by omega), w32_of (z := 2 + part + 1) (by omega) (by omega), hget _ (by omega) (by omega), hget _ (by omega) (by omega)]
  simp only [forall_eq, g1, t1]
  have hlen : (pz_steps x).length = x.2.2.1.1.length + x.2.2.2.1.1.length + x.2.2.2.2.1.1.length + x.2.2.2.2.2.1.length := by simp only [pz_steps, List.length_append]
  have hat := h8
  unfold pz_steps at hat
  obtain ⟨hat, a4⟩ := pz_at_app.mp hat
  obtain ⟨hat, a3⟩ := pz_at_app.mp hat
  obtain ⟨a1, a2⟩ := pz_at_app.mp hat
  obtain ⟨s1, s2, s3, s4, -⟩ := hx
  simp only [List.length_append] at a3 a4
  have main : ∀ (s : pz_S) (a b : Int) (Q : am_Val → Prop), pz_seg lim Q s → pz_at (m0 (p + 1)) a s.1 → b = a + s.1.length → 0 ≤ a → b ≤ pz_tot pre + (((pz_steps x).length : Int) + pz_tot post) → (∀ m', (∀ o k, o ≠ 139 → m' o k = m0 o k) → K ((s.2 env).getD (-2000000000)) m') →
      (a < 0 → K 1 m0) ∧ (¬ a < 0 → (a < am_min b (pz_tot pre + (((pz_steps x).length : Int) + pz_tot post)) → M_X6_value_L1 138 p fa (am_min b (pz_tot pre + (((pz_steps x).length : Int) + pz_tot post))) 0 a K m0) ∧ (¬ a < am_min b (pz_tot pre + (((pz_steps x).length : Int) + pz_tot post)) → K 1 m0)) := by
    intro s a b Q hs hat hb ha hbt hKs
    have hmin : am_min b (pz_tot pre + (((pz_steps x).length : Int) + pz_tot post)) = b := by unfold am_min; split <;> omega
    rw [hmin]
    refine ⟨fun h => by omega, fun _ => ⟨fun hlt => ?_, fun hge => ?_⟩⟩
    · rcases hs with rfl | ⟨hne, ⟨w, w0, w50, hrun⟩, -, hb0⟩
      · simp [pz_one] at hb; omega
      · have hpr : ∀ i, a ≤ i → i < b → 0 ≤ m0 (p + 1) i ∧ m0 (p + 1) i ≤ 100000 := by
          intro i i0 i1
          have := hat (i - a).toNat (by omega)
          rw [show a + ((i - a).toNat : Int) = i by omega] at this
          rw [this]
          have hl : (i - a).toNat < s.1.length := by omega
          rw [List.getD_eq_getElem?_getD, List.getElem?_eq_getElem hl, Option.getD_some]
          exact hb0 _ (List.getElem_mem hl)
        have hr := hrun env (fun i => if a ≤ i ∧ i < b then m0 (p + 1) i else 0) b a [] (fun i => by
          try dsimp only
          split
          · exact (hpr i (by omega) (by omega)).1
          · omega) (fun y hy => by
          try dsimp only
          rw [if_pos (by omega)]
          exact hat y hy) (by omega) (by simp; omega) ((b - a).toNat + 1) (by omega)
        refine cvalue_loop (prog := fun i => if a ≤ i ∧ i < b then m0 (p + 1) i else 0) (z0 := a) (to := b) (n := (b - a).toNat + 1) (env := env) ⟨p1, p3, by omega⟩ hf (fun i i0 i1 => by (try dsimp only); rw [if_pos (by omega)]) (fun i => by
          try dsimp only
          split
          · exact (hpr i (by omega) (by omega)).1
          · omega) (fun i => by
          try dsimp only
          split
          · have := (hpr i (by omega) (by omega)).2; omega
          · omega) ⟨ha, by omega⟩ (by omega) henv hE (by omega) ?_
        intro m' hm'
        rw [hr]
        have hKm := hKs m' hm'
        cases e : s.2 env with
        | none => rw [e] at hKm; exact hKm
        | some y =>
          rw [e] at hKm
          simp only []
          rw [pz_rn_s, if_pos (by omega)]
          exact hKm
    · rcases hs with rfl | ⟨hne, -⟩
      · have := hKs m0 (fun _ _ _ => rfl)
        simpa [pz_one] using this
      · have : 0 < s.1.length := List.length_pos_iff.mpr hne
        omega
  have e4 : part = 0 ∨ part = 1 ∨ part = 2 ∨ part = 3 := by omega
  rcases e4 with rfl | rfl | rfl | rfl
  · rw [show 7 * (0 + (pre.length : Int)) + (2 + 0 + 1) = 7 * (0 + (pre.length : Int)) + 3 by omega, show 7 * (0 + (pre.length : Int)) + (2 + 0) = 7 * (0 + (pre.length : Int)) + 2 by omega, h3, h4]
    exact main x.2.2.1 _ _ _ s1 a1 rfl (by omega) (by omega) (fun m' hm' => by have := hK m' hm'; simpa [pz_sel] using this)
  · rw [show 7 * (0 + (pre.length : Int)) + (2 + 1 + 1) = 7 * (0 + (pre.length : Int)) + 4 by omega, show 7 * (0 + (pre.length : Int)) + (2 + 1) = 7 * (0 + (pre.length : Int)) + 3 by omega, h4, h5]
    exact main x.2.2.2.1 _ _ _ s2 a2 rfl (by omega) (by omega) (fun m' hm' => by have := hK m' hm'; simpa [pz_sel] using this)
  · rw [show 7 * (0 + (pre.length : Int)) + (2 + 2 + 1) = 7 * (0 + (pre.length : Int)) + 5 by omega, show 7 * (0 + (pre.length : Int)) + (2 + 2) = 7 * (0 + (pre.length : Int)) + 4 by omega, h5, h6]
    exact main x.2.2.2.2.1 _ _ _ s3 (by rwa [show 0 + pz_tot pre + (x.2.2.1.1.length : Int) + (x.2.2.2.1.1.length : Int) = 0 + pz_tot pre + ((x.2.2.1.1.length + x.2.2.2.1.1.length : Nat) : Int) by omega]) rfl (by omega) (by omega) (fun m' hm' => by have := hK m' hm'; simpa [pz_sel] using this)
  · rw [show 7 * (0 + (pre.length : Int)) + (2 + 3 + 1) = 7 * (0 + (pre.length : Int)) + 6 by omega, show 7 * (0 + (pre.length : Int)) + (2 + 3) = 7 * (0 + (pre.length : Int)) + 5 by omega, h6, h7]
    exact main x.2.2.2.2.2 _ _ _ s4 (by rwa [show 0 + pz_tot pre + (x.2.2.1.1.length : Int) + (x.2.2.2.1.1.length : Int) + (x.2.2.2.2.1.1.length : Int) = 0 + pz_tot pre + ((x.2.2.1.1.length + x.2.2.2.1.1.length + x.2.2.2.2.1.1.length : Nat) : Int) by omega]) (by omega) (by omega) (by omega) (fun m' hm' => by have := hK m' hm'; simpa [pz_sel] using this)
theorem pz_clamp_eq {lo hi x : Int} (h : lo ≤ hi) : am_max lo (am_min hi x) = pz_clamp lo hi x := by
  unfold am_max am_min pz_clamp
  repeat' split
  all_goals omega
/-- the LAW's Program is gone along from behind -/
theorem ctells_L {m0 : am_M} {p kind lo hi w : Int} {env : Int → Int} {cs : List pz_C} {K : am_KK} (hp : pz_pg p) (hG : pz_PG m0 p cs) (hx : ∀ x ∈ cs, pz_cok 8 x) (hlh : lo ≤ hi) (henv : ∀ f, 0 ≤ f → f < 8 → m0 137 f = env f) (hE : ∀ f, -1000000000 ≤ env f ∧ env f ≤ 1000000000)
    (hK : ∀ m', (∀ o k, o ≠ 139 → m' o k = m0 o k) → K (pz_tell kind lo hi env cs w) m') : M_X3_tells_L1 136 kind w lo hi p ((cs.length : Int) - 1) K m0 := by
  have hpp := hp
  obtain ⟨p1, p2, p3, p4, pob, p5, p6⟩ := hp
  have h12 : cs.length ≤ 12 := by have := hG.2.2.1; omega
  unfold M_X3_tells_L1
  refine ⟨fun j v7 m => ∃ (pre post : List pz_C), cs = pre ++ post ∧ v7 = (pre.length : Int) - 1 ∧ (∀ o k, o ≠ 139 → m o k = m0 o k) ∧ j = pre.length ∧ pz_tell kind lo hi env cs w = pz_tell kind lo hi env pre w, ⟨_, cs, [], by simp, rfl, fun _ _ _ => rfl, rfl, rfl⟩, ?_⟩
  rintro j v7 m ⟨pre, post, hcs, rfl, hm, rfl, ht⟩
  have hlcs : cs.length = pre.length + post.length := by rw [hcs, List.length_append]
  unfold M_X3_tells_L1B M_X3_tells_J1
  by_cases e : pre = []
  · subst e
    have : ((([] : List pz_C).length : Int) - 1 < 0) := by simp
    simp only [this, true_imp_iff, not_true_eq_false, false_imp_iff, and_true]
    have := hK m hm
    rw [ht] at this
    exact this
  · have hl : 0 < pre.length := List.length_pos_iff.mpr e
    have hd := (List.dropLast_concat_getLast e).symm
    obtain ⟨q, x, rfl⟩ : ∃ q x, pre = q ++ [x] := ⟨_, _, hd⟩
    have hcs' : cs = q ++ x :: post := by rw [hcs]; simp
    have hGm : pz_PG m p (q ++ x :: post) := by rw [← hcs']; exact pz_PG_of hG (fun o k ho => hm o k (by omega))
    have hxm := hx x (by rw [hcs']; simp)
    have hqlen : ((q ++ [x]).length : Int) - 1 = q.length := by simp
    rw [hqlen]
    have n0 : ¬ ((q.length : Int) < 0) := by omega
    simp only [n0, false_imp_iff, not_false_eq_true, true_imp_iff, true_and, p2]
    refine ⟨pob, ?_⟩
    have hg4 := hGm.2.2.2.1
    rw [get_eq hg4]
    have hkind : rget m (p + 2) 7 q.length 0 = x.1 := by
      unfold rget
      have g5 := hGm.2.2.2.2.1
      simp only [List.length_append, List.length_cons] at g5
      rw [g5, if_pos (by omega)]
      obtain ⟨-, w2⟩ := (pz_pr_app q (x :: post) 0 0).mp hGm.2.2.2.2.2
      have := w2.1.1
      rw [← this]
      congr 1 <;> omega
    rw [hkind]
    have ht2 : pz_tell kind lo hi env (q ++ [x]) w = if pz_hold kind env x = true then pz_clamp lo hi ((x.2.2.1.2 env).getD 0) else pz_tell kind lo hi env q w := by
      rw [pz_tell_app]; rfl
    have hwl : w32 ((q.length : Int) + -1) = (q.length : Int) - 1 := w32_of (by simp at hlcs; omega) (by simp at hlcs; omega)
    have next : ∀ m' : am_M, (∀ o k, o ≠ 139 → m' o k = m0 o k) → ¬ pz_hold kind env x = true → ∃ j', j' < (q ++ [x]).length ∧ ∃ (pre post : List pz_C), cs = pre ++ post ∧ (q.length : Int) - 1 = (pre.length : Int) - 1 ∧ (∀ o k, o ≠ 139 → m' o k = m0 o k) ∧ j' = pre.length ∧ pz_tell kind lo hi env cs w = pz_tell kind lo hi env pre w := by
      intro m' hm' hh
      refine ⟨q.length, by simp, q, x :: post, hcs', rfl, hm', rfl, ?_⟩
      rw [ht, ht2, if_neg hh]
    simp only [forall_eq, hwl]
    refine ⟨fun hk => next m hm (by unfold pz_hold; simp [hk]), fun hk => ?_⟩
    have hk : x.1 = kind := by omega
    have hfe : ∀ f, 0 ≤ f → f < 8 → m 137 f = env f := fun f f0 f1 => by rw [hm _ _ (by omega)]; exact henv f f0 f1
    have r1 : am_rfv 136 1 = 138 := am_rf_5.2.2.2.2.2.2.2.2.2.2.2.2.2.2.2.2.2.2.2.2.2.2.2.2
    have r0 : am_rfv 136 0 = 137 := by decide +kernel
    rw [r1, r0]
    refine cvalue (lim := 8) (env := env) hpp hGm hxm (by omega) ⟨by decide +kernel, by omega⟩ hfe hE (fun m1 hm1 => ?_)
    have hm1' : ∀ o k, o ≠ 139 → m1 o k = m0 o k := fun o k ho => by rw [hm1 o k ho]; exact hm o k ho
    have hb : pz_bool (pz_sel x 3).2 := pz_seg_Q hxm.2.2.2.1 pz_one_bool
    have hsel : pz_sel x 3 = x.2.2.2.2.2 := by simp [pz_sel]
    refine ⟨fun h1 => next m1 hm1' ?_, fun h1 => ?_⟩
    · unfold pz_hold
      rw [hsel] at h1
      cases e : x.2.2.2.2.2.2 env with
      | none => simp
      | some a =>
        rw [e] at h1
        have : a ≠ 1 := by simpa using h1
        simp [this]
    · have hG1 : pz_PG m1 p (q ++ x :: post) := pz_PG_of hGm (fun o k ho => hm1 o k (by omega))
      have h1 : x.2.2.2.2.2.2 env = some 1 := by
        rw [hsel] at h1
        cases e : x.2.2.2.2.2.2 env with
        | none => rw [e] at h1; simp at h1
        | some a => rw [e] at h1; simp at h1; rw [h1]
      refine cvalue (lim := 8) (env := env) hpp hG1 hxm (by omega) ⟨by decide +kernel, by omega⟩ (fun f f0 f1 => by rw [hm1 _ _ (by omega)]; exact hfe f f0 f1) hE (fun m2 hm2 => ?_)
      have hm2' : ∀ o k, o ≠ 139 → m2 o k = m0 o k := fun o k ho => by rw [hm2 o k ho]; exact hm1' o k ho
      have hsel0 : pz_sel x 0 = x.2.2.1 := by simp [pz_sel]
      have hv : pz_val x.2.2.1.2 := pz_seg_Q hxm.1 pz_one_val
      rw [hsel0]
      cases e : x.2.2.1.2 env with
      | none =>
        simp only [Option.getD_none]
        refine ⟨fun _ => next m2 hm2' (by unfold pz_hold; simp [e]), fun h => absurd trivial h⟩
      | some a =>
        have := hv env hE a e
        simp only [Option.getD_some]
        refine ⟨fun h => by omega, fun _ => ?_⟩
        have hKm := hK m2 hm2'
        rw [ht, ht2, if_pos (by unfold pz_hold; simp [hk, h1, e]), e] at hKm
        rw [pz_clamp_eq hlh]
        exact hKm
