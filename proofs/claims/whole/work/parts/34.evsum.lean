/-! THE EVALUATOR OF SUMS. -/
def ev_P (m0 : am_M) (B N : Int) (env : Int → Int) (P : Int → Int → pz_R) (X : am_PT) : Prop := ∀ (live b i l : Int) (r : Int × Int × List Int × am_Val) (K : am_KK), P i l = .inr r → 0 ≤ i → i ≤ N → 0 ≤ l → l ≤ 50 → (live = 0 ∨ live = 1) → (b = 0 ∨ b = 1) → K (ev_v live b r.2.2.2 env) (am_ev m0 (B + r.1) (ev_bb live b r.2.2.2 env)) → X [168, live] K (am_ev m0 (B + i) b)
theorem ev_v_bb {live b a a' : Int} {d : am_Val} {env : Int → Int} (hl : live = 0 ∨ live = 1) (hb : b = 0 ∨ b = 1) (e : a = ev_v live b d env) (e' : a' = ev_bb live b d env) : (live = 1 ∧ a' = 0 ∧ b = 0 ∧ d env = some a) ∨ (a = 0 ∧ (live = 0 ∧ a' = b ∨ live = 1 ∧ a' = 1)) := by
  subst e e'
  unfold ev_v ev_bb
  rcases hl with rfl | rfl
  · simp
  · rcases hb with rfl | rfl
    · cases h : d env <;> simp
    · simp
/-- one operation on both sides -/
theorem ev_jn_f {live b h : Int} {d e : am_Val} {env : Int → Int} (f : Int → Int → Int) (hf : ∀ x y, am_jn h x y = am_bd (f x y)) (h0 : f 0 0 = 0) (hl : live = 0 ∨ live = 1) (hb : b = 0 ∨ b = 1) :
    ev_v live b (pz_jn h d e) env = (if live = 1 ∧ (f (ev_v live b d env) (ev_v live (ev_bb live b d env) e env) < -1000000000 ∨ 1000000000 < f (ev_v live b d env) (ev_v live (ev_bb live b d env) e env)) then 0 else if ev_bb live (ev_bb live b d env) e env = 0 then f (ev_v live b d env) (ev_v live (ev_bb live b d env) e env) else 0)
    ∧ ev_bb live b (pz_jn h d e) env = (if live = 1 ∧ (f (ev_v live b d env) (ev_v live (ev_bb live b d env) e env) < -1000000000 ∨ 1000000000 < f (ev_v live b d env) (ev_v live (ev_bb live b d env) e env)) then 1 else ev_bb live (ev_bb live b d env) e env) := by
  unfold ev_v ev_bb pz_jn
  rcases hl with rfl | rfl
  · rcases hb with rfl | rfl <;> simp [h0]
  · rcases hb with rfl | rfl
    · cases h1 : d env with
      | none => simp [h0]
      | some x =>
        cases h2 : e env with
        | none => simp
        | some y =>
          simp only [hf]
          unfold am_bd
          by_cases c : f x y < -1000000000 ∨ 1000000000 < f x y
          · simp [c]
          · simp [c]
    · simp [h0]
theorem ev_jn_d {live b h : Int} {d e : am_Val} {env : Int → Int} (f : Int → Int → Int) (hf : ∀ x y, am_jn h x y = if y = 0 then none else am_bd (f x y)) (h0 : f 0 1 = 0) (hl : live = 0 ∨ live = 1) (hb : b = 0 ∨ b = 1) :
    (ev_v live (ev_bb live b d env) e env = 0 → ev_v live b (pz_jn h d e) env = 0 ∧ ev_bb live b (pz_jn h d e) env = (if live = 1 then 1 else ev_bb live (ev_bb live b d env) e env) ∧ (live = 0 → ev_v live b d env = 0)) ∧
    (ev_v live (ev_bb live b d env) e env ≠ 0 → ev_v live b (pz_jn h d e) env = (if live = 1 ∧ (f (ev_v live b d env) (ev_v live (ev_bb live b d env) e env) < -1000000000 ∨ 1000000000 < f (ev_v live b d env) (ev_v live (ev_bb live b d env) e env)) then 0 else if ev_bb live (ev_bb live b d env) e env = 0 then f (ev_v live b d env) (ev_v live (ev_bb live b d env) e env) else 0)
    ∧ ev_bb live b (pz_jn h d e) env = (if live = 1 ∧ (f (ev_v live b d env) (ev_v live (ev_bb live b d env) e env) < -1000000000 ∨ 1000000000 < f (ev_v live b d env) (ev_v live (ev_bb live b d env) e env)) then 1 else ev_bb live (ev_bb live b d env) e env)) := by
  unfold ev_v ev_bb pz_jn
  rcases hl with rfl | rfl
  · rcases hb with rfl | rfl <;> simp
  · rcases hb with rfl | rfl
    · cases h1 : d env with
      | none => simp
      | some x =>
        cases h2 : e env with
        | none => simp
        | some y =>
          simp only [hf]
          unfold am_bd
          by_cases c0 : y = 0
          · simp [c0]
          · by_cases c : f x y < -1000000000 ∨ 1000000000 < f x y
            · simp [c0, c]
            · simp [c0, c]
    · simp
theorem ev_mul_le {x y : Int} (hx : -1000000000 ≤ x ∧ x ≤ 1000000000) (hy : -1000000000 ≤ y ∧ y ≤ 1000000000) : -1000000000000000000 ≤ x * y ∧ x * y ≤ 1000000000000000000 := by
  have h1 : (x * y).natAbs = x.natAbs * y.natAbs := Int.natAbs_mul x y
  have h2 : x.natAbs * y.natAbs ≤ 1000000000 * 1000000000 := Nat.mul_le_mul (by omega) (by omega)
  omega
theorem ev_tdiv_le {x y : Int} (hx : -1000000000 ≤ x ∧ x ≤ 1000000000) : -1000000000 ≤ Int.tdiv x y ∧ Int.tdiv x y ≤ 1000000000 := by
  have h1 : (Int.tdiv x y).natAbs = x.natAbs / y.natAbs := Int.natAbs_tdiv x y
  have h2 : x.natAbs / y.natAbs ≤ x.natAbs := Nat.div_le_self _ _
  omega
theorem ev_tmod_le {x y : Int} (hx : -1000000000 ≤ x ∧ x ≤ 1000000000) : -1000000000 ≤ Int.tmod x y ∧ Int.tmod x y ≤ 1000000000 := by
  have h1 : (Int.tmod x y).natAbs = x.natAbs % y.natAbs := Int.natAbs_tmod x y
  have h2 : x.natAbs % y.natAbs ≤ x.natAbs := Nat.mod_le _ _
  omega
section EVB
variable {m0 : am_M} {od B N : Int} {c v env : Int → Int} {lim : Int} {P : Int → Int → pz_R} {R : Nat → am_PT}
theorem ev_H_b (H : ev_H m0 od B N c v env) : 0 ≤ B ∧ B ≤ 2400 ∧ 0 ≤ N ∧ N ≤ 400 := by
  obtain ⟨-, -, -, ⟨-, h5, h6, h7, h8⟩, -⟩ := H
  exact ⟨h5, h6, h7, h8⟩
theorem ev_H_N (H : ev_H m0 od B N c v env) : c N = 0 := H.2.1 N (by omega)
theorem ev_H_e (H : ev_H m0 od B N c v env) : ∀ f, -1000000000 ≤ env f ∧ env f ≤ 1000000000 := H.2.2.2.2.2.2.2.1
/-- plus, minus -/
theorem ev_sumOf (H : ev_H m0 od B N c v env) (hok : pz_ok lim pz_val N P) (hP : ev_P m0 B N env P (R 1)) : ev_P m0 B N env (pz_chain pz_adds P c) (N_X12_sumOf R) := by
  intro live b i l r K hr hi hiN hl h50 hlv hb hK
  have hB := ev_H_b H
  have hN := ev_H_N H
  have hE := ev_H_e H
  unfold pz_chain at hr
  obtain ⟨a, ha, hr⟩ := pz_bd_inr hr
  refine ⟨am_ob168, hlv, ?_⟩
  unfold M_X12_sumOf
  refine hP live b i l a _ ha hi hiN hl h50 hlv hb ?_
  have hp := (hok i l hi hiN hl h50).2 a ha
  unfold M_X12_sumOf_L1
  refine ⟨fun j z m => ∃ (i' l' : Int) (st : List Int) (d : am_Val), pz_post lim pz_val N i l (i', l', st, d) ∧ pz_loop pz_adds P c j i' l' st d = .inr r ∧ 400 ≤ j + i' ∧ z = ev_v live b d env ∧ m = am_ev m0 (B + i') (ev_bb live b d env), ⟨400, _, _, _, _, hp, hr, by have := hp.1; omega, rfl, rfl⟩, ?_⟩
  rintro j z m ⟨i', l', st, d, hp, hr, hj, rfl, rfl⟩
  have p1 := hp.1
  have p4 := hp.2.2.2.1
  simp only [] at p1 p4
  unfold M_X12_sumOf_L1B M_X12_sumOf_J1
  simp only [ev_g, codeAt_ev H (show 0 ≤ i' by omega) p1.2.1, sgn_43, sgn_45, ite_br]
  have hex : pz_adds (c i') = none → K (ev_v live b d env) (am_ev m0 (B + i') (ev_bb live b d env)) := by
    intro e
    have : pz_loop pz_adds P c j i' l' st d = .inr (i', l', st, d) := by
      cases j with
      | zero => rfl
      | succ j => simp only [pz_loop, e]
    rw [this] at hr
    cases hr
    exact hK
  have hgo : ∀ h s, pz_adds (c i') = some h → (s = 0 ∧ h = 9 ∨ s = 1 ∧ h = 8) → M_X12_sumOf_J2 R 168 live (ev_v live b d env) s (fun v2' m' => ∃ j', j' < j ∧ ∃ (i' l' : Int) (st : List Int) (d : am_Val), pz_post lim pz_val N i l (i', l', st, d) ∧ pz_loop pz_adds P c j' i' l' st d = .inr r ∧ 400 ≤ j' + i' ∧ v2' = ev_v live b d env ∧ m' = am_ev m0 (B + i') (ev_bb live b d env)) K (am_ev m0 (B + i') (ev_bb live b d env)) := by
    intro h s e hs
    have hne : i' ≠ N := fun q => by rw [q, hN] at e; cases e
    cases j with
    | zero => omega
    | succ j =>
      simp only [pz_loop, e] at hr
      obtain ⟨q, hq, hr⟩ := pz_bd_inr hr
      have g2 := (hok (i' + 1) l' (by omega) (by omega) (by omega) (by omega)).2 q hq
      have gl := (pz_loop_ok (lim := lim) (Q := pz_val) hN hok (ops := pz_adds) rfl (fun x h e => by have := pz_adds_h x h e; omega) (fun x h e d d' _ _ => pz_val_jn (pz_adds_h x h e)) i l hi hl 1 i' l' st d hp).2 (q.1, q.2.1, st ++ q.2.2.1 ++ [h * 2048], pz_jn h d q.2.2.2) (by simp only [pz_loop, e, hq, pz_bd])
      unfold M_X12_sumOf_J2 M_X12_sumOf_J3
      simp only [forall_eq, ev_g, ev_sg, ite_br]
      rw [w32_of (z := B + i' + 1) (by omega) (by omega), show B + i' + 1 = B + (i' + 1) by omega]
      refine hP live _ (i' + 1) l' q _ hq (by omega) (by omega) (by omega) (by omega) hlv (ev_bb01 hb) ?_
      have b1 := ev_v_le (live := live) (b := b) hE p4
      have b2 := ev_v_le (live := live) (b := ev_bb live b d env) hE g2.2.2.2.1
      have fin : ∀ x m', x = ev_v live b (pz_jn h d q.2.2.2) env → m' = am_ev m0 (B + q.1) (ev_bb live b (pz_jn h d q.2.2.2) env) → ∃ j', j' < j + 1 ∧ ∃ (i' l' : Int) (st : List Int) (d : am_Val), pz_post lim pz_val N i l (i', l', st, d) ∧ pz_loop pz_adds P c j' i' l' st d = .inr r ∧ 400 ≤ j' + i' ∧ x = ev_v live b d env ∧ m' = am_ev m0 (B + i') (ev_bb live b d env) := by
        intro x m' e1 e2
        exact ⟨j, by omega, _, _, _, _, gl, hr, by have := g2.1; omega, e1, e2⟩
      have hw : w64 (ev_v live b d env + ev_v live (ev_bb live b d env) q.2.2.2 env) = ev_v live b d env + ev_v live (ev_bb live b d env) q.2.2.2 env := w64_of (by omega) (by omega)
      have hw' : w64 (ev_v live b d env - ev_v live (ev_bb live b d env) q.2.2.2 env) = ev_v live b d env - ev_v live (ev_bb live b d env) q.2.2.2 env := w64_of (by omega) (by omega)
      simp only [bounded_ev hlv, hw, hw']
      rcases hs with ⟨rfl, rfl⟩ | ⟨rfl, rfl⟩
      · rw [if_pos rfl]
        obtain ⟨k1, k2⟩ := ev_jn_f (h := 9) (d := d) (e := q.2.2.2) (env := env) (fun x y => x - y) (fun x y => by simp [am_jn]) rfl hlv hb
        split
        · rename_i co
          rw [if_pos co] at k1 k2
          exact fin _ _ k1.symm (by rw [k2])
        · rename_i co
          rw [if_neg co] at k1 k2
          exact fin _ _ k1.symm (by rw [k2])
      · rw [if_neg (by omega)]
        obtain ⟨k1, k2⟩ := ev_jn_f (h := 8) (d := d) (e := q.2.2.2) (env := env) (fun x y => x + y) (fun x y => by simp [am_jn]) rfl hlv hb
        split
        · rename_i co
          rw [if_pos co] at k1 k2
          exact fin _ _ k1.symm (by rw [k2])
        · rename_i co
          rw [if_neg co] at k1 k2
          exact fin _ _ k1.symm (by rw [k2])
  by_cases e1 : c i' = 143
  · rw [if_pos e1, if_neg (by omega)]
    exact hgo 8 1 (by simp [pz_adds, e1]) (Or.inr ⟨rfl, rfl⟩)
  · rw [if_neg e1]
    by_cases e2 : c i' = 145
    · rw [if_neg (by omega), if_pos e1]
      exact hgo 9 0 (by simp [pz_adds, e2]) (Or.inl ⟨rfl, rfl⟩)
    · rw [if_pos e2]
      exact hex (by simp [pz_adds, e1, e2])
/-- times, over, left of -/
theorem ev_termOf (H : ev_H m0 od B N c v env) (hok : pz_ok lim pz_val N P) (hP : ev_P m0 B N env P (R 2)) : ev_P m0 B N env (pz_chain pz_muls P c) (N_X12_termOf R) := by
  intro live b i l r K hr hi hiN hl h50 hlv hb hK
  have hB := ev_H_b H
  have hN := ev_H_N H
  have hE := ev_H_e H
  unfold pz_chain at hr
  obtain ⟨a, ha, hr⟩ := pz_bd_inr hr
  refine ⟨am_ob168, hlv, ?_⟩
  unfold M_X12_termOf
  refine hP live b i l a _ ha hi hiN hl h50 hlv hb ?_
  have hp := (hok i l hi hiN hl h50).2 a ha
  unfold M_X12_termOf_L1
  refine ⟨fun j z m => ∃ (i' l' : Int) (st : List Int) (d : am_Val), pz_post lim pz_val N i l (i', l', st, d) ∧ pz_loop pz_muls P c j i' l' st d = .inr r ∧ 400 ≤ j + i' ∧ z = ev_v live b d env ∧ m = am_ev m0 (B + i') (ev_bb live b d env), ⟨400, _, _, _, _, hp, hr, by have := hp.1; omega, rfl, rfl⟩, ?_⟩
  rintro j z m ⟨i', l', st, d, hp, hr, hj, rfl, rfl⟩
  have p1 := hp.1
  have p4 := hp.2.2.2.1
  simp only [] at p1 p4
  unfold M_X12_termOf_L1B M_X12_termOf_J1
  simp only [ev_g, codeAt_ev H (show 0 ≤ i' by omega) p1.2.1, sgn_42, sgn_47, sgn_37, ite_br]
  have hex : pz_muls (c i') = none → K (ev_v live b d env) (am_ev m0 (B + i') (ev_bb live b d env)) := by
    intro e
    have : pz_loop pz_muls P c j i' l' st d = .inr (i', l', st, d) := by
      cases j with
      | zero => rfl
      | succ j => simp only [pz_loop, e]
    rw [this] at hr
    cases hr
    exact hK
  simp only [forall_eq, ev_g, ev_sg]
  rw [w32_of (z := B + i' + 1) (by omega) (by omega), show B + i' + 1 = B + (i' + 1) by omega]
  generalize hC : (fun v2' m' => ∃ j', j' < j ∧ ∃ (i' l' : Int) (st : List Int) (d : am_Val), pz_post lim pz_val N i l (i', l', st, d) ∧ pz_loop pz_muls P c j' i' l' st d = .inr r ∧ 400 ≤ j' + i' ∧ v2' = ev_v live b d env ∧ m' = am_ev m0 (B + i') (ev_bb live b d env)) = C6
  have hgo : ∀ h, pz_muls (c i') = some h → (c i' = 142 ∧ h = 10 ∨ c i' = 147 ∧ h = 11 ∨ c i' = 137 ∧ h = 12) → R 2 [168, live] (fun r_11 m_12 => if c i' = 142 then M_X12_termOf_J4 R 168 live (ev_v live b d env) (c i') r_11 C6 K m_12 else if am_cmp r_11 0 ≠ 0 then M_X12_termOf_J4 R 168 live (ev_v live b d env) (c i') r_11 C6 K m_12 else if m_12 168 24 ≠ 0 then M_X12_termOf_J2 R 168 live (ev_v live b d env) (c i') 168 C6 K m_12 else if live = 0 then M_X12_termOf_J3 R 168 live (ev_v live b d env) (c i') 168 0 C6 K m_12 else M_X12_termOf_J2 R 168 live (ev_v live b d env) (c i') 168 C6 K m_12) (am_ev m0 (B + (i' + 1)) (ev_bb live b d env)) := by
    intro h e hs
    have hne : i' ≠ N := fun q => by rw [q, hN] at e; cases e
    cases j with
    | zero => omega
    | succ j =>
      simp only [pz_loop, e] at hr
      obtain ⟨q, hq, hr⟩ := pz_bd_inr hr
      have g2 := (hok (i' + 1) l' (by omega) (by omega) (by omega) (by omega)).2 q hq
      have gl := (pz_loop_ok (lim := lim) (Q := pz_val) hN hok (ops := pz_muls) rfl (fun x h e => by have := pz_muls_h x h e; omega) (fun x h e d d' _ _ => pz_val_jn (pz_muls_h x h e)) i l hi hl 1 i' l' st d hp).2 (q.1, q.2.1, st ++ q.2.2.1 ++ [h * 2048], pz_jn h d q.2.2.2) (by simp only [pz_loop, e, hq, pz_bd])
      refine hP live _ (i' + 1) l' q _ hq (by omega) (by omega) (by omega) (by omega) hlv (ev_bb01 hb) ?_
      have b1 := ev_v_le (live := live) (b := b) hE p4
      have b2 := ev_v_le (live := live) (b := ev_bb live b d env) hE g2.2.2.2.1
      have fin : ∀ x m', x = ev_v live b (pz_jn h d q.2.2.2) env → m' = am_ev m0 (B + q.1) (ev_bb live b (pz_jn h d q.2.2.2) env) → C6 x m' := by
        intro x m' e1 e2
        rw [← hC]
        exact ⟨j, by omega, _, _, _, _, gl, hr, by have := g2.1; omega, e1, e2⟩
      have i01 := ev_bb01 (live := live) (d := q.2.2.2) (env := env) (ev_bb01 (live := live) (d := d) (env := env) hb)
      unfold M_X12_termOf_J3 M_X12_termOf_J2 M_X12_termOf_J3 M_X12_termOf_J4 M_X12_termOf_J5
      simp only [forall_eq, ev_sb, sgn_42, sgn_47, ite_br, cmp_3, bounded_ev hlv, ev_b]
      have hdiv : ∀ (h : Int) (f : Int → Int → Int), (∀ x y, am_jn h x y = if y = 0 then none else am_bd (f x y)) → f 0 1 = 0 → (∀ x y, -1000000000 ≤ x ∧ x ≤ 1000000000 → -1000000000 ≤ f x y ∧ f x y ≤ 1000000000) → (∀ x m', x = ev_v live b (pz_jn h d q.2.2.2) env → m' = am_ev m0 (B + q.1) (ev_bb live b (pz_jn h d q.2.2.2) env) → C6 x m') → ∀ (G : Int → Int → Prop), (∀ y bb, y ≠ 0 → (if live = 1 ∧ (w64 (f (ev_v live b d env) y) < -1000000000 ∨ 1000000000 < w64 (f (ev_v live b d env) y)) then C6 0 (am_ev m0 (B + q.1) 1) else C6 (if bb = 0 then w64 (f (ev_v live b d env) y) else 0) (am_ev m0 (B + q.1) bb)) → G y bb) →
          if ev_v live (ev_bb live b d env) q.2.2.2 env ≠ 0 then G (ev_v live (ev_bb live b d env) q.2.2.2 env) (ev_bb live (ev_bb live b d env) q.2.2.2 env) else if ev_bb live (ev_bb live b d env) q.2.2.2 env ≠ 0 then G 1 1 else if live = 0 then G 1 0 else G 1 1 := by
        intro h f hf f0 fle fin G hG
        obtain ⟨k1, k2⟩ := ev_jn_d (h := h) (d := d) (e := q.2.2.2) (env := env) f hf f0 hlv hb
        have hfx := fle _ (ev_v live (ev_bb live b d env) q.2.2.2 env) b1
        have hf1 := fle _ 1 b1
        have hw1 : w64 (f (ev_v live b d env) 1) = f (ev_v live b d env) 1 := w64_of (by omega) (by omega)
        by_cases hy : ev_v live (ev_bb live b d env) q.2.2.2 env = 0
        · obtain ⟨k3, k4, k5⟩ := k1 hy
          rw [if_neg (by simp [hy])]
          rcases hlv with rfl | rfl
          · rw [if_neg (by decide)] at k4
            rcases i01 with g2 | g2
            · rw [if_neg (by simp [g2]), if_pos rfl]
              refine hG _ _ (by decide) ?_
              rw [if_neg (by simp), if_pos rfl, hw1, k5 rfl, f0]
              exact fin _ _ k3.symm (by rw [k4, g2])
            · rw [if_pos (by simp [g2])]
              refine hG _ _ (by decide) ?_
              rw [if_neg (by simp), if_neg (by decide)]
              exact fin _ _ k3.symm (by rw [k4, g2])
          · rw [if_pos rfl] at k4
            have hh : G 1 1 := by
              refine hG _ _ (by decide) ?_
              rw [hw1, if_neg (by omega), if_neg (by decide)]
              exact fin _ _ k3.symm (by rw [k4])
            split
            · exact hh
            · rw [if_neg (by decide)]; exact hh
        · obtain ⟨k3, k4⟩ := k2 hy
          have hw : w64 (f (ev_v live b d env) (ev_v live (ev_bb live b d env) q.2.2.2 env)) = f (ev_v live b d env) (ev_v live (ev_bb live b d env) q.2.2.2 env) := w64_of (by omega) (by omega)
          rw [if_pos hy]
          refine hG _ _ hy ?_
          rw [hw]
          split
          · rename_i co
            rw [if_pos co] at k3 k4
            exact fin _ _ k3.symm (by rw [k4])
          · rename_i co
            rw [if_neg co] at k3 k4
            exact fin _ _ k3.symm (by rw [k4])
      rcases hs with ⟨g, rfl⟩ | ⟨g, rfl⟩ | ⟨g, rfl⟩
      · rw [if_pos g, if_neg (by simp [g])]
        obtain ⟨k1, k2⟩ := ev_jn_f (h := 10) (d := d) (e := q.2.2.2) (env := env) (fun x y => x * y) (fun x y => by simp [am_jn]) rfl hlv hb
        have hm := ev_mul_le b1 b2
        rw [w64_of (by omega) (by omega)]
        split
        · rename_i co
          rw [if_pos co] at k1 k2
          exact fin _ _ k1.symm (by rw [k2])
        · rename_i co
          rw [if_neg co] at k1 k2
          exact fin _ _ k1.symm (by rw [k2])
      · have g1 : c i' ≠ 142 := by omega
        have g2 : ¬ c i' ≠ 147 := by omega
        simp only [if_neg g1, if_pos g1, if_neg g2]
        exact hdiv 11 Int.tdiv (fun x y => by simp [am_jn]) rfl (fun x y h => ev_tdiv_le h) fin (fun y bb => y ≠ 0 ∧ if live = 1 ∧ (w64 (Int.tdiv (ev_v live b d env) y) < -1000000000 ∨ 1000000000 < w64 (Int.tdiv (ev_v live b d env) y)) then C6 0 (am_ev m0 (B + q.1) 1) else C6 (if bb = 0 then w64 (Int.tdiv (ev_v live b d env) y) else 0) (am_ev m0 (B + q.1) bb)) (fun y bb hy hh => ⟨hy, hh⟩)
      · have g1 : c i' ≠ 142 := by omega
        have g2 : c i' ≠ 147 := by omega
        simp only [if_neg g1, if_pos g1, if_pos g2]
        exact hdiv 12 Int.tmod (fun x y => by simp [am_jn]) rfl (fun x y h => ev_tmod_le h) fin (fun y bb => y ≠ 0 ∧ if live = 1 ∧ (w64 (Int.tmod (ev_v live b d env) y) < -1000000000 ∨ 1000000000 < w64 (Int.tmod (ev_v live b d env) y)) then C6 0 (am_ev m0 (B + q.1) 1) else C6 (if bb = 0 then w64 (Int.tmod (ev_v live b d env) y) else 0) (am_ev m0 (B + q.1) bb)) (fun y bb hy hh => ⟨hy, hh⟩)
  by_cases e1 : c i' = 142
  · rw [if_pos e1]
    exact hgo 10 (by simp [pz_muls, e1]) (Or.inl ⟨e1, rfl⟩)
  · rw [if_neg e1]
    by_cases e2 : c i' = 147
    · rw [if_pos e2]
      exact hgo 11 (by simp [pz_muls, e2]) (Or.inr (Or.inl ⟨e2, rfl⟩))
    · rw [if_neg e2]
      by_cases e3 : c i' = 137
      · rw [if_neg (by omega)]
        exact hgo 12 (by simp [pz_muls, e3]) (Or.inr (Or.inr ⟨e3, rfl⟩))
      · rw [if_pos e3]
        exact hex (by simp [pz_muls, e1, e2, e3])
/-- a PART -/
theorem ev_partOf {S : Option (Int → Int → pz_R)} (H : ev_H m0 od B N c v env) (hS : ∀ P, S = some P → pz_ok lim pz_val N P ∧ ev_P m0 B N env P (R 0)) : ev_P m0 B N env (pz_part od c v S) (N_X12_partOf R) := by
  intro live b i l r K hr hi hiN hl h50 hlv hb hK
  have hB := ev_H_b H
  have hN := ev_H_N H
  have hE := ev_H_e H
  obtain ⟨H1, H2, H3, ⟨H4, -⟩, Hv, Hod, H8, -, Hl, Ho⟩ := id H
  refine ⟨am_ob168, hlv, ?_⟩
  unfold M_X12_partOf
  simp only [sgn_91, passes0_ev H hi hiN]
  unfold pz_part at hr
  by_cases e1 : c i = 191
  · rw [if_pos e1] at hr
    rw [if_pos e1]
    have hne : i ≠ N := fun q => by rw [q, hN] at e1; cases e1
    cases S with
    | none => cases hr
    | some P =>
      obtain ⟨hok, hP⟩ := hS P rfl
      unfold pz_in at hr
      obtain ⟨a, ha, hr⟩ := pz_bd_inr hr
      have hp := (hok (i + 1) l (by omega) (by omega) hl h50).2 a ha
      split at hr
      · cases hr
        simp only [ite_br]
        rw [if_neg (by decide)]
        refine hP live b (i + 1) l a _ ha (by omega) (by omega) hl h50 hlv hb ?_
        simp only [forall_eq, ev_g, ev_sg]
        have := hp.1
        rw [w32_of (by omega) (by omega), show B + a.1 + 1 = B + (a.1 + 1) by omega]
        exact hK
      · cases hr
  · rw [if_neg e1] at hr
    rw [if_neg e1]
    simp only [ite_br, if_true, ev_g, codeAt_ev H hi hiN, forall_eq, ev_sg]
    unfold pz_leaf at hr
    by_cases c1 : (c i = 50 ∧ v i ≤ 1000) ∨ pz_wd od (c i)
    · rw [if_pos c1] at hr
      have hw : c i ≠ 0 := by
        rcases c1 with ⟨h, -⟩ | h
        · omega
        · unfold pz_wd at h; rcases Hod with rfl | rfl <;> simp at h <;> omega
      have hne : i ≠ N := fun q => by rw [q, hN] at hw; exact hw rfl
      rw [w32_of (z := B + i + 1) (by omega) (by omega), show B + i + 1 = B + (i + 1) by omega]
      by_cases c2 : 50 ≤ l
      · rw [if_pos c2] at hr; cases hr
      · rw [if_neg c2] at hr
        by_cases c3 : c i = 19 ∨ c i = 20
        · rw [if_pos c3] at hr
          have ho : od = 1 := by
            rcases Hod with rfl | rfl
            · rcases c1 with ⟨h, -⟩ | h
              · omega
              · unfold pz_wd at h; simp at h; omega
            · rfl
          subst ho
          by_cases c4 : c (i + 1) = 50 ∧ v (i + 1) ≤ 7
          · rw [if_pos c4] at hr
            cases hr
            have hne2 : i + 1 ≠ N := fun q => by rw [q, hN] at c4; omega
            have hv1 := Hv (i + 1)
            have h7 := H3 (i + 1) (by omega) (by omega)
            obtain ⟨-, ho2⟩ := Ho rfl
            obtain ⟨t1, t2⟩ := ho2 (v (i + 1)) hv1 (by omega)
            have hJ : M_X12_partOf_J1 R 168 live (c i) K (am_ev m0 (B + (i + 1)) b) := by
              unfold M_X12_partOf_J1 M_X12_partOf_J2 M_X12_partOf_J3 M_X12_partOf_J4
              simp only [am_rf_all, am_ln_all, ev_g, ite_br, forall_eq, ev_sg, ev_b]
              rw [w32_of (z := 3177 + (B + (i + 1))) (by omega) (by omega), w32_of (z := B + (i + 1) + 1) (by omega) (by omega)]
              simp only [ev_o _ _ _ _ _ (show (170 : Int) ≠ 168 by decide), ev_o _ _ _ _ _ (show (181 : Int) ≠ 168 by decide), ev_o _ _ _ _ _ (show (182 : Int) ≠ 168 by decide), h7, t1, t2]
              refine ⟨by omega, ?_⟩
              simp only [ev_v, ev_bb] at hK
              rw [show B + (i + 1) + 1 = B + (i + 2) by omega]
              have hr1 : 0 ≤ v (i + 1) ∧ v (i + 1) < 8 := by omega
              rcases hlv with rfl | rfl
              · simpa using hK
              · rcases hb with rfl | rfl
                · rcases c3 with h | h
                  · simpa [h, pz_fc, hr1] using hK
                  · simpa [h, pz_fc, hr1] using hK
                · simpa using hK
            rcases c3 with h | h
            · rw [if_pos h, ]; rw [h] at hJ ⊢; exact hJ
            · rw [if_neg (by omega), if_neg (by omega)]; exact hJ
          · rw [if_neg c4] at hr; cases hr
        · rw [if_neg c3] at hr
          rw [if_neg (by omega), if_pos (by omega)]
          unfold M_X12_partOf_J2 M_X12_partOf_J3
          simp only [am_rf_all, am_ln_all, ev_g, ite_br, ev_b]
          rw [if_neg (show ¬ c i = 19 by omega), if_pos (show c i ≠ 20 by omega)]
          by_cases c5 : c i = 50
          · rw [if_pos c5] at hr
            cases hr
            rw [if_neg (show ¬ c i ≠ 50 by omega), w32_of (z := 3177 + (B + (i + 1))) (by omega) (by omega), w32_of (by omega) (by omega), show 3177 + (B + (i + 1)) - 1 = 3177 + (B + i) by omega, ev_o _ _ _ _ _ (show (170 : Int) ≠ 168 by decide), H3 i hi (by omega)]
            simp only [ev_v, ev_bb] at hK
            have hr1 : 0 ≤ 3177 + (B + i) ∧ 3177 + (B + i) < 5977 := by omega
            rcases hlv with rfl | rfl
            · simpa using hK
            · rcases hb with rfl | rfl
              · simpa [hr1] using hK
              · simpa using hK
          · rw [if_neg c5] at hr
            cases hr
            rw [if_pos (show c i ≠ 50 from c5)]
            have hwd : pz_wd od (c i) := by
              rcases c1 with ⟨h, -⟩ | h
              · exact absurd h c5
              · exact h
            rw [ev_k _ _ _ _ (by omega), H8, ev_o _ _ _ _ _ (show (180 : Int) ≠ 168 by decide)]
            simp only [ev_v, ev_bb] at hK
            unfold pz_wd at hwd
            have hfin : 0 ≤ w32 (c i - (if od = 0 then 8 else 15)) ∧ w32 (c i - (if od = 0 then 8 else 15)) < 8 ∧ m0 180 (w32 (c i - (if od = 0 then 8 else 15))) = env (pz_fc od (c i)) := by
              rcases Hod with rfl | rfl
              · simp only [if_true] at hwd ⊢
                rw [w32_of (by omega) (by omega)]
                refine ⟨by omega, by omega, ?_⟩
                rw [Hl rfl _ (by omega) (by omega)]
                congr 1
                unfold pz_fc
                simp only [if_true]
                repeat' split
                all_goals omega
              · simp only [show ¬ ((1 : Int) = 0) by decide, if_false] at hwd ⊢
                rw [w32_of (by omega) (by omega)]
                refine ⟨by omega, by omega, ?_⟩
                rw [(Ho rfl).1 _ (by omega) (by omega)]
                congr 1
                unfold pz_fc
                simp only [show ¬ ((1 : Int) = 0) by decide, if_false]
                repeat' split
                all_goals omega
            obtain ⟨f1, f2, f3⟩ := hfin
            rw [f3]
            rcases hlv with rfl | rfl
            · simpa using hK
            · rcases hb with rfl | rfl
              · simpa [f1, f2] using hK
              · simpa using hK
    · rw [if_neg c1] at hr; cases hr
/-- SUMS -/
theorem ev_sum_ok (H : ev_H m0 od B N c v env) (hlim : lim = if od = 0 then 8 else 24) : ∀ (k F : Nat), 3 * (k + 1) ≤ F → ev_P m0 B N env (pz_sum od c v k) (R_X12_sumOf F 0) := by
  have hN := ev_H_N H
  have hv : ∀ i, 0 ≤ v i := H.2.2.2.2.1
  have hod : od = 0 ∨ od = 1 := H.2.2.2.2.2.1
  intro k
  induction k with
  | zero =>
    intro F hF
    obtain ⟨F, rfl⟩ : ∃ G, F = G + 3 := ⟨F - 3, by omega⟩
    refine ev_sumOf (lim := lim) H (pz_term_ok hN hv hod hlim (fun P h => by cases h)) ?_
    refine ev_termOf (lim := lim) H (pz_part_ok hN hv hod hlim (fun P h => by cases h)) ?_
    exact ev_partOf (lim := lim) H (fun P h => by cases h)
  | succ k ih =>
    intro F hF
    obtain ⟨F, rfl⟩ : ∃ G, F = G + 3 := ⟨F - 3, by omega⟩
    have hs := pz_sum_ok (c := c) (v := v) hN hv hod hlim k
    refine ev_sumOf (lim := lim) H (pz_term_ok hN hv hod hlim (fun P h => by cases h; exact hs)) ?_
    refine ev_termOf (lim := lim) H (pz_part_ok hN hv hod hlim (fun P h => by cases h; exact hs)) ?_
    exact ev_partOf (lim := lim) H (fun P h => by cases h; exact ⟨hs, ih F (by omega)⟩)
end EVB
