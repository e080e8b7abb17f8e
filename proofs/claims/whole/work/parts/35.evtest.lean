/-! THE EVALUATOR OF TESTS. -/
def ev_T (m0 : am_M) (B N : Int) (env : Int → Int) (P : Int → Int → pz_R) (X : am_PT) : Prop := ∀ (live b i l : Int) (r : Int × Int × List Int × am_Val) (K : am_KK), P i l = .inr r → 0 ≤ i → i ≤ N → 0 ≤ l → l ≤ 50 → (live = 0 ∨ live = 1) → (b = 0 ∨ b = 1) → (∀ x, (x = 0 ∨ x = 1) → (live = 1 → b = 0 → ∀ a, r.2.2.2 env = some a → x = a) → K x (am_ev m0 (B + r.1) (ev_bb live b r.2.2.2 env))) → X [168, live] K (am_ev m0 (B + i) b)
theorem pz_nots_at {c : Int → Int} : ∀ (n : Nat) (i : Int), 0 ≤ pz_nots c n i ∧ (∀ x, 0 ≤ x → x < pz_nots c n i → c (i + x) = 7) ∧ (c (i + pz_nots c n i) ≠ 7 ∨ pz_nots c n i = n) := by
  intro n
  induction n with
  | zero => intro i; exact ⟨by simp [pz_nots], fun x h0 h1 => by simp [pz_nots] at h1; omega, Or.inr rfl⟩
  | succ n ih =>
    intro i
    unfold pz_nots
    by_cases e : c i = 7
    · rw [if_pos e]
      obtain ⟨h0, h1, h2⟩ := ih (i + 1)
      refine ⟨by omega, fun x hx0 hx1 => ?_, ?_⟩
      · by_cases ex : x = 0
        · rw [ex, Int.add_zero]; exact e
        · have := h1 (x - 1) (by omega) (by omega)
          rwa [show i + 1 + (x - 1) = i + x by omega] at this
      · rcases h2 with h2 | h2
        · left
          rwa [show i + (pz_nots c n (i + 1) + 1) = i + 1 + pz_nots c n (i + 1) by omega]
        · right; rw [h2]; omega
    · rw [if_neg e]
      exact ⟨by omega, fun x h0 h1 => by omega, Or.inl (by rwa [Int.add_zero])⟩
section EVC
variable {m0 : am_M} {od B N : Int} {c v env : Int → Int} {lim : Int} {P : Int → Int → pz_R} {R : Nat → am_PT}
theorem ev_positiveOf {T : Option (Int → Int → pz_R)} {k : Nat} (H : ev_H m0 od B N c v env) (hlim : lim = if od = 0 then 8 else 24) (hk : k ≤ 8) (hT : ∀ P, T = some P → pz_ok lim pz_bool N P ∧ ev_T m0 B N env P (R 0)) : ev_T m0 B N env (pz_pos c (pz_sum od c v k) T) (N_X12_positiveOf R) := by
  intro live b i l r K hr hi hiN hl h50 hlv hb hK
  have hB := ev_H_b H
  have hN := ev_H_N H
  have hE := ev_H_e H
  have hv : ∀ i, 0 ≤ v i := H.2.2.2.2.1
  have hod : od = 0 ∨ od = 1 := H.2.2.2.2.2.1
  have hS := ev_sum_ok (lim := lim) H hlim k 301 (by omega)
  have hso := pz_sum_ok (c := c) (v := v) hN hv hod hlim k
  refine ⟨am_ob168, hlv, ?_⟩
  unfold M_X12_positiveOf
  simp only [sgn_40, passes0_ev H hi hiN]
  unfold pz_pos at hr
  by_cases e1 : c i = 140
  · rw [if_pos e1] at hr
    rw [if_pos e1]
    have hne : i ≠ N := fun q => by rw [q, hN] at e1; cases e1
    cases T with
    | none => cases hr
    | some P =>
      obtain ⟨hok, hP⟩ := hT P rfl
      unfold pz_in at hr
      obtain ⟨a, ha, hr⟩ := pz_bd_inr hr
      have hp := (hok (i + 1) l (by omega) (by omega) hl h50).2 a ha
      split at hr
      · cases hr
        simp only [ite_br]
        rw [if_neg (by decide)]
        refine hP live b (i + 1) l a _ ha (by omega) (by omega) hl h50 hlv hb (fun x hx hxa => ?_)
        simp only [forall_eq, ev_g, ev_sg]
        have := hp.1
        rw [w32_of (by omega) (by omega), show B + a.1 + 1 = B + (a.1 + 1) by omega]
        exact hK x hx hxa
      · cases hr
  · rw [if_neg e1] at hr
    rw [if_neg e1]
    simp only [ite_br, if_true]
    unfold pz_comp at hr
    obtain ⟨a, ha, hr⟩ := pz_bd_inr hr
    have hp := (hso i l (by omega) (by omega) hl h50).2 a ha
    have p1 := hp.1
    cases e : pz_cmp (c a.1) with
    | none => rw [e] at hr; cases hr
    | some h =>
      rw [e] at hr
      simp only [] at hr
      obtain ⟨q, hq, hr⟩ := pz_bd_inr hr
      cases hr
      have hne : a.1 ≠ N := fun q => by rw [q, hN] at e; cases e
      have hp2 := (hso (a.1 + 1) a.2.1 (by omega) (by omega) (by omega) (by omega)).2 q hq
      refine hS live b i l a _ ha (by omega) (by omega) hl h50 hlv hb ?_
      simp only [ev_g, codeAt_ev H (show 0 ≤ a.1 by omega) p1.2.1, forall_eq, ev_sg]
      rw [w32_of (z := B + a.1 + 1) (by omega) (by omega), show B + a.1 + 1 = B + (a.1 + 1) by omega]
      refine hS live _ (a.1 + 1) a.2.1 q _ hq (by omega) (by omega) (by omega) (by omega) hlv (ev_bb01 hb) ?_
      simp only [ev_b, sgn_60, sgn_62, cmp_1, cmp_2, cmp_3, cmp_4]
      have hbb : ev_bb live (ev_bb live b a.2.2.2 env) q.2.2.2 env = ev_bb live b (pz_jn h a.2.2.2 q.2.2.2) env := by
        have h567 : h = 5 ∨ h = 6 ∨ h = 7 := by
          unfold pz_cmp at e
          repeat' split at e
          all_goals first | (cases e; omega) | cases e
        unfold ev_bb pz_jn
        cases a.2.2.2 env with
        | none => rcases hlv with rfl | rfl <;> simp
        | some x =>
          cases q.2.2.2 env with
          | none => rcases hlv with rfl | rfl <;> simp
          | some y =>
            have : am_jn h x y ≠ none := by rcases h567 with rfl | rfl | rfl <;> simp [am_jn]
            rcases hlv with rfl | rfl <;> simp [this]
      rw [hbb]
      have fin : ∀ x, (x = 0 ∨ x = 1) → (live = 1 → b = 0 → ∀ y z, a.2.2.2 env = some y → q.2.2.2 env = some z → am_jn h y z = some x) → K x (am_ev m0 (B + q.1) (ev_bb live b (pz_jn h a.2.2.2 q.2.2.2) env)) := by
        intro x hx hxx
        refine hK x hx (fun h1 h2 w hw => ?_)
        simp only [pz_jn] at hw
        cases ea : a.2.2.2 env with
        | none => rw [ea] at hw; cases hw
        | some y =>
          cases eb : q.2.2.2 env with
          | none => rw [ea, eb] at hw; cases hw
          | some z =>
            rw [ea, eb] at hw
            have := hxx h1 h2 y z ea eb
            simp only [] at hw
            rw [this] at hw
            cases hw; rfl
      have hval : live = 1 → b = 0 → ∀ y z, a.2.2.2 env = some y → q.2.2.2 env = some z → ev_v live b a.2.2.2 env = y ∧ ev_v live (ev_bb live b a.2.2.2 env) q.2.2.2 env = z := by
        intro h1 h2 y z h3 h4
        subst h1 h2
        simp [ev_v, ev_bb, h3, h4]
      rw [← hbb] at fin ⊢
      generalize hbt : ev_bb live (ev_bb live b a.2.2.2 env) q.2.2.2 env = bt at *
      by_cases l0 : live = 0
      · simp only [l0, ne_eq, not_true_eq_false, false_imp_iff, true_imp_iff, and_true]
        rw [l0] at fin
        exact fin 0 (Or.inl rfl) (fun h => by omega)
      · have l1 : live = 1 := by omega
        subst l1
        by_cases b0 : bt = 0
        · subst b0
          simp only [show ¬ ((1 : Int) = 0) by decide, not_false_eq_true, false_imp_iff, true_imp_iff, true_and, ne_eq, not_true_eq_false]
          generalize hx : ev_v 1 b a.2.2.2 env = x at *
          generalize hy : ev_v 1 (ev_bb 1 b a.2.2.2 env) q.2.2.2 env = y at *
          have hfin : ∀ z, (z = 0 ∨ z = 1) → am_jn h x y = some z → K z (am_ev m0 (B + q.1) 0) := fun z hz hj => fin z hz (fun h1 h2 y' z' h3 h4 => by
            obtain ⟨g1, g2⟩ := hval h1 h2 y' z' h3 h4
            rw [← g1, ← g2]; exact hj)
          unfold pz_cmp at e
          by_cases c1 : c a.1 = 160
          · simp only [c1, if_true, Option.some.injEq] at e
            subst e
            simp only [c1, ne_eq, not_true_eq_false, if_false]
            split
            · exact hfin 0 (Or.inl rfl) (by simp [am_jn]; omega)
            · exact hfin 1 (Or.inr rfl) (by simp [am_jn]; omega)
          · by_cases c2 : c a.1 = 162
            · simp only [c2, show ¬ ((162 : Int) = 160) by decide, if_true, if_false, Option.some.injEq] at e
              subst e
              simp only [c2, ne_eq, show ¬ ((162 : Int) = 160) by decide, not_true_eq_false, if_false, not_false_eq_true, if_true]
              split
              · exact hfin 0 (Or.inl rfl) (by simp [am_jn]; omega)
              · exact hfin 1 (Or.inr rfl) (by simp [am_jn]; omega)
            · by_cases c3 : c a.1 = 161
              · simp only [c3, show ¬ ((161 : Int) = 160) by decide, show ¬ ((161 : Int) = 162) by decide, if_true, if_false, Option.some.injEq] at e
                subst e
                simp only [c3, ne_eq, show ¬ ((161 : Int) = 160) by decide, show ¬ ((161 : Int) = 162) by decide, not_false_eq_true, not_true_eq_false, if_true, if_false]
                by_cases hxy : x = y
                · rw [if_neg (by simp [hxy])]
                  exact hfin 1 (Or.inr rfl) (by simp [am_jn, hxy])
                · rw [if_pos hxy]
                  exact hfin 0 (Or.inl rfl) (by simp [am_jn, hxy])
              · simp [c1, c2, c3] at e
        · simp only [b0, ne_eq, show ¬ ((1 : Int) = 0) by decide, not_false_eq_true, not_true_eq_false, false_imp_iff, true_imp_iff, true_and, and_true]
          refine fin 0 (Or.inl rfl) (fun h1 h2 y z h3 h4 => ?_)
          exfalso
          apply b0
          rw [← hbt, h2]
          simp [ev_bb, h3, h4]
theorem ev_plainOf {T : Option (Int → Int → pz_R)} {S : Int → Int → pz_R} (H : ev_H m0 od B N c v env) (hok : ∀ i l r, 0 ≤ i → i ≤ N → 0 ≤ l → l ≤ 50 → pz_pos c S T i l = .inr r → pz_bool r.2.2.2) (hP : ev_T m0 B N env (pz_pos c S T) (R 3)) : ev_T m0 B N env (pz_plain c S T) (N_X12_plainOf R) := by
  intro live b i l r K hr hi hiN hl h50 hlv hb hK
  have hB := ev_H_b H
  have hN := ev_H_N H
  refine ⟨am_ob168, hlv, ?_⟩
  unfold M_X12_plainOf M_X12_plainOf_L1
  obtain ⟨n0, n1, n2⟩ := pz_nots_at (c := c) 400 i
  have nle := pz_nots_le hN 400 i hiN
  have n3 : c (i + pz_nots c 400 i) ≠ 7 := by
    rcases n2 with n2 | n2
    · exact n2
    · intro q
      have : i + pz_nots c 400 i = N := by omega
      rw [this, hN] at q
      cases q
  unfold pz_plain at hr
  obtain ⟨a, ha, hr⟩ := pz_bd_inr hr
  have hbo := hok _ _ _ (by omega) (by omega) hl h50 ha
  refine ⟨fun j z m => ∃ x : Int, 0 ≤ x ∧ x ≤ pz_nots c 400 i ∧ j = (pz_nots c 400 i - x).toNat ∧ z = x % 2 ∧ m = am_ev m0 (B + (i + x)) b, ⟨_, 0, by omega, by omega, rfl, rfl, by rw [Int.add_zero]⟩, ?_⟩
  rintro j z m ⟨x, hx0, hx1, rfl, rfl, rfl⟩
  unfold M_X12_plainOf_L1B M_X12_plainOf_J1
  simp only [passes0_ev H (show 0 ≤ i + x by omega) (show i + x ≤ N by omega), ite_br]
  by_cases e : x = pz_nots c 400 i
  · subst e
    rw [if_neg n3]
    simp only [if_true]
    refine hP live b _ l a _ ha (by omega) (by omega) hl h50 hlv hb (fun y hy hya => ?_)
    by_cases ho : pz_nots c 400 i % 2 = 1
    · rw [if_pos ho] at hr
      cases hr
      rw [ho]
      have hbb : ev_bb live b (pz_not a.2.2.2) env = ev_bb live b a.2.2.2 env := by
        unfold ev_bb pz_not
        cases a.2.2.2 env <;> simp
      simp only [hbb] at hK
      have key : ∀ w, (w = 0 ∨ w = 1) → w = 1 - y → K w (am_ev m0 (B + a.1) (ev_bb live b a.2.2.2 env)) := fun w hw hw2 => hK w hw (fun h1 h2 u hu => by
        unfold pz_not at hu
        cases ea : a.2.2.2 env with
        | none => rw [ea] at hu; cases hu
        | some t =>
          rw [ea] at hu
          have := hya h1 h2 t ea
          simp only [Option.map_some, Option.some.injEq] at hu
          omega)
      split
      · exact key 0 (Or.inl rfl) (by omega)
      · exact key 1 (Or.inr rfl) (by omega)
    · rw [if_neg ho] at hr
      cases hr
      have ho' : pz_nots c 400 i % 2 = 0 := by omega
      rw [ho']
      split
      · rename_i h; exact hK 0 (Or.inl rfl) (fun h1 h2 u hu => by rw [← hya h1 h2 u hu]; exact h.symm)
      · rename_i h; exact hK 1 (Or.inr rfl) (fun h1 h2 u hu => by rw [← hya h1 h2 u hu]; omega)
  · rw [if_pos (n1 x hx0 (by omega))]
    simp only [show ¬ ((1 : Int) = 0) by decide, if_false]
    rw [show i + x + 1 = i + (x + 1) by omega]
    split
    · exact ⟨_, by omega, x + 1, by omega, by omega, rfl, by omega, rfl⟩
    · exact ⟨_, by omega, x + 1, by omega, by omega, rfl, by omega, rfl⟩
/-- and, or -/
theorem ev_lj_bb {live b x live' h : Int} {d e : am_Val} {env : Int → Int} (hl : live = 0 ∨ live = 1) (hb : b = 0 ∨ b = 1) (hx : x = 0 ∨ x = 1) (hxa : live = 1 → b = 0 → ∀ a, d env = some a → x = a) (hh : h = 3 ∨ h = 4) (hl' : live' = if live = 1 ∧ x = (if h = 4 then 0 else 1) then 1 else 0) (hd : pz_bool d) : ev_bb live' (ev_bb live b d env) e env = ev_bb live b (pz_lj h d e) env := by
  unfold ev_bb pz_lj
  subst hl'
  rcases hl with rfl | rfl
  · simp
  · rcases hb with rfl | rfl
    · cases h1 : d env with
      | none => simp
      | some a =>
        have := hxa rfl rfl a h1
        subst this
        rcases hh with rfl | rfl <;> rcases hx with rfl | rfl <;> simp
    · simp
theorem ev_lj_v {live b x y z live' h : Int} {d e : am_Val} {env : Int → Int} (hl : live = 0 ∨ live = 1) (hb : b = 0 ∨ b = 1) (hx : x = 0 ∨ x = 1) (hxa : live = 1 → b = 0 → ∀ a, d env = some a → x = a) (hh : h = 3 ∨ h = 4) (hl' : live' = if live = 1 ∧ x = (if h = 4 then 0 else 1) then 1 else 0) (hy : y = 0 ∨ y = 1) (hya : live' = 1 → ev_bb live b d env = 0 → ∀ a, e env = some a → y = a) (hz : z = if h = 4 then (if x = 1 then 1 else y) else (if x = 0 then 0 else y)) : live = 1 → b = 0 → ∀ a, pz_lj h d e env = some a → z = a := by
  intro h1 h2 a ha
  subst h1 h2 hl' hz
  unfold pz_lj at ha
  cases e1 : d env with
  | none => rw [e1] at ha; cases ha
  | some w =>
    rw [e1] at ha
    have hw := hxa rfl rfl w e1
    subst hw
    simp only [] at ha
    have hbb : ev_bb 1 0 d env = 0 := by simp [ev_bb, e1]
    rcases hh with rfl | rfl <;> rcases hx with rfl | rfl
    · simp at ha ⊢; exact ha
    · simp at ha ⊢; exact hya (by simp) hbb a ha
    · simp at ha ⊢; exact hya (by simp) hbb a ha
    · simp at ha ⊢; exact ha
theorem ev_bothOf (H : ev_H m0 od B N c v env) (hok : pz_ok lim pz_bool N P) (hP : ev_T m0 B N env P (R 2)) : ev_T m0 B N env (pz_lchain 6 3 P c) (N_X12_bothOf R) := by
  intro live b i l r K hr hi hiN hl h50 hlv hb hK
  have hB := ev_H_b H
  have hN := ev_H_N H
  unfold pz_lchain at hr
  obtain ⟨a, ha, hr⟩ := pz_bd_inr hr
  refine ⟨am_ob168, hlv, ?_⟩
  unfold M_X12_bothOf
  refine hP live b i l a _ ha hi hiN hl h50 hlv hb (fun x0 hx0 hxa0 => ?_)
  have hp := (hok i l hi hiN hl h50).2 a ha
  unfold M_X12_bothOf_L1
  refine ⟨fun j z m => ∃ (i' l' : Int) (st : List Int) (d : am_Val), pz_post lim pz_bool N i l (i', l', st, d) ∧ pz_lloop 6 3 P c j i' l' st d = .inr r ∧ 400 ≤ j + i' ∧ ((z = 0 ∨ z = 1) ∧ (live = 1 → b = 0 → ∀ a, d env = some a → z = a)) ∧ m = am_ev m0 (B + i') (ev_bb live b d env), ⟨400, _, _, _, _, hp, hr, by have := hp.1; omega, ⟨hx0, hxa0⟩, rfl⟩, ?_⟩
  rintro j z m ⟨i', l', st, d, hp, hr, hj, ⟨hz, hza⟩, rfl⟩
  have p1 := hp.1
  have p4 := hp.2.2.2.1
  simp only [] at p1 p4
  unfold M_X12_bothOf_L1B M_X12_bothOf_J1
  simp only [passes0_ev H (show 0 ≤ i' by omega) p1.2.1, ite_br]
  by_cases e : c i' = 6
  · have hne : i' ≠ N := fun q => by rw [q, hN] at e; cases e
    cases j with
    | zero => omega
    | succ j =>
      simp only [pz_lloop, if_pos e] at hr
      obtain ⟨q, hq, hr⟩ := pz_bd_inr hr
      have gl := (pz_lloop_ok (lim := lim) (Q := pz_bool) hN hB.2.2.2 hok (op := 6) (how := 3) (by omega) (Or.inl rfl) (fun d e => pz_bool_lj) i l hi hl 1 i' l' st d hp).2 (q.1, q.2.1, st ++ [3 * 2048 + (q.2.2.1.length : Int)] ++ q.2.2.1, pz_lj 3 d q.2.2.2) (by simp only [pz_lloop, if_pos e, hq, pz_bd])
      have main : ∀ (live' : Int) (C6 : Int → am_M → Prop), live' = (if live = 1 ∧ z = 1 then 1 else 0) → (∀ w, (w = 0 ∨ w = 1) → (live = 1 → b = 0 → ∀ a, pz_lj 3 d q.2.2.2 env = some a → w = a) → C6 w (am_ev m0 (B + q.1) (ev_bb live b (pz_lj 3 d q.2.2.2) env))) → M_X12_bothOf_J2 R 168 live z 168 live' C6 K (am_ev m0 (B + (i' + 1)) (ev_bb live b d env)) := by
        intro live' C6 hl' fin
        unfold M_X12_bothOf_J2 M_X12_bothOf_J3 M_X12_bothOf_J4
        refine hP live' _ (i' + 1) l' q _ hq (by omega) (by omega) (by omega) (by omega) (by rw [hl']; split <;> simp) (ev_bb01 hb) (fun y hy hya => ?_)
        have kb := ev_lj_bb (h := 3) (e := q.2.2.2) hlv hb hz hza (Or.inl rfl) (by simpa using hl') p4
        have kv := fun w hw => ev_lj_v (z := w) (h := 3) (e := q.2.2.2) hlv hb hz hza (Or.inl rfl) (by simpa using hl') hy hya hw
        rw [kb]
        simp only [ite_br]
        split
        · exact fin 0 (Or.inl rfl) (kv _ (by simp [*]))
        · split
          · exact fin 0 (Or.inl rfl) (kv _ (by simp [*]))
          · exact fin 1 (Or.inr rfl) (kv _ (by simp only [show ¬ ((3 : Int) = 4) by decide, if_false]; rw [if_neg (by assumption)]; omega))
      have hq1 := ((hok (i' + 1) l' (by omega) (by omega) (by omega) (by omega)).2 q hq).1
      rw [if_pos e, if_neg (by decide)]
      split
      · exact main 0 _ (by simp [*]) (fun w hw hwa => ⟨j, by omega, _, _, _, _, gl, hr, by omega, ⟨hw, hwa⟩, rfl⟩)
      · split
        · exact main 0 _ (by simp [*]) (fun w hw hwa => ⟨j, by omega, _, _, _, _, gl, hr, by omega, ⟨hw, hwa⟩, rfl⟩)
        · exact main 1 _ (by rw [if_pos (by omega)]) (fun w hw hwa => ⟨j, by omega, _, _, _, _, gl, hr, by omega, ⟨hw, hwa⟩, rfl⟩)
  · have : pz_lloop 6 3 P c j i' l' st d = .inr (i', l', st, d) := by
      cases j with
      | zero => rfl
      | succ j => simp only [pz_lloop, if_neg e]
    rw [this] at hr
    cases hr
    rw [if_neg e, if_pos trivial]
    exact ⟨hz, hK z hz hza⟩
theorem ev_testOf (H : ev_H m0 od B N c v env) (hok : pz_ok lim pz_bool N P) (hP : ev_T m0 B N env P (R 1)) : ev_T m0 B N env (pz_lchain 5 4 P c) (N_X12_testOf R) := by
  intro live b i l r K hr hi hiN hl h50 hlv hb hK
  have hB := ev_H_b H
  have hN := ev_H_N H
  unfold pz_lchain at hr
  obtain ⟨a, ha, hr⟩ := pz_bd_inr hr
  refine ⟨am_ob168, hlv, ?_⟩
  unfold M_X12_testOf
  refine hP live b i l a _ ha hi hiN hl h50 hlv hb (fun x0 hx0 hxa0 => ?_)
  have hp := (hok i l hi hiN hl h50).2 a ha
  unfold M_X12_testOf_L1
  refine ⟨fun j z m => ∃ (i' l' : Int) (st : List Int) (d : am_Val), pz_post lim pz_bool N i l (i', l', st, d) ∧ pz_lloop 5 4 P c j i' l' st d = .inr r ∧ 400 ≤ j + i' ∧ ((z = 0 ∨ z = 1) ∧ (live = 1 → b = 0 → ∀ a, d env = some a → z = a)) ∧ m = am_ev m0 (B + i') (ev_bb live b d env), ⟨400, _, _, _, _, hp, hr, by have := hp.1; omega, ⟨hx0, hxa0⟩, rfl⟩, ?_⟩
  rintro j z m ⟨i', l', st, d, hp, hr, hj, ⟨hz, hza⟩, rfl⟩
  have p1 := hp.1
  have p4 := hp.2.2.2.1
  simp only [] at p1 p4
  unfold M_X12_testOf_L1B M_X12_testOf_J1
  simp only [passes0_ev H (show 0 ≤ i' by omega) p1.2.1, ite_br]
  by_cases e : c i' = 5
  · have hne : i' ≠ N := fun q => by rw [q, hN] at e; cases e
    cases j with
    | zero => omega
    | succ j =>
      simp only [pz_lloop, if_pos e] at hr
      obtain ⟨q, hq, hr⟩ := pz_bd_inr hr
      have gl := (pz_lloop_ok (lim := lim) (Q := pz_bool) hN hB.2.2.2 hok (op := 5) (how := 4) (by omega) (Or.inr rfl) (fun d e => pz_bool_lj) i l hi hl 1 i' l' st d hp).2 (q.1, q.2.1, st ++ [4 * 2048 + (q.2.2.1.length : Int)] ++ q.2.2.1, pz_lj 4 d q.2.2.2) (by simp only [pz_lloop, if_pos e, hq, pz_bd])
      have main : ∀ (live' : Int) (C6 : Int → am_M → Prop), live' = (if live = 1 ∧ z = 0 then 1 else 0) → (∀ w, (w = 0 ∨ w = 1) → (live = 1 → b = 0 → ∀ a, pz_lj 4 d q.2.2.2 env = some a → w = a) → C6 w (am_ev m0 (B + q.1) (ev_bb live b (pz_lj 4 d q.2.2.2) env))) → M_X12_testOf_J2 R 168 live z 168 live' C6 K (am_ev m0 (B + (i' + 1)) (ev_bb live b d env)) := by
        intro live' C6 hl' fin
        unfold M_X12_testOf_J2 M_X12_testOf_J3 M_X12_testOf_J4
        refine hP live' _ (i' + 1) l' q _ hq (by omega) (by omega) (by omega) (by omega) (by rw [hl']; split <;> simp) (ev_bb01 hb) (fun y hy hya => ?_)
        have kb := ev_lj_bb (h := 4) (e := q.2.2.2) hlv hb hz hza (Or.inr rfl) (by simpa using hl') p4
        have kv := fun w hw => ev_lj_v (z := w) (h := 4) (e := q.2.2.2) hlv hb hz hza (Or.inr rfl) (by simpa using hl') hy hya hw
        rw [kb]
        simp only [ite_br]
        split
        · exact fin 1 (Or.inr rfl) (kv _ (by simp only [if_true]; rw [if_pos (by omega)]))
        · split
          · exact fin 0 (Or.inl rfl) (kv _ (by simp only [if_true]; rw [if_neg (by omega)]; omega))
          · exact fin 1 (Or.inr rfl) (kv _ (by simp only [if_true]; rw [if_neg (by omega)]; omega))
      have hq1 := ((hok (i' + 1) l' (by omega) (by omega) (by omega) (by omega)).2 q hq).1
      rw [if_pos e, if_neg (by decide)]
      split
      · exact main 0 _ (by simp [*]) (fun w hw hwa => ⟨j, by omega, _, _, _, _, gl, hr, by omega, ⟨hw, hwa⟩, rfl⟩)
      · split
        · exact main 0 _ (by simp [*]) (fun w hw hwa => ⟨j, by omega, _, _, _, _, gl, hr, by omega, ⟨hw, hwa⟩, rfl⟩)
        · exact main 1 _ (by rw [if_pos (by omega)]) (fun w hw hwa => ⟨j, by omega, _, _, _, _, gl, hr, by omega, ⟨hw, hwa⟩, rfl⟩)
  · have : pz_lloop 5 4 P c j i' l' st d = .inr (i', l', st, d) := by
      cases j with
      | zero => rfl
      | succ j => simp only [pz_lloop, if_neg e]
    rw [this] at hr
    cases hr
    rw [if_neg e, if_pos trivial]
    exact ⟨hz, hK z hz hza⟩
/-- TESTS -/
theorem pz_pos_bool {T : Option (Int → Int → pz_R)} {S : Int → Int → pz_R} (hN : c N = 0) (hS : pz_ok lim pz_val N S) (hT : ∀ P, T = some P → pz_ok lim pz_bool N P) : ∀ i l r, 0 ≤ i → i ≤ N → 0 ≤ l → l ≤ 50 → pz_pos c S T i l = .inr r → pz_bool r.2.2.2 := by
  intro i l r hi hiN hl h50 hr
  unfold pz_pos at hr
  by_cases e : c i = 140
  · rw [if_pos e] at hr
    have : i ≠ N := fun q => by rw [q, hN] at e; cases e
    exact ((pz_in_ok (close := 141) hN (by omega) hT i l hi (by omega) hl h50).2 r hr).2.2.2.1
  · rw [if_neg e] at hr
    exact ((pz_comp_ok hN hS i l hi hiN hl h50).2 r hr).2.2.2.1
theorem ev_test_ok (H : ev_H m0 od B N c v env) (hlim : lim = if od = 0 then 8 else 24) : ∀ (k F : Nat), k ≤ 8 → 4 * (k + 1) ≤ F → ev_T m0 B N env (pz_test od c v k) (R_X12_testOf F 0) := by
  have hN := ev_H_N H
  have hB := ev_H_b H
  have hv : ∀ i, 0 ≤ v i := H.2.2.2.2.1
  have hod : od = 0 ∨ od = 1 := H.2.2.2.2.2.1
  intro k
  induction k with
  | zero =>
    intro F hk hF
    obtain ⟨F, rfl⟩ : ∃ G, F = G + 4 := ⟨F - 4, by omega⟩
    have hs := pz_sum_ok (c := c) (v := v) hN hv hod hlim 0
    refine ev_testOf (lim := lim) H (pz_both_ok hN hB.2.2.2 hs (fun P h => by cases h)) ?_
    refine ev_bothOf (lim := lim) H (pz_plain_ok hN hs (fun P h => by cases h)) ?_
    refine ev_plainOf H (pz_pos_bool (lim := lim) hN hs (fun P h => by cases h)) ?_
    exact ev_positiveOf (lim := lim) H hlim (by omega) (fun P h => by cases h)
  | succ k ih =>
    intro F hk hF
    obtain ⟨F, rfl⟩ : ∃ G, F = G + 4 := ⟨F - 4, by omega⟩
    have hs := pz_sum_ok (c := c) (v := v) hN hv hod hlim (k + 1)
    have ht := pz_test_ok (c := c) (v := v) hN hB.2.2.2 hv hod hlim k
    refine ev_testOf (lim := lim) H (pz_both_ok hN hB.2.2.2 hs (fun P h => by cases h; exact ht)) ?_
    refine ev_bothOf (lim := lim) H (pz_plain_ok hN hs (fun P h => by cases h; exact ht)) ?_
    refine ev_plainOf H (pz_pos_bool (lim := lim) hN hs (fun P h => by cases h; exact ht)) ?_
    exact ev_positiveOf (lim := lim) H hlim (by omega) (fun P h => by cases h; exact ⟨ht, ih F (by omega) (by omega)⟩)
end EVC
