/-! THE PARSER IS SOUND: how far it goes, how many PARTS, that its steps do what it tells. -/
def pz_post (lim : Int) (Q : am_Val → Prop) (N i l : Int) (r : Int × Int × List Int × am_Val) : Prop :=
  (i < r.1 ∧ r.1 ≤ N ∧ l < r.2.1 ∧ r.2.1 ≤ 50) ∧ (r.2.2.1.length : Int) ≤ r.1 - i ∧ pz_run lim r.2.2.1 r.2.2.2 (r.2.1 - l) ∧ Q r.2.2.2 ∧ ∀ x ∈ r.2.2.1, 0 ≤ x ∧ x ≤ 100000
def pz_ok (lim : Int) (Q : am_Val → Prop) (N : Int) (P : Int → Int → pz_R) : Prop := ∀ i l, 0 ≤ i → i ≤ N → 0 ≤ l → l ≤ 50 →
  (∀ f, P i l = .inl f → i ≤ f ∧ f ≤ N) ∧ ∀ r, P i l = .inr r → pz_post lim Q N i l r
section LGQ
variable {lim N od : Int} {Q : am_Val → Prop} {c v : Int → Int} {P : Int → Int → pz_R}
theorem pz_leaf_ok (hN : c N = 0) (hv : ∀ i, 0 ≤ v i) (hod : od = 0 ∨ od = 1) (hl : lim = if od = 0 then 8 else 24) : pz_ok lim pz_val N (pz_leaf od c v) := by
  intro i l hi hiN h0 h50
  have hne : ∀ j, j ≤ N → c j ≠ 0 → j + 1 ≤ N := fun j hj h => by
    by_cases e : j = N
    · subst e; exact absurd hN h
    · omega
  have hl24 : lim ≤ 24 := by rw [hl]; split <;> omega
  unfold pz_leaf
  by_cases c1 : (c i = 50 ∧ v i ≤ 1000) ∨ pz_wd od (c i)
  · have hw : c i ≠ 0 := by
      rcases c1 with ⟨h, -⟩ | h
      · omega
      · unfold pz_wd at h; rcases hod with rfl | rfl <;> simp at h <;> omega
    have hi1 := hne i hiN hw
    rw [if_pos c1]
    by_cases c2 : 50 ≤ l
    · rw [if_pos c2]
      exact ⟨fun f h => by cases h; omega, fun r h => by cases h⟩
    · rw [if_neg c2]
      by_cases c3 : c i = 19 ∨ c i = 20
      · rw [if_pos c3]
        have ho : od = 1 := by
          rcases hod with rfl | rfl
          · rcases c1 with ⟨h, -⟩ | h
            · omega
            · unfold pz_wd at h; simp at h; omega
          · rfl
        subst ho
        by_cases c4 : c (i + 1) = 50 ∧ v (i + 1) ≤ 7
        · rw [if_pos c4]
          have hi2 := hne (i + 1) hi1 (by omega)
          have hf : 0 ≤ pz_fc 1 (c i) + v (i + 1) ∧ pz_fc 1 (c i) + v (i + 1) < lim := by
            have := hv (i + 1)
            rw [hl]
            rcases c3 with h | h <;> simp [h, pz_fc] <;> omega
          refine ⟨fun f h => (by cases h), fun r h => ?_⟩
          cases h
          refine ⟨⟨by simp only []; omega, by simp only []; omega, by simp only []; omega, by simp only []; omega⟩, by simp only [List.length_cons, List.length_nil]; omega, ?_, ?_, ?_⟩
          · simp only []
            rw [show l + 1 - l = 1 by omega]
            exact pz_run_fact hf (by rw [hl]; simp)
          · intro env he a ha
            simp only [Option.some.injEq] at ha
            rw [← ha]; exact he _
          · intro x hx
            simp only [List.mem_cons, List.not_mem_nil, or_false] at hx
            omega
        · rw [if_neg c4]
          exact ⟨fun f h => by cases h; omega, fun r h => by cases h⟩
      · rw [if_neg c3]
        by_cases c5 : c i = 50
        · rw [if_pos c5]
          have hvi : v i ≤ 1000 := by
            rcases c1 with ⟨-, h⟩ | h
            · exact h
            · unfold pz_wd at h; rcases hod with rfl | rfl <;> simp at h <;> omega
          have hv0 := hv i
          refine ⟨fun f h => (by cases h), fun r h => ?_⟩
          cases h
          refine ⟨⟨by simp only []; omega, by simp only []; omega, by simp only []; omega, by simp only []; omega⟩, by simp only [List.length_cons, List.length_nil]; omega, ?_, ?_, ?_⟩
          · simp only []
            rw [show l + 1 - l = 1 by omega]
            exact pz_run_num ⟨hv0, hvi⟩
          · intro env he a ha
            simp only [Option.some.injEq] at ha
            omega
          · intro x hx
            simp only [List.mem_cons, List.not_mem_nil, or_false] at hx
            omega
        · rw [if_neg c5]
          have hwd : pz_wd od (c i) := by
            rcases c1 with ⟨h, -⟩ | h
            · exact absurd h c5
            · exact h
          have hf : 0 ≤ pz_fc od (c i) ∧ pz_fc od (c i) < lim := by
            rw [hl]
            unfold pz_wd at hwd
            unfold pz_fc
            rcases hod with rfl | rfl
            · simp at hwd ⊢
              repeat' split
              all_goals omega
            · simp at hwd ⊢
              repeat' split
              all_goals omega
          refine ⟨fun f h => (by cases h), fun r h => ?_⟩
          cases h
          refine ⟨⟨by simp only []; omega, by simp only []; omega, by simp only []; omega, by simp only []; omega⟩, by simp only [List.length_cons, List.length_nil]; omega, ?_, ?_, ?_⟩
          · simp only []
            rw [show l + 1 - l = 1 by omega]
            exact pz_run_fact hf (by rw [hl]; split <;> omega)
          · intro env he a ha
            simp only [Option.some.injEq] at ha
            rw [← ha]; exact he _
          · intro x hx
            simp only [List.mem_cons, List.not_mem_nil, or_false] at hx
            omega
  · rw [if_neg c1]
    exact ⟨fun f h => by cases h; omega, fun r h => by cases h⟩
theorem pz_in_ok {close : Int} {S : Option (Int → Int → pz_R)} (hN : c N = 0) (hc : close ≠ 0) (hS : ∀ P, S = some P → pz_ok lim Q N P) (i l : Int) (hi : 0 ≤ i) (hiN : i < N) (h0 : 0 ≤ l) (h50 : l ≤ 50) : (∀ f, pz_in c close S i l = .inl f → i ≤ f ∧ f ≤ N) ∧ ∀ r, pz_in c close S i l = .inr r → pz_post lim Q N i l r := by
  unfold pz_in
  cases S with
  | none => exact ⟨fun f h => by cases h; omega, fun r h => by cases h⟩
  | some P =>
    obtain ⟨g1, g2⟩ := hS P rfl (i + 1) l (by omega) (by omega) h0 h50
    simp only []
    refine ⟨fun f h => ?_, fun r h => ?_⟩
    · rcases pz_bd_inl h with h | ⟨a, ha, h⟩
      · have := g1 f h; omega
      · have := (g2 a ha).1
        by_cases c1 : c a.1 = close
        · rw [if_pos c1] at h; cases h
        · rw [if_neg c1] at h; cases h; omega
    · obtain ⟨a, ha, h⟩ := pz_bd_inr h
      obtain ⟨p1, p2, p3, p4, p5⟩ := g2 a ha
      by_cases c1 : c a.1 = close
      · rw [if_pos c1] at h
        cases h
        have : a.1 ≠ N := fun e => by rw [e, hN] at c1; exact hc c1.symm
        exact ⟨⟨by simp only []; omega, by simp only []; omega, by simp only []; omega, by simp only []; omega⟩, by simp only []; omega, p3, p4, p5⟩
      · rw [if_neg c1] at h; cases h
theorem pz_part_ok {S : Option (Int → Int → pz_R)} (hN : c N = 0) (hv : ∀ i, 0 ≤ v i) (hod : od = 0 ∨ od = 1) (hl : lim = if od = 0 then 8 else 24) (hS : ∀ P, S = some P → pz_ok lim pz_val N P) : pz_ok lim pz_val N (pz_part od c v S) := by
  intro i l hi hiN h0 h50
  unfold pz_part
  by_cases c1 : c i = 191
  · have : i ≠ N := fun e => by rw [e, hN] at c1; cases c1
    simp only [if_pos c1]
    exact pz_in_ok hN (by omega) hS i l hi (by omega) h0 h50
  · simp only [if_neg c1]
    exact pz_leaf_ok hN hv hod hl i l hi hiN h0 h50
theorem pz_loop_ok {ops : Int → Option Int} (hN : c N = 0) (hP : pz_ok lim Q N P) (h0 : ops 0 = none) (hops : ∀ x h, ops x = some h → 5 ≤ h ∧ h ≤ 12) (hQ : ∀ x h, ops x = some h → ∀ d e, Q d → Q e → Q (pz_jn h d e)) (i0 l0 : Int) (hi0 : 0 ≤ i0) (hl0 : 0 ≤ l0) : ∀ (n : Nat) (i l : Int) (st : List Int) (d : am_Val), pz_post lim Q N i0 l0 (i, l, st, d) →
    (∀ f, pz_loop ops P c n i l st d = .inl f → i0 ≤ f ∧ f ≤ N) ∧ ∀ r, pz_loop ops P c n i l st d = .inr r → pz_post lim Q N i0 l0 r := by
  intro n
  induction n with
  | zero => intro i l st d hp; exact ⟨fun f h => (by cases h), fun r h => by cases h; exact hp⟩
  | succ n ih =>
    intro i l st d hp
    unfold pz_loop
    cases e : ops (c i) with
    | none => exact ⟨fun f h => (by cases h), fun r h => by cases h; exact hp⟩
    | some h =>
      simp only []
      obtain ⟨p1, p2, p3, p4, p5⟩ := hp
      simp only [] at p1 p2 p3 p4 p5
      have hiN : i ≠ N := fun q => by rw [q, hN, h0] at e; cases e
      obtain ⟨g1, g2⟩ := hP (i + 1) l (by omega) (by omega) (by omega) (by omega)
      have key : ∀ a, P (i + 1) l = .inr a → pz_post lim Q N i0 l0 (a.1, a.2.1, st ++ a.2.2.1 ++ [h * 2048], pz_jn h d a.2.2.2) := by
        intro a ha
        obtain ⟨q1, q2, q3, q4, q5⟩ := g2 a ha
        have h5 := hops _ _ e
        refine ⟨⟨by simp only []; omega, by simp only []; omega, by simp only []; omega, by simp only []; omega⟩, ?_, ?_, hQ _ _ e _ _ p4 q4, ?_⟩
        · simp only [List.length_append, List.length_cons, List.length_nil]; omega
        · have := pz_run_jn (by omega) (by omega) h5.1 p3 q3
          simp only []
          rwa [show l - l0 + (a.2.1 - l) = a.2.1 - l0 by omega] at this
        · intro x hx
          simp only [List.mem_append, List.mem_cons, List.not_mem_nil, or_false] at hx
          rcases hx with (hx | hx) | hx
          · exact p5 x hx
          · exact q5 x hx
          · omega
      refine ⟨fun f hf => ?_, fun r hr => ?_⟩
      · rcases pz_bd_inl hf with hf | ⟨a, ha, hf⟩
        · have := g1 f hf; omega
        · exact (ih _ _ _ _ (key a ha)).1 f hf
      · obtain ⟨a, ha, hr⟩ := pz_bd_inr hr
        exact (ih _ _ _ _ (key a ha)).2 r hr
theorem pz_chain_ok {ops : Int → Option Int} (hN : c N = 0) (hP : pz_ok lim Q N P) (h0 : ops 0 = none) (hops : ∀ x h, ops x = some h → 5 ≤ h ∧ h ≤ 12) (hQ : ∀ x h, ops x = some h → ∀ d e, Q d → Q e → Q (pz_jn h d e)) : pz_ok lim Q N (pz_chain ops P c) := by
  intro i l hi hiN hl h50
  obtain ⟨g1, g2⟩ := hP i l hi hiN hl h50
  unfold pz_chain
  refine ⟨fun f hf => ?_, fun r hr => ?_⟩
  · rcases pz_bd_inl hf with hf | ⟨a, ha, hf⟩
    · exact g1 f hf
    · exact (pz_loop_ok hN hP h0 hops hQ i l hi hl 400 _ _ _ _ (g2 a ha)).1 f hf
  · obtain ⟨a, ha, hr⟩ := pz_bd_inr hr
    exact (pz_loop_ok hN hP h0 hops hQ i l hi hl 400 _ _ _ _ (g2 a ha)).2 r hr
theorem pz_lloop_ok {op how : Int} (hN : c N = 0) (h400 : N ≤ 400) (hP : pz_ok lim Q N P) (h0 : op ≠ 0) (hh : how = 3 ∨ how = 4) (hQ : ∀ d e, Q d → Q e → Q (pz_lj how d e)) (i0 l0 : Int) (hi0 : 0 ≤ i0) (hl0 : 0 ≤ l0) : ∀ (n : Nat) (i l : Int) (st : List Int) (d : am_Val), pz_post lim Q N i0 l0 (i, l, st, d) →
    (∀ f, pz_lloop op how P c n i l st d = .inl f → i0 ≤ f ∧ f ≤ N) ∧ ∀ r, pz_lloop op how P c n i l st d = .inr r → pz_post lim Q N i0 l0 r := by
  intro n
  induction n with
  | zero => intro i l st d hp; exact ⟨fun f h => (by cases h), fun r h => by cases h; exact hp⟩
  | succ n ih =>
    intro i l st d hp
    unfold pz_lloop
    by_cases e : c i = op
    · simp only [if_pos e]
      obtain ⟨p1, p2, p3, p4, p5⟩ := hp
      simp only [] at p1 p2 p3 p4 p5
      have hiN : i ≠ N := fun q => by rw [q, hN] at e; exact h0 e.symm
      obtain ⟨g1, g2⟩ := hP (i + 1) l (by omega) (by omega) (by omega) (by omega)
      have key : ∀ a, P (i + 1) l = .inr a → pz_post lim Q N i0 l0 (a.1, a.2.1, st ++ [how * 2048 + (a.2.2.1.length : Int)] ++ a.2.2.1, pz_lj how d a.2.2.2) := by
        intro a ha
        obtain ⟨q1, q2, q3, q4, q5⟩ := g2 a ha
        refine ⟨⟨by simp only []; omega, by simp only []; omega, by simp only []; omega, by simp only []; omega⟩, ?_, ?_, hQ _ _ p4 q4, ?_⟩
        · simp only [List.length_append, List.length_cons, List.length_nil]; omega
        · have := pz_run_lj (by omega) (by omega) hh (by omega) p3 q3
          simp only []
          rwa [show l - l0 + (a.2.1 - l) = a.2.1 - l0 by omega] at this
        · intro x hx
          simp only [List.mem_append, List.mem_cons, List.not_mem_nil, or_false] at hx
          rcases hx with (hx | hx) | hx
          · exact p5 x hx
          · omega
          · exact q5 x hx
      refine ⟨fun f hf => ?_, fun r hr => ?_⟩
      · rcases pz_bd_inl hf with hf | ⟨a, ha, hf⟩
        · have := g1 f hf; omega
        · exact (ih _ _ _ _ (key a ha)).1 f hf
      · obtain ⟨a, ha, hr⟩ := pz_bd_inr hr
        exact (ih _ _ _ _ (key a ha)).2 r hr
    · simp only [if_neg e]
      exact ⟨fun f h => (by cases h), fun r h => by cases h; exact hp⟩
theorem pz_lchain_ok {op how : Int} (hN : c N = 0) (h400 : N ≤ 400) (hP : pz_ok lim Q N P) (h0 : op ≠ 0) (hh : how = 3 ∨ how = 4) (hQ : ∀ d e, Q d → Q e → Q (pz_lj how d e)) : pz_ok lim Q N (pz_lchain op how P c) := by
  intro i l hi hiN hl h50
  obtain ⟨g1, g2⟩ := hP i l hi hiN hl h50
  unfold pz_lchain
  refine ⟨fun f hf => ?_, fun r hr => ?_⟩
  · rcases pz_bd_inl hf with hf | ⟨a, ha, hf⟩
    · exact g1 f hf
    · exact (pz_lloop_ok hN h400 hP h0 hh hQ i l hi hl 400 _ _ _ _ (g2 a ha)).1 f hf
  · obtain ⟨a, ha, hr⟩ := pz_bd_inr hr
    exact (pz_lloop_ok hN h400 hP h0 hh hQ i l hi hl 400 _ _ _ _ (g2 a ha)).2 r hr
theorem pz_muls_h : ∀ x h, pz_muls x = some h → 8 ≤ h ∧ h ≤ 12 := by
  intro x h e
  unfold pz_muls at e
  split at e
  · cases e; omega
  · split at e
    · cases e; omega
    · split at e
      · cases e; omega
      · cases e
theorem pz_adds_h : ∀ x h, pz_adds x = some h → 8 ≤ h ∧ h ≤ 12 := by
  intro x h e
  unfold pz_adds at e
  split at e
  · cases e; omega
  · split at e
    · cases e; omega
    · cases e
theorem pz_term_ok {S : Option (Int → Int → pz_R)} (hN : c N = 0) (hv : ∀ i, 0 ≤ v i) (hod : od = 0 ∨ od = 1) (hl : lim = if od = 0 then 8 else 24) (hS : ∀ P, S = some P → pz_ok lim pz_val N P) : pz_ok lim pz_val N (pz_term od c v S) :=
  pz_chain_ok hN (pz_part_ok hN hv hod hl hS) rfl (fun x h e => by have := pz_muls_h x h e; omega) (fun x h e d d' _ _ => pz_val_jn (pz_muls_h x h e))
theorem pz_sumS_ok {S : Option (Int → Int → pz_R)} (hN : c N = 0) (hv : ∀ i, 0 ≤ v i) (hod : od = 0 ∨ od = 1) (hl : lim = if od = 0 then 8 else 24) (hS : ∀ P, S = some P → pz_ok lim pz_val N P) : pz_ok lim pz_val N (pz_sumS od c v S) :=
  pz_chain_ok hN (pz_term_ok hN hv hod hl hS) rfl (fun x h e => by have := pz_adds_h x h e; omega) (fun x h e d d' _ _ => pz_val_jn (pz_adds_h x h e))
theorem pz_sum_ok (hN : c N = 0) (hv : ∀ i, 0 ≤ v i) (hod : od = 0 ∨ od = 1) (hl : lim = if od = 0 then 8 else 24) (k : Nat) : pz_ok lim pz_val N (pz_sum od c v k) := by
  induction k with
  | zero => exact pz_sumS_ok hN hv hod hl (fun P h => by cases h)
  | succ k ih => exact pz_sumS_ok hN hv hod hl (fun P h => by cases h; exact ih)
theorem pz_sumI_ok (hN : c N = 0) (hv : ∀ i, 0 ≤ v i) (hod : od = 0 ∨ od = 1) (hl : lim = if od = 0 then 8 else 24) (k : Nat) : ∀ P, pz_sumI od c v k = some P → pz_ok lim pz_val N P := by
  intro P h
  cases k with
  | zero => cases h
  | succ k => cases h; exact pz_sum_ok hN hv hod hl k
theorem pz_nots_le (hN : c N = 0) : ∀ (n : Nat) (i : Int), i ≤ N → 0 ≤ pz_nots c n i ∧ i + pz_nots c n i ≤ N := by
  intro n
  induction n with
  | zero => intro i h; simp [pz_nots]; exact h
  | succ n ih =>
    intro i h
    unfold pz_nots
    by_cases e : c i = 7
    · have : i ≠ N := fun q => by rw [q, hN] at e; cases e
      rw [if_pos e]
      have := ih (i + 1) (by omega)
      omega
    · rw [if_neg e]; omega
theorem pz_comp_ok {S : Int → Int → pz_R} (hN : c N = 0) (hS : pz_ok lim pz_val N S) : pz_ok lim pz_bool N (pz_comp c S) := by
  intro i l hi hiN hl h50
  obtain ⟨g1, g2⟩ := hS i l hi hiN hl h50
  have hcmp : ∀ x h, pz_cmp x = some h → 5 ≤ h ∧ h ≤ 7 := by
    intro x h e
    unfold pz_cmp at e
    split at e
    · cases e; omega
    · split at e
      · cases e; omega
      · split at e
        · cases e; omega
        · cases e
  unfold pz_comp
  refine ⟨fun f hf => ?_, fun r hr => ?_⟩
  · rcases pz_bd_inl hf with hf | ⟨a, ha, hf⟩
    · exact g1 f hf
    · obtain ⟨p1, p2, p3, p4, p5⟩ := g2 a ha
      cases e : pz_cmp (c a.1) with
      | none => rw [e] at hf; cases hf; omega
      | some h =>
        rw [e] at hf
        simp only [] at hf
        have : a.1 ≠ N := fun q => by rw [q, hN] at e; cases e
        obtain ⟨k1, k2⟩ := hS (a.1 + 1) a.2.1 (by omega) (by omega) (by omega) (by omega)
        rcases pz_bd_inl hf with hf | ⟨b, hb, hf⟩
        · have := k1 f hf; omega
        · cases hf
  · obtain ⟨a, ha, hr⟩ := pz_bd_inr hr
    obtain ⟨p1, p2, p3, p4, p5⟩ := g2 a ha
    cases e : pz_cmp (c a.1) with
    | none => rw [e] at hr; cases hr
    | some h =>
      rw [e] at hr
      simp only [] at hr
      have : a.1 ≠ N := fun q => by rw [q, hN] at e; cases e
      obtain ⟨k1, k2⟩ := hS (a.1 + 1) a.2.1 (by omega) (by omega) (by omega) (by omega)
      obtain ⟨b, hb, hr⟩ := pz_bd_inr hr
      obtain ⟨q1, q2, q3, q4, q5⟩ := k2 b hb
      cases hr
      have h5 := hcmp _ _ e
      refine ⟨⟨by simp only []; omega, by simp only []; omega, by simp only []; omega, by simp only []; omega⟩, ?_, ?_, pz_bool_jn h5, ?_⟩
      · simp only [List.length_append, List.length_cons, List.length_nil]; omega
      · have := pz_run_jn (by omega) (by omega) h5.1 p3 q3
        simp only []
        rwa [show a.2.1 - l + (b.2.1 - a.2.1) = b.2.1 - l by omega] at this
      · intro x hx
        simp only [List.mem_append, List.mem_cons, List.not_mem_nil, or_false] at hx
        rcases hx with (hx | hx) | hx
        · exact p5 x hx
        · exact q5 x hx
        · omega
theorem pz_plain_ok {S : Int → Int → pz_R} {T : Option (Int → Int → pz_R)} (hN : c N = 0) (hS : pz_ok lim pz_val N S) (hT : ∀ P, T = some P → pz_ok lim pz_bool N P) : pz_ok lim pz_bool N (pz_plain c S T) := by
  intro i l hi hiN hl h50
  have hn := pz_nots_le hN 400 i hiN
  have key : (∀ f, pz_pos c S T (i + pz_nots c 400 i) l = .inl f → i ≤ f ∧ f ≤ N) ∧ ∀ r, pz_pos c S T (i + pz_nots c 400 i) l = .inr r → pz_post lim pz_bool N (i + pz_nots c 400 i) l r := by
    unfold pz_pos
    by_cases e : c (i + pz_nots c 400 i) = 140
    · simp only [if_pos e]
      have : i + pz_nots c 400 i ≠ N := fun q => by rw [q, hN] at e; cases e
      obtain ⟨a1, a2⟩ := pz_in_ok (close := 141) hN (by omega) hT (i + pz_nots c 400 i) l (by omega) (by omega) hl h50
      exact ⟨fun f h => by have := a1 f h; omega, a2⟩
    · simp only [if_neg e]
      obtain ⟨a1, a2⟩ := pz_comp_ok hN hS (i + pz_nots c 400 i) l (by omega) (by omega) hl h50
      exact ⟨fun f h => by have := a1 f h; omega, a2⟩
  unfold pz_plain
  refine ⟨fun f hf => ?_, fun r hr => ?_⟩
  · rcases pz_bd_inl hf with hf | ⟨a, ha, hf⟩
    · exact key.1 f hf
    · split at hf <;> cases hf
  · obtain ⟨a, ha, hr⟩ := pz_bd_inr hr
    obtain ⟨p1, p2, p3, p4, p5⟩ := key.2 a ha
    by_cases e : pz_nots c 400 i % 2 = 1
    · rw [if_pos e] at hr
      cases hr
      refine ⟨⟨by simp only []; omega, by simp only []; omega, by simp only []; omega, by simp only []; omega⟩, ?_, pz_run_not p3, pz_bool_not p4, ?_⟩
      · simp only [List.length_append, List.length_cons, List.length_nil]; omega
      · intro x hx
        simp only [List.mem_append, List.mem_cons, List.not_mem_nil, or_false] at hx
        rcases hx with hx | hx
        · exact p5 x hx
        · omega
    · rw [if_neg e] at hr
      cases hr
      exact ⟨⟨by omega, by omega, by omega, by omega⟩, by omega, p3, p4, p5⟩
theorem pz_both_ok {S : Int → Int → pz_R} {T : Option (Int → Int → pz_R)} (hN : c N = 0) (h400 : N ≤ 400) (hS : pz_ok lim pz_val N S) (hT : ∀ P, T = some P → pz_ok lim pz_bool N P) : pz_ok lim pz_bool N (pz_both c S T) :=
  pz_lchain_ok hN h400 (pz_plain_ok hN hS hT) (by omega) (Or.inl rfl) (fun d e => pz_bool_lj)
theorem pz_testS_ok {S : Int → Int → pz_R} {T : Option (Int → Int → pz_R)} (hN : c N = 0) (h400 : N ≤ 400) (hS : pz_ok lim pz_val N S) (hT : ∀ P, T = some P → pz_ok lim pz_bool N P) : pz_ok lim pz_bool N (pz_testS c S T) :=
  pz_lchain_ok hN h400 (pz_both_ok hN h400 hS hT) (by omega) (Or.inr rfl) (fun d e => pz_bool_lj)
theorem pz_test_ok (hN : c N = 0) (h400 : N ≤ 400) (hv : ∀ i, 0 ≤ v i) (hod : od = 0 ∨ od = 1) (hl : lim = if od = 0 then 8 else 24) (k : Nat) : pz_ok lim pz_bool N (pz_test od c v k) := by
  induction k with
  | zero => exact pz_testS_ok hN h400 (pz_sum_ok hN hv hod hl 0) (fun P h => by cases h)
  | succ k ih => exact pz_testS_ok hN h400 (pz_sum_ok hN hv hod hl (k + 1)) (fun P h => by cases h; exact ih)
theorem pz_testI_ok (hN : c N = 0) (h400 : N ≤ 400) (hv : ∀ i, 0 ≤ v i) (hod : od = 0 ∨ od = 1) (hl : lim = if od = 0 then 8 else 24) (k : Nat) : ∀ P, pz_testI od c v k = some P → pz_ok lim pz_bool N P := by
  intro P h
  cases k with
  | zero => cases h
  | succ k => cases h; exact pz_test_ok hN h400 hv hod hl k
end LGQ
