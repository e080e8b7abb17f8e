/-! A TEXT THAT WAS READ: its clauses are sound, its steps few. -/
theorem pz_run_ne {lim w : Int} {d : am_Val} (h : pz_run lim [] d w) (hw : w ≤ 60) : False := by
  have := h (fun _ => 0) (fun _ => 0) 0 0 [5] (fun _ => by omega) (fun x hx => by simp at hx) (by simp) (by simp; omega) 1 (by omega)
  rw [pz_rn_s, if_pos (by omega)] at this
  cases e : d (fun _ => 0) with
  | none => rw [e] at this; cases this
  | some a =>
    rw [e] at this
    simp only [] at this
    rw [pz_rn_s, if_pos (by simp)] at this
    cases this
def pz_seg (lim : Int) (Q : am_Val → Prop) (s : pz_S) : Prop := s = pz_one ∨ (s.1 ≠ [] ∧ (∃ w, 0 ≤ w ∧ w ≤ 50 ∧ pz_run lim s.1 s.2 w) ∧ Q s.2 ∧ ∀ x ∈ s.1, 0 ≤ x ∧ x ≤ 100000)
def pz_steps (x : pz_C) : List Int := x.2.2.1.1 ++ x.2.2.2.1.1 ++ x.2.2.2.2.1.1 ++ x.2.2.2.2.2.1
def pz_cok (lim : Int) (x : pz_C) : Prop := pz_seg lim pz_val x.2.2.1 ∧ pz_seg lim pz_val x.2.2.2.1 ∧ pz_seg lim pz_val x.2.2.2.2.1 ∧ pz_seg lim pz_bool x.2.2.2.2.2 ∧ (0 ≤ x.1 ∧ x.1 ≤ 4) ∧ (1 ≤ x.2.1 ∧ x.2.1 ≤ 20)
theorem pz_seg_of {lim N i l : Int} {Q : am_Val → Prop} {r : Int × Int × List Int × am_Val} (h : pz_post lim Q N i l r) (hl : 0 ≤ l) : pz_seg lim Q r.2.2 := by
  obtain ⟨h1, h2, h3, h4, h5⟩ := h
  refine Or.inr ⟨fun e => ?_, ⟨_, by omega, by omega, h3⟩, h4, h5⟩
  rw [e] at h3
  exact pz_run_ne h3 (by omega)
theorem pz_one_val : pz_val pz_one.2 := fun env _ a h => by simp only [pz_one] at h; cases h; omega
theorem pz_one_bool : pz_bool pz_one.2 := fun env a h => by simp only [pz_one] at h; cases h; omega
theorem pz_seg_Q {lim : Int} {Q : am_Val → Prop} {s : pz_S} (h : pz_seg lim Q s) (h1 : Q pz_one.2) : Q s.2 := by
  rcases h with rfl | h
  · exact h1
  · exact h.2.2.1
section TXT
variable {lim N od : Int} {c v : Int → Int}
/-- what is asked of a clause's reading that began at i -/
def pz_cpost (lim N i : Int) (n : Int) (r : Int × Int × pz_C) : Prop := (i < r.1 ∧ r.1 ≤ N) ∧ (0 ≤ r.2.1 ∧ r.2.1 ≤ 50) ∧ ((pz_steps r.2.2).length : Int) ≤ r.1 - n ∧ pz_cok lim r.2.2
theorem pz_tail_ok (hN : c N = 0) (h400 : N ≤ 400) (hv : ∀ i, 0 ≤ v i) (hod : od = 0 ∨ od = 1) (hl : lim = if od = 0 then 8 else 24) {kind i l n : Int} {s0 s1 s2 : pz_S} (hk : 0 ≤ kind ∧ kind ≤ 4) (h0 : pz_seg lim pz_val s0) (h1 : pz_seg lim pz_val s1) (h2 : pz_seg lim pz_val s2) (hi : 0 ≤ i) (hn : 0 ≤ n ∧ n < i) (hiN : i ≤ N) (hl0 : 0 ≤ l) (h50 : l ≤ 50) (hlen : (s0.1.length : Int) + s1.1.length + s2.1.length ≤ i - n) :
    (∀ f, pz_tail od c v kind s0 s1 s2 i l = .inl f → i ≤ f ∧ f ≤ N) ∧ ∀ r, pz_tail od c v kind s0 s1 s2 i l = .inr r → pz_cpost lim N n n r := by
  have hto := pz_test_ok (lim := lim) (od := od) (c := c) (v := v) hN h400 hv hod hl 8
  have key : ∀ j t : Int, i ≤ j → j ≤ N → 1 ≤ t → t ≤ 20 → (∀ f, (pz_bd (pz_if od c v j l) fun r => (.inr (r.1, r.2.1, (kind, t, s0, s1, s2, r.2.2)) : Sum Int (Int × Int × pz_C))) = .inl f → i ≤ f ∧ f ≤ N) ∧ ∀ r, (pz_bd (pz_if od c v j l) fun r => (.inr (r.1, r.2.1, (kind, t, s0, s1, s2, r.2.2)) : Sum Int (Int × Int × pz_C))) = .inr r → pz_cpost lim N n n r := by
    intro j t hij hjN ht1 ht2
    unfold pz_if
    by_cases e : c j = 4
    · have hne : j ≠ N := fun q => by rw [q, hN] at e; cases e
      obtain ⟨g1, g2⟩ := hto (j + 1) l (by omega) (by omega) hl0 h50
      simp only [if_pos e]
      refine ⟨fun f hf => ?_, fun r hr => ?_⟩
      · rcases pz_bd_inl hf with hf | ⟨a, ha, hf⟩
        · rcases pz_bd_inl hf with hf | ⟨b, hb, hf⟩
          · have := g1 f hf; omega
          · cases hf
        · cases hf
      · obtain ⟨a, ha, hr⟩ := pz_bd_inr hr
        obtain ⟨b, hb, ha⟩ := pz_bd_inr ha
        cases ha
        cases hr
        have hp := g2 b hb
        have p1 := hp.1
        have p2 := hp.2.1
        refine ⟨⟨by simp only []; omega, by simp only []; omega⟩, ⟨by simp only []; omega, by simp only []; omega⟩, ?_, h0, h1, h2, pz_seg_of hp hl0, hk, ht1, ht2⟩
        simp only [pz_steps, List.length_append]
        omega
    · simp only [if_neg e]
      refine ⟨fun f hf => (by cases hf), fun r hr => ?_⟩
      cases hr
      refine ⟨⟨by simp only []; omega, by simp only []; omega⟩, ⟨by simp only []; omega, by simp only []; omega⟩, ?_, h0, h1, h2, Or.inl rfl, hk, ht1, ht2⟩
      simp only [pz_steps, List.length_append, pz_one, List.length_nil]
      omega
  unfold pz_tail
  by_cases ho : od = 0
  · rw [if_pos ho]
    simp only [pz_bd]
    exact key i 1 (by omega) hiN (by omega) (by omega)
  · rw [if_neg ho]
    unfold pz_times
    by_cases e : c i = 25
    · have hne : i ≠ N := fun q => by rw [q, hN] at e; cases e
      rw [if_pos e]
      by_cases e2 : c (i + 1) = 50 ∧ 1 ≤ v (i + 1) ∧ v (i + 1) ≤ 20
      · have hne2 : i + 1 ≠ N := fun q => by rw [q, hN] at e2; omega
        rw [if_pos e2]
        exact key (i + 2) (v (i + 1)) (by omega) (by omega) (by omega) (by omega)
      · rw [if_neg e2]
        exact ⟨fun f hf => by cases hf; omega, fun r hr => by cases hr⟩
    · rw [if_neg e]
      exact key i 1 (by omega) hiN (by omega) (by omega)
theorem pz_clause_ok (hN : c N = 0) (h400 : N ≤ 400) (hv : ∀ i, 0 ≤ v i) (hod : od = 0 ∨ od = 1) (hl : lim = if od = 0 then 8 else 24) (i l : Int) (hi : 0 ≤ i) (hiN : i ≤ N) (hl0 : 0 ≤ l) (h50 : l ≤ 50) :
    (∀ f, pz_clause od c v i l = .inl f → i ≤ f ∧ f ≤ N) ∧ ∀ r, pz_clause od c v i l = .inr r → pz_cpost lim N i i r := by
  have hso := pz_sum_ok (lim := lim) (od := od) (c := c) (v := v) hN hv hod hl 8
  have one : ∀ Q, pz_seg lim Q pz_one := fun Q => Or.inl rfl
  have lo : (pz_one.1.length : Int) = 0 := rfl
  unfold pz_clause
  rcases hod with rfl | rfl
  · rw [if_pos rfl]
    unfold pz_law
    by_cases e : c i = 1 ∨ c i = 2
    · rw [if_pos e]
      have hne : i ≠ N := fun q => by rw [q, hN] at e; omega
      obtain ⟨g1, g2⟩ := hso (i + 1) l (by omega) (by omega) hl0 h50
      have tl : ∀ a, pz_sum 0 c v 8 (i + 1) l = .inr a → (∀ f, pz_tail 0 c v (c i - 1) a.2.2 pz_one pz_one a.1 a.2.1 = .inl f → i ≤ f ∧ f ≤ N) ∧ ∀ r, pz_tail 0 c v (c i - 1) a.2.2 pz_one pz_one a.1 a.2.1 = .inr r → pz_cpost lim N i i r := by
        intro a ha
        have hp := g2 a ha
        have p1 := hp.1
        have p2 := hp.2.1
        obtain ⟨t1, t2⟩ := pz_tail_ok (n := i) (kind := c i - 1) (s0 := a.2.2) hN h400 hv (Or.inl rfl) hl (by omega) (pz_seg_of hp hl0) (one _) (one _) (show 0 ≤ a.1 by omega) (by omega) p1.2.1 (show 0 ≤ a.2.1 by omega) p1.2.2.2 (by rw [lo]; omega)
        exact ⟨fun f hf => by have := t1 f hf; omega, t2⟩
      refine ⟨fun f hf => ?_, fun r hr => ?_⟩
      · rcases pz_bd_inl hf with hf | ⟨a, ha, hf⟩
        · have := g1 f hf; omega
        · exact (tl a ha).1 f hf
      · obtain ⟨a, ha, hr⟩ := pz_bd_inr hr
        exact (tl a ha).2 r hr
    · rw [if_neg e]
      by_cases e3 : c i = 3
      · rw [if_pos e3]
        have hne : i ≠ N := fun q => by rw [q, hN] at e3; omega
        obtain ⟨t1, t2⟩ := pz_tail_ok (n := i) (kind := 2) (i := i + 1) (l := l) hN h400 hv (Or.inl rfl) hl (by omega) (one _) (one _) (one _) (by omega) (by omega) (by omega) hl0 h50 (by rw [lo]; omega)
        exact ⟨fun f hf => by have := t1 f hf; omega, t2⟩
      · rw [if_neg e3]
        exact ⟨fun f hf => by cases hf; omega, fun r hr => by cases hr⟩
  · rw [if_neg (by decide)]
    unfold pz_order
    by_cases e : c i = 21
    · rw [if_pos e]
      have hne : i ≠ N := fun q => by rw [q, hN] at e; omega
      have key : (∀ f, pz_pray c v (i + 1) l = .inl f → i ≤ f ∧ f ≤ N) ∧ ∀ r, pz_pray c v (i + 1) l = .inr r → (i < r.1 ∧ r.1 ≤ N) ∧ (0 ≤ r.2.1 ∧ r.2.1 ≤ 50) ∧ pz_seg lim pz_val r.2.2.1 ∧ pz_seg lim pz_val r.2.2.2.1 ∧ pz_seg lim pz_val r.2.2.2.2 ∧ (r.2.2.1.1.length : Int) + r.2.2.2.1.1.length + r.2.2.2.2.1.length ≤ r.1 - i := by
        unfold pz_pray
        obtain ⟨g1, g2⟩ := hso (i + 1) l (by omega) (by omega) hl0 h50
        refine ⟨fun f hf => ?_, fun r hr => ?_⟩
        · rcases pz_bd_inl hf with hf | ⟨a, ha, hf⟩
          · have := g1 f hf; omega
          · have pa := (g2 a ha).1
            by_cases e1 : c a.1 = 22
            · rw [if_pos e1] at hf
              have hne1 : a.1 ≠ N := fun q => by rw [q, hN] at e1; omega
              obtain ⟨k1, k2⟩ := hso (a.1 + 1) a.2.1 (by omega) (by omega) (by omega) (by omega)
              rcases pz_bd_inl hf with hf | ⟨b, hb, hf⟩
              · have := k1 f hf; omega
              · have pb := (k2 b hb).1
                by_cases e2 : c b.1 = 23
                · rw [if_pos e2] at hf
                  have hne2 : b.1 ≠ N := fun q => by rw [q, hN] at e2; omega
                  obtain ⟨m1, m2⟩ := hso (b.1 + 1) b.2.1 (by omega) (by omega) (by omega) (by omega)
                  rcases pz_bd_inl hf with hf | ⟨d, hd, hf⟩
                  · have := m1 f hf; omega
                  · cases hf
                · rw [if_neg e2] at hf; cases hf; omega
            · rw [if_neg e1] at hf; cases hf; omega
        · obtain ⟨a, ha, hr⟩ := pz_bd_inr hr
          have ga := g2 a ha
          have pa := ga.1
          by_cases e1 : c a.1 = 22
          · rw [if_pos e1] at hr
            have hne1 : a.1 ≠ N := fun q => by rw [q, hN] at e1; omega
            obtain ⟨k1, k2⟩ := hso (a.1 + 1) a.2.1 (by omega) (by omega) (by omega) (by omega)
            obtain ⟨b, hb, hr⟩ := pz_bd_inr hr
            have gb := k2 b hb
            have pb := gb.1
            by_cases e2 : c b.1 = 23
            · rw [if_pos e2] at hr
              have hne2 : b.1 ≠ N := fun q => by rw [q, hN] at e2; omega
              obtain ⟨m1, m2⟩ := hso (b.1 + 1) b.2.1 (by omega) (by omega) (by omega) (by omega)
              obtain ⟨d, hd, hr⟩ := pz_bd_inr hr
              have gd := m2 d hd
              have pd := gd.1
              cases hr
              have l1 := ga.2.1
              have l2 := gb.2.1
              have l3 := gd.2.1
              refine ⟨⟨by simp only []; omega, by simp only []; omega⟩, ⟨by simp only []; omega, by simp only []; omega⟩, pz_seg_of ga hl0, pz_seg_of gb (by omega), pz_seg_of gd (by omega), ?_⟩
              simp only []
              omega
            · rw [if_neg e2] at hr; cases hr
          · rw [if_neg e1] at hr; cases hr
      have tl : ∀ a, pz_pray c v (i + 1) l = .inr a → (∀ f, pz_tail 1 c v 3 a.2.2.1 a.2.2.2.1 a.2.2.2.2 a.1 a.2.1 = .inl f → i ≤ f ∧ f ≤ N) ∧ ∀ r, pz_tail 1 c v 3 a.2.2.1 a.2.2.2.1 a.2.2.2.2 a.1 a.2.1 = .inr r → pz_cpost lim N i i r := by
        intro a ha
        obtain ⟨p1, p2, p3, p4, p5, p6⟩ := key.2 a ha
        obtain ⟨t1, t2⟩ := pz_tail_ok (n := i) (kind := 3) hN h400 hv (Or.inr rfl) hl (by omega) p3 p4 p5 (show 0 ≤ a.1 by omega) (by omega) p1.2 p2.1 p2.2 p6
        exact ⟨fun f hf => by have := t1 f hf; omega, t2⟩
      refine ⟨fun f hf => ?_, fun r hr => ?_⟩
      · rcases pz_bd_inl hf with hf | ⟨a, ha, hf⟩
        · exact key.1 f hf
        · exact (tl a ha).1 f hf
      · obtain ⟨a, ha, hr⟩ := pz_bd_inr hr
        exact (tl a ha).2 r hr
    · rw [if_neg e]
      by_cases e3 : c i = 24
      · rw [if_pos e3]
        have hne : i ≠ N := fun q => by rw [q, hN] at e3; omega
        obtain ⟨t1, t2⟩ := pz_tail_ok (n := i) (kind := 4) (i := i + 1) (l := l) hN h400 hv (Or.inr rfl) hl (by omega) (one _) (one _) (one _) (by omega) (by omega) (by omega) hl0 h50 (by rw [lo]; omega)
        exact ⟨fun f hf => by have := t1 f hf; omega, t2⟩
      · rw [if_neg e3]
        exact ⟨fun f hf => by cases hf; omega, fun r hr => by cases hr⟩
def pz_tot : List pz_C → Int
  | [] => 0
  | x :: cs => ((pz_steps x).length : Int) + pz_tot cs
theorem pz_tot_0 : ∀ cs, 0 ≤ pz_tot cs := by
  intro cs
  induction cs with
  | nil => exact Int.le_refl _
  | cons x cs ih => unfold pz_tot; omega
theorem pz_text_ok (hN : c N = 0) (h400 : N ≤ 400) (hv : ∀ i, 0 ≤ v i) (hod : od = 0 ∨ od = 1) (hl : lim = if od = 0 then 8 else 24) : ∀ (n : Nat) (i l : Int), 0 ≤ i → i ≤ N → 0 ≤ l → l ≤ 50 →
    (∀ f, pz_text (pz_clause od c v) c N n i l = .inl f → i ≤ f ∧ f ≤ N) ∧ ∀ cs, pz_text (pz_clause od c v) c N n i l = .inr cs → 0 < cs.length ∧ cs.length ≤ n ∧ pz_tot cs ≤ N - i ∧ ∀ x ∈ cs, pz_cok lim x := by
  intro n
  induction n with
  | zero =>
    intro i l hi hiN hl0 h50
    exact ⟨fun f hf => by cases hf; omega, fun cs h => by cases h⟩
  | succ n ih =>
    intro i l hi hiN hl0 h50
    obtain ⟨g1, g2⟩ := pz_clause_ok hN h400 hv hod hl i l hi hiN hl0 h50
    unfold pz_text
    refine ⟨fun f hf => ?_, fun cs hr => ?_⟩
    · rcases pz_bd_inl hf with hf | ⟨a, ha, hf⟩
      · exact g1 f hf
      · obtain ⟨p1, p2, p3, p4⟩ := g2 a ha
        by_cases e1 : N ≤ a.1
        · rw [if_pos e1] at hf; cases hf
        · rw [if_neg e1] at hf
          by_cases e2 : c a.1 = 159
          · rw [if_pos e2] at hf
            rcases pz_bd_inl hf with hf | ⟨b, hb, hf⟩
            · have := (ih (a.1 + 1) a.2.1 (by omega) (by omega) (by omega) (by omega)).1 f hf; omega
            · cases hf
          · rw [if_neg e2] at hf; cases hf; omega
    · obtain ⟨a, ha, hr⟩ := pz_bd_inr hr
      obtain ⟨p1, p2, p3, p4⟩ := g2 a ha
      by_cases e1 : N ≤ a.1
      · rw [if_pos e1] at hr
        cases hr
        refine ⟨by simp, by simp, ?_, ?_⟩
        · simp only [pz_tot]; omega
        · intro x hx
          simp only [List.mem_cons, List.not_mem_nil, or_false] at hx
          subst hx; exact p4
      · rw [if_neg e1] at hr
        by_cases e2 : c a.1 = 159
        · rw [if_pos e2] at hr
          obtain ⟨b, hb, hr⟩ := pz_bd_inr hr
          cases hr
          obtain ⟨q0, q1, q2, q3⟩ := (ih (a.1 + 1) a.2.1 (by omega) (by omega) (by omega) (by omega)).2 b hb
          refine ⟨by simp, by simp only [List.length_cons]; omega, ?_, ?_⟩
          · simp only [pz_tot]; omega
          · intro x hx
            rcases List.mem_cons.mp hx with rfl | hx
            · exact p4
            · exact q3 x hx
        · rw [if_neg e2] at hr; cases hr
end TXT
/-- a Program as its cells have it: from clause q and step z on -/
def pz_pr (cl st : Int → Int) : List pz_C → Int → Int → Prop
  | [], _, _ => True
  | x :: cs, q, z => (cl (7 * q) = x.1 ∧ cl (7 * q + 1) = x.2.1 ∧ cl (7 * q + 2) = z ∧ cl (7 * q + 3) = z + x.2.2.1.1.length ∧ cl (7 * q + 4) = z + x.2.2.1.1.length + x.2.2.2.1.1.length ∧ cl (7 * q + 5) = z + x.2.2.1.1.length + x.2.2.2.1.1.length + x.2.2.2.2.1.1.length ∧ cl (7 * q + 6) = z + (pz_steps x).length) ∧ pz_at st z (pz_steps x) ∧ pz_pr cl st cs (q + 1) (z + (pz_steps x).length)
theorem pz_pr_app {cl st : Int → Int} : ∀ (cs ds : List pz_C) (q z : Int), pz_pr cl st (cs ++ ds) q z ↔ pz_pr cl st cs q z ∧ pz_pr cl st ds (q + cs.length) (z + pz_tot cs) := by
  intro cs
  induction cs with
  | nil => intro ds q z; simp [pz_pr, pz_tot]
  | cons x cs ih =>
    intro ds q z
    simp only [List.cons_append, pz_pr, ih, pz_tot, List.length_cons]
    rw [show q + 1 + (cs.length : Int) = q + ((cs.length + 1 : Nat) : Int) by omega, show z + ((pz_steps x).length : Int) + pz_tot cs = z + (((pz_steps x).length : Int) + pz_tot cs) by omega]
    simp only [and_assoc]
theorem pz_tot_app : ∀ (cs ds : List pz_C), pz_tot (cs ++ ds) = pz_tot cs + pz_tot ds := by
  intro cs
  induction cs with
  | nil => intro ds; simp [pz_tot]
  | cons x cs ih => intro ds; simp only [List.cons_append, pz_tot, ih]; omega
theorem pz_at_of {f g : Int → Int} {z : Int} {st : List Int} (h : pz_at f z st) (e : ∀ x, z ≤ x → x < z + st.length → g x = f x) : pz_at g z st := fun x hx => by rw [e _ (by omega) (by omega)]; exact h x hx
theorem pz_pr_of {cl st cl' st' : Int → Int} : ∀ (cs : List pz_C) (q z : Int), 0 ≤ q → pz_pr cl st cs q z → (∀ x, 7 * q ≤ x → x < 7 * (q + cs.length) → cl' x = cl x) → (∀ x, z ≤ x → x < z + pz_tot cs → st' x = st x) → pz_pr cl' st' cs q z := by
  intro cs
  induction cs with
  | nil => intro q z _ _ _ _; trivial
  | cons x cs ih =>
    intro q z hq h e1 e2
    simp only [List.length_cons, pz_tot] at e1 e2
    have t0 := pz_tot_0 cs
    obtain ⟨⟨h1, h2, h3, h4, h5, h6, h7⟩, h8, h9⟩ := h
    refine ⟨⟨?_, ?_, ?_, ?_, ?_, ?_, ?_⟩, pz_at_of h8 (fun y y0 y1 => e2 y (by omega) (by omega)), ih _ _ (by omega) h9 (fun y y0 y1 => e1 y (by omega) (by omega)) (fun y y0 y1 => e2 y (by omega) (by omega))⟩
    all_goals rw [e1 _ (by omega) (by omega)]; assumption
