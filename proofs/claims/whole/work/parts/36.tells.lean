/-! WHAT A LAW TELLS, of its clauses; the way of the row. -/
def pz_hold (kind : Int) (env : Int → Int) (q : pz_C) : Bool := q.1 == kind && (q.2.2.2.2.2.2 env == some 1) && (q.2.2.1.2 env).isSome
def pz_clamp (lo hi x : Int) : Int := if x < lo then lo else if hi < x then hi else x
def pz_tell (kind lo hi : Int) (env : Int → Int) : List pz_C → Int → Int
  | [], w => w
  | q :: cs, w => pz_tell kind lo hi env cs (if pz_hold kind env q = true then pz_clamp lo hi ((q.2.2.1.2 env).getD 0) else w)
theorem pz_tell_app {kind lo hi : Int} {env : Int → Int} : ∀ (cs ds : List pz_C) (w : Int), pz_tell kind lo hi env (cs ++ ds) w = pz_tell kind lo hi env ds (pz_tell kind lo hi env cs w) := by
  intro cs
  induction cs with
  | nil => intro ds w; rfl
  | cons q cs ih => intro ds w; exact ih ds _
theorem pz_tell_R {kind lo hi : Int} {env : Int → Int} (h : lo ≤ hi) (hl : R32 lo) (hh : R32 hi) : ∀ (cs : List pz_C) (w : Int), R32 w → R32 (pz_tell kind lo hi env cs w) := by
  intro cs
  induction cs with
  | nil => intro w h; exact h
  | cons q cs ih =>
    intro w hw
    refine ih _ ?_
    split
    · unfold pz_clamp
      split
      · exact hl
      · split
        · exact hh
        · unfold R32 at *; omega
    · exact hw
theorem am_l2i_id {z : Int} (h : R32 z) : am_l2i z = z := by
  unfold am_l2i
  rw [Int64.toInt_toInt32, i64_toR (R32_64 h)]
  have := w32_bmod z
  rw [w32_id h] at this
  exact this.symm
section TEL
variable {m0 : am_M} {B N : Int} {c v env : Int → Int}
/-- the tail of a clause: its "if" -/
theorem ev_if (H : ev_H m0 0 B N c v env) {head lo hi v5 kind i l val sb : Int} {s0 s1 s2 : pz_S} {r : Int × Int × pz_C} {C : Int → am_M → Prop} {K : am_KK} (hi0 : 0 ≤ i) (hiN : i ≤ N) (hl : 0 ≤ l) (h50 : l ≤ 50) (hr : pz_tail 0 c v kind s0 s1 s2 i l = .inr r) (hlh : lo ≤ hi) (hsb : sb = 0 ∨ sb = 1) (hval : s0.2 env = none ∧ sb = 1 ∨ s0.2 env = some val ∧ sb = 0)
    (hC : ∀ b, C (if pz_hold (head - 1) env r.2.2 = true then pz_clamp lo hi ((r.2.2.2.2.1.2 env).getD 0) else v5) (am_ev m0 (B + (r.1 + 1)) b)) : M_X12_tells_J1 168 head lo hi v5 (kind + 1) val C K (am_ev m0 (B + i) sb) := by
  have hB := ev_H_b H
  have hN := ev_H_N H
  have hv : ∀ i, 0 ≤ v i := H.2.2.2.2.1
  have hT := ev_test_ok (lim := 8) H rfl 8 301 (by omega) (by omega)
  have hto := pz_test_ok (lim := 8) (c := c) (v := v) hN hB.2.2.2 hv (Or.inl rfl) rfl 8
  unfold pz_tail at hr
  rw [if_pos rfl] at hr
  simp only [pz_bd] at hr
  obtain ⟨t, ht, hr⟩ := pz_bd_inr hr
  cases hr
  simp only [] at hC
  unfold M_X12_tells_J1
  simp only [forall_eq, ev_b, ev_sb, passes0_ev H hi0 hiN]
  unfold pz_if at ht
  have fin : ∀ (j x b : Int) (st : pz_S), t.1 = j → t.2.2 = st → 0 ≤ j → j ≤ N → (x = 0 ∨ x = 1) → ((x ≠ 0 ∧ b = 0) ↔ st.2 env = some 1) → M_X12_tells_J3 168 head lo hi v5 (kind + 1) val sb x C K (am_ev m0 (B + j) b) := by
    intro j x b st hj hst hj0 hjN hx hxb
    subst hj hst
    unfold M_X12_tells_J3 M_X12_tells_J4 M_X12_tells_J5
    simp only [ev_b, ev_g, ev_sg, forall_eq, cmp_2, cmp_4, ite_br]
    rw [w32_of (z := B + t.1 + 1) (by omega) (by omega), show B + t.1 + 1 = B + (t.1 + 1) by omega]
    have hCb := hC b
    unfold pz_hold at hCb
    simp only [] at hCb
    by_cases c1 : kind + 1 ≠ head
    · rw [if_pos c1]
      have : (kind == head - 1) = false := by simp; omega
      simpa [this] using hCb
    · rw [if_neg c1]
      have e1 : (kind == head - 1) = true := by simp; omega
      rw [e1] at hCb
      by_cases c2 : x = 0
      · rw [if_pos c2]
        have : (t.2.2.2 env == some 1) = false := by
          rw [beq_eq_false_iff_ne]; intro q; have := hxb.mpr q; exact this.1 c2
        simpa [this] using hCb
      · rw [if_neg c2]
        by_cases c3 : b ≠ 0
        · rw [if_pos c3]
          have : (t.2.2.2 env == some 1) = false := by
            rw [beq_eq_false_iff_ne]; intro q; have := hxb.mpr q; exact c3 this.2
          simpa [this] using hCb
        · rw [if_neg c3]
          have e2 : (t.2.2.2 env == some 1) = true := by
            rw [beq_iff_eq]; exact hxb.mp ⟨c2, by omega⟩
          rw [e2] at hCb
          rcases hval with ⟨h1, h2⟩ | ⟨h1, h2⟩
          · rw [if_pos (by omega)]
            simpa [h1] using hCb
          · rw [if_neg (by omega)]
            simp only [h1, Option.isSome_some, Bool.and_self, if_true, Option.getD_some, pz_clamp] at hCb
            by_cases c4 : lo ≤ val
            · rw [if_neg (show ¬ val < lo by omega)] at hCb
              rw [if_pos c4]
              by_cases c5 : val ≤ hi
              · rw [if_neg (by omega)] at hCb
                rw [if_pos c5]; exact hCb
              · rw [if_pos (by omega)] at hCb
                rw [if_neg c5]; exact hCb
            · rw [if_pos (by omega)] at hCb
              rw [if_neg c4]; exact hCb
  by_cases e : c i = 4
  · rw [if_pos e] at ht
    rw [if_pos e]
    have hne : i ≠ N := fun q => by rw [q, hN] at e; cases e
    obtain ⟨a, ha, ht⟩ := pz_bd_inr ht
    cases ht
    simp only [ite_br]
    rw [if_neg (by decide)]
    have hp := (hto (i + 1) l (by omega) (by omega) hl h50).2 a ha
    have p1 := hp.1
    refine hT 1 0 (i + 1) l a _ ha (by omega) (by omega) hl h50 (Or.inr rfl) (Or.inl rfl) (fun x hx hxa => ?_)
    have key : (x ≠ 0 ∧ ev_bb 1 0 a.2.2.2 env = 0) ↔ a.2.2.2 env = some 1 := by
      unfold ev_bb
      cases hd : a.2.2.2 env with
      | none => simp
      | some w =>
        have h1 := hxa rfl rfl w hd
        have h2 := hp.2.2.2.1 env w hd
        subst h1
        rcases h2 with rfl | rfl <;> simp
    unfold M_X12_tells_J2
    split
    · rename_i h0
      exact fin a.1 0 _ _ rfl rfl (by omega) p1.2.1 (Or.inl rfl) (by rw [← key, h0])
    · rename_i h0
      exact fin a.1 1 _ _ rfl rfl (by omega) p1.2.1 (Or.inr rfl) (by rw [← key]; simp [h0])
  · rw [if_neg e] at ht
    rw [if_neg e]
    cases ht
    simp only [ite_br]
    rw [if_pos trivial]
    unfold M_X12_tells_J2
    exact fin i 1 0 _ rfl rfl hi0 hiN (Or.inr rfl) (by simp [pz_one])
/-- a clause -/
theorem ev_clause (H : ev_H m0 0 B N c v env) {head lo hi v5 i l b : Int} {r : Int × Int × pz_C} {C : Int → am_M → Prop} {K : am_KK} (hi0 : 0 ≤ i) (hiN : i < N) (hl : 0 ≤ l) (h50 : l ≤ 50) (hr : pz_law c v i l = .inr r) (hlh : lo ≤ hi)
    (hC : ∀ b, C (if pz_hold (head - 1) env r.2.2 = true then pz_clamp lo hi ((r.2.2.2.2.1.2 env).getD 0) else v5) (am_ev m0 (B + (r.1 + 1)) b)) : M_X12_tells_L1B 168 head lo hi v5 C K (am_ev m0 (B + i) b) := by
  have hB := ev_H_b H
  have hN := ev_H_N H
  have hv : ∀ i, 0 ≤ v i := H.2.2.2.2.1
  have hS := ev_sum_ok (lim := 8) H rfl 8 301 (by omega)
  have hso := pz_sum_ok (lim := 8) (c := c) (v := v) hN hv (Or.inl rfl) rfl 8
  unfold M_X12_tells_L1B
  simp only [ev_g, codeAt_ev H hi0 (show i ≤ N by omega), forall_eq, ev_sb, ev_sg]
  rw [ev_k _ _ _ _ (by omega), H.2.2.2.1.1]
  have c1 : ¬ (B + N ≤ B + i) := by omega
  simp only [c1, false_imp_iff, not_false_eq_true, true_imp_iff, true_and, ite_br]
  rw [w32_of (z := B + i + 1) (by omega) (by omega), show B + i + 1 = B + (i + 1) by omega]
  unfold pz_law at hr
  by_cases e : c i = 1 ∨ c i = 2
  · rw [if_pos e] at hr
    rw [if_pos (by omega)]
    obtain ⟨a, ha, hr⟩ := pz_bd_inr hr
    have hp := (hso (i + 1) l (by omega) (by omega) hl h50).2 a ha
    have p1 := hp.1
    refine hS 1 0 (i + 1) l a _ ha (by omega) (by omega) hl h50 (Or.inr rfl) (Or.inl rfl) ?_
    have := ev_if (head := head) (lo := lo) (hi := hi) (v5 := v5) (kind := c i - 1) (val := ev_v 1 0 a.2.2.2 env) (sb := ev_bb 1 0 a.2.2.2 env) (C := C) (K := K) H (show 0 ≤ a.1 by omega) p1.2.1 (show 0 ≤ a.2.1 by omega) p1.2.2.2 hr hlh (ev_bb01 (Or.inl rfl)) (by
      unfold ev_v ev_bb
      cases hd : a.2.2.2 env <;> simp) hC
    rwa [show c i - 1 + 1 = c i by omega] at this
  · rw [if_neg e] at hr
    by_cases e3 : c i = 3
    · rw [if_pos e3] at hr
      rw [if_neg (by omega), e3]
      exact ev_if (head := head) (lo := lo) (hi := hi) (v5 := v5) (kind := 2) (val := 1) (sb := 0) (C := C) (K := K) H (show 0 ≤ i + 1 by omega) (by omega) hl h50 hr hlh (Or.inl rfl) (Or.inr ⟨rfl, rfl⟩) hC
    · rw [if_neg e3] at hr; cases hr
/-- how a TEXT is read goes on -/
theorem pz_law_ok {lim : Int} (hlim : lim = 8) (hN : c N = 0) (h400 : N ≤ 400) (hv : ∀ i, 0 ≤ v i) {i l : Int} (hi : 0 ≤ i) (hiN : i ≤ N) (hl : 0 ≤ l) (h50 : l ≤ 50) {r : Int × Int × pz_C} (hr : pz_law c v i l = .inr r) : (i < r.1 ∧ r.1 ≤ N) ∧ 0 ≤ r.2.1 ∧ r.2.1 ≤ 50 := by
  have hso := pz_sum_ok (lim := lim) (od := 0) (c := c) (v := v) hN hv (Or.inl rfl) hlim 8
  have hto := pz_test_ok (lim := lim) (od := 0) (c := c) (v := v) hN h400 hv (Or.inl rfl) hlim 8
  have tl : ∀ (kind : Int) (s0 s1 s2 : pz_S) (j q : Int), 0 ≤ j → j ≤ N → 0 ≤ q → q ≤ 50 → ∀ r : Int × Int × pz_C, pz_tail 0 c v kind s0 s1 s2 j q = .inr r → (j ≤ r.1 ∧ r.1 ≤ N) ∧ 0 ≤ r.2.1 ∧ r.2.1 ≤ 50 := by
    intro kind s0 s1 s2 j q hj hjN hq hq50 r hr
    unfold pz_tail at hr
    rw [if_pos rfl] at hr
    simp only [pz_bd] at hr
    obtain ⟨t, ht, hr⟩ := pz_bd_inr hr
    cases hr
    unfold pz_if at ht
    by_cases e : c j = 4
    · rw [if_pos e] at ht
      have hne : j ≠ N := fun q => by rw [q, hN] at e; cases e
      obtain ⟨a, ha, ht⟩ := pz_bd_inr ht
      cases ht
      have := ((hto (j + 1) q (by omega) (by omega) hq hq50).2 a ha).1
      simp only []
      omega
    · rw [if_neg e] at ht
      cases ht
      simp only []
      omega
  unfold pz_law at hr
  by_cases e : c i = 1 ∨ c i = 2
  · rw [if_pos e] at hr
    have hne : i ≠ N := fun q => by rw [q, hN] at e; omega
    obtain ⟨a, ha, hr⟩ := pz_bd_inr hr
    have p1 := ((hso (i + 1) l (by omega) (by omega) hl h50).2 a ha).1
    have := tl _ _ _ _ _ _ (by omega) p1.2.1 (by omega) p1.2.2.2 r hr
    omega
  · rw [if_neg e] at hr
    by_cases e3 : c i = 3
    · rw [if_pos e3] at hr
      have hne : i ≠ N := fun q => by rw [q, hN] at e3; omega
      have := tl _ _ _ _ _ _ (by omega) (by omega) hl h50 r hr
      omega
    · rw [if_neg e3] at hr; cases hr
/-- the whole LAW -/
theorem ev_tells_L (H : ev_H m0 0 B N c v env) {head lo hi w : Int} {K : am_KK} {cs : List pz_C} (hlh : lo ≤ hi) (hlR : R32 lo) (hhR : R32 hi) (hwR : R32 w) (hr : pz_read 0 c v N = .inr cs) (hK : ∀ g b, K (pz_tell (head - 1) lo hi env cs w) (am_ev m0 g b)) (b : Int) : M_X12_tells_L1 168 head lo hi w K (am_ev m0 B b) := by
  have hB := ev_H_b H
  have hN := ev_H_N H
  have hv : ∀ i, 0 ≤ v i := H.2.2.2.2.1
  unfold M_X12_tells_L1
  refine ⟨fun j v5 m => ∃ (i b : Int), m = am_ev m0 (B + i) b ∧ ((∃ (n : Nat) (l : Int) (ds : List pz_C), j = n ∧ 0 < n ∧ 0 ≤ i ∧ i ≤ N ∧ 0 ≤ l ∧ l ≤ 50 ∧ pz_text (pz_law c v) c N n i l = .inr ds ∧ R32 v5 ∧ pz_tell (head - 1) lo hi env ds v5 = pz_tell (head - 1) lo hi env cs w) ∨ (N ≤ i ∧ i ≤ N + 1 ∧ v5 = pz_tell (head - 1) lo hi env cs w)), ⟨12, 0, b, by rw [Int.add_zero], Or.inl ⟨12, 0, cs, rfl, by omega, by omega, by omega, by omega, by omega, hr, hwR, rfl⟩⟩, ?_⟩
  rintro j v5 m ⟨i, b, rfl, hh⟩
  have hout : N ≤ i → v5 = pz_tell (head - 1) lo hi env cs w → ∀ C, M_X12_tells_L1B 168 head lo hi v5 C K (am_ev m0 (B + i) b) := by
    intro h1 h2 C
    unfold M_X12_tells_L1B
    rw [ev_g, ev_k _ _ _ _ (by omega), H.2.2.2.1.1]
    have c1 : B + N ≤ B + i := by omega
    simp only [c1, true_imp_iff, not_true_eq_false, false_imp_iff, and_true]
    rw [h2, am_l2i_id (pz_tell_R hlh hlR hhR cs w hwR)]
    exact hK _ _
  rcases hh with ⟨n, l, ds, rfl, hn, hi0, hiN, hl, h50, hr', hv5, ht⟩ | ⟨h1, h1', h2⟩
  · obtain ⟨n, rfl⟩ : ∃ k, j = k + 1 := ⟨j - 1, by omega⟩
    unfold pz_text at hr'
    obtain ⟨a, ha, hr'⟩ := pz_bd_inr hr'
    have hl' := pz_law_ok rfl hN hB.2.2.2 hv hi0 hiN hl h50 ha
    have hlt : i < N := by omega
    refine ev_clause H hi0 hlt hl h50 ha hlh (fun b' => ?_)
    by_cases c1 : N ≤ a.1
    · rw [if_pos c1] at hr'
      cases hr'
      refine ⟨n, by omega, a.1 + 1, b', rfl, Or.inr ⟨by omega, by omega, ?_⟩⟩
      rw [← ht]; rfl
    · rw [if_neg c1] at hr'
      by_cases c2 : c a.1 = 159
      · rw [if_pos c2] at hr'
        obtain ⟨es, he, hr'⟩ := pz_bd_inr hr'
        cases hr'
        have hn0 : 0 < n := by
          rcases Nat.eq_zero_or_pos n with rfl | h
          · cases he
          · exact h
        refine ⟨n, by omega, a.1 + 1, b', rfl, Or.inl ⟨n, a.2.1, es, rfl, hn0, by omega, by omega, by omega, by omega, he, ?_, ht⟩⟩
        split
        · unfold pz_clamp
          split
          · exact hlR
          · split
            · exact hhR
            · unfold R32 at *; omega
        · exact hv5
      · rw [if_neg c2] at hr'; cases hr'
  · exact hout h1 h2 _
end TEL
