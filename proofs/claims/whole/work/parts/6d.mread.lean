/-! THE ROW's reader follows the parser: CLAUSES, the TEXT. -/
theorem pz_bd_r {α β : Type} (a : α) (f : α → Sum Int β) : pz_bd (.inr a) f = f a := rfl
section MDR
variable {m : am_M} {B : Int → Int} {n od : Int}
theorem mif_ok {lim : Int} (H : md_H m B n od) (hlim : lim = if od = 0 then 8 else 24) {i l : Int} {K : am_KK} (hi : 0 ≤ i) (hiN : i ≤ tz_N B n) (hl : 0 ≤ l) (h50 : l ≤ 50) (k1 : ∀ r, pz_if od (tz_c B n) (tz_v B n) i l = .inr r → K 0 (md_st m r.1 r.2.1 (-1))) (k0 : ∀ e, pz_if od (tz_c B n) (tz_v B n) i l = .inl e → ∀ t l', K 0 (md_st m t l' (tz_p B n e))) :
    M_X12_takes0 168 4 (fun r_1 m_2 => ((r_1 = 0) → K 0 m_2) ∧ (¬ (r_1 = 0) → R_X12_readTest 301 0 [168, 0] (fun _ m_5 => K 0 m_5) m_2)) (md_st m i l (-1)) := by
  have ht := md_test_ok (lim := lim) H hlim 8 301 (by omega) (by omega)
  rw [show (8 : Int) - ((8 : Nat) : Int) = 0 by omega] at ht
  unfold pz_if at k1 k0
  rw [mtakes0 H hi hiN]
  by_cases c : tz_c B n i = 4
  · rw [if_pos c] at k1 k0
    rw [if_pos c]
    have hlt := md_lt H hiN (by rw [c]; decide)
    refine ⟨fun y => absurd y (by decide), fun _ => ?_⟩
    refine ht.1 (i + 1) l _ (by omega) (by omega) hl h50 (fun r hr => ?_) (fun e he t l' => ?_)
    · rw [hr] at k1
      exact k1 (r.1, r.2.1, r.2.2) rfl
    · rw [he] at k0
      exact k0 e rfl t l'
  · rw [if_neg c] at k1
    rw [if_neg c]
    exact ⟨fun _ => k1 (i, l, pz_one) rfl, fun y => absurd rfl y⟩
theorem mif_b {t l b : Int} (hb : b ≠ -1) {K : am_KK} (hK : K 0 (md_st m t l b)) : M_X12_takes0 168 4 (fun r_1 m_2 => ((r_1 = 0) → K 0 m_2) ∧ (¬ (r_1 = 0) → R_X12_readTest 301 0 [168, 0] (fun _ m_5 => K 0 m_5) m_2)) (md_st m t l b) := by
  rw [mtakes0_b hb]
  exact ⟨fun _ => hK, fun y => absurd rfl y⟩
theorem mclause0 (H : md_H m B n 0) {i l : Int} {K : am_KK} (hi : 0 ≤ i) (hiN : i ≤ tz_N B n) (hl : 0 ≤ l) (h50 : l ≤ 50) (k1 : ∀ r, pz_law (tz_c B n) (tz_v B n) i l = .inr r → K 0 (md_st m r.1 r.2.1 (-1))) (k0 : ∀ e, pz_law (tz_c B n) (tz_v B n) i l = .inl e → ∀ t l', K 0 (md_st m t l' (tz_p B n e))) : M_X12_readClause 168 K (md_st m i l (-1)) := by
  obtain ⟨hN, h400, hv⟩ := md_n H
  have hs := md_sum_ok (lim := 8) H rfl 8 301 (by omega) (by omega)
  rw [show (8 : Int) - ((8 : Nat) : Int) = 0 by omega] at hs
  have hso := pz_sum_ok (lim := 8) (c := tz_c B n) (v := tz_v B n) hN hv (Or.inl rfl) rfl 8
  unfold pz_law pz_tail at k1 k0
  have J1 : (tz_c B n i = 1 ∨ tz_c B n i = 2) → M_X12_readClause_J1 168 K (md_st m (i + 1) l (-1)) := by
    intro c
    rw [if_pos c] at k1 k0
    simp only [if_true] at k1 k0
    have hlt := md_lt H hiN (by omega)
    unfold M_X12_readClause_J1
    refine hs.1 (i + 1) l _ (by omega) (by omega) hl h50 (fun r hr => ?_) (fun e he t l' => ?_)
    · rw [hr] at k1 k0
      simp only [pz_bd] at k1 k0
      have ho := ((hso (i + 1) l (by omega) (by omega) hl h50).2 r hr).1
      unfold M_X12_readClause_J2
      refine mif_ok H rfl (by omega) (by omega) (by omega) (by omega) (fun q hq => ?_) (fun e he t l' => ?_)
      · rw [hq] at k1
        exact k1 (q.1, q.2.1, _) rfl
      · rw [he] at k0
        exact k0 e rfl t l'
    · rw [he] at k0
      unfold M_X12_readClause_J2
      exact mif_b (md_pe H e) (k0 e rfl t l')
  unfold M_X12_readClause
  rw [mtakes0 H hi hiN]
  by_cases c1 : tz_c B n i = 1
  · rw [if_pos c1]
    exact ⟨fun _ => J1 (Or.inl c1), fun y => absurd (by decide) y⟩
  rw [if_neg c1]
  refine ⟨fun y => absurd rfl y, fun _ => ?_⟩
  rw [mtakes0 H hi hiN]
  by_cases c2 : tz_c B n i = 2
  · rw [if_pos c2]
    exact ⟨fun y => absurd y (by decide), fun _ => J1 (Or.inr c2)⟩
  rw [if_neg c2]
  rw [if_neg (by omega), if_pos rfl] at k1 k0
  refine ⟨fun _ => ?_, fun y => absurd rfl y⟩
  rw [mmust H hi hiN]
  by_cases c3 : tz_c B n i = 3
  · rw [if_pos c3] at k1 k0
    rw [if_pos c3]
    simp only [pz_bd] at k1 k0
    have hlt := md_lt H hiN (by rw [c3]; decide)
    unfold M_X12_readClause_J2
    refine mif_ok H rfl (by omega) (by omega) hl h50 (fun q hq => ?_) (fun e he t l' => ?_)
    · rw [hq] at k1
      exact k1 (q.1, q.2.1, _) rfl
    · rw [he] at k0
      exact k0 e rfl t l'
  · rw [if_neg c3] at k0
    rw [if_neg c3]
    unfold M_X12_readClause_J2
    exact mif_b (md_pe H i) (k0 i rfl _ _)
theorem mtimes_ok (H : md_H m B n 1) {i l kind : Int} {s0 s1 s2 : pz_S} {K : am_KK} (hi : 0 ≤ i) (hiN : i ≤ tz_N B n) (hl : 0 ≤ l) (h50 : l ≤ 50) (k1 : ∀ r, pz_tail 1 (tz_c B n) (tz_v B n) kind s0 s1 s2 i l = .inr r → K 0 (md_st m r.1 r.2.1 (-1))) (k0 : ∀ e, pz_tail 1 (tz_c B n) (tz_v B n) kind s0 s1 s2 i l = .inl e → ∀ t l', K 0 (md_st m t l' (tz_p B n e))) : M_X12_readOrder_J1 168 K (md_st m i l (-1)) := by
  unfold pz_tail pz_times at k1 k0
  rw [if_neg (by decide)] at k1 k0
  unfold M_X12_readOrder_J1
  rw [mtakes0 H hi hiN]
  by_cases c : tz_c B n i = 25
  · rw [if_pos c] at k1 k0
    rw [if_pos c]
    have hlt := md_lt H hiN (by rw [c]; decide)
    refine ⟨fun y => absurd y (by decide), fun _ => ?_⟩
    rw [mmustN H (by omega) (by omega)]
    by_cases c2 : tz_c B n (i + 1) = 50 ∧ 1 ≤ tz_v B n (i + 1) ∧ tz_v B n (i + 1) ≤ 20
    · rw [if_pos c2] at k1 k0
      rw [if_pos c2]
      simp only [pz_bd] at k1 k0
      have hlt2 := md_lt H (show i + 1 ≤ tz_N B n by omega) (by rw [c2.1]; decide)
      rw [show i + 1 + 1 = i + 2 by omega]
      unfold M_X12_readOrder_J2
      refine mif_ok H rfl (by omega) (by omega) hl h50 (fun q hq => ?_) (fun e he t l' => ?_)
      · rw [hq] at k1
        exact k1 (q.1, q.2.1, _) rfl
      · rw [he] at k0
        exact k0 e rfl t l'
    · rw [if_neg c2] at k0
      rw [if_neg c2]
      unfold M_X12_readOrder_J2
      exact mif_b (md_pe H (i + 1)) (k0 (i + 1) rfl _ _)
  · rw [if_neg c] at k1 k0
    rw [if_neg c]
    simp only [pz_bd] at k1 k0
    refine ⟨fun _ => ?_, fun y => absurd rfl y⟩
    unfold M_X12_readOrder_J2
    refine mif_ok H rfl (by omega) (by omega) hl h50 (fun q hq => ?_) (fun e he t l' => ?_)
    · rw [hq] at k1
      exact k1 (q.1, q.2.1, _) rfl
    · rw [he] at k0
      exact k0 e rfl t l'
theorem mtimes_b {t l b : Int} (hb : b ≠ -1) {K : am_KK} (hK : K 0 (md_st m t l b)) : M_X12_readOrder_J1 168 K (md_st m t l b) := by
  unfold M_X12_readOrder_J1 M_X12_readOrder_J2
  rw [mtakes0_b hb]
  exact ⟨fun _ => mif_b hb hK, fun y => absurd rfl y⟩
theorem mclause1 (H : md_H m B n 1) {i l : Int} {K : am_KK} (hi : 0 ≤ i) (hiN : i ≤ tz_N B n) (hl : 0 ≤ l) (h50 : l ≤ 50) (k1 : ∀ r, pz_order (tz_c B n) (tz_v B n) i l = .inr r → K 0 (md_st m r.1 r.2.1 (-1))) (k0 : ∀ e, pz_order (tz_c B n) (tz_v B n) i l = .inl e → ∀ t l', K 0 (md_st m t l' (tz_p B n e))) : M_X12_readOrder 168 K (md_st m i l (-1)) := by
  obtain ⟨hN, h400, hv⟩ := md_n H
  have hs := md_sum_ok (lim := 24) H rfl 8 301 (by omega) (by omega)
  rw [show (8 : Int) - ((8 : Nat) : Int) = 0 by omega] at hs
  have hso := pz_sum_ok (lim := 24) (c := tz_c B n) (v := tz_v B n) hN hv (Or.inr rfl) rfl 8
  unfold pz_order at k1 k0
  unfold M_X12_readOrder
  rw [mtakes0 H hi hiN]
  by_cases c1 : tz_c B n i = 21
  · rw [if_pos c1] at k1 k0
    rw [if_pos c1]
    have hlt := md_lt H hiN (by rw [c1]; decide)
    refine ⟨fun y => absurd y (by decide), fun _ => ?_⟩
    unfold pz_pray at k1 k0
    refine hs.1 (i + 1) l _ (by omega) (by omega) hl h50 (fun r hr => ?_) (fun e he t l' => ?_)
    · rw [hr] at k1 k0
      simp only [pz_bd] at k1 k0
      have ho := ((hso (i + 1) l (by omega) (by omega) hl h50).2 r hr).1
      rw [mmust H (by omega) ho.2.1]
      by_cases c2 : tz_c B n r.1 = 22
      · rw [if_pos c2] at k1 k0
        rw [if_pos c2]
        have hlt2 := md_lt H ho.2.1 (by rw [c2]; decide)
        refine hs.1 (r.1 + 1) r.2.1 _ (by omega) (by omega) (by omega) (by omega) (fun q hq => ?_) (fun e he t l' => ?_)
        · rw [hq] at k1 k0
          simp only [pz_bd] at k1 k0
          have ho2 := ((hso (r.1 + 1) r.2.1 (by omega) (by omega) (by omega) (by omega)).2 q hq).1
          rw [mmust H (by omega) ho2.2.1]
          by_cases c3 : tz_c B n q.1 = 23
          · rw [if_pos c3] at k1 k0
            rw [if_pos c3]
            have hlt3 := md_lt H ho2.2.1 (by rw [c3]; decide)
            refine hs.1 (q.1 + 1) q.2.1 _ (by omega) (by omega) (by omega) (by omega) (fun p hp => ?_) (fun e he t l' => ?_)
            · rw [hp] at k1 k0
              simp only [pz_bd] at k1 k0
              have ho3 := ((hso (q.1 + 1) q.2.1 (by omega) (by omega) (by omega) (by omega)).2 p hp).1
              exact mtimes_ok H (by omega) ho3.2.1 (by omega) (by omega) k1 k0
            · rw [he] at k0
              exact mtimes_b (md_pe H e) (k0 e rfl t l')
          · rw [if_neg c3] at k0
            rw [if_neg c3]
            exact hs.2 _ _ _ _ (md_pe H q.1) (mtimes_b (md_pe H q.1) (k0 q.1 rfl _ _))
        · rw [he] at k0
          rw [mmust_b (md_pe H e)]
          exact hs.2 _ _ _ _ (md_pe H e) (mtimes_b (md_pe H e) (k0 e rfl t l'))
      · rw [if_neg c2] at k0
        rw [if_neg c2]
        refine hs.2 _ _ _ _ (md_pe H r.1) ?_
        rw [mmust_b (md_pe H r.1)]
        exact hs.2 _ _ _ _ (md_pe H r.1) (mtimes_b (md_pe H r.1) (k0 r.1 rfl _ _))
    · rw [he] at k0
      have he1 := md_pe H e
      rw [mmust_b he1]
      refine hs.2 _ _ _ _ he1 ?_
      rw [mmust_b he1]
      exact hs.2 _ _ _ _ he1 (mtimes_b he1 (k0 e rfl t l'))
  rw [if_neg c1] at k1 k0
  rw [if_neg c1]
  refine ⟨fun _ => ?_, fun y => absurd rfl y⟩
  rw [mmust H hi hiN]
  by_cases c3 : tz_c B n i = 24
  · rw [if_pos c3] at k1 k0
    rw [if_pos c3]
    have hlt := md_lt H hiN (by rw [c3]; decide)
    exact mtimes_ok H (by omega) (by omega) hl h50 k1 k0
  · rw [if_neg c3] at k0
    rw [if_neg c3]
    exact mtimes_b (md_pe H i) (k0 i rfl _ _)
theorem mone (H : md_H m B n od) {i l : Int} {K : am_KK} (hi : 0 ≤ i) (hiN : i ≤ tz_N B n) (hl : 0 ≤ l) (h50 : l ≤ 50) (k1 : ∀ r, pz_clause od (tz_c B n) (tz_v B n) i l = .inr r → K 0 (md_st m r.1 r.2.1 (-1))) (k0 : ∀ e, pz_clause od (tz_c B n) (tz_v B n) i l = .inl e → ∀ t l', K 0 (md_st m t l' (tz_p B n e))) : M_X12_readOne 168 K (md_st m i l (-1)) := by
  unfold M_X12_readOne
  unfold pz_clause at k1 k0
  rw [md_o _ _ _ _ _ _ (by omega), H.2.2.2.2.1]
  rcases H.2.1 with rfl | rfl
  · rw [if_pos rfl] at k1 k0
    exact ⟨fun _ => mclause0 H hi hiN hl h50 k1 k0, fun y => absurd rfl y⟩
  · rw [if_neg (by decide)] at k1 k0
    exact ⟨fun y => absurd y (by decide), fun _ => mclause1 H hi hiN hl h50 k1 k0⟩
/-- whether it is read, where not -/
def md_er (x : Sum Int (List pz_C)) : Sum Int Int := match x with
  | .inl e => .inl e
  | .inr _ => .inr 0
theorem md_er_bd (x : Sum Int (List pz_C)) (a : pz_C) : md_er (pz_bd x fun cs => .inr (a :: cs)) = md_er x := by cases x <;> rfl
theorem mtext (H : md_H m B n od) {K : am_KK} {lim : Int} (hlim : lim = if od = 0 then 8 else 24) {i l : Int} (hi : 0 ≤ i) (hiN : i ≤ tz_N B n) (hl : 0 ≤ l) (h50 : l ≤ 50)
    {RES : Sum Int Int} (hres : (if tz_N B n ≤ i then (.inr 0 : Sum Int Int) else if tz_c B n i = 159 then md_er (pz_text (pz_clause od (tz_c B n) (tz_v B n)) (tz_c B n) (tz_N B n) 11 (i + 1) l) else .inl i) = RES)
    (k1 : RES = .inr 0 → ∀ t l', K 1 (am_st (md_st m t l' (-1)) 168 14 (-1))) (k0 : ∀ e, RES = .inl e → ∀ t l', K 0 (am_st (md_st m t l' (tz_p B n e)) 168 14 (tz_p B n e))) : M_X12_reads_L1 168 1 K (md_st m i l (-1)) := by
  obtain ⟨hN, h400, hv⟩ := md_n H
  have J3b : ∀ e, RES = .inl e → ∀ t l', M_X12_reads_J3 168 K (md_st m t l' (tz_p B n e)) := by
    intro e he t l'
    unfold M_X12_reads_J3
    intro m1 hm1
    rw [md_21] at hm1
    subst hm1
    unfold M_X12_fine
    rw [am_st_ne _ (by omega), md_21]
    exact ⟨fun _ => k0 e he t l', fun y => absurd (md_pe H e) y⟩
  have J3g : RES = .inr 0 → ∀ t l', M_X12_reads_J3 168 K (md_st m t l' (-1)) := by
    intro he t l'
    unfold M_X12_reads_J3
    intro m1 hm1
    rw [md_21] at hm1
    subst hm1
    unfold M_X12_fine
    rw [am_st_ne _ (by omega), md_21]
    exact ⟨fun y => absurd rfl y, fun _ => k1 he t l'⟩
  unfold M_X12_reads_L1
  refine ⟨fun j v m1 => (1 ≤ v ∧ v ≤ 13) ∧ ((v ≤ 12 ∧ ∃ i l, m1 = md_st m i l (-1) ∧ (0 ≤ i ∧ i ≤ tz_N B n) ∧ (0 ≤ l ∧ l ≤ 50) ∧ j = (13 - v).toNat + 1 ∧ (if tz_N B n ≤ i then (.inr 0 : Sum Int Int) else if tz_c B n i = 159 then md_er (pz_text (pz_clause od (tz_c B n) (tz_v B n)) (tz_c B n) (tz_N B n) (12 - v).toNat (i + 1) l) else .inl i) = RES) ∨ (∃ t l e, m1 = md_st m t l (tz_p B n e) ∧ RES = .inl e ∧ j = 0)), ⟨_, by omega, Or.inl ⟨by omega, i, l, rfl, ⟨hi, hiN⟩, ⟨hl, h50⟩, rfl, hres⟩⟩, ?_⟩
  rintro j v m1 ⟨bv, ⟨v12, i, l, rfl, bi, bl, rfl, e⟩ | ⟨t, l, f, rfl, hf, rfl⟩⟩
  · unfold M_X12_reads_L1B
    rw [sgn_59, mtakes0 H bi.1 bi.2]
    by_cases c : tz_c B n i = 159
    · rw [if_pos c]
      have hlt := md_lt H bi.2 (by rw [c]; decide)
      rw [if_neg (by omega), if_pos c] at e
      refine ⟨fun y => absurd y (by decide), fun _ => ⟨fun cv => ?_, fun cv => ?_⟩⟩
      · unfold M_X12_reads_J1 M_X12_reads_J2
        rw [mfine, if_pos rfl]
        refine ⟨fun y => absurd y (by decide), fun _ => ?_⟩
        rw [show (12 - v).toNat = (12 - (v + 1)).toNat + 1 by omega, pz_text] at e
        refine mone H (by omega) (by omega) bl.1 bl.2 (fun r hr => ?_) (fun f hf t l' => ?_)
        · rw [hr] at e
          simp only [pz_bd] at e
          obtain ⟨p1, p2, p3, p4⟩ := (pz_clause_ok (lim := lim) hN (by omega) hv H.2.1 hlim (i + 1) l (by omega) (by omega) bl.1 bl.2).2 r hr
          intro w hw
          rw [w32_of (by omega) (by omega)] at hw
          subst hw
          refine ⟨_, ?_, by omega, Or.inl ⟨by omega, r.1, r.2.1, rfl, by omega, by omega, rfl, ?_⟩⟩
          · omega
          · rw [← e]
            by_cases c1 : tz_N B n ≤ r.1
            · rw [if_pos c1, if_pos c1]; rfl
            · rw [if_neg c1, if_neg c1]
              by_cases c2 : tz_c B n r.1 = 159
              · rw [if_pos c2, if_pos c2]; exact (md_er_bd _ _).symm
              · rw [if_neg c2, if_neg c2]; rfl
        · rw [hf] at e
          intro w hw
          rw [w32_of (by omega) (by omega)] at hw
          subst hw
          exact ⟨0, by omega, by omega, Or.inr ⟨t, l', f, rfl, e.symm, rfl⟩⟩
      · have cv : v = 12 := Classical.not_not.mp cv
        subst cv
        rw [show (12 - (12 : Int)).toNat = 0 by decide, pz_text] at e
        rw [mfaults H (by omega) (by omega)]
        unfold M_X12_reads_J1 M_X12_reads_J2
        rw [mfine, if_neg (md_pe H (i + 1))]
        refine ⟨fun _ => ?_, fun y => absurd rfl y⟩
        intro w hw
        rw [w32_of (by omega) (by omega)] at hw
        subst hw
        exact ⟨0, by omega, by omega, Or.inr ⟨_, _, i + 1, rfl, e.symm, rfl⟩⟩
    · rw [if_neg c]
      refine ⟨fun _ => ?_, fun y => absurd rfl y⟩
      rw [mfine, if_pos rfl, md_19, md_o _ _ _ _ _ _ (by omega), H.2.2.2.2.2.1]
      refine ⟨fun y => absurd y (by decide), fun _ => ⟨fun cN => ?_, fun cN => ?_⟩⟩
      · rw [if_pos cN] at e
        exact J3g e.symm _ _
      · rw [if_neg cN, if_neg c] at e
        rw [mfaults H bi.1 bi.2]
        exact J3b i e.symm _ _
  · have hb := md_pe H f
    unfold M_X12_reads_L1B
    rw [sgn_59, mtakes0_b hb]
    refine ⟨fun _ => ?_, fun y => absurd rfl y⟩
    rw [mfine, if_neg hb]
    exact ⟨fun _ => J3b f hf t l, fun y => absurd rfl y⟩
/-- what reading changes -/
def mr_F (m m' : am_M) : Prop := ∀ o k, ¬ ((o = 168 ∧ (k = 8 ∨ k = 9 ∨ k = 10 ∨ k = 13 ∨ k = 14 ∨ k = 18 ∨ k = 19 ∨ k = 20 ∨ k = 21)) ∨ o = 177 ∨ o = 178 ∨ o = 179) → m' o k = m o k
theorem mreads {lim : Int} (hod : od = 0 ∨ od = 1) (hlim : lim = if od = 0 then 8 else 24) (Hs : ms_H m B n) (hn : m 168 13 = n) {K : am_KK}
    (k1 : ∀ cs, pz_read od (tz_c B n) (tz_v B n) (tz_N B n) = .inr cs → ∀ m', mr_F m m' → m' 168 13 = 0 → m' 168 14 = -1 → m' 168 18 = tz_N B n → (∀ i, 0 ≤ i → i ≤ tz_N B n → m' 177 i = tz_c B n i ∧ m' 178 i = tz_v B n i) → K 1 m')
    (k0 : ∀ e, pz_read od (tz_c B n) (tz_v B n) (tz_N B n) = .inl e → ∀ m', mr_F m m' → m' 168 13 = 0 → m' 168 14 = tz_p B n e → K 0 m') :
    M_X12_readsAs 168 od K m := by
  have key : ∀ m1 : am_M, (∀ o k, ¬ (o = 168 ∧ (k = 8 ∨ k = 9 ∨ k = 10)) → m1 o k = m o k) → m1 168 10 = od → (m1 168 8 = if od = 0 then 8 else 15) → (m1 168 9 = if od = 0 then 15 else 20) → M_X12_reads 168 K m1 := by
    intro m1 f1 e10 e8 e9
    unfold M_X12_reads
    rw [f1 168 13 (by omega), hn]
    refine msplits (ms_H_of Hs (fun o k ho => f1 o k (by omega))) (fun m2 F2 t2 T2 => ?_)
    simp only [forall_eq]
    have em : am_st (am_st (am_st (am_st m2 168 13 0) 168 19 0) 168 20 0) 168 21 (-1) = md_st (am_st m2 168 13 0) 0 0 (-1) := rfl
    rw [em]
    have H : md_H (am_st m2 168 13 0) B n od := ⟨Hs.1, hod, by rw [am_st_ne _ (by omega), F2 _ _ (by omega)]; exact e8, by rw [am_st_ne _ (by omega), F2 _ _ (by omega)]; exact e9, by rw [am_st_ne _ (by omega), F2 _ _ (by omega)]; exact e10, by rw [am_st_ne _ (by omega)]; exact t2, fun i i0 i1 => by rw [am_st_ne _ (by omega), am_st_ne _ (by omega), am_st_ne _ (by omega)]; exact T2 i i0 i1⟩
    obtain ⟨hN, h400, hv⟩ := md_n H
    have fin : ∀ t l b x o k, ¬ ((o = 168 ∧ (k = 8 ∨ k = 9 ∨ k = 10 ∨ k = 13 ∨ k = 14 ∨ k = 18 ∨ k = 19 ∨ k = 20 ∨ k = 21)) ∨ o = 177 ∨ o = 178 ∨ o = 179) → am_st (md_st (am_st m2 168 13 0) t l b) 168 14 x o k = m o k := fun t l b x o k ho => by
      rw [am_st_ne _ (by omega), md_o _ _ _ _ _ _ (by omega), am_st_ne _ (by omega), F2 o k (by omega)]
      exact f1 o k (by omega)
    have f13 : ∀ t l b x, am_st (md_st (am_st m2 168 13 0) t l b) 168 14 x 168 13 = 0 := fun t l b x => by rw [am_st_ne _ (by omega), md_o _ _ _ _ _ _ (by omega), am_st_same]
    unfold pz_read at k1 k0
    rw [pz_text] at k1 k0
    refine mone H (Int.le_refl _) h400.1 (Int.le_refl _) (by omega) (fun r hr => ?_) (fun e he t l' => ?_)
    · rw [hr, pz_bd_r] at k1 k0
      obtain ⟨p1, p2, p3, p4⟩ := (pz_clause_ok (lim := lim) hN (by omega) hv hod hlim 0 0 (by omega) (by omega) (by omega) (by omega)).2 r hr
      refine mtext H hlim (by omega) p1.2 p2.1 p2.2 rfl (fun e t l' => ?_) (fun f e t l' => ?_)
      · have : ∃ cs, (if tz_N B n ≤ r.1 then (.inr [r.2.2] : Sum Int (List pz_C)) else if tz_c B n r.1 = 159 then (pz_bd (pz_text (pz_clause od (tz_c B n) (tz_v B n)) (tz_c B n) (tz_N B n) 11 (r.1 + 1) r.2.1) fun cs => .inr (r.2.2 :: cs)) else .inl r.1) = .inr cs := by
          by_cases c1 : tz_N B n ≤ r.1
          · exact ⟨_, by rw [if_pos c1]⟩
          · rw [if_neg c1] at e ⊢
            by_cases c2 : tz_c B n r.1 = 159
            · rw [if_pos c2] at e ⊢
              cases hx : pz_text (pz_clause od (tz_c B n) (tz_v B n)) (tz_c B n) (tz_N B n) 11 (r.1 + 1) r.2.1 with
              | inl f => rw [hx] at e; cases e
              | inr cs => exact ⟨_, rfl⟩
            · rw [if_neg c2] at e; cases e
        obtain ⟨cs, hcs⟩ := this
        refine k1 cs hcs _ (fin _ _ _ _) (f13 _ _ _ _) (am_st_same _ _ _ _) (by rw [am_st_ne _ (by omega), md_o _ _ _ _ _ _ (by omega), am_st_ne _ (by omega)]; exact t2) (fun i i0 i1 => ?_)
        rw [am_st_ne _ (by omega), md_o _ _ _ _ _ _ (by omega), am_st_ne _ (by omega), am_st_ne _ (by omega), md_o _ _ _ _ _ _ (by omega), am_st_ne _ (by omega)]
        exact ⟨(T2 i i0 i1).1, (T2 i i0 i1).2.1⟩
      · refine k0 f ?_ _ (fin _ _ _ _) (f13 _ _ _ _) (am_st_same _ _ _ _)
        by_cases c1 : tz_N B n ≤ r.1
        · rw [if_pos c1] at e; cases e
        · rw [if_neg c1] at e ⊢
          by_cases c2 : tz_c B n r.1 = 159
          · rw [if_pos c2] at e ⊢
            cases hx : pz_text (pz_clause od (tz_c B n) (tz_v B n)) (tz_c B n) (tz_N B n) 11 (r.1 + 1) r.2.1 with
            | inl g => rw [hx] at e; cases e; rfl
            | inr cs => rw [hx] at e; cases e
          · rw [if_neg c2] at e ⊢; cases e; rfl
    · rw [he] at k0
      unfold M_X12_reads_L1
      refine ⟨fun j v m1 => m1 = md_st (am_st m2 168 13 0) t l' (tz_p B n e), ⟨0, rfl⟩, ?_⟩
      rintro j v m1 rfl
      have hb := md_pe H e
      unfold M_X12_reads_L1B
      rw [sgn_59, mtakes0_b hb]
      refine ⟨fun _ => ?_, fun y => absurd rfl y⟩
      rw [mfine, if_neg hb]
      refine ⟨fun _ => ?_, fun y => absurd rfl y⟩
      unfold M_X12_reads_J3
      intro m3 hm3
      rw [md_21] at hm3
      subst hm3
      unfold M_X12_fine
      rw [am_st_ne _ (by omega), md_21]
      exact ⟨fun _ => k0 e rfl _ (fin _ _ _ _) (f13 _ _ _ _) (am_st_same _ _ _ _), fun y => absurd hb y⟩
  unfold M_X12_readsAs M_X12_readsAs_J1 M_X12_readsAs_J2
  simp only [forall_eq]
  rcases hod with rfl | rfl
  · refine ⟨fun _ => ⟨fun _ => ?_, fun y => absurd rfl y⟩, fun y => absurd rfl y⟩
    exact key _ (fun o k ho => by rw [am_st_ne _ (by omega), am_st_ne _ (by omega), am_st_ne _ (by omega)]) (by rw [am_st_ne _ (by omega), am_st_ne _ (by omega), am_st_same]) (by rw [am_st_ne _ (by omega), am_st_same]; rfl) (by rw [am_st_same]; rfl)
  · refine ⟨fun y => absurd y (by decide), fun _ => ⟨fun y => absurd y (by decide), fun _ => ?_⟩⟩
    exact key _ (fun o k ho => by rw [am_st_ne _ (by omega), am_st_ne _ (by omega), am_st_ne _ (by omega)]) (by rw [am_st_ne _ (by omega), am_st_ne _ (by omega), am_st_same]) (by rw [am_st_ne _ (by omega), am_st_same]; rfl) (by rw [am_st_same]; rfl)
end MDR
