/-! THE READER follows the parser: the whole TEXT. -/
def cr_F (m m' : am_M) : Prop := ∀ o k, ¬ ((o = 135 ∧ (k = 2 ∨ k = 3 ∨ k = 4 ∨ k = 5 ∨ k = 6)) ∨ (o = 131 ∧ k = 1) ∨ o = 132 ∨ (o = 133 ∧ k = 2) ∨ o = 134) → m' o k = m o k
section CRT
variable {m : am_M} {B : Int → Int} {n od : Int}
theorem cd_read {lim : Int} (hod : od = 0 ∨ od = 1) (hlim : lim = if od = 0 then 8 else 24) (H : rd_H m B n) (hk : rk m 133 7 84) {K : am_KK}
    (k1 : ∀ cs, pz_read od (tz_c B n) (tz_v B n) (tz_N B n) = .inr cs → ∀ m', cr_F m m' → pz_PG m' 131 cs → m' 135 6 = -1 → K 1 m')
    (k0 : ∀ e, pz_read od (tz_c B n) (tz_v B n) (tz_N B n) = .inl e → ∀ m', cr_F m m' → rk m' 133 7 84 → m' 135 6 = tz_p B n e → K 0 m') :
    M_X5_read 135 od K m := by
  obtain ⟨hN, h400, hv⟩ := cd_n H
  have hp := tz_N_p (B := B) H.2.2.1.1
  have rf2 : am_rfv 131 2 = 133 := by decide +kernel
  unfold M_X5_read
  simp only [forall_eq]
  rw [rf_135]
  unfold M_X4_clear
  simp only [forall_eq]
  rw [rf2, cut_eq]
  generalize hm1 : am_st (am_st (am_st (am_st (am_st m 135 2 od) 135 4 0) 135 5 0) 135 6 (-1)) 131 1 0 = m1
  have f1 : ∀ o k, ¬ ((o = 135 ∧ (k = 2 ∨ k = 4 ∨ k = 5 ∨ k = 6)) ∨ (o = 131 ∧ k = 1)) → m1 o k = m o k := fun o k ho => by rw [← hm1, am_st_ne _ (by omega), am_st_ne _ (by omega), am_st_ne _ (by omega), am_st_ne _ (by omega), am_st_ne _ (by omega)]
  have a2 : m1 135 2 = od := by rw [← hm1, am_st_ne _ (by omega), am_st_ne _ (by omega), am_st_ne _ (by omega), am_st_ne _ (by omega), am_st_same]
  have a4 : m1 135 4 = 0 := by rw [← hm1, am_st_ne _ (by omega), am_st_ne _ (by omega), am_st_ne _ (by omega), am_st_same]
  have a5 : m1 135 5 = 0 := by rw [← hm1, am_st_ne _ (by omega), am_st_ne _ (by omega), am_st_same]
  have a6 : m1 135 6 = -1 := by rw [← hm1, am_st_ne _ (by omega), am_st_same]
  have a1 : m1 131 1 = 0 := by rw [← hm1, am_st_same]
  clear hm1
  have hk1 : rk m1 133 7 84 := rk_of hk (f1 _ _ (by omega)) (f1 _ _ (by omega))
  have hk0 := hk1.2.2.1
  generalize hm2 : (if (0 : Int) ≤ 0 ∧ 0 < m1 133 2 then am_st m1 133 2 0 else m1) = m2
  have f2 : ∀ o k, ¬ (o = 133 ∧ k = 2) → m2 o k = m1 o k := fun o k ho => by
    rw [← hm2]; split
    · exact am_st_ne _ ho
    · rfl
  have e2 : m2 133 2 = 0 := by
    rw [← hm2]; split
    · exact am_st_same _ _ _ _
    · omega
  clear hm2
  have H2 : rd_H m2 B n := rd_H_of H (fun o k ho => by rw [f2 o k (by omega), f1 o k (by omega)])
  have hk2 : rk m2 133 7 84 := rk_to hk1 (f2 _ _ (by omega)) (by rw [e2]; omega)
  refine rd_adv H2 (x := 0) (by rw [f2 _ _ (by omega)]; exact a4) ⟨by omega, H.2.2.1.1⟩ (fun m3 f3 b3 b4 => ?_)
  have S3 : cd_S m3 B n od 0 0 0 := ⟨rd_H_of H2 (fun o k ho => f3 o k (by omega)), by rw [f3 _ _ (by omega), f2 _ _ (by omega)]; exact a2, by rw [tz_p_0]; exact b3, by unfold tz_e; rw [tz_p_0]; exact b4, by rw [f3 _ _ (by omega), f2 _ _ (by omega)]; exact a5, by rw [f3 _ _ (by omega), f2 _ _ (by omega)]; exact a6, by rw [f3 _ _ (by omega), f2 _ _ (by omega)]; exact a1⟩
  have F3 : cr_F m m3 := fun o k ho => by rw [f3 o k (by omega), f2 o k (by omega)]; exact f1 o k (by omega)
  have hk3 : rk m3 133 7 84 := rk_of hk2 (f3 _ _ (by omega)) (f3 _ _ (by omega))
  have e3 : m3 133 2 = 0 := by rw [f3 _ _ (by omega)]; exact e2
  unfold pz_read at k1 k0
  unfold M_X5_read_L1
  refine ⟨fun j x m4 => ∃ (i l : Int) (cs : List pz_C), ((cs.length : Int) = x ∧ x ≤ 12) ∧ j = (13 - x).toNat ∧ pz_bd (pz_text (pz_clause od (tz_c B n) (tz_v B n)) (tz_c B n) (tz_N B n) (12 - x).toNat i l) (fun ds => .inr (cs ++ ds)) = pz_text (pz_clause od (tz_c B n) (tz_v B n)) (tz_c B n) (tz_N B n) 12 0 0 ∧ (0 ≤ i ∧ i ≤ tz_N B n) ∧ (0 ≤ l ∧ l ≤ 50) ∧ cr_F m m4 ∧ rk m4 133 7 84 ∧ m4 133 2 = x ∧ pz_tot cs ≤ i ∧ cd_S m4 B n od i l (pz_tot cs) ∧ pz_pr (m4 134) (m4 132) cs 0 0, ⟨_, 0, 0, [], ⟨rfl, by omega⟩, rfl, ?_, by omega, by omega, F3, hk3, e3, by simp [pz_tot], S3, trivial⟩, ?_⟩
  · show pz_bd (pz_text _ _ _ 12 0 0) _ = _
    cases pz_text (pz_clause od (tz_c B n) (tz_v B n)) (tz_c B n) (tz_N B n) 12 0 0 <;> rfl
  rintro j x m4 ⟨i, l, cs, ⟨hcs, hx⟩, rfl, e, bi, bl, F4, hk4, e4, ht, S4, P4⟩
  have hx0 : 0 ≤ x := by omega
  have ht0 := pz_tot_0 cs
  unfold M_X5_read_L1B
  refine ⟨fun c => by omega, fun _ => ?_⟩
  refine cd_clause (lim := lim) hod hlim S4 hk4 e4 ⟨hx0, hx⟩ bi.1 bi.2 bl.1 bl.2 ht0 ht (fun r hr cq m5 F5 E5 G5 S5 hk5 e5 P5 => ?_) (fun f hf m5 F5 hk5 E5 => ?_)
  · refine ⟨fun _ => ?_, fun y => absurd (by decide) y⟩
    rw [show (12 - x).toNat = (12 - (x + 1)).toNat + 1 by omega, pz_text, hr] at e
    simp only [pz_bd] at e
    obtain ⟨p1, p2, p3, p4⟩ := (pz_clause_ok (lim := lim) hN (by omega) hv hod hlim i l bi.1 bi.2 bl.1 bl.2).2 r hr
    have F45 : cr_F m m5 := fun o k ho => by rw [F5 o k (by omega)]; exact F4 o k ho
    have htot : pz_tot (cs ++ [r.2.2]) = pz_tot cs + ((pz_steps r.2.2).length : Int) := by rw [pz_tot_app]; simp [pz_tot]
    have hP : pz_pr (m5 134) (m5 132) (cs ++ [r.2.2]) 0 0 := by
      refine (pz_pr_app cs [r.2.2] 0 0).mpr ⟨pz_pr_of cs 0 0 (by omega) P4 (fun y y0 y1 => G5 y (by omega)) (fun y y0 y1 => E5 y (by omega)), ?_⟩
      have := P5 _ _ rfl rfl
      rw [hcs, Int.zero_add, Int.zero_add]
      exact this
    have r129 : m5 (am_rfv 135 0) 2 = n := by
      rw [show am_rfv 135 0 = 129 by decide +kernel]
      exact S5.1.2.1
    rw [S5.2.2.1, r129]
    refine ⟨fun c => ?_, fun c => ?_⟩
    · have hlt : ¬ tz_N B n ≤ r.1 := fun w => by have := hp.2.2 r.1 w; omega
      rw [if_neg hlt] at e
      refine cd_is S5 (q := 159) (by omega) rfl (is_br' (fun c1 => ?_) (fun c1 => ?_))
      · rw [if_pos c1] at e
        refine cd_adv S5 (by omega) (fun m6 f6 S6 => ?_)
        intro v hv2
        rw [w32_of (by omega) (by omega)] at hv2
        subst hv2
        refine ⟨_, by omega, r.1 + 1, r.2.1, cs ++ [r.2.2], ⟨by simp only [List.length_append, List.length_cons, List.length_nil]; omega, by omega⟩, rfl, ?_, by omega, by omega, fun o k ho => by rw [f6 o k (by omega)]; exact F45 o k ho, rk_of hk5 (f6 _ _ (by omega)) (f6 _ _ (by omega)), by rw [f6 _ _ (by omega)]; exact e5, by rw [htot]; omega, by rw [htot]; exact S6, pz_pr_of _ 0 0 (by omega) hP (fun y _ _ => f6 _ _ (by omega)) (fun y _ _ => f6 _ _ (by omega))⟩
        rw [← e]
        cases pz_text (pz_clause od (tz_c B n) (tz_v B n)) (tz_c B n) (tz_N B n) (12 - (x + 1)).toNat (r.1 + 1) r.2.1 with
        | inl f => rfl
        | inr ds => simp [pz_bd]
      · rw [if_neg c1] at e
        refine cd_fail S5 (fun m6 F6 E6 => ?_)
        exact k0 _ e.symm m6 (fun o k ho => by rw [F6 o k (by omega)]; exact F45 o k ho) (rk_of hk5 (F6 _ _ (by omega)) (F6 _ _ (by omega))) E6
    · have hle : tz_N B n ≤ r.1 := by
        by_cases w : tz_N B n ≤ r.1
        · exact w
        · have := hp.2.1 r.1 (by omega) (by omega); omega
      rw [if_pos hle] at e
      refine k1 _ e.symm m5 F45 ⟨by rw [htot]; exact S5.2.2.2.2.2.2, by rw [htot]; omega, by simp only [List.length_append, List.length_cons, List.length_nil]; omega, hk5, ?_, hP⟩ S5.2.2.2.2.2.1
      show m5 133 2 = _
      rw [e5]
      simp only [List.length_append, List.length_cons, List.length_nil]
      omega
  · refine ⟨fun y => absurd rfl y, fun _ => ?_⟩
    refine k0 f ?_ m5 (fun o k ho => by rw [F5 o k (by omega)]; exact F4 o k ho) hk5 E5
    rw [← e]
    rcases hf with ⟨cq, hf⟩ | ⟨cq, rfl⟩
    · rw [show (12 - x).toNat = (12 - (x + 1)).toNat + 1 by omega, pz_text, hf]
      rfl
    · rw [show (12 - x).toNat = 0 by omega, pz_text]
      rfl
end CRT
