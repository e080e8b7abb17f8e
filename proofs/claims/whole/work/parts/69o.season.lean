/-! SEASON: DAY after DAY, on the one side. -/
section SEO
variable {m : am_M}
/-- what a season leaves alone -/
def fr_s (m m' : am_M) : Prop := ∀ o k, ¬ (o = 137 ∨ o = 139 ∨ o = 141 ∨ o = 144 ∨ (o = 142 ∧ k = 1) ∨ (o = 143 ∧ k = 2) ∨ (o = 140 ∧ (k = 2 ∨ k = 3)) ∨ (o = 163 ∧ k = 1) ∨ o = 165) → m' o k = m o k
theorem csaid {A W T : Int → Int} {s P : Int} (hw : wf_A 16 A) (hB : bk_P m 1 A) (hv : vg_P m 142 A) (hk : rk m 164 4 24) (hP : m 164 2 = P) (hPA : P = A 365) (h1 : 1 ≤ P) (hs : m 163 1 = s) (h0 : 0 ≤ s ∧ s < 1000003) (hW : ∀ p, 0 ≤ p → p < P → m 165 (p * 4 + 0) = W p) (hT : sn_C m P T) {K : am_KK}
    (k0 : ab_why A (sn_N s % P) (sn_N (sn_N s) % 8) (sn_N (sn_N (sn_N s)) % 40 + 1) 1 (A 169) = 0 → ∀ m', fr_s m m' → m' 163 1 = sn_N (sn_N (sn_N s)) → vg_P m' 142 (ab_say A (sn_N s % P) (sn_N (sn_N s) % 8) (sn_N (sn_N (sn_N s)) % 40 + 1) 1) → (∀ p, 0 ≤ p → p < P → m' 165 (p * 4 + 0) = wrA W (sn_N s % P) (w32 (W (sn_N s % P) + 1)) p) → sn_C m' P T → K 0 m')
    (k1 : ab_why A (sn_N s % P) (sn_N (sn_N s) % 8) (sn_N (sn_N (sn_N s)) % 40 + 1) 1 (A 169) ≠ 0 → ∀ m', fr_s m m' → m' 163 1 = sn_N (sn_N (sn_N s)) → vg_P m' 142 A → (∀ p, 0 ≤ p → p < P → m' 165 (p * 4 + 0) = W p) → sn_C m' P T → K 0 m') : M_X11_sayWhatIsDrawn 0 K m := by
  have l6 := hw.2.2.1.1.2
  have hp := hw.1.2.2.1
  obtain ⟨-, -, R3, -⟩ := bk_rows hB
  have a1 := sn_le s
  have a2 := sn_le (sn_N s)
  have a3 := sn_le (sn_N (sn_N s))
  have q1 : 0 ≤ sn_N s % P ∧ sn_N s % P < P := ⟨Int.emod_nonneg _ (by omega), Int.emod_lt_of_pos _ (by omega)⟩
  unfold M_X11_sayWhatIsDrawn
  have e6 : m 6 2 = P := by rw [hPA]; exact R3.2.1
  simp only [am_rf_all, e6]
  rw [cdraw hs h0 (by omega)]
  rw [cdraw (s := sn_N s) (am_st_same _ _ _ _) a1 (by omega)]
  rw [cdraw (s := sn_N (sn_N s)) (am_st_same _ _ _ _) a2 (by omega)]
  simp only [forall_eq]
  rw [w32_of (z := sn_N (sn_N (sn_N s)) % 40 + 1) (by omega) (by omega)]
  generalize hm1 : am_st (am_st (am_st m 163 1 (sn_N s)) 163 1 (sn_N (sn_N s))) 163 1 (sn_N (sn_N (sn_N s))) = m1
  have f1 : ∀ o k, ¬ (o = 163 ∧ k = 1) → m1 o k = m o k := fun o k ho => by rw [← hm1, am_st_ne _ ho, am_st_ne _ ho, am_st_ne _ ho]
  have e1 : m1 163 1 = sn_N (sn_N (sn_N s)) := by rw [← hm1, am_st_same]
  clear hm1
  have hB1 : bk_P m1 1 A := bk_of hB (fun o k _ _ _ => f1 o k (by omega)) (fun _ _ => rfl) l6
  have hv1 : vg_P m1 142 A := vg_of hv (fun o k _ _ => f1 o k (by omega)) (fun _ _ => rfl)
  generalize sn_N s % P = a at *
  generalize sn_N (sn_N s) % 8 = t at *
  generalize sn_N (sn_N (sn_N s)) % 40 + 1 = l at *
  refine ctry (Or.inr rfl) (wf_mono hw (by omega)) hB1 hv1 (fun hy m2 f2 => ?_) (fun hy m2 v2 f2 => ?_)
  · refine ⟨fun _ => ?_, fun z => absurd hy z⟩
    refine k1 hy m2 (fun o k ho => by rw [f2 o k (by omega)]; exact f1 o k (by omega)) (by rw [f2 _ _ (by omega)]; exact e1) (vg_of hv1 (fun o k _ _ => f2 o k (by omega)) (fun _ _ => rfl)) (fun p p0 p1 => by rw [f2 _ _ (by omega), f1 _ _ (by omega)]; exact hW p p0 p1) (fun p p0 p1 => ?_)
    rw [f2 _ _ (by omega), f2 _ _ (by omega), f2 _ _ (by omega), f1 _ _ (by omega), f1 _ _ (by omega), f1 _ _ (by omega)]
    exact hT p p0 p1
  · refine ⟨fun z => absurd rfl z, fun _ => ?_⟩
    unfold M_X8_noteSaid
    have k2 : rk m2 164 4 24 := rk_of hk (by rw [f2 _ _ (by omega), f1 _ _ (by omega)]) (by rw [f2 _ _ (by omega), f1 _ _ (by omega)])
    rw [cadd k2 (P := P) (by rw [f2 _ _ (by omega), f1 _ _ (by omega)]; exact hP) q1 (by omega)]
    have e5 : m2 165 (a * 4 + 0) = W a := by rw [f2 _ _ (by omega), f1 _ _ (by omega)]; exact hW a q1.1 q1.2
    rw [e5]
    refine k0 hy _ (fun o k ho => by rw [am_st_ne _ (by omega), f2 o k (by omega)]; exact f1 o k (by omega)) (by rw [am_st_ne _ (by omega), f2 _ _ (by omega)]; exact e1) (vg_of v2 (fun o k _ _ => am_st_ne _ (by omega)) (fun _ _ => rfl)) (fun p p0 p1 => ?_) (fun p p0 p1 => ?_)
    · by_cases c : p = a
      · subst c; rw [am_st_same, wrA_same]
      · rw [am_st_ne _ (by omega), wrA_ne _ c, f2 _ _ (by omega), f1 _ _ (by omega)]; exact hW p p0 p1
    · rw [am_st_ne _ (by omega), am_st_ne _ (by omega), am_st_ne _ (by omega), f2 _ _ (by omega), f2 _ _ (by omega), f2 _ _ (by omega), f1 _ _ (by omega), f1 _ _ (by omega), f1 _ _ (by omega)]
      exact hT p p0 p1
end SEO
