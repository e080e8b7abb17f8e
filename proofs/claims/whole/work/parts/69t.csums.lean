/-! THE READER follows the parser: SUMS. -/
def cd_F (m m' : am_M) : Prop := ∀ o k, ¬ ((o = 135 ∧ (k = 3 ∨ k = 4 ∨ k = 5 ∨ k = 6)) ∨ (o = 131 ∧ k = 1) ∨ o = 132) → m' o k = m o k
theorem cd_F_refl (m : am_M) : cd_F m m := fun _ _ _ => rfl
theorem cd_F_t {a b c : am_M} (h : cd_F a b) (g : cd_F b c) : cd_F a c := fun o k q => by rw [g o k q, h o k q]
def cd_S (m : am_M) (B : Int → Int) (n od i l z : Int) : Prop := rd_H m B n ∧ m 135 2 = od ∧ m 135 3 = tz_p B n i ∧ m 135 4 = tz_e B n i ∧ m 135 5 = l ∧ m 135 6 = -1 ∧ m 131 1 = z
def cd_P (B : Int → Int) (n od : Int) (P : Int → Int → pz_R) (X : am_PT) (d : Int) : Prop := ∀ (m : am_M) (i l z : Int) (K : am_KK), cd_S m B n od i l z → 0 ≤ i → i ≤ tz_N B n → 0 ≤ l → l ≤ 50 → 0 ≤ z → z ≤ i →
  (∀ r, P i l = .inr r → ∀ m', cd_F m m' → cd_S m' B n od r.1 r.2.1 (z + (r.2.2.1.length : Int)) → pz_at (m' 132) z r.2.2.1 → (∀ x, x < z → m' 132 x = m 132 x) → K 1 m') →
  (∀ e, P i l = .inl e → ∀ m', cd_F m m' → m' 135 6 = tz_p B n e → K 0 m') → X [135, d] K m
theorem is_br {p : Prop} [Decidable p] {X Y : Prop} (h1 : ¬ p → X) (h2 : p → Y) : ((if p then (1 : Int) else 0) = 0 → X) ∧ (¬ ((if p then (1 : Int) else 0) = 0) → Y) := by
  by_cases c : p
  · simp only [c, if_true]; exact ⟨fun z => absurd z (by decide), fun _ => h2 c⟩
  · simp only [c, if_false]; exact ⟨fun _ => h1 c, fun z => absurd trivial z⟩
theorem is_br' {p : Prop} [Decidable p] {X Y : Prop} (h2 : p → Y) (h1 : ¬ p → X) : ((if p then (1 : Int) else 0) ≠ 0 → Y) ∧ (¬ ((if p then (1 : Int) else 0) ≠ 0) → X) := by
  by_cases c : p
  · simp only [c, if_true]; exact ⟨fun _ => h2 c, fun z => absurd (by decide) z⟩
  · simp only [c, if_false]; exact ⟨fun z => absurd rfl z, fun _ => h1 c⟩
theorem am_ob135 : am_ob 135 5 := ⟨by decide, by decide, by decide +kernel⟩
theorem rf_135 : am_rfv 135 1 = 131 := by decide +kernel
section CDS
variable {m : am_M} {B : Int → Int} {n od : Int}
theorem cd_n (H : rd_H m B n) : tz_c B n (tz_N B n) = 0 ∧ (0 ≤ tz_N B n ∧ tz_N B n ≤ 400) ∧ ∀ i, 0 ≤ tz_v B n i := by
  have hn := H.2.2.1
  have h := tz_N_p (B := B) hn.1
  exact ⟨tz_c_0 (h.2.2 _ (Int.le_refl _)), by omega, fun i => (tz_v_le hn.1 i).1⟩
theorem cd_lt (H : rd_H m B n) {i : Int} (h : i ≤ tz_N B n) (hc : tz_c B n i ≠ 0) : i < tz_N B n := by
  by_cases e : i = tz_N B n
  · rw [e] at hc; exact absurd (cd_n H).1 hc
  · omega
theorem cd_S_of {m' : am_M} {i l z : Int} (H : cd_S m B n od i l z) (e : ∀ o k, (o = 129 ∨ o = 130 ∨ o = 135 ∨ (o = 131 ∧ k = 1)) → m' o k = m o k) : cd_S m' B n od i l z := by
  obtain ⟨h1, h2, h3, h4, h5, h6, h7⟩ := H
  exact ⟨rd_H_of h1 (fun o k ho => e o k (by omega)), by rw [e _ _ (by omega)]; exact h2, by rw [e _ _ (by omega)]; exact h3, by rw [e _ _ (by omega)]; exact h4, by rw [e _ _ (by omega)]; exact h5, by rw [e _ _ (by omega)]; exact h6, by rw [e _ _ (by omega)]; exact h7⟩
theorem cd_adv {i l z : Int} (H : cd_S m B n od i l z) (hi : 0 ≤ i) {K : am_KK} (hK : ∀ m', (∀ o k, ¬ (o = 135 ∧ (k = 3 ∨ k = 4)) → m' o k = m o k) → cd_S m' B n od (i + 1) l z → K 0 m') : M_X5_advance 135 K m := by
  obtain ⟨h1, h2, h3, h4, h5, h6, h7⟩ := H
  have he := tz_e_le (B := B) h1.2.2.1.1 i
  have hp := tz_p_le (B := B) h1.2.2.1.1 i
  refine rd_adv h1 h4 (by omega) (fun m' f g3 g4 => hK m' f ⟨rd_H_of h1 (fun o k ho => f o k (by omega)), by rw [f _ _ (by omega)]; exact h2, by rw [tz_p_s hi]; exact g3, ?_, by rw [f _ _ (by omega)]; exact h5, by rw [f _ _ (by omega)]; exact h6, by rw [f _ _ (by omega)]; exact h7⟩)
  show m' 135 4 = tz_en B n (tz_p B n (i + 1))
  rw [tz_p_s hi]
  exact g4
theorem cd_is {i l z t q : Int} (H : cd_S m B n od i l z) (ht : 0 ≤ t ∧ t < 38) (hq : tz_cd.getD t.toNat 0 = q) {K : am_KK} (hK : K (if tz_c B n i = q then 1 else 0) m) : M_X5_is 135 t K m := rd_is H.1 H.2.2.1 H.2.2.2.1 ht hq hK
theorem cd_fail {i l z : Int} (H : cd_S m B n od i l z) {K : am_KK} (hK : ∀ m', cd_F m m' → m' 135 6 = tz_p B n i → K 0 m') : M_X5_fail 135 K m := by
  unfold M_X5_fail
  intro m1 hm1
  subst hm1
  refine hK _ (fun o k ho => by rw [am_st_ne _ (by omega)]) ?_
  rw [am_st_same]
  exact H.2.2.1
theorem cd_add {z x : Int} (h : m 131 1 = z) (hz : 0 ≤ z ∧ z < 400) (K : am_KK) : M_X4_add 131 x K m ↔ K 0 (am_st (am_st m 132 z x) 131 1 (z + 1)) := by
  unfold M_X4_add
  simp only [am_rf_all, am_ln_all, forall_eq, h]
  rw [am_st_ne (o' := 131) (k' := 1) _ (by omega), h, w32_of (by omega) (by omega)]
  have h1 : ¬ 400 ≤ z := by omega
  simp [h1, hz]
/-- a step behind those that stand -/
theorem cd_S_add {i l z x : Int} (H : cd_S m B n od i l z) : cd_S (am_st (am_st m 132 z x) 131 1 (z + 1)) B n od i l (z + 1) := by
  obtain ⟨h1, h2, h3, h4, h5, h6, h7⟩ := H
  refine ⟨rd_H_of h1 (fun o k ho => by rw [am_st_ne _ (by omega), am_st_ne _ (by omega)]), ?_, ?_, ?_, ?_, ?_, am_st_same _ _ _ _⟩
  all_goals rw [am_st_ne _ (by omega), am_st_ne _ (by omega)]; assumption
theorem cd_F_add {z x y : Int} : cd_F m (am_st (am_st m 132 z x) 131 1 y) := fun o k ho => by rw [am_st_ne _ (by omega), am_st_ne _ (by omega)]
theorem cd_at_add {z z0 x y : Int} {st : List Int} (h : pz_at (m 132) z0 st) (hz : z = z0 + (st.length : Int)) : pz_at (am_st (am_st m 132 z x) 131 1 y 132) z0 (st ++ [x]) := by
  refine pz_at_app.mpr ⟨pz_at_of h (fun w w0 w1 => by rw [am_st_ne _ (by omega), am_st_ne _ (by omega)]), pz_at_one.mpr ?_⟩
  rw [am_st_ne _ (by omega), hz, am_st_same]
/-- an operator, what stands behind it, its step -/
theorem cd_J2 {lim d : Int} {Q : am_Val → Prop} {P : Int → Int → pz_R} {X : am_PT} {C : Int → am_M → Prop} {K : am_KK} (hP : cd_P B n od P X d) (hok : pz_ok lim Q (tz_N B n) P) {i l z h v2 : Int} (H : cd_S m B n od i l z) (hi : 0 ≤ i) (hiN : i < tz_N B n) (hl : 0 ≤ l) (h50 : l ≤ 50) (hz : 0 ≤ z ∧ z ≤ i) (hh : 0 ≤ h ∧ h ≤ 12) (hv : 0 ≤ v2 ∧ v2 ≤ 400)
    (hC : ∀ a, P (i + 1) l = .inr a → ∀ m', cd_F m m' → cd_S m' B n od a.1 a.2.1 (z + ((a.2.2.1 ++ [h * 2048]).length : Int)) → pz_at (m' 132) z (a.2.2.1 ++ [h * 2048]) → (∀ x, x < z → m' 132 x = m 132 x) → C (v2 + 1) m')
    (h0 : ∀ e, P (i + 1) l = .inl e → ∀ m', cd_F m m' → m' 135 6 = tz_p B n e → K 0 m') :
    M_X5_advance 135 (fun _ m_2 => X [135, d] (fun r_3 m_4 => ((r_3 ≠ 0) → M_X4_add (am_rfv 135 1) (w32 (h * 2048)) (fun _ m_7 => ∀ v2_8 : Int, v2_8 = w32 (v2 + 1) → C v2_8 m_7) m_4) ∧ (¬ (r_3 ≠ 0) → K 0 m_4)) m_2) m := by
  have hN := (cd_n H.1).2.1
  refine cd_adv H hi (fun m2 f2 S2 => ?_)
  have F2 : cd_F m m2 := fun o k ho => f2 o k (by omega)
  refine hP m2 (i + 1) l z _ S2 (by omega) (by omega) hl h50 hz.1 (by omega) (fun a ha m3 F3 S3 A3 E3 => ?_) (fun e he m3 F3 E3 => ?_)
  · have ho := (hok (i + 1) l (by omega) (by omega) hl h50).2 a ha
    have h1 := ho.1
    have h2 := ho.2.1
    refine ⟨fun _ => ?_, fun y => absurd (by decide) y⟩
    rw [rf_135, cd_add S3.2.2.2.2.2.2 (by omega), w32_of (z := h * 2048) (by omega) (by omega)]
    intro v hv2
    rw [w32_of (by omega) (by omega)] at hv2
    subst hv2
    refine hC a ha _ (cd_F_t F2 (cd_F_t F3 cd_F_add)) ?_ (cd_at_add A3 rfl) (fun x hx => ?_)
    · have := cd_S_add (x := h * 2048) S3
      simp only [List.length_append, List.length_cons, List.length_nil]
      rw [show z + (((a.2.2.1.length + (0 + 1) : Nat)) : Int) = z + (a.2.2.1.length : Int) + 1 by omega]
      exact this
    · rw [am_st_ne _ (by omega), am_st_ne _ (by omega), E3 x hx]
      exact f2 _ _ (by omega)
  · refine ⟨fun y => absurd rfl y, fun _ => h0 e he m3 (cd_F_t F2 F3) E3⟩
theorem cd_loop {lim d : Int} {Q : am_Val → Prop} {ops : Int → Option Int} {P : Int → Int → pz_R} {X : am_PT} {L : Int → (Int → am_M → Prop) → am_KK → am_M → Prop} {K : am_KK} (hP : cd_P B n od P X d) (hok : pz_ok lim Q (tz_N B n) P) (h00 : ops 0 = none) (hops : ∀ x h, ops x = some h → 8 ≤ h ∧ h ≤ 12) (hQ : ∀ x h, ops x = some h → ∀ d e, Q d → Q e → Q (pz_jn h d e))
    (hL1 : ∀ v2 C m, 400 ≤ v2 → K 1 m → L v2 C K m)
    (hL2 : ∀ v2 (C : Int → am_M → Prop) m i l z, cd_S m B n od i l z → ¬ 400 ≤ v2 → (ops (tz_c B n i) = none → K 1 m) → (∀ h, ops (tz_c B n i) = some h → M_X5_advance 135 (fun _ m_2 => X [135, d] (fun r_3 m_4 => ((r_3 ≠ 0) → M_X4_add (am_rfv 135 1) (w32 (h * 2048)) (fun _ m_7 => ∀ v2_8 : Int, v2_8 = w32 (v2 + 1) → C v2_8 m_7) m_4) ∧ (¬ (r_3 ≠ 0) → K 0 m_4)) m_2) m) → L v2 C K m)
    {m0 : am_M} {i0 l0 z0 : Int} {RES : pz_R} (hi0 : 0 ≤ i0) (hl0 : 0 ≤ l0) (hz0 : 0 ≤ z0 ∧ z0 ≤ i0) {a : Int × Int × List Int × am_Val} (hpost : pz_post lim Q (tz_N B n) i0 l0 a) (hres : pz_loop ops P (tz_c B n) 400 a.1 a.2.1 a.2.2.1 a.2.2.2 = RES) (hF : cd_F m0 m) (hS : cd_S m B n od a.1 a.2.1 (z0 + (a.2.2.1.length : Int))) (hA : pz_at (m 132) z0 a.2.2.1) (hE : ∀ x, x < z0 → m 132 x = m0 132 x)
    (k1 : ∀ r, RES = .inr r → ∀ m', cd_F m0 m' → cd_S m' B n od r.1 r.2.1 (z0 + (r.2.2.1.length : Int)) → pz_at (m' 132) z0 r.2.2.1 → (∀ x, x < z0 → m' 132 x = m0 132 x) → K 1 m')
    (k0 : ∀ e, RES = .inl e → ∀ m', cd_F m0 m' → m' 135 6 = tz_p B n e → K 0 m') :
    ∃ I : Nat → Int → am_M → Prop, (∃ j, I j 0 m) ∧ ∀ j v2 m, I j v2 m → L v2 (fun v2' m' => ∃ j', j' < j ∧ I j' v2' m') K m := by
  refine ⟨fun j v2 m1 => (0 ≤ v2 ∧ v2 ≤ 400) ∧ j = (400 - v2).toNat ∧ ∃ a : Int × Int × List Int × am_Val, pz_post lim Q (tz_N B n) i0 l0 a ∧ pz_loop ops P (tz_c B n) (400 - v2).toNat a.1 a.2.1 a.2.2.1 a.2.2.2 = RES ∧ cd_F m0 m1 ∧ cd_S m1 B n od a.1 a.2.1 (z0 + (a.2.2.1.length : Int)) ∧ pz_at (m1 132) z0 a.2.2.1 ∧ ∀ x, x < z0 → m1 132 x = m0 132 x, ⟨_, by omega, rfl, a, hpost, hres, hF, hS, hA, hE⟩, ?_⟩
  rintro j v2 m1 ⟨b, rfl, a, hp, e, F1, S1, A1, E1⟩
  obtain ⟨p1, p2, p3, p4, p5⟩ := id hp
  by_cases c : 400 ≤ v2
  · refine hL1 v2 _ m1 c ?_
    rw [show (400 - v2).toNat = 0 by omega, pz_loop] at e
    exact k1 _ e.symm m1 F1 S1 A1 E1
  · rw [show (400 - v2).toNat = (400 - (v2 + 1)).toNat + 1 by omega, pz_loop] at e
    refine hL2 v2 _ m1 a.1 a.2.1 _ S1 c (fun q => ?_) (fun h q => ?_)
    · rw [q] at e
      exact k1 _ e.symm m1 F1 S1 A1 E1
    · rw [q] at e
      simp only [] at e
      have hb := hops _ _ q
      have hlt := cd_lt S1.1 p1.2.1 (fun w => by rw [w, h00] at q; cases q)
      refine cd_J2 hP hok S1 (by omega) hlt (by omega) (by omega) (by omega) (by omega) (by omega) (fun r hr m' F' S' A' E' => ?_) (fun f hf m' F' E' => ?_)
      · rw [hr] at e
        simp only [pz_bd] at e
        refine ⟨_, by omega, by omega, rfl, (r.1, r.2.1, a.2.2.1 ++ r.2.2.1 ++ [h * 2048], pz_jn h a.2.2.2 r.2.2.2), ?_, e, cd_F_t F1 F', ?_, ?_, fun x hx => by rw [E' x (by omega)]; exact E1 x hx⟩
        · obtain ⟨q1, q2, q3, q4, q5⟩ := (hok (a.1 + 1) a.2.1 (by omega) (by omega) (by omega) (by omega)).2 r hr
          refine ⟨⟨by simp only []; omega, by simp only []; omega, by simp only []; omega, by simp only []; omega⟩, ?_, ?_, hQ _ _ q _ _ p4 q4, ?_⟩
          · simp only [List.length_append, List.length_cons, List.length_nil]; omega
          · have := pz_run_jn (h := h) (by omega) (by omega) (by omega) p3 q3
            simp only []
            rwa [show a.2.1 - l0 + (r.2.1 - a.2.1) = r.2.1 - l0 by omega] at this
          · intro x hx
            simp only [List.mem_append, List.mem_cons, List.not_mem_nil, or_false] at hx
            rcases hx with (hx | hx) | hx
            · exact p5 x hx
            · exact q5 x hx
            · omega
        · simp only [List.length_append, List.length_cons, List.length_nil] at S' ⊢
          rw [show z0 + (((a.2.2.1.length + r.2.2.1.length + (0 + 1) : Nat)) : Int) = z0 + (a.2.2.1.length : Int) + (((r.2.2.1.length + (0 + 1) : Nat)) : Int) by omega]
          exact S'
        · show pz_at (m' 132) z0 (a.2.2.1 ++ r.2.2.1 ++ [h * 2048])
          rw [List.append_assoc]
          exact pz_at_app.mpr ⟨pz_at_of A1 (fun x x0 x1 => E' x (by omega)), A'⟩
      · rw [hf] at e
        simp only [pz_bd] at e
        exact k0 f e.symm m' (cd_F_t F1 F') E'
theorem cd_sumOf {lim d : Int} {P : Int → Int → pz_R} {R : Nat → am_PT} (hP : cd_P B n od P (R 1) d) (hok : pz_ok lim pz_val (tz_N B n) P) : cd_P B n od (pz_chain pz_adds P (tz_c B n)) (N_X5_sum R) d := by
  intro m i l z K S hi hiN hl h50 hz hzi k1 k0
  refine ⟨am_ob135, ?_⟩
  unfold M_X5_sum
  refine hP m i l z _ S hi hiN hl h50 hz hzi (fun a ha m1 F1 S1 A1 E1 => ?_) (fun e he m1 F1 E1 => ?_)
  · refine ⟨fun _ => ?_, fun y => absurd (by decide) y⟩
    unfold pz_chain at k1 k0
    rw [ha] at k1 k0
    simp only [pz_bd] at k1 k0
    unfold M_X5_sum_L1
    refine cd_loop (L := fun v2 C K m => M_X5_sum_L1B R 135 d v2 C K m) hP hok rfl pz_adds_h (fun x h e d d' _ _ => pz_val_jn (pz_adds_h x h e)) (fun v2 C m c hK => ?_) (fun v2 C m2 i2 l2 z2 S2 c q1 q2 => ?_) hi hl ⟨hz, hzi⟩ ((hok i l hi hiN hl h50).2 a ha) rfl F1 S1 A1 E1 k1 k0
    · unfold M_X5_sum_L1B
      exact ⟨fun _ => hK, fun y => absurd c y⟩
    · unfold pz_adds at q1 q2
      unfold M_X5_sum_L1B M_X5_sum_J1 M_X5_sum_J2
      refine ⟨fun y => absurd y c, fun _ => ?_⟩
      refine cd_is S2 (q := 143) (by omega) rfl (is_br' (fun c1 => ?_) (fun c1 => ?_))
      · rw [if_pos c1] at q2
        exact cd_is S2 (q := 143) (by omega) rfl (is_br (fun z => absurd c1 z) (fun _ => q2 8 rfl))
      · rw [if_neg c1] at q1 q2
        refine cd_is S2 (q := 145) (by omega) rfl (is_br (fun c2 => ?_) (fun c2 => ?_))
        · rw [if_neg c2] at q1
          exact q1 rfl
        · rw [if_pos c2] at q2
          exact cd_is S2 (q := 143) (by omega) rfl (is_br (fun _ => q2 9 rfl) (fun z => absurd z c1))
  · refine ⟨fun y => absurd rfl y, fun _ => k0 e ?_ m1 F1 E1⟩
    unfold pz_chain
    rw [he]
    rfl
theorem cd_termOf {lim d : Int} {P : Int → Int → pz_R} {R : Nat → am_PT} (hP : cd_P B n od P (R 2) d) (hok : pz_ok lim pz_val (tz_N B n) P) : cd_P B n od (pz_chain pz_muls P (tz_c B n)) (N_X5_term R) d := by
  intro m i l z K S hi hiN hl h50 hz hzi k1 k0
  refine ⟨am_ob135, ?_⟩
  unfold M_X5_term
  refine hP m i l z _ S hi hiN hl h50 hz hzi (fun a ha m1 F1 S1 A1 E1 => ?_) (fun e he m1 F1 E1 => ?_)
  · refine ⟨fun _ => ?_, fun y => absurd (by decide) y⟩
    unfold pz_chain at k1 k0
    rw [ha] at k1 k0
    simp only [pz_bd] at k1 k0
    unfold M_X5_term_L1
    refine cd_loop (L := fun v2 C K m => M_X5_term_L1B R 135 d v2 C K m) hP hok rfl pz_muls_h (fun x h e d d' _ _ => pz_val_jn (pz_muls_h x h e)) (fun v2 C m c hK => ?_) (fun v2 C m2 i2 l2 z2 S2 c q1 q2 => ?_) hi hl ⟨hz, hzi⟩ ((hok i l hi hiN hl h50).2 a ha) rfl F1 S1 A1 E1 k1 k0
    · unfold M_X5_term_L1B
      exact ⟨fun _ => hK, fun y => absurd c y⟩
    · unfold pz_muls at q1 q2
      unfold M_X5_term_L1B M_X5_term_J1 M_X5_term_J2
      refine ⟨fun y => absurd y c, fun _ => ?_⟩
      refine cd_is S2 (q := 142) (by omega) rfl (is_br' (fun c1 => ?_) (fun c1 => ?_))
      · rw [if_pos c1] at q2
        exact cd_is S2 (q := 142) (by omega) rfl (is_br (fun z => absurd c1 z) (fun _ => q2 10 rfl))
      · rw [if_neg c1] at q1 q2
        refine cd_is S2 (q := 147) (by omega) rfl (is_br' (fun c2 => ?_) (fun c2 => ?_))
        · rw [if_pos c2] at q2
          exact cd_is S2 (q := 142) (by omega) rfl (is_br (fun _ => cd_is S2 (q := 147) (by omega) rfl (is_br (fun z => absurd c2 z) (fun _ => q2 11 rfl))) (fun z => absurd z c1))
        · rw [if_neg c2] at q1 q2
          refine cd_is S2 (q := 137) (by omega) rfl (is_br (fun c3 => ?_) (fun c3 => ?_))
          · rw [if_neg c3] at q1
            exact q1 rfl
          · rw [if_pos c3] at q2
            exact cd_is S2 (q := 142) (by omega) rfl (is_br (fun _ => cd_is S2 (q := 147) (by omega) rfl (is_br (fun _ => q2 12 rfl) (fun z => absurd z c2))) (fun z => absurd z c1))
  · refine ⟨fun y => absurd rfl y, fun _ => k0 e ?_ m1 F1 E1⟩
    unfold pz_chain
    rw [he]
    rfl
theorem cd_lawFact {i l z : Int} (H : cd_S m B n od i l z) {K : am_KK} (hK : K (if pz_wd 0 (tz_c B n i) then pz_fc 0 (tz_c B n i) else -1) m) : M_X5_lawFact 135 K m := by
  unfold pz_wd pz_fc at hK
  simp only [if_true] at hK
  unfold M_X5_lawFact
  generalize hc : tz_c B n i = c at hK
  refine cd_is H (q := 8) (by omega) rfl (is_br (fun c1 => ?_) (fun c1 => ?_))
  rotate_left
  · rw [hc] at c1; subst c1; exact hK
  refine cd_is H (q := 9) (by omega) rfl (is_br (fun c2 => ?_) (fun c2 => ?_))
  rotate_left
  · rw [hc] at c2; subst c2; exact hK
  refine cd_is H (q := 10) (by omega) rfl (is_br (fun c3 => ?_) (fun c3 => ?_))
  rotate_left
  · rw [hc] at c3; subst c3; exact hK
  refine cd_is H (q := 11) (by omega) rfl (is_br (fun c4 => ?_) (fun c4 => ?_))
  rotate_left
  · rw [hc] at c4; subst c4; exact hK
  refine cd_is H (q := 12) (by omega) rfl (is_br (fun c5 => ?_) (fun c5 => ?_))
  rotate_left
  · rw [hc] at c5; subst c5; exact hK
  refine cd_is H (q := 13) (by omega) rfl (is_br (fun c6 => ?_) (fun c6 => ?_))
  rotate_left
  · rw [hc] at c6; subst c6; exact hK
  refine cd_is H (q := 15) (by omega) rfl (is_br (fun c7 => ?_) (fun c7 => ?_))
  rotate_left
  · rw [hc] at c7; subst c7; exact hK
  refine cd_is H (q := 14) (by omega) rfl (is_br (fun c8 => ?_) (fun c8 => ?_))
  rotate_left
  · rw [hc] at c8; subst c8; exact hK
  rw [hc] at c1 c2 c3 c4 c5 c6 c7 c8
  rw [if_neg (by omega)] at hK
  exact hK
theorem cd_orderFact {i l z : Int} (H : cd_S m B n od i l z) {K : am_KK} (hK : K (if pz_wd 1 (tz_c B n i) then pz_fc 1 (tz_c B n i) else -1) m) : M_X5_orderFact 135 K m := by
  unfold pz_wd pz_fc at hK
  simp only [show ((1 : Int) = 0) ↔ False by decide, if_false] at hK
  unfold M_X5_orderFact
  generalize hc : tz_c B n i = c at hK
  refine cd_is H (q := 15) (by omega) rfl (is_br (fun c1 => ?_) (fun c1 => ?_))
  rotate_left
  · rw [hc] at c1; subst c1; exact hK
  refine cd_is H (q := 16) (by omega) rfl (is_br (fun c2 => ?_) (fun c2 => ?_))
  rotate_left
  · rw [hc] at c2; subst c2; exact hK
  refine cd_is H (q := 17) (by omega) rfl (is_br (fun c3 => ?_) (fun c3 => ?_))
  rotate_left
  · rw [hc] at c3; subst c3; exact hK
  refine cd_is H (q := 18) (by omega) rfl (is_br (fun c4 => ?_) (fun c4 => ?_))
  rotate_left
  · rw [hc] at c4; subst c4; exact hK
  refine cd_is H (q := 19) (by omega) rfl (is_br (fun c5 => ?_) (fun c5 => ?_))
  rotate_left
  · rw [hc] at c5; subst c5; exact hK
  refine cd_is H (q := 20) (by omega) rfl (is_br (fun c6 => ?_) (fun c6 => ?_))
  rotate_left
  · rw [hc] at c6; subst c6; exact hK
  rw [hc] at c1 c2 c3 c4 c5 c6
  rw [if_neg (by omega)] at hK
  exact hK
end CDS
