/-! CODE, the model: letters, sorted. -/
section MLT
variable {m : am_M}
theorem mletters (hw : am_WA (m 170)) {s : Int} {K : am_KK} (h0 : ¬ lt_ok (m 170) s → ∀ m' : am_M, (∀ o x, ¬ (o = 168 ∧ x = 45) → o ≠ 191 → m' o x = m o x) → K 0 m')
    (h1 : lt_ok (m 170) s → ∀ m' : am_M, (∀ o x, ¬ (o = 168 ∧ x = 45) → o ≠ 191 → m' o x = m o x) → m' 168 45 = cv_1 s (m 170 363).toNat → srt (cv_1 s (m 170 363).toNat) (m' 191) → pm (cv_1 s (m 170 363).toNat) (lt_L (m 170) s (m 170 363).toNat) (m' 191) → K 1 m') : M_X12_listsLetters 168 s K m := by
  have hW := hw.1
  obtain ⟨A, hA⟩ : ∃ A, m 170 = A := ⟨_, rfl⟩
  rw [hA] at hW h0 h1
  obtain ⟨g1, g2, g3⟩ := shl_B (B := A 363) (by omega)
  unfold M_X12_listsLetters
  simp only [am_rf_all, am_ln_all]
  intro m1 e1
  have f1 : ∀ o x, ¬ (o = 168 ∧ x = 45) → m1 o x = m o x := fun o x ho => by rw [e1, am_st_ne _ ho]
  have e17 : m1 170 363 = A 363 := by rw [f1 _ _ (by omega), hA]
  rw [e17, w32_of (by omega) (by omega), lies_eq]
  simp only [b01']
  refine ⟨by omega, fun c1 => ?_, fun c1 => h0 (fun z => ?_) m1 (fun o x ho _ => f1 o x ho)⟩
  case _ =>
    unfold M_X12_listsLetters_L1
    refine ⟨fun j i m2 => 0 ≤ i ∧ i ≤ A 363 ∧ j = (A 363 - i).toNat ∧ (∀ o x, ¬ (o = 168 ∧ x = 45) → o ≠ 191 → m2 o x = m o x) ∧ m2 168 45 = cv_1 s i.toNat ∧ cv_1 s i.toNat ≤ 3 ∧ srt (cv_1 s i.toNat) (m2 191) ∧ pm (cv_1 s i.toNat) (lt_L A s i.toNat) (m2 191), ⟨_, by omega, by omega, rfl, fun o x ho _ => f1 o x ho, by rw [e1, am_st_eq, if_pos ⟨rfl, rfl⟩]; rfl, by show (0 : Int) ≤ 3; omega, fun a b a0 ab b1 => by have : b < 0 := b1; omega, pm_0⟩, ?_⟩
    rintro j i m2 ⟨i0, i1, rfl, f2, c2, c3, so, pe⟩
    have e17' : m2 170 = A := by rw [← hA]; funext x; exact f2 _ _ (by omega) (by omega)
    have es := cv1_s s i0
    have el := ltw_s A s i0
    have hb := cv1_b s i.toNat
    generalize hC : (fun (v2' : Int) (m' : am_M) => ∃ j', j' < (A 363 - i).toNat ∧ 0 ≤ v2' ∧ v2' ≤ A 363 ∧ j' = (A 363 - v2').toNat ∧ (∀ o x, ¬ (o = 168 ∧ x = 45) → o ≠ 191 → m' o x = m o x) ∧ m' 168 45 = cv_1 s v2'.toNat ∧ cv_1 s v2'.toNat ≤ 3 ∧ srt (cv_1 s v2'.toNat) (m' 191) ∧ pm (cv_1 s v2'.toNat) (lt_L A s v2'.toNat) (m' 191)) = C
    have go : i < A 363 → ∀ m3 : am_M, (∀ o x, ¬ (o = 168 ∧ x = 45) → o ≠ 191 → m3 o x = m o x) → m3 168 45 = cv_1 s (i + 1).toNat → cv_1 s (i + 1).toNat ≤ 3 → srt (cv_1 s (i + 1).toNat) (m3 191) → pm (cv_1 s (i + 1).toNat) (lt_L A s (i + 1).toNat) (m3 191) → M_X12_listsLetters_J2 168 s i C K m3 := fun q m3 a1 a2 a3 a4 a5 => by
      unfold M_X12_listsLetters_J2
      intro z hz
      rw [w32_of (by omega) (by omega)] at hz
      rw [← hC, hz]
      refine ⟨_, ?_, by omega, by omega, rfl, a1, a2, a3, a4, a5⟩
      omega
    clear hC
    unfold M_X12_listsLetters_L1B M_X12_isIn
    simp only [am_rf_all, am_ln_all]
    rw [e17', c2]
    refine ⟨by omega, fun q => ?_, fun q => ⟨fun c => ?_, fun c => ?_⟩⟩
    · have hi : i = A 363 := by omega
      rw [hi] at c2 c3 so pe
      rw [hi]
      refine ⟨fun c4 => h0 (fun z => by have := z.2; omega) m2 f2, fun c4 => h1 ⟨by omega, by omega, c3⟩ m2 f2 c2 so pe⟩
    · have c0 : bt s i = 0 := by have := bt_01 s i; have c' : bt s i ≠ 1 := c; omega
      rw [c0, Int.add_zero] at es
      rw [if_neg (by omega)] at el
      refine ⟨fun z => (by first | exact absurd rfl z | exact absurd trivial z | exact absurd z (by decide) | exact z.elim), fun _ => go (by omega) m2 f2 (by rw [es]; exact c2) (by rw [es]; exact c3) (by rw [es]; exact so) (by rw [es, el]; exact pe)⟩
    · have c1' : bt s i = 1 := Classical.not_not.mp c
      rw [c1'] at es
      rw [if_pos c1'] at el
      refine ⟨fun _ => ⟨fun c4 => ?_, fun c4 => ?_⟩, fun z => (by first | exact absurd (by decide) z | exact z.elim)⟩
      · intro at0 hat0
        subst hat0
        have hv : ∀ l, 0 ≤ l → l < cv_1 s i.toNat → lt_L A s (i + 1).toNat l = lt_L A s i.toNat l := fun l l0 l1 => by rw [el, kup_o (by omega)]
        have hvk : lt_L A s (i + 1).toNat (cv_1 s i.toNat) = A (170 + i) := by rw [el, kup_s]
        have hb4 : w32 (170 + i) = 170 + i := w32_of (by omega) (by omega)
        unfold M_X12_listsLetters_L2
        refine ⟨fun j a m3 => 0 ≤ a ∧ a ≤ cv_1 s i.toNat ∧ j = a.toNat ∧ (∀ o x, ¬ (o = 168 ∧ x = 45) → o ≠ 191 → m3 o x = m o x) ∧ m3 168 45 = cv_1 s i.toNat ∧ (∀ l, 0 ≤ l → l < a → m3 191 l = m2 191 l) ∧ (∀ l, a < l → l ≤ cv_1 s i.toNat → m3 191 l = m2 191 (l - 1)) ∧ ∀ l, a ≤ l → l < cv_1 s i.toNat → A (170 + i) ≤ m2 191 l, ⟨_, by omega, by omega, rfl, f2, c2, fun _ _ _ => rfl, fun l l0 l1 => by omega, fun l l0 l1 => by omega⟩, ?_⟩
        rintro j a m3 ⟨a0, a1, rfl, f3, c5, k1, k2, k3⟩
        have e170 : m3 170 = A := by rw [← hA]; funext x; exact f3 _ _ (by omega) (by omega)
        have done : (a ≤ 0 ∨ m2 191 (a - 1) ≤ A (170 + i)) → M_X12_listsLetters_J1 168 s i a C K m3 := fun hd => by
          unfold M_X12_listsLetters_J1
          simp only [am_rf_all, am_ln_all]
          rw [e170, hb4]
          refine ⟨by omega, by omega, ?_⟩
          intro m4 e4 m5 e5
          have c6 : m4 168 45 = cv_1 s i.toNat := by rw [e4, am_st_ne _ (by omega)]; exact c5
          rw [c6, w32_of (by omega) (by omega)] at e5
          have ins : insd (cv_1 s i.toNat) a (A (170 + i)) (m2 191) (m5 191) := by
            refine ⟨⟨a0, a1⟩, fun l l0 l1 => ?_, ?_, fun l l0 l1 => ?_⟩
            · rw [e5, am_st_ne _ (by omega), e4, am_st_ne _ (by omega)]; exact k1 l l0 l1
            · rw [e5, am_st_ne _ (by omega), e4, am_st_eq, if_pos ⟨rfl, rfl⟩]
            · rw [e5, am_st_ne _ (by omega), e4, am_st_ne _ (by omega)]; exact k2 l l0 l1
          refine go (by omega) m5 (fun o x ho ho2 => ?_) ?_ (by omega) ?_ ?_
          · rw [e5, am_st_ne _ (by omega), e4, am_st_ne _ (by omega)]; exact f3 o x ho ho2
          · rw [e5, am_st_eq, if_pos ⟨rfl, rfl⟩, es]
          · rw [es]; exact srt_ins so ins hd k3
          · rw [es]; exact pm_ins pe hb.1 ins hv hvk
        unfold M_X12_listsLetters_L2B
        simp only [am_rf_all, am_ln_all]
        rw [e170, hb4]
        refine ⟨fun c7 => done (Or.inl c7), fun c7 => ?_⟩
        rw [w32_of (z := a - 1) (by omega) (by omega), k1 (a - 1) (by omega) (by omega)]
        refine ⟨by omega, by omega, fun c8 => done (Or.inr c8), fun c8 => ⟨by omega, by omega, ?_⟩⟩
        intro m4 e4 z hz
        rw [w32_of (by omega) (by omega)] at hz
        rw [hz, show a + -1 = a - 1 by omega]
        refine ⟨_, ?_, by omega, by omega, rfl, fun o x ho ho2 => ?_, ?_, fun l l0 l1 => ?_, fun l l0 l1 => ?_, fun l l0 l1 => ?_⟩
        · omega
        · rw [e4, am_st_ne _ (by omega)]; exact f3 o x ho ho2
        · rw [e4, am_st_ne _ (by omega)]; exact c5
        · rw [e4, am_st_ne _ (by omega)]; exact k1 l l0 (by omega)
        · by_cases cl : l = a
          · rw [cl, e4, am_st_eq, if_pos ⟨rfl, rfl⟩]
          · rw [e4, am_st_ne _ (by omega)]; exact k2 l (by omega) l1
        · by_cases cl : l = a - 1
          · rw [cl]; omega
          · exact k3 l (by omega) l1
      · have := cv1_mono s (a := (i + 1).toNat) (b := (A 363).toNat) (by omega)
        exact h0 (fun z => by have := z.2.2; omega) m2 f2
  · -- not within the bounds
    obtain ⟨⟨z1, z2⟩, z3, z4⟩ := z
    by_cases q : s = 0
    · have hz : ∀ n : Nat, n ≤ 10 → cv_1 0 n = 0 := by
        intro n
        induction n with
        | zero => intro _; rfl
        | succ n ih =>
          intro hn
          have := bits_hi (s := 0) (B := 0) (by omega) (by have := shl_B (B := 0) (by omega); omega) n (by omega) (by omega)
          rw [cv_1, ih (by omega), this]
          rfl
      have := hz (A 363).toNat (by omega)
      rw [q] at z3
      omega
    · exact c1 (by omega)
end MLT
