/-! COVER, the other side. -/
theorem cv_0 (A : Int → Int) : ∀ n : Nat, n ≤ 10 → cv_W A 0 n = (0, 0, 0) := by
  intro n
  induction n with
  | zero => intro _; rfl
  | succ n ih =>
    intro hn
    have := bits_hi (s := 0) (B := 0) (by omega) (by have := shl_B (B := 0) (by omega); omega) n (by omega) (by omega)
    rw [cv_W, this, if_pos (by omega)]
    exact ih (by omega)
theorem cv_00 {v : Int} (hv : 1 ≤ v ∧ v < 256) : am_and v (am_xor 0 (-1)) ≠ 0 := by
  intro h
  have h1 := (cv_sub (x := 0) (v := v) (by omega) (by omega)).mpr h
  have h2 : am_and 0 v = 0 := by
    unfold am_and
    rw [show Int32.ofInt 0 = 0 from rfl, Int32.zero_and]
    rfl
  omega
section COM
variable {m : am_M}
theorem mcover {v how : Int} (hw : am_WA (m 170)) (hv : 1 ≤ v ∧ v < 256) {K : am_KK} (hK : K (cb_R (m 170) v how) m) : M_X12_cover_L1 168 v how (-1) 0 0 K m := by
  have h6 := hw.2.2.2.1
  obtain ⟨g1, g2, g3⟩ := shl_B (B := m 170 366) (by omega)
  unfold M_X12_cover_L1
  refine ⟨fun j b k s m1 => m1 = m ∧ 0 ≤ s ∧ s ≤ am_shl 1 (m 170 366) ∧ j = (am_shl 1 (m 170 366) - s).toNat ∧ b = (cb_S (m 170) v (s - 1).toNat).1 ∧ (b ≠ -1 → k = (cv_W (m 170) b (m 170 366).toNat).2.1), ⟨_, rfl, by omega, by omega, rfl, rfl, fun z => absurd rfl z⟩, ?_⟩
  rintro j b k s m1 ⟨rfl, s0, sN, rfl, rfl, hk⟩
  have hP := cb_P (m1 170) v (s - 1).toNat
  unfold M_X12_cover_L1B
  simp only [am_rf_all, am_ln_all]
  refine ⟨by omega, fun q => ?_, fun q => ?_⟩
  · have hs : s = am_shl 1 (m1 170 366) := by omega
    rw [hs] at hP hk ⊢
    unfold cb_R at hK
    refine ⟨fun c => ⟨fun c2 => ?_, fun c2 => ?_⟩, fun c => ?_⟩
    · rw [if_pos c, if_pos c2] at hK; exact hK
    · rw [if_pos c, if_neg c2] at hK
      rcases hP with hP | ⟨p1, p2, p3⟩
      · rw [hP] at c; exact absurd rfl c
      · obtain ⟨b1, b2, b3⟩ := cv_le hw (cb_S (m1 170) v (am_shl 1 (m1 170 366) - 1).toNat).1 (m1 170 366).toNat (by omega)
        have hk2 := hk c
        have : k = (cb_S (m1 170) v (am_shl 1 (m1 170 366) - 1).toNat).2 / 16 := by
          rw [p3]; unfold cb_c; omega
        rw [this]
        exact hK
    · rw [if_neg c] at hK; exact hK
  · generalize hC : (fun (v3' v4' v5' : Int) (m' : am_M) => ∃ j', j' < (am_shl 1 (m1 170 366) - s).toNat ∧ m' = m1 ∧ 0 ≤ v5' ∧ v5' ≤ am_shl 1 (m1 170 366) ∧ j' = (am_shl 1 (m1 170 366) - v5').toNat ∧ v3' = (cb_S (m1 170) v (v5' - 1).toNat).1 ∧ (v3' ≠ -1 → v4' = (cv_W (m1 170) v3' (m1 170 366).toNat).2.1)) = C
    have go : ∀ b' k' : Int, b' = (cb_S (m1 170) v s.toNat).1 → (b' ≠ -1 → k' = (cv_W (m1 170) b' (m1 170 366).toNat).2.1) → ∀ z : Int, z = w32 (s + 1) → C b' k' z m1 := by
      intro b' k' hb' hk' z hz
      rw [w32_of (by omega) (by omega)] at hz
      rw [← hC, hz]
      refine ⟨_, ?_, rfl, by omega, by omega, rfl, ?_, hk'⟩
      · omega
      · rw [show (s + 1 - 1) = s by omega]; exact hb'
    clear hC
    unfold M_X12_cover_L2
    refine ⟨fun j c k2 i m2 => m2 = m1 ∧ 0 ≤ i ∧ i ≤ m1 170 366 ∧ j = (m1 170 366 - i).toNat ∧ c = (cv_W (m1 170) s i.toNat).1 ∧ k2 = (cv_W (m1 170) s i.toNat).2.1, ⟨_, rfl, by omega, by omega, rfl, rfl, rfl⟩, ?_⟩
    rintro j c k2 i m2 ⟨rfl, i0, i1, rfl, rfl, rfl⟩
    obtain ⟨b1, b2, b3⟩ := cv_le hw s i.toNat (by omega)
    have es := cv_s (m2 170) s i0
    unfold M_X12_cover_L2B
    simp only [am_rf_all, am_ln_all]
    refine ⟨by omega, fun q2 => ?_, fun q2 => ?_⟩
    · -- all of them are looked at
      have hi : i = m2 170 366 := by omega
      rw [hi] at b1 b2 b3 ⊢
      have hs0 : s = 0 → am_and v (am_xor (cv_W (m2 170) s (m2 170 366).toNat).1 (-1)) ≠ 0 := fun z => by
        rw [z, cv_0 _ _ (by omega)]; exact cv_00 hv
      unfold M_X12_cover_J3 M_X12_cover_J4
      by_cases c1 : s = 0
      · have hst : s.toNat = (s - 1).toNat := by omega
        exact ⟨fun _ => go _ _ (by rw [hst]) hk, fun z => absurd (hs0 c1) z⟩
      have eb := cb_s (m2 170) v (show 1 ≤ s by omega)
      refine ⟨fun y => go _ _ (by rw [eb, if_neg (fun z => y z.1)]) hk, fun y => ?_⟩
      have y' := Classical.not_not.mp y
      have kone : cv_1 s 10 = (cv_W (m2 170) s (m2 170 366).toNat).2.2 := cv_ones (by omega) (by omega) (bits_hi (by omega) (by omega))
      have ec : cb_c (m2 170) s = 16 * (cv_W (m2 170) s (m2 170 366).toNat).2.1 + (cv_W (m2 170) s (m2 170 366).toNat).2.2 := rfl
      refine ⟨fun c2 => go _ _ (by rw [eb, if_pos ⟨y', Or.inl c2⟩]) (fun _ => rfl), fun c2 => ?_⟩
      rcases hP with hP | ⟨p1, p2, p3⟩
      · rw [hP] at c2; exact absurd rfl c2
      have hk2 := hk c2
      obtain ⟨d1, d2, d3⟩ := cv_le hw (cb_S (m2 170) v (s - 1).toNat).1 (m2 170 366).toNat (by omega)
      have pone : cv_1 (cb_S (m2 170) v (s - 1).toNat).1 10 = (cv_W (m2 170) (cb_S (m2 170) v (s - 1).toNat).1 (m2 170 366).toNat).2.2 := cv_ones (by omega) (by omega) (bits_hi (by omega) (by omega))
      have pc : (cb_S (m2 170) v (s - 1).toNat).2 = 16 * k + (cv_W (m2 170) (cb_S (m2 170) v (s - 1).toNat).1 (m2 170 366).toNat).2.2 := by rw [p3, hk2]; rfl
      have take : cb_c (m2 170) s < (cb_S (m2 170) v (s - 1).toNat).2 → cb_S (m2 170) v s.toNat = (s, cb_c (m2 170) s) := fun z => by rw [eb, if_pos ⟨y', Or.inr z⟩]
      have skip : ¬ cb_c (m2 170) s < (cb_S (m2 170) v (s - 1).toNat).2 → cb_S (m2 170) v s.toNat = cb_S (m2 170) v (s - 1).toNat := fun z => by rw [eb, if_neg (fun w => w.2.elim c2 z)]
      refine ⟨fun c3 => go _ _ (by rw [skip (by omega)]) hk, fun c3 => ⟨fun c4 => go _ _ (by rw [take (by omega)]) (fun _ => rfl), fun c4 => ?_⟩⟩
      refine mones ?_
      refine mones ?_
      rw [kone, pone]
      exact ⟨fun c5 => go _ _ (by rw [take (by omega)]) (fun _ => rfl), fun c5 => go _ _ (by rw [skip (by omega)]) hk⟩
    · have h2 := h6.2.2 i i0 (by omega)
      have nx : ∀ z : Int, z = w32 (i + 1) → z = i + 1 := fun z hz => by rw [hz, w32_of (by omega) (by omega)]
      unfold M_X12_cover_J1 M_X12_cover_J2 M_X12_isIn
      simp only [am_rf_all, am_ln_all]
      rw [w32_of (z := 2 * i) (by omega) (by omega), w32_of (z := 322 + 2 * i) (by omega) (by omega), w32_of (z := 322 + 2 * i + 1) (by omega) (by omega)]
      by_cases cb : am_and (am_shr s i) 1 ≠ 1
      · rw [if_pos cb] at es
        refine ⟨fun _ => ⟨fun _ => ?_, fun z => (by first | exact absurd rfl z | exact absurd trivial z | exact absurd z (by decide) | exact z.elim)⟩, fun z => absurd cb z⟩
        intro v6 hv6
        rw [bit_or0 b1] at hv6
        refine ⟨fun _ => ⟨fun _ => ?_, fun z => (by first | exact absurd rfl z | exact absurd trivial z | exact absurd z (by decide) | exact z.elim)⟩, fun z => absurd cb z⟩
        intro v7 hv7 z hz
        rw [Int.add_zero, w32_of (by omega) (by omega)] at hv7
        rw [nx z hz, hv6, hv7]
        refine ⟨_, ?_, by first | rfl | trivial, by omega, by omega, rfl, by rw [es], by rw [es]⟩
        omega
      · rw [if_neg cb] at es
        refine ⟨fun z => absurd z cb, fun _ => ⟨fun z => (by first | exact absurd rfl z | exact absurd trivial z | exact absurd z (by decide) | exact z.elim), fun _ => ⟨by omega, ?_⟩⟩⟩
        intro v6 hv6
        refine ⟨fun z => absurd z cb, fun _ => ⟨fun z => (by first | exact absurd rfl z | exact absurd trivial z | exact absurd z (by decide) | exact z.elim), fun _ => ⟨by omega, ?_⟩⟩⟩
        intro v7 hv7 z hz
        rw [w32_of (by omega) (by omega)] at hv7
        rw [nx z hz, hv6, hv7]
        refine ⟨_, ?_, by first | rfl | trivial, by omega, by omega, rfl, by rw [es], by rw [es]⟩
        omega
end COM
theorem j_cover (v how : Int) : Joint (M_X11_cover 0 v how) (M_X12_cover 168 v how) := by
  intro m h K hK
  have hb := h.1.1
  have hf := h.1.2.2.1
  unfold M_X11_cover M_X12_cover
  simp only [within_eq, lies_eq, b01, b01']
  by_cases c1 : 1 ≤ v ∧ v ≤ 255
  case neg => exact ⟨fun _ => ⟨fun _ => hK _ _ h, fun z => absurd c1 z⟩, fun z => absurd c1 z⟩
  refine ⟨fun z => absurd c1 z, fun _ => ?_⟩
  by_cases c2 : 0 ≤ how ∧ how ≤ 1
  case neg => exact ⟨fun z => absurd z c2, fun _ => ⟨fun z => absurd c1 z, fun _ => ⟨fun z => absurd z c2, fun _ => hK _ _ h⟩⟩⟩
  refine ⟨fun _ => ?_, fun z => absurd c2 z⟩
  refine ccover hf.1 hb (by omega) ?_
  refine ⟨fun z => absurd c1 z, fun _ => ⟨fun _ => ?_, fun z => absurd c2 z⟩⟩
  exact mcover hf.1 (by omega) (hK _ _ h)
