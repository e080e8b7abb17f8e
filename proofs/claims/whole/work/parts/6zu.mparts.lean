/-! CODE, the model: all ways of parting leaves. -/
/-- sorted, as things are given out -/
def srd (w : Int → Int) (n : Nat) (s : Int → Int) : Prop := ∀ i j, 0 ≤ i → i < (n : Int) → 0 ≤ j → j < (n : Int) → bf w i j → s i ≤ s j
/-- what is kept as the best: as before, or a coding -/
def mp_B (k : Int) (L w : Int → Int) (n : Nat) (m m1 : am_M) : Prop := (m1 168 47 = m 168 47 ∧ ke n (m1 196) (m 196)) ∨ (m1 168 47 = kc w (m1 196) n ∧ Cod k L n (fun _ => True) (m1 196))
theorem mp_Bt {k : Int} {L w : Int → Int} {n : Nat} {m m1 m2 : am_M} (h : mp_B k L w n m m1) (g : mp_B k L w n m1 m2) : mp_B k L w n m m2 := by
  rcases g with ⟨g1, g2⟩ | g
  · rcases h with ⟨h1, h2⟩ | ⟨h1, h2⟩
    · exact Or.inl ⟨g1.trans h1, fun j j0 j1 => (g2 j j0 j1).trans (h2 j j0 j1)⟩
    · exact Or.inr ⟨by rw [g1, h1]; exact (kc_e g2).symm, Cod_ext (fun _ _ _ => Iff.rfl) g2 h2⟩
  · exact Or.inr g
/-- between two ways -/
def mp_S (k : Int) (L w : Int → Int) (n : Nat) (m : am_M) (step many : Int) (Dn : Int → Int → Prop) (m1 : am_M) : Prop :=
  (∀ o x, (o < 193 ∨ 196 < o) → ¬ (o = 168 ∧ x = 47) → m1 o x = m o x) ∧ (∀ x, x < 6 * (step + 1) → m1 193 x = m 193 x) ∧ (∀ s, kd w n (m 168 47) (m 196) s → kd w n (m1 168 47) (m1 196) s) ∧ mp_B k L w n m m1 ∧
  ∀ x b s, Dn x b → (0 ≤ x ∧ x < many) → (2 ≤ b ∧ b ≤ k) → many - 1 + b ≤ (n : Int) → srd w n s → (∀ l', lf_S L many x b (fun y => m 193 (6 * step + y)) l' → lf_H k L n (many - 1 + b) l' s) → kd w n (m1 168 47) (m1 196) s
theorem mp_Sm {k : Int} {L w : Int → Int} {n : Nat} {m m1 : am_M} {step many : Int} {Dn Dn' : Int → Int → Prop} (h : mp_S k L w n m step many Dn m1) (hd : ∀ x b, (0 ≤ x ∧ x < many) → (2 ≤ b ∧ b ≤ k) → many - 1 + b ≤ (n : Int) → Dn' x b → Dn x b) : mp_S k L w n m step many Dn' m1 := by
  obtain ⟨h1, h2, h3, h4, h5⟩ := h
  exact ⟨h1, h2, h3, h4, fun x b s hdn a1 a2 a3 a4 a5 => h5 x b s (hd x b a1 a2 a3 hdn) a1 a2 a3 a4 a5⟩
section MPT
variable {n : Nat} {k : Int} {L w : Int → Int} {m : am_M}
/-- a leaf parted: the new list is laid, then one goes on with it -/
theorem mpart_one (hP : mdP n k L w m) {step many x b : Int} (hst : 0 ≤ step ∧ step ≤ 4) (hmn : 1 ≤ many ∧ many < (n : Int)) (hx : 0 ≤ x ∧ x < many) (hb : 2 ≤ b ∧ b ≤ k) (hmb : many - 1 + b ≤ (n : Int)) (hlb : ∀ y, 0 ≤ y → y < many → 0 ≤ m 193 (6 * step + y) ∧ m 193 (6 * step + y) ≤ 9 * step) {C24 C16 : Int → am_M → Prop} {K : am_KK} {R : Nat → am_PT}
    (hR : ∀ m', (∀ o z, o ≠ 193 → m' o z = m o z) → (∀ z, z < 6 * (step + 1) → m' 193 z = m 193 z) → lf_S L many x b (fun y => m 193 (6 * step + y)) (fun y => m' 193 (6 * (step + 1) + y)) → (∀ y, 0 ≤ y → y < many - 1 + b → 0 ≤ m' 193 (6 * (step + 1) + y) ∧ m' 193 (6 * (step + 1) + y) ≤ 9 * (step + 1)) → R 0 [168, step + 1, many - 1 + b] (fun _ m3 => C24 (b + 1) m3) m') : M_X12_parts_L3 R 168 step many x b (6 * (step + 1)) 0 C24 C16 K m := by
  have hn6 := hP.1.2
  have hk := hP.2.1
  have hL := hP.2.2.1
  obtain ⟨F, hF⟩ : ∃ F : Int → Int, F = fun y => m 193 (6 * step + y) := ⟨_, rfl⟩
  have hFy : ∀ y, m 193 (6 * step + y) = F y := fun y => by rw [hF]
  rw [← hF] at hR
  have hFb : ∀ y, 0 ≤ y → y < many → 0 ≤ F y ∧ F y ≤ 9 * step := fun y y0 y1 => by rw [← hFy]; exact hlb y y0 y1
  unfold M_X12_parts_L3
  refine ⟨fun j i m1 => 0 ≤ i ∧ i ≤ many ∧ j = (many - i).toNat ∧ (∀ o z, (o ≠ 193 ∨ z < 6 * (step + 1)) → m1 o z = m o z) ∧ ∀ y, 0 ≤ y → y < i → m1 193 (6 * (step + 1) + y) = F y, ⟨_, by omega, by omega, rfl, fun _ _ _ => rfl, fun y y0 y1 => by omega⟩, ?_⟩
  rintro j i m1 ⟨i0, i1, rfl, f1, k1⟩
  unfold M_X12_parts_L3B
  simp only [am_rf_all, am_ln_all]
  refine ⟨fun q => ?_, fun q => ?_⟩
  · have hi : i = many := by omega
    subst hi
    have hx1 := hFb x hx.1 hx.2
    have hl0 := hL.2 0 (by omega) (by omega)
    rw [w32_of (z := 6 * step) (by omega) (by omega), w32_of (z := 6 * step + x) (by omega) (by omega), w32_of (z := 6 * (step + 1) + x) (by omega) (by omega), f1 193 (6 * step + x) (by omega), hFy, f1 191 0 (by omega), hL.1]
    refine ⟨by omega, ?_⟩
    intro v hv
    subst hv
    rw [w32_of (z := F x + L 0) (by omega) (by omega)]
    refine ⟨by omega, by omega, ?_⟩
    intro m2 e2
    unfold M_X12_parts_L4
    refine ⟨fun j c m3 => 1 ≤ c ∧ c ≤ b ∧ j = (b - c).toNat ∧ (∀ o z, (o ≠ 193 ∨ z < 6 * (step + 1)) → m3 o z = m o z) ∧ (∀ y, 0 ≤ y → y < i → y ≠ x → m3 193 (6 * (step + 1) + y) = F y) ∧ m3 193 (6 * (step + 1) + x) = F x + L 0 ∧ ∀ z, 1 ≤ z → z < c → m3 193 (6 * (step + 1) + (i - 1 + z)) = F x + L z, ⟨_, by omega, by omega, rfl, fun o z ho => ?_, fun y y0 y1 y2 => ?_, ?_, fun z z0 z1 => by omega⟩, ?_⟩
    · rw [e2, am_st_ne _ (by omega)]; exact f1 o z ho
    · rw [e2, am_st_ne _ (by omega)]; exact k1 y y0 y1
    · rw [e2, am_st_eq, if_pos ⟨rfl, rfl⟩]
    rintro j c m3 ⟨c0, c1, rfl, f3, p1, p2, p3⟩
    unfold M_X12_parts_L4B
    simp only [am_rf_all, am_ln_all]
    refine ⟨fun q3 => ?_, fun q3 => ?_⟩
    · have hcb : c = b := by omega
      subst hcb
      rw [w32_of (z := step + 1) (by omega) (by omega), w32_of (z := i - 1) (by omega) (by omega), w32_of (z := i - 1 + c) (by omega) (by omega)]
      have e : (fun (_ : Int) (m_3 : am_M) => ∀ v4_4 : Int, v4_4 = w32 (c + 1) → C24 v4_4 m_3) = fun (_ : Int) (m_3 : am_M) => C24 (c + 1) m_3 := by
        funext a m_3
        rw [w32_of (by omega) (by omega)]
        exact propext ⟨fun h => h _ rfl, fun h z hz => hz ▸ h⟩
      rw [e]
      refine hR m3 (fun o z ho => f3 o z (Or.inl ho)) (fun z hz => f3 193 z (Or.inr hz)) ⟨p1, p2, p3⟩ (fun y y0 y1 => ?_)
      by_cases cy : y < i
      · by_cases cx : y = x
        · rw [cx, p2]; omega
        · rw [p1 y y0 cy cx]
          have := hFb y y0 cy
          omega
      · have e3 := p3 (y - (i - 1)) (by omega) (by omega)
        rw [show i - 1 + (y - (i - 1)) = y by omega] at e3
        rw [e3]
        have := hL.2 (y - (i - 1)) (by omega) (by omega)
        omega
    · have hlc := hL.2 c (by omega) (by omega)
      rw [w32_of (z := 6 * (step + 1) + i) (by omega) (by omega), w32_of (z := 6 * (step + 1) + i - 1) (by omega) (by omega), w32_of (z := 6 * (step + 1) + i - 1 + c) (by omega) (by omega), f3 191 c (by omega), hL.1, w32_of (z := F x + L c) (by omega) (by omega)]
      refine ⟨by omega, by omega, ?_⟩
      intro m4 e4 z hz
      rw [w32_of (by omega) (by omega)] at hz
      rw [hz]
      refine ⟨_, ?_, by omega, by omega, rfl, fun o z ho => ?_, fun y y0 y1 y2 => ?_, ?_, fun z z0 z1 => ?_⟩
      · omega
      · rw [e4, am_st_ne _ (by omega)]; exact f3 o z ho
      · rw [e4, am_st_ne _ (by omega)]; exact p1 y y0 y1 y2
      · rw [e4, am_st_ne _ (by omega)]; exact p2
      · by_cases cz : z = c
        · rw [cz, e4, am_st_eq, if_pos ⟨rfl, by omega⟩]
        · rw [e4, am_st_ne _ (by omega)]; exact p3 z z0 (by omega)
  · rw [w32_of (z := 6 * step) (by omega) (by omega), w32_of (z := 6 * step + i) (by omega) (by omega), w32_of (z := 6 * (step + 1) + i) (by omega) (by omega), f1 193 (6 * step + i) (by omega), hFy]
    refine ⟨by omega, by omega, ?_⟩
    intro m2 e2 z hz
    rw [w32_of (by omega) (by omega)] at hz
    rw [hz]
    refine ⟨_, ?_, by omega, by omega, rfl, fun o z ho => ?_, fun y y0 y1 => ?_⟩
    · omega
    · rw [e2, am_st_ne _ (by omega)]; exact f1 o z ho
    · by_cases cy : y = i
      · rw [cy, e2, am_st_eq, if_pos ⟨rfl, rfl⟩]
      · rw [e2, am_st_ne _ (by omega)]; exact k1 y y0 (by omega)
theorem mparts (hL : ∀ i j, 0 ≤ i → i ≤ j → j < k → L i ≤ L j) : ∀ (f : Nat) (many step : Int) (m : am_M) (K : am_KK), ((n : Int) - many).toNat < f → (1 ≤ many ∧ many ≤ (n : Int)) → (0 ≤ step ∧ step ≤ many - 1) → mdP n k L w m → (∀ y, 0 ≤ y → y < many → 0 ≤ m 193 (6 * step + y) ∧ m 193 (6 * step + y) ≤ 9 * step) → lf_G k L n many (fun y => m 193 (6 * step + y)) →
    (∀ m', (∀ o x, (o < 193 ∨ 196 < o) → ¬ (o = 168 ∧ x = 47) → m' o x = m o x) → (∀ x, x < 6 * (step + 1) → m' 193 x = m 193 x) → (∀ s, kd w n (m 168 47) (m 196) s → kd w n (m' 168 47) (m' 196) s) → mp_B k L w n m m' → (∀ s, srd w n s → lf_H k L n many (fun y => m 193 (6 * step + y)) s → kd w n (m' 168 47) (m' 196) s) → K 0 m') → R_X12_parts f 0 [168, step, many] K m := by
  intro f
  induction f with
  | zero => intro many step m K h; omega
  | succ f ih =>
    intro many step m K hf hmn hst hP hlb hG hK
    have hn6 := hP.1.2
    have hk := hP.2.1
    show am_ob 168 12 ∧ M_X12_parts (R_X12_parts f) 168 step many K m
    refine ⟨am_ob168, ?_⟩
    unfold M_X12_parts
    rw [hP.1.1]
    refine ⟨fun c0 => ?_, fun c0 => ?_⟩
    · -- more leaves are wanted
      have hlt : many < (n : Int) := by omega
      unfold M_X12_parts_L1
      refine ⟨fun j x m1 => 0 ≤ x ∧ x ≤ many ∧ j = (many - x).toNat ∧ mp_S k L w n m step many (fun y _ => y < x) m1, ⟨_, by omega, by omega, rfl, fun _ _ _ _ => rfl, fun _ _ => rfl, fun _ h => h, Or.inl ⟨rfl, fun _ _ _ => rfl⟩, fun y b s hd a1 => by omega⟩, ?_⟩
      rintro j x m1 ⟨x0, x1, rfl, hS⟩
      unfold M_X12_parts_L1B
      refine ⟨fun q => ?_, fun q => ?_⟩
      · obtain ⟨s1, s2, s3, s4, s5⟩ := hS
        refine hK m1 s1 s2 s3 s4 (fun s hs hH => ?_)
        obtain ⟨y, b, hy, hb, hyb, hall⟩ := lf_Hs hk.2 hL (by omega) hlt hH
        exact s5 y b s (by omega) hy hb hyb hs hall
      · have hP1 : mdP n k L w m1 := mdP_of hP (fun o z ho => hS.1 o z (by omega) (by omega))
        have next : mp_S k L w n m step many (fun y _ => y < x + 1) m1 → True := fun _ => trivial
        unfold M_X12_parts_L2
        refine ⟨fun j b m2 => 2 ≤ b ∧ b ≤ 4 ∧ j = (4 - b).toNat ∧ mp_S k L w n m step many (fun y c => y < x ∨ (y = x ∧ c < b)) m2, ⟨_, by omega, by omega, rfl, mp_Sm hS (fun y c a1 a2 a3 a4 => by omega)⟩, ?_⟩
        rintro j b m2 ⟨b0, b1, rfl, hS2⟩
        have hP2 : mdP n k L w m2 := mdP_of hP (fun o z ho => hS2.1 o z (by omega) (by omega))
        have leave : (∀ c, b ≤ c → c ≤ k → many - 1 + c ≤ (n : Int) → False) → ∀ z, z = w32 (x + 1) → ∃ j', j' < (many - x).toNat ∧ 0 ≤ z ∧ z ≤ many ∧ j' = (many - z).toNat ∧ mp_S k L w n m step many (fun y _ => y < z) m2 := fun hno z hz => by
          rw [w32_of (by omega) (by omega)] at hz
          subst hz
          refine ⟨_, ?_, by omega, by omega, rfl, mp_Sm hS2 (fun y c a1 a2 a3 a4 => ?_)⟩
          · omega
          · by_cases cy : y < x
            · exact Or.inl cy
            · by_cases cc : c < b
              · exact Or.inr ⟨by omega, cc⟩
              · exact absurd trivial (fun _ => hno c (by omega) a2.2 a3)
        unfold M_X12_parts_L2B
        rw [hP2.2.1.1, hP2.1.1, w32_of (z := many - 1) (by omega) (by omega), w32_of (z := many - 1 + b) (by omega) (by omega)]
        refine ⟨fun c1 => ?_, fun c1 => ⟨fun c2 => ?_, fun c2 => ?_⟩⟩
        · unfold M_X12_parts_J1
          exact leave (fun c d1 d2 d3 => by omega)
        · unfold M_X12_parts_J1
          exact leave (fun c d1 d2 d3 => by omega)
        · intro v hv
          rw [w32_of (z := step + 1) (by omega) (by omega), w32_of (by omega) (by omega)] at hv
          subst hv
          have e193 : ∀ y, y < many → m2 193 (6 * step + y) = m 193 (6 * step + y) := fun y hy => hS2.2.1 _ (by omega)
          have lfe : ∀ l', lf_S L many x b (fun y => m2 193 (6 * step + y)) l' → lf_S L many x b (fun y => m 193 (6 * step + y)) l' := fun l' h => by
            obtain ⟨t1, t2, t3⟩ := h
            refine ⟨fun y y0 y1 y2 => (t1 y y0 y1 y2).trans (e193 y y1), by rw [t2]; exact congrArg (· + L 0) (e193 x (by omega)), fun c d1 d2 => by rw [t3 c d1 d2]; exact congrArg (· + L c) (e193 x (by omega))⟩
          refine mpart_one hP2 (by omega) ⟨hmn.1, hlt⟩ ⟨x0, by omega⟩ ⟨b0, by omega⟩ (by omega) (fun y y0 y1 => by rw [e193 y y1]; exact hlb y y0 y1) (fun m3 f3 g3 l3 h3 => ?_)
          have hlS := lfe _ l3
          have hP3 : mdP n k L w m3 := mdP_of hP2 (fun o z ho => f3 o z (by omega))
          refine ih (many - 1 + b) (step + 1) m3 _ (by omega) (by omega) (by omega) hP3 h3 (lf_Gs ⟨x0, by omega⟩ ⟨b0, by omega⟩ hlS hG) (fun m4 u1 u2 u3 u4 u5 => ?_)
          obtain ⟨s1, s2, s3, s4, s5⟩ := hS2
          have e47 : m3 168 47 = m2 168 47 := f3 _ _ (by omega)
          have e196 : m3 196 = m2 196 := funext fun z => f3 _ _ (by omega)
          rw [e47, e196] at u3
          refine ⟨_, ?_, by omega, by omega, rfl, fun o z o1 o2 => ?_, fun z hz => ?_, fun s h => u3 s (s3 s h), mp_Bt s4 ?_, fun y c s hd a1 a2 a3 a4 a5 => ?_⟩
          · omega
          · rw [u1 o z o1 o2, f3 o z (by omega)]; exact s1 o z o1 o2
          · rw [u2 z (by omega), g3 z hz]; exact s2 z hz
          · rcases u4 with ⟨v1, v2⟩ | v
            · exact Or.inl ⟨v1.trans e47, by rw [e196] at v2; exact v2⟩
            · exact Or.inr v
          · by_cases old : y < x ∨ (y = x ∧ c < b)
            · exact u3 s (s5 y c s old a1 a2 a3 a4 a5)
            · have hyx : y = x := by omega
              have hcb : c = b := by omega
              subst hyx
              subst hcb
              exact u5 s a4 (a5 _ hlS)
    · -- so many leaves as things
      have hm : many = (n : Int) := Classical.not_not.mp c0
      subst hm
      refine mlook hP (by omega) (by omega) (fun y y0 y1 => by have := hlb y y0 y1; omega) (fun m' f1 T so pe d1 d2 d3 => ?_)
      refine hK m' (fun o x o1 o2 => f1 o x (by omega) (by omega) (by omega) o2) (fun x _ => f1 _ _ (by omega) (by omega) (by omega) (by omega)) d2 ?_ (fun s hs hH => ?_)
      · rcases d3 with ⟨a1, a2⟩ | a
        · exact Or.inr ⟨by rw [a1]; exact (kc_e a2).symm, Cod_ext (fun _ _ _ => Iff.rfl) a2 (rank_G pe hG)⟩
        · exact Or.inl a
      · have hle := rank_H (w := w) (fun i i0 i1 => by have := hP.2.2.1.2 i i0 i1; omega) so pe hH hs
        have hw : ∀ i, 0 ≤ i → i < (n : Int) → 0 ≤ w i := fun i i0 i1 => by have := (hP.2.2.2 i i0 i1).2; omega
        have hkl : kl (fun i => if i < (n : Int) then w i else 1) n (fun j => T (ahd w j n)) s := kl_le (fun i i0 => by
          show 0 ≤ if i < (n : Int) then w i else 1
          split
          · exact hw i i0 (by assumption)
          · decide) hle
        have ew : ∀ r : Int → Int, kc (fun i => if i < (n : Int) then w i else 1) r n = kc w r n := fun r => by
          have : ∀ p : Nat, p ≤ n → kc (fun i => if i < (n : Int) then w i else 1) r p = kc w r p := by
            intro p
            induction p with
            | zero => intro _; rfl
            | succ p ihp =>
              intro hp
              rw [kc, kc, ihp (by omega), if_pos (show ((p : Nat) : Int) < (n : Int) by omega)]
          exact this n (Nat.le_refl n)
        have hkl' : kl w n (fun j => T (ahd w j n)) s := by
          unfold kl at hkl ⊢
          rw [ew, ew] at hkl
          exact hkl
        rcases d1 with d1 | ⟨d1, d4⟩
        · rcases hkl' with z | ⟨z, -⟩
          · exact Or.inl (by omega)
          · exact Or.inl (by omega)
        · rcases hkl' with z | ⟨z, z2⟩
          · exact Or.inl (by omega)
          · refine Or.inr ⟨by omega, ?_⟩
            rcases d4 with d4 | d4
            · rcases z2 with z2 | z2
              · exact Or.inl (kx_trans d4 z2)
              · exact Or.inl (kx_el d4 (fun _ _ _ => rfl) (fun j j0 j1 => (z2 j j0 j1).symm))
            · rcases z2 with z2 | z2
              · exact Or.inl (kx_el z2 d4 (fun _ _ _ => rfl))
              · exact Or.inr (fun j j0 j1 => (d4 j j0 j1).trans (z2 j j0 j1))
end MPT
