/-! CODE, the class: the answer. -/
def th_w (A : Int → Int) (i : Int) : Int := if 0 ≤ i ∧ i < th_n A 8 then A (308 + th_T A 8 i) else 1
/-- the best there is: its cost, its row -/
def cd_B (A : Int → Int) (s c : Int) (r : Int → Int) : Prop :=
  (th_n A 8 = 0 ∧ c = 0) ∨
  (th_n A 8 = 1 ∧ c = th_w A 0 * r 0 ∧ (∃ l, 0 ≤ l ∧ l < cv_1 s (A 363).toNat ∧ r 0 = lt_L A s (A 363).toNat l) ∧ ∀ l, 0 ≤ l → l < cv_1 s (A 363).toNat → r 0 ≤ lt_L A s (A 363).toNat l) ∨
  (2 ≤ th_n A 8 ∧ c = kc (th_w A) r (th_n A 8).toNat ∧ c < 1000000000 ∧ kb (th_w A) (th_n A 8).toNat (Cod (cv_1 s (A 363).toNat) (lt_L A s (A 363).toNat) (th_n A 8).toNat (fun _ => True)) r)
/-- the answer -/
def cd_A (A : Int → Int) (s what a : Int) : Prop :=
  (¬ lt_ok A s ∧ a = -1) ∨ (lt_ok A s ∧ 6 < th_n A 8 ∧ a = -1) ∨
  (lt_ok A s ∧ th_n A 8 ≤ 6 ∧ ∃ (c : Int) (r : Int → Int), cd_B A s c r ∧ ((what = 0 ∧ a = c) ∨ (what ≠ 0 ∧ ((∃ i, 0 ≤ i ∧ i < th_n A 8 ∧ (∀ x, 0 ≤ x → x < i → th_T A 8 x ≠ what - 1) ∧ th_T A 8 i = what - 1 ∧ a = r i) ∨ ((∀ i, 0 ≤ i → i < th_n A 8 → th_T A 8 i ≠ what - 1) ∧ a = -1)))))
theorem Cod_L {k : Int} {L L' : Int → Int} {n : Nat} {S : Int → Prop} {r : Int → Int} (h : ∀ l, 0 ≤ l → l < k → L' l = L l) (hc : Cod k L n S r) : Cod k L' n S r := by
  obtain ⟨f, hc⟩ := hc
  exact ⟨f, cod_let (tu := fun l => l) (si := fun l => l) (fun l l0 l1 => ⟨⟨l0, l1⟩, h l l0 l1, rfl⟩) f hc⟩
theorem th_wb {A : Int → Int} (hw : am_WA A) {i : Int} (i0 : 0 ≤ i) (i1 : i < th_n A 8) : th_w A i = A (308 + th_T A 8 i) ∧ (0 ≤ th_T A 8 i ∧ th_T A 8 i ≤ 7) ∧ 1 ≤ th_w A i ∧ th_w A i ≤ 99 := by
  obtain ⟨h1, h2⟩ := (th_b A 8).2 i i0 i1
  have h3 := hw.2.2.2.2.2.2.1 (th_T A 8 i) h1.1 (by omega)
  unfold th_w
  rw [if_pos ⟨i0, i1⟩]
  exact ⟨rfl, by omega, by omega, h3.2⟩
section CCO
variable {m : am_M}
theorem ccode (hw : am_WA (m 170)) (hB : bk_P m 1 (m 170)) {s what : Int} (hwh : 0 ≤ what ∧ what ≤ 8) {K : am_KK} (hK : ∀ a m', (∀ o x, (o < 156 ∨ 162 < o) → m' o x = m o x) → cd_A (m 170) s what a → K a m') :
    M_X1_find 156 1 s (fun r_4 m_5 =>
  ((r_4 ≠ 0) →
  ((what ≠ 0) →
  M_X1_lengthFor 156 (w32 (what - 1)) (fun r_7 m_8 =>
  K r_7 m_8) m_5) ∧ (¬ (what ≠ 0) →
  M_X1_total 156 (fun r_9 m_10 =>
  K r_9 m_10) m_5)) ∧ (¬ (r_4 ≠ 0) →
  K (-1) m_5)) m := by
  obtain ⟨A, hA⟩ : ∃ A, m 170 = A := ⟨_, rfl⟩
  rw [hA] at hw hB hK
  unfold M_X1_find
  refine ctakeL hw hB (fun nok m1 f1 => ?_) (fun ok m1 f1 c1 l1 => ?_)
  · refine ⟨fun _ => ⟨fun z => (by first | exact absurd rfl z | exact z.elim), fun _ => ?_⟩, fun z => absurd rfl z⟩
    exact hK (-1) m1 (fun o x ho => f1 o x (by omega)) (Or.inl ⟨nok, rfl⟩)
  refine ⟨fun z => absurd z (by decide), fun _ => ?_⟩
  have l6 : 0 ≤ A 368 ∧ A 368 ≤ 6 := by have := hw.2.2.2.2.2.2.2.2.2.2.1; exact this
  have hB1 : bk_P m1 1 A := bk_of hB (fun o x o1 o2 _ => f1 o x (by omega) (by omega)) (fun _ _ => rfl) l6.2
  refine ctakeA hw hB1 (fun n7 m2 f2 => ?_) (fun n6 m2 f2 c2 t2 => ?_)
  · refine ⟨fun z => absurd rfl z, fun _ => ⟨fun z => (by first | exact absurd rfl z | exact z.elim), fun _ => ?_⟩⟩
    exact hK (-1) m2 (fun o x ho => (f2 o x (by omega) (by omega)).trans (f1 o x (by omega) (by omega))) (Or.inr (Or.inl ⟨ok, n7, rfl⟩))
  refine ⟨fun _ => ?_, fun z => absurd (by decide) z⟩
  obtain ⟨n, hn⟩ : ∃ n : Nat, th_n A 8 = n := ⟨(th_n A 8).toNat, by have := (th_b A 8).1; omega⟩
  obtain ⟨k, hk⟩ : ∃ k, cv_1 s (A 363).toNat = k := ⟨_, rfl⟩
  have hk23 : 2 ≤ k ∧ k ≤ 3 := by rw [← hk]; exact ok.2
  rw [hk] at c1 l1
  have hLb := lt_b (A := A) s (W := A 363) hw.1.2.2 (A 363).toNat (by have := hw.1.1; omega)
  rw [hk] at hLb
  have e158 : ∀ l, 0 ≤ l → l < k → m2 158 l = lt_L A s (A 363).toNat l := fun l l0 l1' => by rw [f2 _ _ (by omega) (by omega)]; exact l1 l l0 l1'
  have hP : cdP n k (m2 158) (th_w A) m2 := by
    refine ⟨⟨by rw [c2, hn], by omega⟩, ⟨by rw [f2 _ _ (by omega) (by omega)]; exact c1, hk23⟩, ⟨fun _ => rfl, fun l l0 l1' => by rw [e158 l l0 l1']; exact hLb l l0 l1'⟩, fun i i0 i1 => ?_⟩
    obtain ⟨w1, w2, w3⟩ := th_wb hw i0 (by rw [hn]; exact i1)
    rw [t2 i i0 (by omega)]
    refine ⟨w2, ?_, w3⟩
    rw [w1, f2 16 _ (by omega) (by omega), f1 16 _ (by omega) (by omega)]
    exact (hB.2.2.2.2.2.2.1 _ w2.1 (by omega)).2.2
  have h64 : ((2 ^ n : Nat) : Int) ≤ 64 := by have : 2 ^ n ≤ 2 ^ 6 := Nat.pow_le_pow_right (by omega) hP.1.2; omega
  have hpos : 0 < 2 ^ n := Nat.two_pow_pos n
  -- what is found is told
  have tell : ∀ m3 : am_M, (∀ o x, (o < 159 ∨ 162 < o) → m3 o x = m2 o x) → cd_B A s (m3 160 (((2 ^ n : Nat) : Int) - 1)) (fun j => m3 161 ((((2 ^ n : Nat) : Int) - 1) * 6 + j)) → ((what ≠ 0) → M_X1_lengthFor 156 (w32 (what - 1)) (fun r_7 m_8 => K r_7 m_8) m3) ∧ (¬ (what ≠ 0) → M_X1_total 156 (fun r_9 m_10 => K r_9 m_10) m3) := fun m3 f3 hb => by
    have hP3 : cdP n k (m2 158) (th_w A) m3 := cdP_of hP (fun o x ho => f3 o x (by omega))
    have fr : ∀ o x, (o < 156 ∨ 162 < o) → m3 o x = m o x := fun o x ho => by rw [f3 o x (by omega), f2 o x (by omega) (by omega)]; exact f1 o x (by omega) (by omega)
    have t3 : ∀ l, 0 ≤ l → l < (n : Int) → m3 157 l = th_T A 8 l := fun l l0 l1' => by rw [f3 _ _ (by omega)]; exact t2 l l0 (by omega)
    refine ⟨fun c0 => ?_, fun c0 => ?_⟩
    · rw [w32_of (by omega) (by omega)]
      refine cdlength hP3 (fun i i0 i1 hx hi => ?_) (fun hx => ?_)
      · refine hK _ m3 fr (Or.inr (Or.inr ⟨ok, n6, _, _, hb, Or.inr ⟨c0, Or.inl ⟨i, i0, by omega, fun x x0 x1 => ?_, ?_, rfl⟩⟩⟩))
        · rw [← t3 x x0 (by omega)]; exact hx x x0 x1
        · rw [← t3 i i0 i1]; exact hi
      · refine hK _ m3 fr (Or.inr (Or.inr ⟨ok, n6, _, _, hb, Or.inr ⟨c0, Or.inr ⟨fun i i0 i1 => ?_, rfl⟩⟩⟩))
        rw [← t3 i i0 (by omega)]; exact hx i i0 (by omega)
    · exact ctotal hP3 (hK _ m3 fr (Or.inr (Or.inr ⟨ok, n6, _, _, hb, Or.inl ⟨Classical.not_not.mp c0, rfl⟩⟩)))
  refine cfind_loop hP (fun hne m3 f3 hG => ?_) (fun h1 m3 f3 r hr1 hr2 e1 e2 => ?_)
  · refine ⟨fun _ => tell m3 f3 ?_, fun z => absurd (by decide) z⟩
    have hg := hG (((2 ^ n : Nat) : Int) - 1) (by omega) (by omega)
    by_cases c0 : n = 0
    · refine Or.inl ⟨by rw [hn, c0]; rfl, ?_⟩
      rw [hg.2.1, c0]; rfl
    · have hP3 : cdP n k (m2 158) (th_w A) m3 := cdP_of hP (fun o x ho => f3 o x (by omega))
      have h2n : 2 ≤ n := by omega
      have hs4 : 2 ^ 2 ≤ 2 ^ n := Nat.pow_le_pow_right (by omega) h2n
      have hbd := cdG_bd hP3 (s := ((2 ^ n : Nat) : Int) - 1) (by omega) hg
      have hkb := hg.2.2.2 (by omega)
      refine Or.inr (Or.inr ⟨by omega, ?_, by omega, ?_⟩)
      · rw [show (th_n A 8).toNat = n by omega]; exact hg.2.1
      · rw [show (th_n A 8).toNat = n by omega, hk]
        have hall : ∀ j, 0 ≤ j → j < (n : Int) → bitI (((2 ^ n : Nat) : Int) - 1) j := fun j j0 j1 => by
          obtain ⟨i, rfl⟩ := bit_nat j0
          unfold bitI
          rw [show (((2 ^ n : Nat) : Int) - 1).toNat = 2 ^ n - 1 by omega, Int.toNat_natCast, Nat.testBit_two_pow_sub_one]
          simp; omega
        have hkb' := kb_set (S' := fun _ => True) (r' := fun j => m3 161 ((((2 ^ n : Nat) : Int) - 1) * 6 + j)) (fun j j0 j1 => ⟨fun _ => hall j j0 j1, fun _ => trivial⟩) (fun _ _ _ => rfl) hkb
        exact ⟨Cod_L (fun l l0 l1' => (e158 l l0 l1').symm) hkb'.1, fun t ht => hkb'.2 t (Cod_L (fun l l0 l1' => e158 l l0 l1') ht)⟩
  · refine ⟨fun _ => tell m3 f3 ?_, fun z => absurd (by decide) z⟩
    subst h1
    rw [show (((2 ^ 1 : Nat) : Int) - 1) = 1 from rfl]
    refine Or.inr (Or.inl ⟨by rw [hn]; rfl, ?_, ?_, fun l l0 l1' => ?_⟩)
    · show m3 160 1 = th_w A 0 * m3 161 (1 * 6 + 0)
      rw [e1, show (1 : Int) * 6 + 0 = 6 by omega, e2]
    · obtain ⟨l, l0, l1', hl⟩ := hr1
      refine ⟨l, l0, by rw [hk]; exact l1', ?_⟩
      show m3 161 (1 * 6 + 0) = _
      rw [show (1 : Int) * 6 + 0 = 6 by omega, e2, hl, e158 l l0 l1']
    · show m3 161 (1 * 6 + 0) ≤ _
      rw [hk] at l1'
      rw [show (1 : Int) * 6 + 0 = 6 by omega, e2, ← e158 l l0 l1']
      exact hr2 l l0 l1'
end CCO
