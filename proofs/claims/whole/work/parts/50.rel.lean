/-! BOTH SIDES IN ONE MEMORY: what holds between calls. -/
/-- who waits was heard on no DAY -/
def wf_H (A : Int → Int) : Prop := ∀ p, 0 ≤ p → p < A 168 → A (7 * p + 5) = 0 → A (7 * p + 6) = -1
def im_A (m : am_M) (k : Int) : Int → Int := fun x => m 171 (5977 * k + x)
def im_P (m : am_M) (k : Int) : Prop := m 128 k = m 172 k ∧ (m 172 k = 0 ∨ m 172 k = 1) ∧ (m 172 k = 1 → bk_P m (44 + 42 * k) (im_A m k) ∧ vg_P m (44 + 42 * k + 11) (im_A m k) ∧ wf_A 16 (im_A m k) ∧ wf_H (im_A m k))
def tp_P (m : am_M) : Prop := rk m 129 1 400 ∧ m 129 2 = m 168 13 ∧ (0 ≤ m 168 13 ∧ m 168 13 ≤ 400) ∧ ∀ x, 0 ≤ x → x < m 168 13 → m 130 x = m 175 x % 256 ∧ -128 ≤ m 175 x ∧ m 175 x ≤ 127
def sc_P (m : am_M) : Prop := m 0 17 = m 168 0 ∧ m 0 18 = m 168 6 ∧ m 0 19 = m 168 48 ∧ m 135 6 = m 168 14
def re_P (m : am_M) : Prop := ∀ j, (j = 1 ∨ j = 2 ∨ j = 3 ∨ j = 5 ∨ j = 6) → m 167 j = m 169 j
/-- a deed taken back from V gives L -/
def ud_1 (d what : Int) (V L : Int → Int) : Prop :=
  (d = 0 ∧ what = 0 ∧ V 168 = L 168 + 1 ∧ V 169 = L 169 ∧ ∀ x, 0 ≤ x → x < 7 * L 168 → V x = L x) ∨
  (what = 1 ∧ V 168 = L 168 ∧ V 169 = L 169 + 1 ∧ ∃ h, d = h * 2 + 1 ∧ 0 ≤ h ∧ h < 16777216 ∧ ∀ p, 0 ≤ p → p < L 168 → (∀ j, 0 ≤ j → j < 5 → V (7 * p + j) = L (7 * p + j)) ∧ (bitI h p → L (7 * p + 5) = 0 ∧ L (7 * p + 6) = -1) ∧ (¬ bitI h p → V (7 * p + 5) = L (7 * p + 5) ∧ V (7 * p + 6) = L (7 * p + 6)))
def ud_L (m : am_M) (j : Int) : Int → Int := fun x => m 189 (171 * j + x)
/-- a laid-aside vigil is sound -/
def ud_W (ppl : Int) (L : Int → Int) : Prop := am_WV 16 ppl L ∧ wf_H L ∧ ∀ x, 0 ≤ x → x < 170 → -1000000 ≤ L x ∧ L x ≤ 1000000
def ud_P (m : am_M) : Prop := rk m 148 1 16 ∧ m 148 2 = m 168 38 ∧ (0 ≤ m 168 38 ∧ m 168 38 ≤ 16) ∧ ∀ j, 0 ≤ j → j < m 168 38 → ud_1 (m 149 j) (m 189 (171 * j + 170)) (if j + 1 < m 168 38 then ud_L m (j + 1) else m 170) (ud_L m j) ∧ ud_W (m 170 365) (ud_L m j)
def se_P (m : am_M) : Prop := rk m 164 4 24 ∧ m 164 2 = m 168 58 ∧ (0 ≤ m 168 58 ∧ m 168 58 ≤ 6) ∧ ∀ p, 0 ≤ p → p < m 168 58 → m 165 (p * 4 + 0) = m 198 p ∧ m 165 (p * 4 + 1) = m 199 (3 * p + 1) ∧ m 165 (p * 4 + 2) = m 199 (3 * p + 2) ∧ m 165 (p * 4 + 3) = m 199 (3 * p)
/-- the rows and their widths -/
def wd_b (b : Int) : List (Int × Int) := [(b + 1, 1), (b + 3, 4), (b + 5, 1), (b + 7, 2), (b + 9, 3), (b + 12, 7), (b + 20, 7), (b + 24, 7), (b + 28, 7), (b + 32, 7), (b + 36, 7), (b + 40, 7)]
def wd_L : List (Int × Int) := wd_b 1 ++ wd_b 44 ++ wd_b 86 ++ [(129, 1), (133, 7), (143, 7), (146, 7), (148, 1), (150, 1), (164, 4)]
def wd_P (m : am_M) : Prop := ∀ q ∈ wd_L, m q.1 1 = q.2
/-- the bytes of the words of both languages; they stay -/
def am_wb : List Int := [114, 97, 110, 107, 32, 98, 114, 101, 97, 116, 104, 32, 98, 97, 114, 115, 32, 105, 102, 32, 111, 114, 32, 97, 110, 100, 32, 110, 111, 116, 32, 108, 101, 110, 103, 116, 104, 32, 118, 111, 105, 99, 101, 115, 32, 97, 115, 107, 101, 114, 32, 97, 103, 101, 32, 116, 104, 105, 110, 103, 32, 119, 97, 105, 116, 115, 32, 109, 111, 111, 100, 32, 100, 97, 121, 32, 112, 114, 97, 121, 101, 114, 115, 32, 119, 97, 105, 116, 105, 110, 103, 32, 100, 111, 110, 101, 32, 115, 97, 105, 100, 32, 103, 114, 97, 110, 116, 101, 100, 32, 112, 114, 97, 121, 32, 102, 111, 114, 32, 111, 102, 32, 100, 97, 119, 110, 32, 116, 105, 109, 101, 115, 32]
def ww_P (m : am_M) : Prop := rk m 133 7 84 ∧ (∀ k, 0 ≤ k → k < 133 → m 174 k = am_wb.getD k.toNat 0) ∧ ∀ k, 4 ≤ k → k ≤ 7 → m 166 k = 0
theorem ww_of {m m' : am_M} (h : ww_P m) (e1 : m' 133 1 = m 133 1) (e2 : m' 133 2 = m 133 2) (e3 : ∀ k, m' 174 k = m 174 k) (e4 : ∀ k, 4 ≤ k → k ≤ 7 → m' 166 k = m 166 k) : ww_P m' := ⟨rk_of h.1 e1 e2, fun k k0 k1 => by rw [e3]; exact h.2.1 k k0 k1, fun k k0 k1 => by rw [e4 k k0 k1]; exact h.2.2 k k0 k1⟩
def Rel (m : am_M) : Prop := (bk_P m 1 (m 170) ∧ vg_P m 12 (m 170) ∧ wf_A 16 (m 170) ∧ wf_H (m 170)) ∧ (im_P m 0 ∧ im_P m 1) ∧ tp_P m ∧ sc_P m ∧ re_P m ∧ ud_P m ∧ se_P m ∧ wd_P m ∧ ww_P m
section REL
variable {m m' : am_M}
theorem im_of {k : Int} (hk : k = 0 ∨ k = 1) (h : im_P m k) (e : ∀ o x, (o = 128 ∨ (44 ≤ o ∧ o < 128) ∨ o = 171 ∨ o = 172) → m' o x = m o x) : im_P m' k := by
  obtain ⟨h1, h2, h3⟩ := h
  have ea : im_A m' k = im_A m k := by funext x; exact e _ _ (by omega)
  refine ⟨by rw [e _ _ (by omega), e _ _ (by omega)]; exact h1, by rw [e _ _ (by omega)]; exact h2, fun hh => ?_⟩
  rw [e _ _ (by omega)] at hh
  obtain ⟨g1, g2, g3, g4⟩ := h3 hh
  rw [ea]
  exact ⟨bk_of g1 (fun o x o1 o2 _ => e o x (by omega)) (fun _ _ => rfl) g3.2.2.1.1.2, vg_of g2 (fun o x o1 o2 => e o x (by omega)) (fun _ _ => rfl), g3, g4⟩
theorem tp_of (h : tp_P m) (e : ∀ o x, (o = 129 ∨ o = 130 ∨ o = 175 ∨ (o = 168 ∧ x = 13)) → m' o x = m o x) : tp_P m' := by
  obtain ⟨h1, h2, h3, h4⟩ := h
  refine ⟨rk_of h1 (e _ _ (by omega)) (e _ _ (by omega)), by rw [e _ _ (by omega), e _ _ (by omega)]; exact h2, by rw [e _ _ (by omega)]; exact h3, fun x x0 x1 => ?_⟩
  rw [e 168 13 (by omega)] at x1
  rw [e _ _ (by omega), e 175 _ (by omega)]
  exact h4 x x0 x1
theorem sc_of (h : sc_P m) (e : ∀ o x, ((o = 0 ∧ (x = 17 ∨ x = 18 ∨ x = 19)) ∨ (o = 135 ∧ x = 6) ∨ (o = 168 ∧ (x = 0 ∨ x = 6 ∨ x = 48 ∨ x = 14))) → m' o x = m o x) : sc_P m' := by
  obtain ⟨h1, h2, h3, h4⟩ := h
  exact ⟨by rw [e _ _ (by omega), e _ _ (by omega)]; exact h1, by rw [e _ _ (by omega), e _ _ (by omega)]; exact h2, by rw [e _ _ (by omega), e _ _ (by omega)]; exact h3, by rw [e _ _ (by omega), e _ _ (by omega)]; exact h4⟩
theorem re_of (h : re_P m) (e : ∀ o x, (o = 167 ∨ o = 169) → m' o x = m o x) : re_P m' := fun j hj => by rw [e _ _ (by omega), e _ _ (by omega)]; exact h j hj
theorem ud_W_mono {a b : Int} {L : Int → Int} (h : ud_W a L) (hab : a ≤ b) : ud_W b L := by
  obtain ⟨⟨h1, h2, h3⟩, h4⟩ := h
  refine ⟨⟨h1, h2, fun i i0 i1 => ?_⟩, h4⟩
  obtain ⟨g1, g2⟩ := h3 i i0 i1
  exact ⟨by omega, g2⟩
theorem ud_1_of {d what : Int} {V V' L : Int → Int} (h : ud_1 d what V L) (hL : 0 ≤ L 168 ∧ L 168 ≤ 23) (e : ∀ x, 0 ≤ x → x < 170 → V' x = V x) : ud_1 d what V' L := by
  rcases h with ⟨h1, h2, h3, h4, h5⟩ | ⟨h1, h2, h3, hh, h4, h5, h6, h7⟩
  · exact Or.inl ⟨h1, h2, by rw [e _ (by omega) (by omega)]; exact h3, by rw [e _ (by omega) (by omega)]; exact h4, fun x x0 x1 => by rw [e _ (by omega) (by omega)]; exact h5 x x0 x1⟩
  · refine Or.inr ⟨h1, by rw [e _ (by omega) (by omega)]; exact h2, by rw [e _ (by omega) (by omega)]; exact h3, hh, h4, h5, h6, fun p p0 p1 => ?_⟩
    obtain ⟨g1, g2, g3⟩ := h7 p p0 p1
    exact ⟨fun j j0 j1 => by rw [e _ (by omega) (by omega)]; exact g1 j j0 j1, g2, fun hb => by rw [e _ (by omega) (by omega), e _ (by omega) (by omega)]; exact g3 hb⟩
theorem ud_of (h : ud_P m) (e : ∀ o x, (o = 148 ∨ o = 149 ∨ o = 189 ∨ (o = 168 ∧ x = 38) ∨ (o = 170 ∧ x < 170)) → m' o x = m o x) (hp : m 170 365 ≤ m' 170 365) : ud_P m' := by
  obtain ⟨h1, h2, h3, h4⟩ := h
  have eL : ∀ j, ud_L m' j = ud_L m j := fun j => by funext x; exact e _ _ (by omega)
  refine ⟨rk_of h1 (e _ _ (by omega)) (e _ _ (by omega)), by rw [e _ _ (by omega), e _ _ (by omega)]; exact h2, by rw [e _ _ (by omega)]; exact h3, fun j j0 j1 => ?_⟩
  rw [e 168 38 (by omega)] at j1 ⊢
  obtain ⟨g1, g2⟩ := h4 j j0 j1
  rw [e 149 _ (by omega), e 189 _ (by omega), eL, eL]
  refine ⟨?_, ud_W_mono g2 hp⟩
  by_cases c : j + 1 < m 168 38
  · rw [if_pos c] at g1 ⊢; exact g1
  · rw [if_neg c] at g1 ⊢
    exact ud_1_of g1 (by have := g2.1.1; omega) (fun x x0 x1 => e _ _ (by omega))
theorem se_of (h : se_P m) (e : ∀ o x, (o = 164 ∨ o = 165 ∨ o = 198 ∨ o = 199 ∨ (o = 168 ∧ x = 58)) → m' o x = m o x) : se_P m' := by
  obtain ⟨h1, h2, h3, h4⟩ := h
  refine ⟨rk_of h1 (e _ _ (by omega)) (e _ _ (by omega)), by rw [e _ _ (by omega), e _ _ (by omega)]; exact h2, by rw [e _ _ (by omega)]; exact h3, fun p p0 p1 => ?_⟩
  rw [e 168 58 (by omega)] at p1
  have := h4 p p0 p1
  rw [e 165 _ (by omega), e 165 _ (by omega), e 165 _ (by omega), e 165 _ (by omega), e 198 _ (by omega), e 199 _ (by omega), e 199 _ (by omega), e 199 _ (by omega)]
  exact this
theorem wd_of (h : wd_P m) (e : ∀ q ∈ wd_L, m' q.1 1 = m q.1 1) : wd_P m' := fun q hq => by rw [e q hq]; exact h q hq
/-- no row stands at these -/
theorem wd_ne : ∀ q ∈ wd_L, 1 < q.1 ∧ q.1 < 165 ∧ q.1 ≠ 3 ∧ q.1 ≠ 5 ∧ q.1 ≠ 7 ∧ q.1 ≠ 9 ∧ q.1 ≠ 11 ∧ q.1 ≠ 12 ∧ q.1 ≠ 14 ∧ q.1 ≠ 15 ∧ q.1 ≠ 16 ∧ q.1 ≠ 17 ∧ q.1 ≠ 128 ∧ q.1 ≠ 130 ∧ q.1 ≠ 131 ∧ q.1 ≠ 132 ∧ q.1 ≠ 134 ∧ (q.1 < 134 ∨ q.1 > 142) ∧ q.1 ≠ 144 ∧ q.1 ≠ 145 ∧ q.1 ≠ 147 ∧ q.1 ≠ 149 ∧ (q.1 < 151 ∨ q.1 > 163) := by decide
/-- the cells of passing worth, on both sides -/
def rl_s (o k : Int) : Prop := (136 ≤ o ∧ o ≤ 144 ∧ ¬ (o = 143 ∧ k = 1)) ∨ (152 ≤ o ∧ o ≤ 162) ∨ (o = 166 ∧ ¬ (4 ≤ k ∧ k ≤ 7)) ∨ (o = 168 ∧ ¬ (k = 0 ∨ k = 6 ∨ k = 13 ∨ k = 14 ∨ k = 38 ∨ k = 48 ∨ k = 58)) ∨ (173 ≤ o ∧ o ≤ 197 ∧ o ≠ 174 ∧ o ≠ 175 ∧ o ≠ 189)
theorem Rel_of (h : Rel m) (e : ∀ o k, ¬ rl_s o k → m' o k = m o k) : Rel m' := by
  obtain ⟨⟨h1, h2, h3, h4⟩, ⟨h5, h6⟩, h7, h8, h9, h10, h11, h12, h13⟩ := h
  have er : m' 170 = m 170 := funext fun k => e _ _ (by unfold rl_s; omega)
  have l6 := h3.2.2.1.1.2
  refine ⟨⟨?_, ?_, by rw [er]; exact h3, by rw [er]; exact h4⟩, ⟨im_of (Or.inl rfl) h5 (fun o x ho => e _ _ (by unfold rl_s; omega)), im_of (Or.inr rfl) h6 (fun o x ho => e _ _ (by unfold rl_s; omega))⟩, tp_of h7 (fun o x ho => e _ _ (by unfold rl_s; omega)), sc_of h8 (fun o x ho => e _ _ (by unfold rl_s; omega)), re_of h9 (fun o x ho => e _ _ (by unfold rl_s; omega)), ud_of h10 (fun o x ho => e _ _ (by unfold rl_s; omega)) (by rw [er]; exact Int.le_refl _), se_of h11 (fun o x ho => e _ _ (by unfold rl_s; omega)), wd_of h12 (fun q hq => ?_), ww_of h13 (e _ _ (by unfold rl_s; omega)) (e _ _ (by unfold rl_s; omega)) (fun _ => e _ _ (by unfold rl_s; omega)) (fun _ _ _ => e _ _ (by unfold rl_s; omega))⟩
  · rw [er]; exact bk_of h1 (fun o x _ _ _ => e _ _ (by unfold rl_s; omega)) (fun _ _ => rfl) l6
  · rw [er]; exact vg_of h2 (fun o x _ _ => e _ _ (by unfold rl_s; omega)) (fun _ _ => rfl)
  · have := wd_ne q hq
    exact e _ _ (by unfold rl_s; omega)
end REL
/-- a call on both sides, one behind the other: the answers are alike, what holds between calls holds -/
def Joint (F G : am_KK → am_M → Prop) : Prop := ∀ (m : am_M), Rel m → ∀ K : Int → Int → am_M → Prop, (∀ r m', Rel m' → K r r m') → F (fun r1 m1 => G (fun r2 m2 => K r1 r2 m2) m1) m
