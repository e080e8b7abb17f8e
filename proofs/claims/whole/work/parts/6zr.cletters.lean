/-! CODE, the class: letters and things asked for are listed. -/
/-- the letters' lengths, in the order of the words -/
def lt_L (A : Int → Int) (s : Int) : Nat → Int → Int
  | 0 => fun _ => 0
  | i + 1 => if bt s i = 1 then kup (lt_L A s i) (cv_1 s i) (A (170 + (i : Int))) else lt_L A s i
theorem ltw_s (A : Int → Int) (s : Int) {i : Int} (i0 : 0 ≤ i) : lt_L A s (i + 1).toNat = if bt s i = 1 then kup (lt_L A s i.toNat) (cv_1 s i.toNat) (A (170 + i)) else lt_L A s i.toNat := by
  rw [show (i + 1).toNat = i.toNat + 1 by omega, lt_L, show ((i.toNat : Nat) : Int) = i by omega]
theorem cv1_s (s : Int) {i : Int} (i0 : 0 ≤ i) : cv_1 s (i + 1).toNat = cv_1 s i.toNat + bt s i := by
  rw [show (i + 1).toNat = i.toNat + 1 by omega, cv_1, show ((i.toNat : Nat) : Int) = i by omega]; rfl
theorem cv1_b (s : Int) : ∀ n : Nat, 0 ≤ cv_1 s n ∧ cv_1 s n ≤ n := by
  intro n
  induction n with
  | zero => exact ⟨Int.le_refl _, Int.le_refl _⟩
  | succ n ih =>
    rw [cv_1]
    have := and1 (am_shr s n)
    omega
theorem cv1_mono (s : Int) {a b : Nat} (h : a ≤ b) : cv_1 s a ≤ cv_1 s b := by
  induction b with
  | zero => have : a = 0 := by omega
            subst this; exact Int.le_refl _
  | succ b ih =>
    by_cases c : a = b + 1
    · subst c; exact Int.le_refl _
    · rw [cv_1]
      have := ih (by omega)
      have := and1 (am_shr s b)
      omega
theorem lt_b {A : Int → Int} (s : Int) {W : Int} (h : ∀ i, 0 ≤ i → i < W → 1 ≤ A (170 + i) ∧ A (170 + i) ≤ 9) : ∀ n : Nat, (n : Int) ≤ W → ∀ l, 0 ≤ l → l < cv_1 s n → 1 ≤ lt_L A s n l ∧ lt_L A s n l ≤ 9 := by
  intro n
  induction n with
  | zero => intro _ l l0 l1; have : l < 0 := l1; omega
  | succ n ih =>
    intro hn l l0 l1
    rw [lt_L]
    rw [cv_1] at l1
    by_cases c : bt s n = 1
    · rw [if_pos c]
      by_cases cl : l = cv_1 s n
      · rw [cl, kup_s]; exact h n (by omega) (by omega)
      · rw [kup_o cl]
        have c' : am_and (am_shr s (n : Int)) 1 = 1 := c
        exact ih (by omega) l l0 (by omega)
    · rw [if_neg c]
      have c' : am_and (am_shr s (n : Int)) 1 = 0 := by have := bt_01 s n; have d : bt s n = 0 := by omega
                                                        exact d
      exact ih (by omega) l l0 (by omega)
/-- letters that can be had -/
def lt_ok (A : Int → Int) (s : Int) : Prop := (0 ≤ s ∧ s < am_shl 1 (A 363)) ∧ 2 ≤ cv_1 s (A 363).toNat ∧ cv_1 s (A 363).toNat ≤ 3
def th_n (A : Int → Int) : Nat → Int
  | 0 => 0
  | i + 1 => if A (308 + (i : Int)) ≠ 0 then th_n A i + 1 else th_n A i
def th_T (A : Int → Int) : Nat → Int → Int
  | 0 => fun _ => 0
  | i + 1 => if A (308 + (i : Int)) ≠ 0 then kup (th_T A i) (th_n A i) i else th_T A i
theorem th_s (A : Int → Int) {i : Int} (i0 : 0 ≤ i) : th_n A (i + 1).toNat = (if A (308 + i) ≠ 0 then th_n A i.toNat + 1 else th_n A i.toNat) ∧ th_T A (i + 1).toNat = if A (308 + i) ≠ 0 then kup (th_T A i.toNat) (th_n A i.toNat) i else th_T A i.toNat := by
  rw [show (i + 1).toNat = i.toNat + 1 by omega, th_n, th_T, show ((i.toNat : Nat) : Int) = i by omega]
  exact ⟨rfl, rfl⟩
theorem th_b (A : Int → Int) : ∀ n : Nat, (0 ≤ th_n A n ∧ th_n A n ≤ n) ∧ ∀ l, 0 ≤ l → l < th_n A n → (0 ≤ th_T A n l ∧ th_T A n l < n) ∧ A (308 + th_T A n l) ≠ 0 := by
  intro n
  induction n with
  | zero => exact ⟨⟨Int.le_refl _, Int.le_refl _⟩, fun l l0 l1 => by have : l < 0 := l1; omega⟩
  | succ n ih =>
    obtain ⟨h1, h2⟩ := ih
    rw [th_n, th_T]
    by_cases c : A (308 + (n : Int)) ≠ 0
    · rw [if_pos c, if_pos c]
      refine ⟨by omega, fun l l0 l1 => ?_⟩
      by_cases cl : l = th_n A n
      · rw [cl, kup_s]; exact ⟨by omega, c⟩
      · rw [kup_o cl]
        have := h2 l l0 (by omega)
        exact ⟨by omega, this.2⟩
    · rw [if_neg c, if_neg c]
      refine ⟨by omega, fun l l0 l1 => ?_⟩
      have := h2 l l0 l1
      exact ⟨by omega, this.2⟩
theorem th_mono (A : Int → Int) {a b : Nat} (h : a ≤ b) : th_n A a ≤ th_n A b := by
  induction b with
  | zero => have : a = 0 := by omega
            subst this; exact Int.le_refl _
  | succ b ih =>
    by_cases c : a = b + 1
    · subst c; exact Int.le_refl _
    · rw [th_n]
      have := ih (by omega)
      split <;> omega
section CLT
variable {m : am_M} {A : Int → Int}
theorem ctakeL (hw : am_WA A) (hB : bk_P m 1 A) {s : Int} {K : am_KK} (h0 : ¬ lt_ok A s → ∀ m' : am_M, (∀ o x, ¬ (o = 156 ∧ x = 3) → m' o x = m o x) → K 0 m')
    (h1 : lt_ok A s → ∀ m' : am_M, (∀ o x, ¬ (o = 156 ∧ x = 3) → o ≠ 158 → m' o x = m o x) → m' 156 3 = cv_1 s (A 363).toNat → (∀ l, 0 ≤ l → l < cv_1 s (A 363).toNat → m' 158 l = lt_L A s (A 363).toNat l) → K 1 m') : M_X1_takeLetters 156 1 s K m := by
  obtain ⟨R1, -, -, -, -⟩ := bk_rows hB
  have hW := hw.1
  obtain ⟨g1, g2, g3⟩ := shl_B (B := A 363) (by omega)
  unfold M_X1_takeLetters
  simp only [am_rf_all]
  intro m1 e1
  have f1 : ∀ o x, ¬ (o = 156 ∧ x = 3) → m1 o x = m o x := fun o x ho => by rw [e1, am_st_ne _ ho]
  have e22 : m1 2 2 = A 363 := by rw [f1 _ _ (by omega)]; exact R1.2.1
  rw [e22]
  refine ⟨fun c1 => h0 (fun z => by have := z.1; omega) m1 f1, fun c1 => ⟨fun c2 => h0 (fun z => by have := z.1; omega) m1 f1, fun c2 => ?_⟩⟩
  have hbc : bc s = cv_1 s (A 363).toNat := (bc_1 (by omega)).trans (cv1_hi (by omega) (bits_hi (by omega) (by omega)))
  refine bitCount_to ?_
  rw [within_eq, hbc]
  simp only [b01']
  refine ⟨fun c3 => ?_, fun c3 => h0 (fun z => c3 z.2) m1 f1⟩
  have ok : lt_ok A s := ⟨by omega, c3⟩
  have R1' : am_RF m1 2 1 10 A 363 170 := rf_of' R1 (fun o x ho => f1 o x (by omega)) (fun _ _ => rfl)
  unfold M_X1_takeLetters_L1
  refine ⟨fun j i m2 => 0 ≤ i ∧ i ≤ A 363 ∧ j = (A 363 - i).toNat ∧ (∀ o x, ¬ (o = 156 ∧ x = 3) → o ≠ 158 → m2 o x = m o x) ∧ m2 156 3 = cv_1 s i.toNat ∧ ∀ l, 0 ≤ l → l < cv_1 s i.toNat → m2 158 l = lt_L A s i.toNat l, ⟨_, by omega, by omega, rfl, fun o x ho _ => f1 o x ho, by rw [e1, am_st_eq, if_pos ⟨rfl, rfl⟩]; rfl, fun l l0 l1 => by have : l < 0 := l1; omega⟩, ?_⟩
  rintro j i m2 ⟨i0, i1, rfl, f2, c2', l2⟩
  have R2 : am_RF m2 2 1 10 A 363 170 := rf_of' R1 (fun o x ho => f2 o x (by omega) (by omega)) (fun _ _ => rfl)
  have e22' : m2 2 2 = A 363 := R2.2.1
  have es := cv1_s s i0
  have el := ltw_s A s i0
  have hb := cv1_b s i.toNat
  unfold M_X1_takeLetters_L1B M_X1_takeLetters_J1
  simp only [am_rf_all, am_ln_all]
  rw [e22', c2']
  refine ⟨fun q => ?_, fun q => ⟨fun c => ?_, fun c => ?_⟩⟩
  · have hi : i = A 363 := by omega
    rw [hi] at c2' l2
    exact h1 ok m2 f2 c2' l2
  · have c0 : bt s i = 0 := by have := bt_01 s i; have c' : bt s i ≠ 1 := c; omega
    rw [c0, Int.add_zero] at es
    rw [if_neg (by omega)] at el
    intro z hz
    rw [w32_of (by omega) (by omega)] at hz
    rw [hz]
    refine ⟨_, ?_, by omega, by omega, rfl, f2, by first | (rw [es]; exact c2') | rw [es], by rw [es, el]; exact l2⟩
    omega
  · have c1' : bt s i = 1 := Classical.not_not.mp c
    rw [c1'] at es
    rw [if_pos c1'] at el
    have hm := cv1_mono s (a := (i + 1).toNat) (b := (A 363).toNat) (by omega)
    refine ⟨fun z => absurd z (by omega), fun _ => ?_⟩
    rw [get_eq R2.1, rf_get R2, if_pos (by omega), show 170 + (i * 1 + 0) = 170 + i by omega]
    refine ⟨by omega, ?_⟩
    intro m3 e3 m4 e4 z hz
    rw [w32_of (by omega) (by omega)] at hz
    rw [hz]
    have c3' : m3 156 3 = cv_1 s i.toNat := by rw [e3, am_st_ne _ (by omega)]; exact c2'
    rw [c3', w32_of (by omega) (by omega)] at e4
    refine ⟨_, ?_, by omega, by omega, rfl, fun o x ho ho2 => ?_, ?_, fun l l0 l1 => ?_⟩
    · omega
    · rw [e4, am_st_ne _ (by omega), e3, am_st_ne _ (by omega)]; exact f2 o x ho ho2
    · rw [e4, am_st_eq, if_pos ⟨rfl, rfl⟩, es]
    · rw [e4, am_st_ne _ (by omega), e3, el]
      by_cases cl : l = cv_1 s i.toNat
      · rw [cl, kup_s, am_st_eq, if_pos ⟨rfl, rfl⟩]
      · rw [kup_o cl, am_st_ne _ (by omega)]; exact l2 l l0 (by omega)
theorem ctakeA (hw : am_WA A) (hB : bk_P m 1 A) {K : am_KK} (h0 : 6 < th_n A 8 → ∀ m' : am_M, (∀ o x, ¬ (o = 156 ∧ x = 1) → o ≠ 157 → m' o x = m o x) → K 0 m')
    (h1 : th_n A 8 ≤ 6 → ∀ m' : am_M, (∀ o x, ¬ (o = 156 ∧ x = 1) → o ≠ 157 → m' o x = m o x) → m' 156 1 = th_n A 8 → (∀ l, 0 ≤ l → l < th_n A 8 → m' 157 l = th_T A 8 l) → K 1 m') : M_X1_takeAsked 156 1 K m := by
  have hO : ∀ i, 0 ≤ i → i < 8 → m 16 i = A (308 + i) := fun i i0 i1 => (hB.2.2.2.2.2.2.1 i i0 i1).2.2
  have hob := hw.2.2.2.2.2.2.1
  unfold M_X1_takeAsked M_X1_takeAsked_L1
  intro m1 e1
  refine ⟨fun j i m2 => 0 ≤ i ∧ i ≤ 8 ∧ j = (8 - i).toNat ∧ (∀ o x, ¬ (o = 156 ∧ x = 1) → o ≠ 157 → m2 o x = m o x) ∧ m2 156 1 = th_n A i.toNat ∧ (th_n A i.toNat ≤ 6) ∧ ∀ l, 0 ≤ l → l < th_n A i.toNat → m2 157 l = th_T A i.toNat l, ⟨_, by omega, by omega, rfl, fun o x ho _ => by rw [e1, am_st_ne _ ho], by rw [e1, am_st_eq, if_pos ⟨rfl, rfl⟩]; rfl, by show (0 : Int) ≤ 6; omega, fun l l0 l1 => by have : l < 0 := l1; omega⟩, ?_⟩
  rintro j i m2 ⟨i0, i1, rfl, f2, c2, c6, l2⟩
  obtain ⟨en, eT⟩ := th_s A i0
  have hb := th_b A i.toNat
  unfold M_X1_takeAsked_L1B M_X1_takeAsked_J1
  simp only [am_rf_all, am_ln_all]
  rw [c2]
  refine ⟨fun q => ?_, fun q => ?_⟩
  · have hi : i = 8 := by omega
    subst hi
    exact h1 c6 m2 f2 c2 l2
  have eo : m2 16 i = A (308 + i) := by rw [f2 _ _ (by omega) (by omega)]; exact hO i i0 (by omega)
  have ob := hob i i0 (by omega)
  rw [eo]
  refine ⟨by omega, fun c => ?_, fun c => ⟨fun c3 => ⟨by omega, ?_⟩, fun c3 => ?_⟩⟩
  · rw [if_neg (by omega)] at en eT
    intro z hz
    rw [w32_of (by omega) (by omega)] at hz
    rw [hz]
    refine ⟨_, ?_, by omega, by omega, rfl, f2, by first | (rw [en]; exact c2) | rw [en], by rw [en]; exact c6, by rw [en, eT]; exact l2⟩
    omega
  · rw [if_pos (by omega)] at en eT
    intro m3 e3 m4 e4 z hz
    rw [w32_of (by omega) (by omega)] at hz
    rw [hz]
    have c3' : m3 156 1 = th_n A i.toNat := by rw [e3, am_st_ne _ (by omega)]; exact c2
    rw [c3', w32_of (by omega) (by omega)] at e4
    refine ⟨_, ?_, by omega, by omega, rfl, fun o x ho ho2 => ?_, ?_, by rw [en]; omega, fun l l0 l1 => ?_⟩
    · omega
    · rw [e4, am_st_ne _ (by omega), e3, am_st_ne _ (by omega)]; exact f2 o x ho ho2
    · rw [e4, am_st_eq, if_pos ⟨rfl, rfl⟩, en]
    · rw [en] at l1
      rw [e4, am_st_ne _ (by omega), e3, eT]
      by_cases cl : l = th_n A i.toNat
      · rw [cl, kup_s, am_st_eq, if_pos ⟨rfl, rfl⟩]
      · rw [kup_o cl, am_st_ne _ (by omega)]; exact l2 l l0 (by omega)
  · rw [if_pos (by omega)] at en
    have := th_mono A (a := (i + 1).toNat) (b := 8) (by omega)
    exact h0 (by omega) m2 f2
end CLT
