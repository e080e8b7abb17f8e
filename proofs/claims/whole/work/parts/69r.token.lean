/-! TOKENS of a TAPE: bytes B, n of them; where the i-th begins and ends, its code, its value. -/
def tz_wh (p : Int → Bool) : Nat → Int → Int
  | 0, x => x
  | k + 1, x => if p x = true then tz_wh p k (x + 1) else x
def tz_go (p : Int → Bool) (n x : Int) : Int := tz_wh p (n - x).toNat x
theorem tz_go_s {p : Int → Bool} {n x : Int} (h : x < n) : tz_go p n x = if p x = true then tz_go p n (x + 1) else x := by
  unfold tz_go
  rw [show (n - x).toNat = (n - (x + 1)).toNat + 1 by omega, tz_wh]
theorem tz_go_e {p : Int → Bool} {n x : Int} (h : n ≤ x) : tz_go p n x = x := by
  unfold tz_go
  rw [show (n - x).toNat = 0 by omega, tz_wh]
theorem tz_wh_p {p : Int → Bool} : ∀ (k : Nat) (x : Int), x ≤ tz_wh p k x ∧ tz_wh p k x ≤ x + k ∧ (tz_wh p k x < x + k → p (tz_wh p k x) = false) ∧ ∀ y, x ≤ y → y < tz_wh p k x → p y = true := by
  intro k
  induction k with
  | zero => intro x; rw [tz_wh]; exact ⟨by omega, by omega, fun h => by omega, fun y y0 y1 => by omega⟩
  | succ k ih =>
    intro x
    rw [tz_wh]
    by_cases c : p x = true
    · rw [if_pos c]
      obtain ⟨h1, h2, h3, h4⟩ := ih (x + 1)
      refine ⟨by omega, by omega, fun h => h3 (by omega), fun y y0 y1 => ?_⟩
      by_cases e : y = x
      · rw [e]; exact c
      · exact h4 y (by omega) y1
    · rw [if_neg c]
      refine ⟨by omega, by omega, fun _ => by simpa using c, fun y y0 y1 => by omega⟩
theorem tz_go_p {p : Int → Bool} {n x : Int} (h : x ≤ n) : x ≤ tz_go p n x ∧ tz_go p n x ≤ n ∧ (tz_go p n x < n → p (tz_go p n x) = false) ∧ ∀ y, x ≤ y → y < tz_go p n x → p y = true := by
  obtain ⟨h1, h2, h3, h4⟩ := tz_wh_p (p := p) (n - x).toNat x
  unfold tz_go
  exact ⟨h1, by omega, fun q => h3 (by omega), h4⟩
def tz_k (b : Int) : Int := if 97 ≤ b ∧ b ≤ 122 then 2 else if 48 ≤ b ∧ b ≤ 57 then 1 else 0
theorem tz_k_le (b : Int) : 0 ≤ tz_k b ∧ tz_k b ≤ 2 := by unfold tz_k; repeat' split <;> omega
def tz_sp (B : Int → Int) (n x : Int) : Int := tz_go (fun y => B y == 32) n x
def tz_en (B : Int → Int) (n a : Int) : Int := if n ≤ a then n else if tz_k (B a) = 0 then a + 1 else tz_go (fun y => tz_k (B y) == tz_k (B a)) n (a + 1)
def tz_P (B : Int → Int) (n : Int) : Nat → Int
  | 0 => tz_sp B n 0
  | k + 1 => tz_sp B n (tz_en B n (tz_P B n k))
def tz_p (B : Int → Int) (n i : Int) : Int := if i < 0 then n else tz_P B n i.toNat
def tz_e (B : Int → Int) (n i : Int) : Int := tz_en B n (tz_p B n i)
section TZ
variable {B : Int → Int} {n : Int}
theorem tz_en_le {a : Int} (h0 : 0 ≤ a) (h : a ≤ n) : a ≤ tz_en B n a ∧ tz_en B n a ≤ n ∧ (a < n → a < tz_en B n a) := by
  unfold tz_en
  by_cases c : n ≤ a
  · rw [if_pos c]; omega
  · rw [if_neg c]
    by_cases c2 : tz_k (B a) = 0
    · rw [if_pos c2]; omega
    · rw [if_neg c2]
      obtain ⟨h1, h2, -⟩ := tz_go_p (p := fun y => tz_k (B y) == tz_k (B a)) (show a + 1 ≤ n by omega)
      omega
theorem tz_P_le (hn : 0 ≤ n) : ∀ k, 0 ≤ tz_P B n k ∧ tz_P B n k ≤ n ∧ (tz_P B n k < n → B (tz_P B n k) ≠ 32) := by
  have sp : ∀ x, 0 ≤ x → x ≤ n → 0 ≤ tz_sp B n x ∧ tz_sp B n x ≤ n ∧ (tz_sp B n x < n → B (tz_sp B n x) ≠ 32) := fun x x0 x1 => by
    obtain ⟨h1, h2, h3, -⟩ := tz_go_p (p := fun y => B y == 32) x1
    exact ⟨by unfold tz_sp; omega, h2, fun q => by have := h3 q; simpa [tz_sp] using this⟩
  intro k
  induction k with
  | zero => exact sp 0 (by omega) hn
  | succ k ih =>
    obtain ⟨h1, h2, -⟩ := tz_en_le (B := B) ih.1 ih.2.1
    exact sp _ (by omega) h2
theorem tz_p_le (hn : 0 ≤ n) (i : Int) : 0 ≤ tz_p B n i ∧ tz_p B n i ≤ n ∧ (tz_p B n i < n → B (tz_p B n i) ≠ 32) := by
  unfold tz_p
  by_cases c : i < 0
  · rw [if_pos c]; exact ⟨hn, Int.le_refl _, fun q => absurd q (by omega)⟩
  · rw [if_neg c]; exact tz_P_le hn _
theorem tz_e_le (hn : 0 ≤ n) (i : Int) : tz_p B n i ≤ tz_e B n i ∧ tz_e B n i ≤ n ∧ (tz_p B n i < n → tz_p B n i < tz_e B n i) := tz_en_le (tz_p_le hn i).1 (tz_p_le hn i).2.1
theorem tz_p_0 : tz_p B n 0 = tz_sp B n 0 := by
  unfold tz_p
  rw [if_neg (by omega)]
  rfl
theorem tz_p_n {i : Int} (h : i < 0) : tz_p B n i = n := by
  unfold tz_p
  rw [if_pos h]
theorem tz_p_s {i : Int} (h : 0 ≤ i) : tz_p B n (i + 1) = tz_sp B n (tz_e B n i) := by
  unfold tz_e tz_p
  rw [if_neg (by omega), if_neg (by omega), show (i + 1).toNat = i.toNat + 1 by omega, tz_P]
theorem tz_p_e (hn : 0 ≤ n) {i : Int} (h : 0 ≤ i) : tz_e B n i ≤ tz_p B n (i + 1) := by
  rw [tz_p_s h]
  exact (tz_go_p (tz_e_le hn i).2.1).1
theorem tz_p_end (hn : 0 ≤ n) {i : Int} (h : 0 ≤ i) (e : tz_p B n i = n) : tz_p B n (i + 1) = n ∧ tz_e B n i = n := by
  have h1 := tz_e_le (B := B) hn i
  have h2 := tz_p_e (B := B) hn h
  have h3 := tz_p_le (B := B) hn (i + 1)
  omega
theorem tz_p_ge (hn : 0 ≤ n) : ∀ k : Nat, (k : Int) ≤ tz_p B n k ∨ tz_p B n k = n := by
  intro k
  induction k with
  | zero => exact Or.inl (tz_p_le hn _).1
  | succ k ih =>
    have e : ((k + 1 : Nat) : Int) = (k : Int) + 1 := by omega
    rw [e]
    have h1 := tz_e_le (B := B) hn k
    have h2 := tz_p_e (B := B) hn (show (0 : Int) ≤ k by omega)
    have h3 := tz_p_le (B := B) hn ((k : Int) + 1)
    have h4 := tz_p_le (B := B) hn (k : Int)
    rcases ih with ih | ih
    · by_cases c : tz_p B n k < n
      · omega
      · exact Or.inr (tz_p_end hn (by omega) (by omega)).1
    · exact Or.inr (tz_p_end hn (by omega) ih).1
def tz_N (B : Int → Int) (n : Int) : Int := tz_go (fun i => decide (tz_p B n i < n)) n 0
theorem tz_N_p (hn : 0 ≤ n) : (0 ≤ tz_N B n ∧ tz_N B n ≤ n) ∧ (∀ i, 0 ≤ i → i < tz_N B n → tz_p B n i < n) ∧ ∀ i, tz_N B n ≤ i → tz_p B n i = n := by
  obtain ⟨h1, h2, h3, h4⟩ := tz_go_p (p := fun i => decide (tz_p B n i < n)) hn
  have e : tz_p B n (tz_N B n) = n := by
    have hl := tz_p_le (B := B) hn (tz_N B n)
    by_cases c : tz_N B n < n
    · have h3' : decide (tz_p B n (tz_N B n) < n) = false := h3 c
      simp at h3'
      omega
    · have hN : tz_N B n = n := by unfold tz_N at c ⊢; omega
      have := tz_p_ge (B := B) hn n.toNat
      rw [show ((n.toNat : Nat) : Int) = n by omega] at this
      rw [hN]
      have hl2 := tz_p_le (B := B) hn n
      omega
  refine ⟨⟨h1, h2⟩, fun i i0 i1 => ?_, fun i hi => ?_⟩
  · have := h4 i i0 i1
    simpa using this
  · obtain ⟨k, rfl⟩ : ∃ k : Nat, i = tz_N B n + k := ⟨(i - tz_N B n).toNat, by omega⟩
    have h1 : 0 ≤ tz_N B n := h1
    clear hi h3 h4
    induction k with
    | zero => rw [show tz_N B n + ((0 : Nat) : Int) = tz_N B n by omega]; exact e
    | succ k ih => rw [show tz_N B n + ((k + 1 : Nat) : Int) = tz_N B n + k + 1 by omega]; exact (tz_p_end hn (by omega) ih).1
end TZ
def tz_L (B : Int → Int) (a e : Int) : List Int := (List.range (e - a).toNat).map (fun k : Nat => B (a + k))
def tz_W : List (List Int) := [[114, 97, 110, 107], [98, 114, 101, 97, 116, 104], [98, 97, 114, 115], [105, 102], [111, 114], [97, 110, 100], [110, 111, 116], [108, 101, 110, 103, 116, 104], [118, 111, 105, 99, 101, 115], [97, 115, 107, 101, 114], [97, 103, 101], [116, 104, 105, 110, 103], [119, 97, 105, 116, 115], [109, 111, 111, 100], [100, 97, 121], [112, 114, 97, 121, 101, 114, 115], [119, 97, 105, 116, 105, 110, 103], [100, 111, 110, 101], [115, 97, 105, 100], [103, 114, 97, 110, 116, 101, 100], [112, 114, 97, 121], [102, 111, 114], [111, 102], [100, 97, 119, 110], [116, 105, 109, 101, 115]]
def tz_wl : List (List Int) → Int → List Int → Int
  | [], _, _ => 0
  | w :: ws, k, L => if L = w then k else tz_wl ws (k + 1) L
def tz_w (L : List Int) : Int := tz_wl tz_W 1 L
def tz_d (B : Int → Int) : Nat → Int → Int → Int
  | 0, _, x => x
  | k + 1, a, x => tz_d B k (a + 1) (if 1000000 < x then x else 10 * x + B a - 48)
def tz_c (B : Int → Int) (n i : Int) : Int := if n ≤ tz_p B n i then 0 else if tz_k (B (tz_p B n i)) = 2 then tz_w (tz_L B (tz_p B n i) (tz_e B n i)) else if tz_k (B (tz_p B n i)) = 1 then 50 else 100 + B (tz_p B n i)
def tz_v (B : Int → Int) (n i : Int) : Int := if n ≤ tz_p B n i then 0 else if tz_k (B (tz_p B n i)) = 1 then tz_d B (tz_e B n i - tz_p B n i).toNat (tz_p B n i) 0 else 0
def tz_cd : List Int := [21, 24, 1, 2, 3, 22, 23, 191, 193, 15, 16, 17, 18, 19, 20, 8, 9, 10, 11, 12, 13, 14, 142, 147, 137, 143, 145, 25, 4, 7, 140, 141, 160, 162, 161, 6, 5, 159]
def tz_code (t : Int) : Int := tz_cd.getD t.toNat 0
theorem tz_wl_le : ∀ (ws : List (List Int)) (k : Int) (L : List Int), tz_wl ws k L = 0 ∨ (k ≤ tz_wl ws k L ∧ tz_wl ws k L < k + ws.length) := by
  intro ws
  induction ws with
  | nil => intro k L; exact Or.inl rfl
  | cons w ws ih =>
    intro k L
    rw [tz_wl]
    by_cases c : L = w
    · rw [if_pos c]; simp only [List.length_cons]; omega
    · rw [if_neg c]
      have := ih (k + 1) L
      simp only [List.length_cons]
      omega
theorem tz_wl_eq : ∀ (ws : List (List Int)) (k : Int) (L : List Int) (j : Nat), 0 < k → ws.Nodup → j < ws.length → (tz_wl ws k L = k + j ↔ L = ws.getD j []) := by
  intro ws
  induction ws with
  | nil => intro k L j _ _ h; simp at h
  | cons w ws ih =>
    intro k L j hk hnd hj
    rw [tz_wl]
    obtain ⟨hw, hnd⟩ := List.nodup_cons.mp hnd
    cases j with
    | zero =>
      simp only [List.getD_cons_zero]
      by_cases c : L = w
      · rw [if_pos c]; simp [c]
      · rw [if_neg c]
        have := tz_wl_le ws (k + 1) L
        constructor
        · intro q; omega
        · intro q; exact absurd q c
    | succ j =>
      simp only [List.getD_cons_succ]
      simp only [List.length_cons] at hj
      have hj : j < ws.length := by omega
      by_cases c : L = w
      · rw [if_pos c]
        constructor
        · intro q; omega
        · intro q
          exfalso
          apply hw
          rw [← c, q, List.getD_eq_getElem?_getD, List.getElem?_eq_getElem hj]
          exact List.getElem_mem hj
      · rw [if_neg c, ← ih (k + 1) L j (by omega) hnd hj]
        omega
theorem tz_W_nd : tz_W.Nodup := by decide +kernel
theorem tz_W_len : tz_W.length = 25 := by decide +kernel
theorem tz_W_1 : ∀ j, j < 25 → 1 ≤ (tz_W.getD j []).length ∧ tz_k ((tz_W.getD j []).getD 0 0) = 2 := by decide +kernel
theorem tz_cd_t : ∀ t, t < 38 → if tz_cd.getD t 0 ≤ 25 then 1 ≤ tz_cd.getD t 0 ∧ am_sby.getD t [] = tz_W.getD ((tz_cd.getD t 0).toNat - 1) [] else 100 < tz_cd.getD t 0 ∧ am_sby.getD t [] = [tz_cd.getD t 0 - 100] ∧ tz_k (tz_cd.getD t 0 - 100) = 0 ∧ tz_cd.getD t 0 ≠ 132 := by decide +kernel
theorem tz_L_len (B : Int → Int) (a e : Int) : (tz_L B a e).length = (e - a).toNat := by simp [tz_L]
theorem tz_L_get {B : Int → Int} {a e : Int} {k : Nat} (h : k < (e - a).toNat) : (tz_L B a e).getD k 0 = B (a + k) := by
  simp [tz_L, List.getD, List.getElem?_map, List.getElem?_range h]
theorem tz_L_ext {B : Int → Int} {a e : Int} {w : List Int} : tz_L B a e = w ↔ (e - a).toNat = w.length ∧ ∀ k : Nat, k < w.length → B (a + k) = w.getD k 0 := by
  constructor
  · intro h
    subst h
    rw [tz_L_len]
    exact ⟨rfl, fun k hk => (tz_L_get hk).symm⟩
  · rintro ⟨h1, h2⟩
    apply List.ext_getElem
    · rw [tz_L_len, h1]
    · intro k k1 k2
      have e1 := tz_L_get (B := B) (a := a) (e := e) (k := k) (by rw [tz_L_len] at k1; exact k1)
      have e2 := h2 k k2
      rw [List.getD_eq_getElem?_getD, List.getElem?_eq_getElem k1] at e1
      rw [List.getD_eq_getElem?_getD, List.getElem?_eq_getElem k2] at e2
      simp only [Option.getD_some] at e1 e2
      rw [e1, e2]
section TZC
variable {B : Int → Int} {n : Int}
theorem tz_c_0 {i : Int} (h : tz_p B n i = n) : tz_c B n i = 0 := by unfold tz_c; rw [if_pos (by omega)]
theorem tz_v_0 {i : Int} (h : tz_p B n i = n) : tz_v B n i = 0 := by unfold tz_v; rw [if_pos (by omega)]
/-- the code tells which word stands there -/
theorem tz_is (hn : 0 ≤ n) (hB : ∀ x, 0 ≤ x → x < n → 0 ≤ B x ∧ B x ≤ 255) {i : Int} {t : Nat} (ht : t < 38) : tz_L B (tz_p B n i) (tz_e B n i) = am_sby.getD t [] ↔ tz_c B n i = tz_cd.getD t 0 := by
  have hp := tz_p_le (B := B) hn i
  have he := tz_e_le (B := B) hn i
  have hT := tz_cd_t t ht
  generalize tz_cd.getD t 0 = q at hT ⊢
  generalize am_sby.getD t [] = w at hT ⊢
  have hwl := tz_wl_le tz_W 1 (tz_L B (tz_p B n i) (tz_e B n i))
  rw [tz_W_len] at hwl
  by_cases cn : n ≤ tz_p B n i
  · unfold tz_c
    rw [if_pos cn]
    have hL : tz_L B (tz_p B n i) (tz_e B n i) = [] := tz_L_ext.mpr ⟨by simp; omega, fun k hk => by simp at hk⟩
    rw [hL]
    by_cases cq : q ≤ 25
    · rw [if_pos cq] at hT
      have h1 := (tz_W_1 (q.toNat - 1) (by omega)).1
      constructor
      · intro z; rw [← hT.2, ← z] at h1; simp at h1
      · intro z; omega
    · rw [if_neg cq] at hT
      constructor
      · intro z; rw [hT.2.1] at z; cases z
      · intro z; omega
  · have hb := hB (tz_p B n i) (by omega) (by omega)
    have hk := tz_k_le (B (tz_p B n i))
    unfold tz_c
    rw [if_neg cn]
    by_cases cq : q ≤ 25
    · rw [if_pos cq] at hT
      obtain ⟨h1, h2⟩ := tz_W_1 (q.toNat - 1) (by omega)
      have e := tz_wl_eq tz_W 1 (tz_L B (tz_p B n i) (tz_e B n i)) (q.toNat - 1) (by omega) tz_W_nd (by rw [tz_W_len]; omega)
      rw [← hT.2, show (1 : Int) + ((q.toNat - 1 : Nat) : Int) = q by omega] at e
      by_cases c2 : tz_k (B (tz_p B n i)) = 2
      · rw [if_pos c2]; exact e.symm
      · rw [if_neg c2]
        constructor
        · intro z
          have := (tz_L_ext.mp z).2 0 (by rw [hT.2]; omega)
          rw [hT.2] at this
          rw [← this, show tz_p B n i + ((0 : Nat) : Int) = tz_p B n i by omega] at h2
          exact absurd h2 c2
        · intro z
          by_cases c1 : tz_k (B (tz_p B n i)) = 1
          · rw [if_pos c1] at z; omega
          · rw [if_neg c1] at z; omega
    · rw [if_neg cq] at hT
      obtain ⟨h1, h2, h3, h4⟩ := hT
      constructor
      · intro z
        rw [h2] at z
        have := (tz_L_ext.mp z).2 0 (by simp)
        simp at this
        rw [this, if_neg (by omega), if_neg (by omega)]
        omega
      · intro z
        by_cases c2 : tz_k (B (tz_p B n i)) = 2
        · rw [if_pos c2] at z; unfold tz_w at z; omega
        · rw [if_neg c2] at z
          by_cases c1 : tz_k (B (tz_p B n i)) = 1
          · rw [if_pos c1] at z; omega
          · rw [if_neg c1] at z
            rw [h2]
            refine tz_L_ext.mpr ⟨?_, fun k hk => ?_⟩
            · have : tz_e B n i = tz_p B n i + 1 := by unfold tz_e tz_en; rw [if_neg cn, if_pos (by omega)]
              simp only [List.length_cons, List.length_nil]
              omega
            · simp at hk
              subst hk
              simp
              omega
theorem tz_d_ge : ∀ (k : Nat) (a x : Int), 0 ≤ x → (∀ y, a ≤ y → y < a + k → 48 ≤ B y ∧ B y ≤ 57) → x ≤ tz_d B k a x ∧ tz_d B k a x ≤ max x 10000009 := by
  intro k
  induction k with
  | zero => intro a x h _; rw [tz_d]; omega
  | succ k ih =>
    intro a x h hd
    rw [tz_d]
    have h0 := hd a (by omega) (by omega)
    by_cases c : 1000000 < x
    · rw [if_pos c]; exact ih (a + 1) x h (fun y y0 y1 => hd y (by omega) (by omega))
    · rw [if_neg c]
      have := ih (a + 1) (10 * x + B a - 48) (by omega) (fun y y0 y1 => hd y (by omega) (by omega))
      omega
/-- the digits of a number -/
theorem tz_dig (hn : 0 ≤ n) {i : Int} (h : tz_p B n i < n) (hk : tz_k (B (tz_p B n i)) = 1) : ∀ y, tz_p B n i ≤ y → y < tz_e B n i → 48 ≤ B y ∧ B y ≤ 57 := by
  have hp := tz_p_le (B := B) hn i
  have kk : ∀ b, tz_k b = 1 → 48 ≤ b ∧ b ≤ 57 := fun b hb => by
    unfold tz_k at hb
    by_cases c1 : 97 ≤ b ∧ b ≤ 122
    · rw [if_pos c1] at hb; omega
    · rw [if_neg c1] at hb
      by_cases c2 : 48 ≤ b ∧ b ≤ 57
      · exact c2
      · rw [if_neg c2] at hb; omega
  intro y y0 y1
  by_cases c : y = tz_p B n i
  · rw [c]; exact kk _ hk
  · unfold tz_e tz_en at y1
    rw [if_neg (by omega), if_neg (by omega)] at y1
    have := (tz_go_p (p := fun y => tz_k (B y) == tz_k (B (tz_p B n i))) (show tz_p B n i + 1 ≤ n by omega)).2.2.2 y (by omega) y1
    simp at this
    exact kk _ (by omega)
theorem tz_v_le (hn : 0 ≤ n) (i : Int) : 0 ≤ tz_v B n i ∧ tz_v B n i ≤ 10000009 := by
  unfold tz_v
  by_cases c : n ≤ tz_p B n i
  · rw [if_pos c]; omega
  · rw [if_neg c]
    by_cases c1 : tz_k (B (tz_p B n i)) = 1
    · rw [if_pos c1]
      have he := tz_e_le (B := B) hn i
      have := tz_d_ge (B := B) (tz_e B n i - tz_p B n i).toNat (tz_p B n i) 0 (by omega) (fun y y0 y1 => tz_dig hn (by omega) c1 y y0 (by omega))
      omega
    · rw [if_neg c1]; omega
end TZC
