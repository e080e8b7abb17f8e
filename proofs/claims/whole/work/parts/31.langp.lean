/-! WHAT THE PARSER'S STEPS DO on the stack machine, how far it goes. -/
def pz_run (lim : Int) (st : List Int) (d : am_Val) (w : Int) : Prop :=
  ∀ (env prog : Int → Int) (to z : Int) (S : List Int), (∀ i, 0 ≤ prog i) → (∀ x : Nat, x < st.length → prog (z + x) = st.getD x 0) → z + st.length ≤ to → (S.length : Int) + w ≤ 64 → ∀ n, (to - z).toNat < n →
    am_rn env prog lim to n z S = match d env with
      | none => none
      | some a => am_rn env prog lim to n (z + st.length) (a :: S)
theorem pz_dm {x h k : Int} (e : x = h * 2048 + k) (hh : 0 ≤ h) (hk : 0 ≤ k ∧ k < 2048) : Int.tdiv x 2048 = h ∧ Int.tmod x 2048 = k := by
  have e1 : Int.tdiv x 2048 = x / 2048 := Int.tdiv_eq_ediv_of_nonneg (by omega)
  have e2 : Int.tmod x 2048 = x % 2048 := Int.tmod_eq_emod_of_nonneg (by omega)
  omega
theorem pz_rn_s (env P : Int → Int) (lim to : Int) (n : Nat) (i : Int) (S : List Int) : am_rn env P lim to (n + 1) i S =
    if to ≤ i then (match S with | [v] => some v | _ => none)
    else if Int.tdiv (P i) 2048 = 0 then (if 64 ≤ S.length then none else am_rn env P lim to n (i + 1) (Int.tmod (P i) 2048 :: S))
    else if Int.tdiv (P i) 2048 = 1 then (if 64 ≤ S.length ∨ lim ≤ Int.tmod (P i) 2048 then none else am_rn env P lim to n (i + 1) (env (Int.tmod (P i) 2048) :: S))
    else match S with
      | [] => none
      | a :: S1 =>
        if Int.tdiv (P i) 2048 = 2 then am_rn env P lim to n (i + 1) ((1 - a) :: S1)
        else if Int.tdiv (P i) 2048 = 3 ∨ Int.tdiv (P i) 2048 = 4 then
          (if a = (if Int.tdiv (P i) 2048 = 4 then 1 else 0) then am_rn env P lim to n (i + Int.tmod (P i) 2048 + 1) (a :: S1) else am_rn env P lim to n (i + 1) S1)
        else match S1 with
          | [] => none
          | b :: S2 => match am_jn (Int.tdiv (P i) 2048) b a with
            | none => none
            | some c => am_rn env P lim to n (i + 1) (c :: S2) := by
  rw [am_rn.eq_def]
  cases S with
  | nil => rfl
  | cons a S1 => rfl
section LGS
variable {env prog : Int → Int} {lim to z : Int} {S : List Int} {n : Nat}
theorem pz_rn_num (hP : ∀ i, 0 ≤ prog i) (hn : (to - z).toNat < n) (hz : z < to) {k : Int} (hk : 0 ≤ k ∧ k < 2048) (h : prog z = k) (hS : (S.length : Int) < 64) : am_rn env prog lim to n z S = am_rn env prog lim to n (z + 1) (k :: S) := by
  obtain ⟨n, rfl⟩ : ∃ q, n = q + 1 := ⟨n - 1, by omega⟩
  obtain ⟨e1, e2⟩ := pz_dm (x := prog z) (h := 0) (k := k) (by omega) (by omega) hk
  rw [pz_rn_s, if_neg (by omega), e1, e2, if_pos rfl, if_neg (by omega)]
  exact am_rn_fuel hP _ _ _ _ (by omega) (by omega)
theorem pz_rn_fact (hP : ∀ i, 0 ≤ prog i) (hn : (to - z).toNat < n) (hz : z < to) {k : Int} (hk : 0 ≤ k ∧ k < 2048) (hl : k < lim) (h : prog z = 2048 + k) (hS : (S.length : Int) < 64) : am_rn env prog lim to n z S = am_rn env prog lim to n (z + 1) (env k :: S) := by
  obtain ⟨n, rfl⟩ : ∃ q, n = q + 1 := ⟨n - 1, by omega⟩
  obtain ⟨e1, e2⟩ := pz_dm (x := prog z) (h := 1) (k := k) (by omega) (by omega) hk
  rw [pz_rn_s, if_neg (by omega), e1, e2, if_neg (by omega), if_pos rfl, if_neg (by omega)]
  exact am_rn_fuel hP _ _ _ _ (by omega) (by omega)
theorem pz_rn_not (hP : ∀ i, 0 ≤ prog i) (hn : (to - z).toNat < n) (hz : z < to) {a : Int} (h : prog z = 4096) : am_rn env prog lim to n z (a :: S) = am_rn env prog lim to n (z + 1) ((1 - a) :: S) := by
  obtain ⟨n, rfl⟩ : ∃ q, n = q + 1 := ⟨n - 1, by omega⟩
  obtain ⟨e1, e2⟩ := pz_dm (x := prog z) (h := 2) (k := 0) (by omega) (by omega) (by omega)
  rw [pz_rn_s, if_neg (by omega), e1, e2, if_neg (by omega), if_neg (by omega)]
  simp only [if_true]
  exact am_rn_fuel hP _ _ _ _ (by omega) (by omega)
theorem pz_rn_op (hP : ∀ i, 0 ≤ prog i) (hn : (to - z).toNat < n) (hz : z < to) {a b h : Int} (hh : 5 ≤ h) (e : prog z = h * 2048) : am_rn env prog lim to n z (a :: b :: S) = match am_jn h b a with
      | none => none
      | some q => am_rn env prog lim to n (z + 1) (q :: S) := by
  obtain ⟨n, rfl⟩ : ∃ q, n = q + 1 := ⟨n - 1, by omega⟩
  obtain ⟨e1, e2⟩ := pz_dm (x := prog z) (h := h) (k := 0) (by omega) (by omega) (by omega)
  rw [pz_rn_s, if_neg (by omega), e1, e2, if_neg (by omega), if_neg (by omega)]
  simp only []
  rw [if_neg (by omega), if_neg (by omega)]
  cases am_jn h b a with
  | none => rfl
  | some q => exact am_rn_fuel hP _ _ _ _ (by omega) (by omega)
theorem pz_rn_skip (hP : ∀ i, 0 ≤ prog i) (hn : (to - z).toNat < n) (hz : z < to) {a h k : Int} (hh : h = 3 ∨ h = 4) (hk : 0 ≤ k ∧ k < 2048) (e : prog z = h * 2048 + k) : am_rn env prog lim to n z (a :: S) = if a = (if h = 4 then 1 else 0) then am_rn env prog lim to n (z + 1 + k) (a :: S) else am_rn env prog lim to n (z + 1) S := by
  obtain ⟨n, rfl⟩ : ∃ q, n = q + 1 := ⟨n - 1, by omega⟩
  obtain ⟨e1, e2⟩ := pz_dm (x := prog z) (h := h) (k := k) (by omega) (by omega) hk
  rw [pz_rn_s, if_neg (by omega), e1, e2, if_neg (by omega), if_neg (by omega)]
  simp only []
  rw [if_neg (by omega), if_pos hh]
  by_cases c : a = if h = 4 then 1 else 0
  · rw [if_pos c, if_pos c, show z + k + 1 = z + 1 + k by omega]
    exact am_rn_fuel hP _ _ _ _ (by omega) (by omega)
  · rw [if_neg c, if_neg c]
    exact am_rn_fuel hP _ _ _ _ (by omega) (by omega)
end LGS
theorem pz_getD_l {a b : List Int} {x : Nat} (h : x < a.length) : (a ++ b).getD x 0 = a.getD x 0 := by simp [List.getD, List.getElem?_append_left h]
theorem pz_getD_r {a b : List Int} {x : Nat} : (a ++ b).getD (a.length + x) 0 = b.getD x 0 := by simp [List.getD, List.getElem?_append_right]
/-- a program's part -/
def pz_at (prog : Int → Int) (z : Int) (st : List Int) : Prop := ∀ x : Nat, x < st.length → prog (z + x) = st.getD x 0
theorem pz_at_app {prog : Int → Int} {z : Int} {a b : List Int} : pz_at prog z (a ++ b) ↔ pz_at prog z a ∧ pz_at prog (z + a.length) b := by
  constructor
  · intro h
    refine ⟨fun x hx => ?_, fun x hx => ?_⟩
    · have := h x (by simp; omega)
      rwa [pz_getD_l hx] at this
    · have := h (a.length + x) (by simp; omega)
      rw [pz_getD_r] at this
      rw [← this]
      congr 1
      omega
  · rintro ⟨h1, h2⟩ x hx
    by_cases c : x < a.length
    · rw [pz_getD_l c]; exact h1 x c
    · obtain ⟨y, rfl⟩ : ∃ y, x = a.length + y := ⟨x - a.length, by omega⟩
      rw [pz_getD_r]
      have := h2 y (by simp at hx; omega)
      rw [← this]
      congr 1
      omega
theorem pz_at_one {prog : Int → Int} {z x : Int} : pz_at prog z [x] ↔ prog z = x := by
  constructor
  · intro h
    have := h 0 (by simp)
    simpa using this
  · intro h y hy
    have : y = 0 := by simp at hy; omega
    subst this
    simpa using h
theorem pz_run_jn {lim : Int} {st st' : List Int} {d d' : am_Val} {w w' h : Int} (hw : 1 ≤ w) (hw' : 1 ≤ w') (hh : 5 ≤ h) (h1 : pz_run lim st d w) (h2 : pz_run lim st' d' w') : pz_run lim (st ++ st' ++ [h * 2048]) (pz_jn h d d') (w + w') := by
  intro env prog to z S hP hat hto hS n hn
  obtain ⟨ha, hb⟩ := pz_at_app.mp hat
  obtain ⟨ha, hc⟩ := pz_at_app.mp ha
  have hb := pz_at_one.mp hb
  simp only [List.length_append, List.length_cons, List.length_nil] at hto hb ⊢
  rw [h1 env prog to z S hP ha (by omega) (by omega) n hn]
  unfold pz_jn
  cases e1 : d env with
  | none => rfl
  | some a =>
    simp only []
    rw [h2 env prog to (z + st.length) (a :: S) hP hc (by omega) (by simp only [List.length_cons]; omega) n (by omega)]
    cases e2 : d' env with
    | none => rfl
    | some b =>
      simp only []
      rw [pz_rn_op (h := h) hP (by omega) (by omega) hh (by rw [← hb]; congr 1; omega)]
      cases am_jn h a b with
      | none => rfl
      | some q => simp only []; congr 1; omega
theorem pz_run_lj {lim : Int} {st st' : List Int} {d d' : am_Val} {w w' h : Int} (hw : 1 ≤ w) (hw' : 1 ≤ w') (hh : h = 3 ∨ h = 4) (hl : st'.length < 2048) (h1 : pz_run lim st d w) (h2 : pz_run lim st' d' w') : pz_run lim (st ++ [h * 2048 + (st'.length : Int)] ++ st') (pz_lj h d d') (w + w') := by
  intro env prog to z S hP hat hto hS n hn
  obtain ⟨ha, hb⟩ := pz_at_app.mp hat
  obtain ⟨ha, hc⟩ := pz_at_app.mp ha
  have hc := pz_at_one.mp hc
  simp only [List.length_append, List.length_cons, List.length_nil] at hto hb ⊢
  rw [h1 env prog to z S hP ha (by omega) (by omega) n hn]
  unfold pz_lj
  cases e1 : d env with
  | none => rfl
  | some a =>
    simp only []
    rw [pz_rn_skip hP (by omega) (by omega) hh (k := st'.length) (by omega) hc]
    by_cases c : a = if h = 4 then 1 else 0
    · rw [if_pos c, if_pos c]
      simp only []
      congr 1
      omega
    · rw [if_neg c, if_neg c]
      have e : z + (st.length : Int) + 1 = z + ((st.length + (0 + 1) : Nat) : Int) := by omega
      rw [e, h2 env prog to _ S hP hb (by omega) (by omega) n (by omega)]
      cases d' env with
      | none => rfl
      | some b => simp only []; congr 1; omega
theorem pz_run_not {lim : Int} {st : List Int} {d : am_Val} {w : Int} (h1 : pz_run lim st d w) : pz_run lim (st ++ [4096]) (pz_not d) w := by
  intro env prog to z S hP hat hto hS n hn
  obtain ⟨ha, hb⟩ := pz_at_app.mp hat
  have hb := pz_at_one.mp hb
  simp only [List.length_append, List.length_cons, List.length_nil] at hto hb ⊢
  rw [h1 env prog to z S hP ha (by omega) (by omega) n hn]
  unfold pz_not
  cases e1 : d env with
  | none => rfl
  | some a =>
    simp only [Option.map_some]
    rw [pz_rn_not hP (by omega) (by omega) hb]
    congr 1
    omega
theorem pz_run_num {lim k : Int} (hk : 0 ≤ k ∧ k ≤ 1000) : pz_run lim [k] (fun _ => some k) 1 := by
  intro env prog to z S hP hat hto hS n hn
  have hb := pz_at_one.mp hat
  simp only [List.length_cons, List.length_nil] at hto ⊢
  rw [pz_rn_num hP hn (by omega) (by omega) hb (by omega)]
  rfl
theorem pz_run_fact {lim k : Int} (hk : 0 ≤ k ∧ k < lim) (hl : lim ≤ 24) : pz_run lim [2048 + k] (fun env => some (env k)) 1 := by
  intro env prog to z S hP hat hto hS n hn
  have hb := pz_at_one.mp hat
  simp only [List.length_cons, List.length_nil] at hto ⊢
  rw [pz_rn_fact hP hn (by omega) (by omega) hk.2 hb (by omega)]
  rfl
/-- values of SUMS; of TESTS -/
def pz_val (d : am_Val) : Prop := ∀ env : Int → Int, (∀ f, -1000000000 ≤ env f ∧ env f ≤ 1000000000) → ∀ a, d env = some a → -1000000000 ≤ a ∧ a ≤ 1000000000
def pz_bool (d : am_Val) : Prop := ∀ (env : Int → Int) (a : Int), d env = some a → a = 0 ∨ a = 1
theorem am_bd_le {z a : Int} (h : am_bd z = some a) : a = z ∧ -1000000000 ≤ a ∧ a ≤ 1000000000 := by
  unfold am_bd at h
  by_cases c : z < -1000000000 ∨ 1000000000 < z
  · rw [if_pos c] at h; cases h
  · rw [if_neg c] at h; cases h; omega
theorem pz_val_jn {d e : am_Val} {h : Int} (hh : 8 ≤ h ∧ h ≤ 12) : pz_val (pz_jn h d e) := by
  intro env henv a ha
  unfold pz_jn at ha
  cases e1 : d env with
  | none => rw [e1] at ha; cases ha
  | some x =>
    cases e2 : e env with
    | none => rw [e1, e2] at ha; cases ha
    | some y =>
      rw [e1, e2] at ha
      simp only [] at ha
      unfold am_jn at ha
      rw [if_neg (by omega), if_neg (by omega), if_neg (by omega)] at ha
      have h5 : h = 8 ∨ h = 9 ∨ h = 10 ∨ h = 11 ∨ h = 12 := by omega
      rcases h5 with rfl | rfl | rfl | rfl | rfl
      · exact (am_bd_le ha).2
      · exact (am_bd_le ha).2
      · exact (am_bd_le ha).2
      · by_cases c : y = 0
        · simp [c] at ha
        · simp [c] at ha; exact (am_bd_le ha).2
      · by_cases c : y = 0
        · simp [c] at ha
        · simp [c] at ha; exact (am_bd_le ha).2
theorem pz_bool_jn {d e : am_Val} {h : Int} (hh : 5 ≤ h ∧ h ≤ 7) : pz_bool (pz_jn h d e) := by
  intro env a ha
  unfold pz_jn at ha
  cases e1 : d env with
  | none => rw [e1] at ha; cases ha
  | some x =>
    cases e2 : e env with
    | none => rw [e1, e2] at ha; cases ha
    | some y =>
      rw [e1, e2] at ha
      simp only [] at ha
      unfold am_jn at ha
      have h5 : h = 5 ∨ h = 6 ∨ h = 7 := by omega
      rcases h5 with rfl | rfl | rfl
      · by_cases c : x < y <;> simp [c] at ha <;> omega
      · by_cases c : y < x <;> simp [c] at ha <;> omega
      · by_cases c : x = y <;> simp [c] at ha <;> omega
theorem pz_bool_lj {d e : am_Val} {h : Int} (h1 : pz_bool d) (h2 : pz_bool e) : pz_bool (pz_lj h d e) := by
  intro env a ha
  unfold pz_lj at ha
  cases e1 : d env with
  | none => rw [e1] at ha; cases ha
  | some x =>
    rw [e1] at ha
    simp only [] at ha
    by_cases c : x = if h = 4 then 1 else 0
    · rw [if_pos c] at ha; cases ha; exact h1 env _ e1
    · rw [if_neg c] at ha; exact h2 env _ ha
theorem pz_bool_not {d : am_Val} (h1 : pz_bool d) : pz_bool (pz_not d) := by
  intro env a ha
  unfold pz_not at ha
  cases e1 : d env with
  | none => rw [e1] at ha; cases ha
  | some x =>
    rw [e1] at ha
    simp only [Option.map_some] at ha
    cases ha
    have := h1 env _ e1
    omega
