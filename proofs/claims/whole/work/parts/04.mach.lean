/-! THE PLAIN MACHINE. Values are pairs (tag, whole number): 0 an int, 1 a long, 2 an object by its place in the order of making (below 0: null), 3 a thing from outside by its place, 9 nothing told. Memory: object, place -> number. am_Z F pc st loc m n: the machine's frame F, come to pc with this stack, these locals and this memory of n objects, goes on to its end. Each z_ row (next part) turns am_Z behind an instruction into am_Z ahead of it. -/
abbrev am_V : Type := Nat × Int
abbrev am_M : Type := Int → Int → Int
/-- base, addresses of things from outside, their byte rows, the tables' numbers, classes of arrays -/
abbrev am_E : Type := Nat × (Nat → Nat) × (Nat → Nat) × va_G × (Nat → ClassId)
def am_rf (b : Nat) (z : Int) : Option Nat := if z < 0 then none else some (b + z.toNat)
def am_rv (E : am_E) (v : am_V) : Value := match v.1 with
  | 0 => .int (Int32.ofInt v.2)
  | 1 => .long (Int64.ofInt v.2)
  | 2 => va_rf (am_rf E.1 v.2)
  | _ => .ref (E.2.1 v.2.toNat)
def am_R (v : am_V) : Prop := (v.1 = 0 → R32 v.2) ∧ (v.1 = 1 → R64 v.2)
theorem am_R0 {z : Int} (h : R32 z) : am_R (0, z) := ⟨fun _ => h, (fun h => nomatch h)⟩
theorem am_R1 {z : Int} (h : R64 z) : am_R (1, z) := ⟨(fun h => nomatch h), fun _ => h⟩
theorem am_R2 (z : Int) : am_R (2, z) := ⟨(fun h => nomatch h), (fun h => nomatch h)⟩
theorem am_R3 (z : Int) : am_R (3, z) := ⟨(fun h => nomatch h), (fun h => nomatch h)⟩
theorem am_R9 (z : Int) : am_R (9, z) := ⟨(fun h => nomatch h), (fun h => nomatch h)⟩
theorem am_cat (E : am_E) (v : am_V) : (am_rv E v).category = if v.1 = 1 then 2 else 1 := by
  obtain ⟨t, z⟩ := v
  match t with
  | 0 => rfl
  | 1 => rfl
  | 2 =>
    show (va_rf (am_rf E.1 z)).category = 1
    unfold am_rf
    split <;> rfl
  | k + 3 => rfl
/-- the locals that are told -/
def am_lm (E : am_E) : Nat → List am_V → List (Nat × Value)
  | _, [] => []
  | i, v :: l => if v.1 = 9 then am_lm E (i + 1) l else (i, am_rv E v) :: am_lm E (i + 1) l
theorem am_lm_mem {E : am_E} : ∀ (l : List am_V) (i : Nat) (q : Nat × Value), q ∈ am_lm E i l ↔ ∃ (k : Nat) (v : am_V), l[k]? = some v ∧ v.1 ≠ 9 ∧ q = (i + k, am_rv E v) := by
  intro l
  induction l with
  | nil => intro i q; simp [am_lm]
  | cons a l ih =>
    intro i q
    rw [am_lm]
    constructor
    · intro h
      by_cases h9 : a.1 = 9
      · rw [if_pos h9] at h
        obtain ⟨k, v, h1, h2, h3⟩ := (ih (i + 1) q).mp h
        exact ⟨k + 1, v, by simpa using h1, h2, by rw [h3]; congr 1; omega⟩
      · rw [if_neg h9] at h
        rcases List.mem_cons.mp h with h | h
        · exact ⟨0, a, rfl, h9, h⟩
        · obtain ⟨k, v, h1, h2, h3⟩ := (ih (i + 1) q).mp h
          exact ⟨k + 1, v, by simpa using h1, h2, by rw [h3]; congr 1; omega⟩
    · rintro ⟨k, v, h1, h2, h3⟩
      cases k with
      | zero =>
        have e : a = v := by simpa using h1
        subst e
        rw [if_neg h2]
        exact List.mem_cons.mpr (Or.inl h3)
      | succ k =>
        have h4 : q ∈ am_lm E (i + 1) l := (ih (i + 1) q).mpr ⟨k, v, by simpa using h1, h2, by rw [h3]; congr 1; omega⟩
        by_cases h9 : a.1 = 9
        · rw [if_pos h9]; exact h4
        · rw [if_neg h9]; exact List.mem_cons.mpr (Or.inr h4)
theorem am_lm_at {E : am_E} {l : List am_V} {ls : Array Slot} {nL k : Nat} {v : am_V} (h : lv_has ls nL (am_lm E 0 l)) (hk : l[k]? = some v) (h9 : v.1 ≠ 9) : ls[k]? = some (.val (am_rv E v)) := by
  have := h.2.2 (k, am_rv E v) ((am_lm_mem l 0 _).mpr ⟨k, v, hk, h9, by rw [Nat.zero_add]⟩)
  exact this
/-- no long begins one place below k -/
def am_pl (l : List am_V) (k : Nat) : Prop := match k with
  | 0 => True
  | j + 1 => ∀ v, l[j]? = some v → v.1 ≠ 1
theorem am_lm_set1 {E : am_E} {loc : List am_V} {ls' : Array Slot} {nL k : Nat} {v : am_V} (hk : k < loc.length) (hp : am_pl loc k) (h : lv_has ls' nL ((k, am_rv E v) :: (am_lm E 0 loc).filter (fun q => !(q.1 == k) && !(q.1 + 1 == k && q.2.category == 2)))) : lv_has ls' nL (am_lm E 0 (loc.set k v)) := by
  refine ⟨h.1, h.2.1, fun q hq => h.2.2 q ?_⟩
  obtain ⟨i, w, h1, h2, rfl⟩ := (am_lm_mem _ _ _).mp hq
  rw [Nat.zero_add]
  by_cases hi : i = k
  · subst hi
    rw [List.getElem?_set_self hk] at h1
    cases h1
    exact List.mem_cons_self
  · rw [List.getElem?_set_ne (Ne.symm hi)] at h1
    refine List.mem_cons_of_mem _ (List.mem_filter.mpr ⟨(am_lm_mem _ _ _).mpr ⟨i, w, h1, h2, by rw [Nat.zero_add]⟩, ?_⟩)
    have e1 : (i == k) = false := by simp [hi]
    simp only [e1, am_cat]
    by_cases hj : i + 1 = k
    · subst hj
      have := hp w h1
      simp [this]
    · simp [hj]
theorem am_lm_set2 {E : am_E} {loc : List am_V} {ls' : Array Slot} {nL k : Nat} {v : am_V} (hk : k < loc.length) (hp : am_pl loc k) (hn : ∀ w, loc[k + 1]? = some w → w.1 = 9) (h : lv_has ls' nL ((k, am_rv E v) :: (am_lm E 0 loc).filter (fun q => !(q.1 == k) && (!(q.1 == k + 1) && !(q.1 + 1 == k && q.2.category == 2))))) : lv_has ls' nL (am_lm E 0 (loc.set k v)) := by
  refine ⟨h.1, h.2.1, fun q hq => h.2.2 q ?_⟩
  obtain ⟨i, w, h1, h2, rfl⟩ := (am_lm_mem _ _ _).mp hq
  rw [Nat.zero_add]
  by_cases hi : i = k
  · subst hi
    rw [List.getElem?_set_self hk] at h1
    cases h1
    exact List.mem_cons_self
  · rw [List.getElem?_set_ne (Ne.symm hi)] at h1
    refine List.mem_cons_of_mem _ (List.mem_filter.mpr ⟨(am_lm_mem _ _ _).mpr ⟨i, w, h1, h2, by rw [Nat.zero_add]⟩, ?_⟩)
    have e1 : (i == k) = false := by simp [hi]
    have e2 : (i == k + 1) = false := by
      simp only [beq_eq_false_iff_ne, ne_eq]
      rintro rfl
      exact h2 (hn w h1)
    simp only [e1, e2, am_cat]
    by_cases hj : i + 1 = k
    · subst hj
      have := hp w h1
      simp [this]
    · simp [hj]
/-- fewer told locals -/
def am_le : List am_V → List am_V → Prop
  | [], [] => True
  | a :: l, b :: r => (a = b ∨ a = (9, 0)) ∧ am_le l r
  | _, _ => False
theorem am_le_get : ∀ {l r : List am_V}, am_le l r → l.length = r.length ∧ ∀ (k : Nat) (v : am_V), l[k]? = some v → v = (9, 0) ∨ r[k]? = some v := by
  intro l
  induction l with
  | nil =>
    intro r h
    cases r with
    | nil => exact ⟨rfl, fun k v h => by simp at h⟩
    | cons b r => exact h.elim
  | cons a l ih =>
    intro r h
    cases r with
    | nil => exact h.elim
    | cons b r =>
      obtain ⟨h1, h2⟩ := h
      obtain ⟨e, f⟩ := ih h2
      refine ⟨by simp [e], fun k v hk => ?_⟩
      cases k with
      | zero =>
        have e2 : a = v := by simpa using hk
        subst e2
        rcases h1 with h1 | h1
        · exact Or.inr (by simp [h1])
        · exact Or.inl h1
      | succ k => simpa using f k v (by simpa using hk)
/-- the tag of a field's type -/
def am_tag (t : FieldType) : Nat := match t with
  | .long => 1
  | .object _ => 2
  | .array _ => 2
  | _ => 0
def am_ty (ci : Nat) : Nat → FieldType := match ci with
  | 0 => tyX0
  | 1 => tyX1
  | 2 => tyX2
  | 3 => tyX3
  | 4 => tyX4
  | 5 => tyX5
  | 6 => tyX6
  | 7 => tyX7
  | 8 => tyX8
  | 9 => tyX9
  | 10 => tyX10
  | 11 => tyX11
  | _ => tyX12
def am_T (ci : Nat) : u_T := match ci with
  | 0 => TX0
  | 1 => TX1
  | 2 => TX2
  | 3 => TX3
  | 4 => TX4
  | 5 => TX5
  | 6 => TX6
  | 7 => TX7
  | 8 => TX8
  | 9 => TX9
  | 10 => TX10
  | 11 => TX11
  | _ => TX12
def am_C (ci : Nat) : String := match ci with
  | 0 => RX0
  | 1 => RX1
  | 2 => RX2
  | 3 => RX3
  | 4 => RX4
  | 5 => RX5
  | 6 => RX6
  | 7 => RX7
  | 8 => RX8
  | 9 => RX9
  | 10 => RX10
  | 11 => RX11
  | _ => RX12
def am_N (ci : Nat) : Nat := match ci with
  | 0 => 12
  | 1 => 8
  | 2 => 4
  | 3 => 2
  | 4 => 3
  | 5 => 7
  | 6 => 1
  | 7 => 3
  | 8 => 2
  | 9 => 2
  | 10 => 3
  | 11 => 20
  | _ => 60
theorem am_cl : ∀ ci, ci < 13 → vwCl[ci]? = some (am_C ci, am_T ci, am_N ci) := by
  intro ci h
  match ci, h with
  | 0, _ => rfl
  | 1, _ => rfl
  | 2, _ => rfl
  | 3, _ => rfl
  | 4, _ => rfl
  | 5, _ => rfl
  | 6, _ => rfl
  | 7, _ => rfl
  | 8, _ => rfl
  | 9, _ => rfl
  | 10, _ => rfl
  | 11, _ => rfl
  | 12, _ => rfl
  | k + 13, h => omega
theorem am_tyok : ∀ ci, ci < 13 → ∀ k, k < am_N ci → parseFieldDescriptor (am_T ci k).2.2.1 = some (am_ty ci k) := by
  intro ci h
  match ci, h with
  | 0, _ => exact tyX0_ok
  | 1, _ => exact tyX1_ok
  | 2, _ => exact tyX2_ok
  | 3, _ => exact tyX3_ok
  | 4, _ => exact tyX4_ok
  | 5, _ => exact tyX5_ok
  | 6, _ => exact tyX6_ok
  | 7, _ => exact tyX7_ok
  | 8, _ => exact tyX8_ok
  | 9, _ => exact tyX9_ok
  | 10, _ => exact tyX10_ok
  | 11, _ => exact tyX11_ok
  | 12, _ => exact tyX12_ok
  | k + 13, h => omega
theorem am_nm : ∀ ci, ci < 13 → ∀ a, a < am_N ci → ∀ b, b < am_N ci → a ≠ b → (am_T ci a).2.1 ≠ (am_T ci b).2.1 := by
  intro ci h
  match ci, h with
  | 0, _ => exact nmX0
  | 1, _ => exact nmX1
  | 2, _ => exact nmX2
  | 3, _ => exact nmX3
  | 4, _ => exact nmX4
  | 5, _ => exact nmX5
  | 6, _ => exact nmX6
  | 7, _ => exact nmX7
  | 8, _ => exact nmX8
  | 9, _ => exact nmX9
  | 10, _ => exact nmX10
  | 11, _ => exact nmX11
  | 12, _ => exact nmX12
  | k + 13, h => omega
def am_ft (ci k : Nat) : Nat := am_tag (am_ty ci k)
def am_ent (E : am_E) (sh : Nat × Nat) (f : Int → Int) : va_E :=
  if sh.1 < 20 then .inr (sh.1, (List.range sh.2).map fun k => am_rv E (am_ft sh.1 k, f k))
  else if sh.1 < 23 then .inl (E.2.2.2.2 sh.1, (sh.2, .inl fun j => Int32.ofInt (f j)))
  else if sh.1 = 23 then .inl (E.2.2.2.2 sh.1, (sh.2, .inr (.inl fun j => Int64.ofInt (f j))))
  else .inl (E.2.2.2.2 sh.1, (sh.2, .inr (.inr (.inr (.inr fun j => am_rf E.1 (f j))))))
/-- the tag of a place of an object -/
def am_ct (sh : Nat × Nat) (k : Nat) : Nat := if sh.1 < 20 then am_ft sh.1 k else if sh.1 < 23 then 0 else if sh.1 = 23 then 1 else 2
def am_ws (E : am_E) (m : am_M) (n : Nat) : va_W := (List.range n).map fun o => (E.1 + o, am_ent E (am_sh o) (m o))
def am_Rng (m : am_M) (n : Nat) : Prop := ∀ o, o < n → ∀ k, k < (am_sh o).2 → am_R (am_ct (am_sh o) k, m o k)
def am_SL (n : Nat) : Nat := ((List.range n).map fun o => (am_sh o).2).sum
theorem am_SL_succ (n : Nat) : am_SL (n + 1) = am_SL n + (am_sh n).2 := by simp [am_SL, List.range_succ]
theorem am_SL_mono : ∀ {a b : Nat}, a ≤ b → am_SL a ≤ am_SL b := by
  intro a b h
  induction b with
  | zero => rw [Nat.le_zero.mp h]; exact Nat.le_refl _
  | succ b ih =>
    rcases Nat.lt_or_ge a (b + 1) with q | q
    · rw [am_SL_succ]; have := ih (by omega); omega
    · rw [Nat.le_antisymm h q]; exact Nat.le_refl _
theorem am_ws_get {E : am_E} {m : am_M} {n o : Nat} (h : o < n) : (am_ws E m n)[o]? = some (E.1 + o, am_ent E (am_sh o) (m o)) := by
  simp [am_ws, List.getElem?_map, List.getElem?_range h]
theorem am_ws_len {E : am_E} {m : am_M} {n : Nat} : (am_ws E m n).length = n := by simp [am_ws]
theorem am_ws_D {E : am_E} {m : am_M} {n : Nat} : va_D (fun q => E.1 ≤ q) (am_ws E m n) := by
  have key : ∀ (i : Nat) (p : Nat × va_E), (am_ws E m n)[i]? = some p → p.1 = E.1 + i := by
    intro i p hi
    have hl : i < n := by have := (List.getElem?_eq_some_iff.mp hi).1; rwa [am_ws_len] at this
    rw [am_ws_get hl] at hi
    cases hi
    rfl
  refine ⟨fun i j p q hi hj h => ?_, fun k q hk => ?_⟩
  · rw [key i p hi, key j q hj] at h; omega
  · show E.1 ≤ q.1
    rw [key k q hk]; omega
theorem am_ws_succ {E : am_E} {m : am_M} {n : Nat} : am_ws E m (n + 1) = am_ws E m n ++ [(E.1 + n, am_ent E (am_sh n) (m n))] := by simp [am_ws, List.range_succ]
theorem am_ws_congr {E : am_E} {m m' : am_M} {n : Nat} (h : ∀ o, o < n → am_ent E (am_sh o) (m o) = am_ent E (am_sh o) (m' o)) : am_ws E m n = am_ws E m' n := by
  unfold am_ws
  exact List.map_congr_left (fun o ho => by rw [h o (List.mem_range.mp ho)])
/-- memory with one place written -/
def am_st (m : am_M) (o k v : Int) : am_M := fun o' k' => if o' = o ∧ k' = k then v else m o' k'
theorem am_st_same (m : am_M) (o k v : Int) : am_st m o k v o k = v := by simp [am_st]
theorem am_st_ne (m : am_M) {o k o' k' v : Int} (h : ¬ (o' = o ∧ k' = k)) : am_st m o k v o' k' = m o' k' := if_neg h
theorem am_ws_set {E : am_E} {m : am_M} {n o : Nat} {k v : Int} (h : o < n) {e : va_E} (he : e = am_ent E (am_sh o) (am_st m o k v o)) : (am_ws E m n).set o (E.1 + o, e) = am_ws E (am_st m o k v) n := by
  apply List.ext_getElem?
  intro i
  by_cases hi : i < n
  · rw [am_ws_get hi]
    by_cases hio : i = o
    · subst hio
      rw [List.getElem?_set_self (by rw [am_ws_len]; exact h), he]
    · rw [List.getElem?_set_ne (Ne.symm hio), am_ws_get hi]
      congr 3
      funext z
      rw [am_st_ne]
      rintro ⟨h1, -⟩
      exact hio (by omega)
  · rw [List.getElem?_eq_none (by rw [List.length_set, am_ws_len]; omega), List.getElem?_eq_none (by rw [am_ws_len]; omega)]
theorem am_Rng_st {m : am_M} {n o k : Nat} {v : Int} (h : am_Rng m n) (hv : am_R (am_ct (am_sh o) k, v)) : am_Rng (am_st m o k v) n := by
  intro o' ho' k' hk'
  by_cases e : o' = o ∧ k' = k
  · obtain ⟨rfl, rfl⟩ := e
    rw [am_st_same]; exact hv
  · rw [am_st_ne]
    · exact h o' ho' k' hk'
    · rintro ⟨h1, h2⟩
      exact e ⟨by omega, by omega⟩
/-- z names an object of class ci; an array of a kind -/
def am_is (n : Nat) (z : Int) (ci : Nat) : Prop := 0 ≤ z ∧ z.toNat < n ∧ am_sh z.toNat = (ci, am_N ci)
def am_isA (n : Nat) (z : Int) (kd : Nat) (len : Int) : Prop := 0 ≤ z ∧ z.toNat < n ∧ (am_sh z.toNat).1 = kd ∧ len = ((am_sh z.toNat).2 : Int)
/-- a frame of the machine: program, launch, environment, room, its start, method, arguments, what lies below, method and code, its end; the world from outside; how many objects there were at its start, how many it may make, how deep it may call -/
abbrev am_F : Type := Program × Launch × Env × Room × State × MethodId × Array Value × List Frame × Method × Code × (State → Prop) × am_E × Nat × Nat × Nat
def am_Z (F : am_F) (pc : Nat) (st loc : List am_V) (mm : am_M) (n : Nat) : Prop := match F with
  | (p, l, e, R, s, m, args, below, meth, c, Q, E, n0, _, _) => (∀ v ∈ st, am_R v) → (∀ v ∈ loc, am_R v) → am_Rng mm n → loc.length = c.maxLocals → n0 ≤ n → ∀ (H : Heap) (ls : Array Slot) (locs : List Loc), lv_has ls c.maxLocals (am_lm E 0 loc) → va_P E.2.2.2.1 vwCl (am_ws E mm n) H → va_S (fun q => E.1 ≤ q) s.heap H locs → W p l e R s m args below meth c H locs (n - n0) (am_SL n - am_SL n0) Q (F0 m pc ls (st.map (am_rv E)))
def am_tys (E : am_E) : List (ClassId × FieldType) := [(E.2.2.2.2 20, .int), (E.2.2.2.2 21, .byte), (E.2.2.2.2 22, .boolean), (E.2.2.2.2 23, .long), (E.2.2.2.2 24, .object RX0), (E.2.2.2.2 25, .object RX4)]
/-- the words that a frame may use -/
def am_TB : List Cond := lw_tbl.filter goodWord
theorem am_TB_mem {w : Cond} (h : w ∈ lw_tbl) (hg : goodWord w = true) : w ∈ am_TB := List.mem_filter.mpr ⟨h, hg⟩
