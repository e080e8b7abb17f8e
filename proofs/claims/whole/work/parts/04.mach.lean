/-! THE PLAIN MACHINE. Values are pairs (tag, whole number): 0 an int, 1 a long, 2 an object by its place in the order of making (below 0: null), 3 a thing from outside by its place, 9 nothing told. Memory: object, place -> number. am_Z F pc st loc m n: the machine's frame F, come to pc with this stack, these locals and this memory of n objects, goes on to its end. Each z_ row below turns am_Z behind an instruction into am_Z ahead of it. -/
abbrev am_V : Type := Nat × Int
abbrev am_M : Type := Int → Int → Int
/-- base, addresses of things from outside, their byte rows, the tables' numbers, classes of arrays -/
abbrev am_E : Type := Nat × (Nat → Nat) × (Nat → Nat) × va_G × (Nat → ClassId)
def am_rf (b : Nat) (z : Int) : Option Nat := if z < 0 then none else some (b + z.toNat)
def am_rv (E : am_E) (v : am_V) : Value := match v.1 with
  | 0 => .int (Int32.ofInt v.2)
  | 1 => .long (Int64.ofInt v.2)
  | 2 => va_rf (am_rf E.1 v.2)
  | _ => .ref (E.2.1 v.2.toNat)
def am_R (v : am_V) : Prop := (v.1 = 0 → R32 v.2) ∧ (v.1 = 1 → R64 v.2)
theorem am_R0 {z : Int} (h : R32 z) : am_R (0, z) := ⟨fun _ => h, fun h => by cases h⟩
theorem am_R1 {z : Int} (h : R64 z) : am_R (1, z) := ⟨fun h => by cases h, fun _ => h⟩
theorem am_R2 (z : Int) : am_R (2, z) := ⟨fun h => by cases h, fun h => by cases h⟩
theorem am_R3 (z : Int) : am_R (3, z) := ⟨fun h => by cases h, fun h => by cases h⟩
theorem am_R9 (z : Int) : am_R (9, z) := ⟨fun h => by cases h, fun h => by cases h⟩
theorem am_cat (E : am_E) (v : am_V) : (am_rv E v).category = if v.1 = 1 then 2 else 1 := by
  obtain ⟨t, z⟩ := v
  match t with
  | 0 => rfl
  | 1 => rfl
  | 2 =>
    show (va_rf (am_rf E.1 z)).category = 1
    unfold am_rf
    split <;> rfl
  | k + 3 => rfl
/-- the locals that are told -/
def am_lm (E : am_E) : Nat → List am_V → List (Nat × Value)
  | _, [] => []
  | i, v :: l => if v.1 = 9 then am_lm E (i + 1) l else (i, am_rv E v) :: am_lm E (i + 1) l
theorem am_lm_mem {E : am_E} : ∀ (l : List am_V) (i : Nat) (q : Nat × Value), q ∈ am_lm E i l ↔ ∃ (k : Nat) (v : am_V), l[k]? = some v ∧ v.1 ≠ 9 ∧ q = (i + k, am_rv E v) := by
  intro l
  induction l with
  | nil => intro i q; simp [am_lm]
  | cons a l ih =>
    intro i q
    rw [am_lm]
    constructor
    · intro h
      by_cases h9 : a.1 = 9
      · rw [if_pos h9] at h
        obtain ⟨k, v, h1, h2, h3⟩ := (ih (i + 1) q).mp h
        exact ⟨k + 1, v, by simpa using h1, h2, by rw [h3]; congr 1; omega⟩
      · rw [if_neg h9] at h
        rcases List.mem_cons.mp h with h | h
        · exact ⟨0, a, rfl, h9, h⟩
        · obtain ⟨k, v, h1, h2, h3⟩ := (ih (i + 1) q).mp h
          exact ⟨k + 1, v, by simpa using h1, h2, by rw [h3]; congr 1; omega⟩
    · rintro ⟨k, v, h1, h2, h3⟩
      cases k with
      | zero =>
        have e : a = v := by simpa using h1
        subst e
        rw [if_neg h2]
        exact List.mem_cons.mpr (Or.inl h3)
      | succ k =>
        have h4 : q ∈ am_lm E (i + 1) l := (ih (i + 1) q).mpr ⟨k, v, by simpa using h1, h2, by rw [h3]; congr 1; omega⟩
        by_cases h9 : a.1 = 9
        · rw [if_pos h9]; exact h4
        · rw [if_neg h9]; exact List.mem_cons.mpr (Or.inr h4)
theorem am_lm_at {E : am_E} {l : List am_V} {ls : Array Slot} {nL k : Nat} {v : am_V} (h : lv_has ls nL (am_lm E 0 l)) (hk : l[k]? = some v) (h9 : v.1 ≠ 9) : ls[k]? = some (.val (am_rv E v)) := by
  have := h.2.2 (k, am_rv E v) ((am_lm_mem l 0 _).mpr ⟨k, v, hk, h9, by rw [Nat.zero_add]⟩)
  exact this
/-- the kinds of objects: below 20 a class, its number of fields; 20 .. 25 arrays of int, byte, boolean, long, Book, Program, their length -/
def am_tag (t : FieldType) : Nat := match t with
  | .long => 1
  | .object _ => 2
  | .array _ => 2
  | _ => 0
def am_ty (ci : Nat) : Nat → FieldType := match ci with
  | 0 => tyX0
  | 1 => tyX1
  | 2 => tyX2
  | 3 => tyX3
  | 4 => tyX4
  | 5 => tyX5
  | 6 => tyX6
  | 7 => tyX7
  | 8 => tyX8
  | 9 => tyX9
  | 10 => tyX10
  | 11 => tyX11
  | _ => tyX12
def am_ft (ci k : Nat) : Nat := am_tag (am_ty ci k)
def am_ent (E : am_E) (sh : Nat × Nat) (f : Int → Int) : va_E :=
  if sh.1 < 20 then .inr (sh.1, (List.range sh.2).map fun k => am_rv E (am_ft sh.1 k, f k))
  else if sh.1 < 23 then .inl (E.2.2.2.2 sh.1, (sh.2, .inl fun j => Int32.ofInt (f j)))
  else if sh.1 = 23 then .inl (E.2.2.2.2 sh.1, (sh.2, .inr (.inl fun j => Int64.ofInt (f j))))
  else .inl (E.2.2.2.2 sh.1, (sh.2, .inr (.inr (.inr (.inr fun j => am_rf E.1 (f j))))))
/-- the tag of a place of an object -/
def am_ct (sh : Nat × Nat) (k : Nat) : Nat := if sh.1 < 20 then am_ft sh.1 k else if sh.1 < 23 then 0 else if sh.1 = 23 then 1 else 2
def am_ws (E : am_E) (S : Nat → Nat × Nat) (m : am_M) (n : Nat) : va_W := (List.range n).map fun o => (E.1 + o, am_ent E (S o) (m o))
def am_Rng (S : Nat → Nat × Nat) (m : am_M) (n : Nat) : Prop := ∀ o, o < n → ∀ k, k < (S o).2 → am_R (am_ct (S o) k, m o k)
def am_SL (S : Nat → Nat × Nat) (n : Nat) : Nat := ((List.range n).map fun o => (S o).2).sum
theorem am_SL_succ (S : Nat → Nat × Nat) (n : Nat) : am_SL S (n + 1) = am_SL S n + (S n).2 := by simp [am_SL, List.range_succ]
theorem am_SL_mono (S : Nat → Nat × Nat) : ∀ {a b : Nat}, a ≤ b → am_SL S a ≤ am_SL S b := by
  intro a b h
  induction b with
  | zero => rw [Nat.le_zero.mp h]; exact Nat.le_refl _
  | succ b ih =>
    rcases Nat.lt_or_ge a (b + 1) with q | q
    · rw [am_SL_succ]; have := ih (by omega); omega
    · rw [Nat.le_antisymm h q]; exact Nat.le_refl _
theorem am_ws_get {E : am_E} {S : Nat → Nat × Nat} {m : am_M} {n o : Nat} (h : o < n) : (am_ws E S m n)[o]? = some (E.1 + o, am_ent E (S o) (m o)) := by
  simp [am_ws, List.getElem?_map, List.getElem?_range h]
theorem am_ws_len {E : am_E} {S : Nat → Nat × Nat} {m : am_M} {n : Nat} : (am_ws E S m n).length = n := by simp [am_ws]
theorem am_ws_D {E : am_E} {S : Nat → Nat × Nat} {m : am_M} {n : Nat} : va_D (fun q => E.1 ≤ q) (am_ws E S m n) := by
  have key : ∀ (i : Nat) (p : Nat × va_E), (am_ws E S m n)[i]? = some p → p.1 = E.1 + i := by
    intro i p hi
    have hl : i < n := by have := (List.getElem?_eq_some_iff.mp hi).1; rwa [am_ws_len] at this
    rw [am_ws_get hl] at hi
    cases hi
    rfl
  refine ⟨fun i j p q hi hj h => ?_, fun k q hk => ?_⟩
  · rw [key i p hi, key j q hj] at h; omega
  · show E.1 ≤ q.1
    rw [key k q hk]; omega
theorem am_ws_succ {E : am_E} {S : Nat → Nat × Nat} {m : am_M} {n : Nat} : am_ws E S m (n + 1) = am_ws E S m n ++ [(E.1 + n, am_ent E (S n) (m n))] := by simp [am_ws, List.range_succ]
theorem am_ws_congr {E : am_E} {S : Nat → Nat × Nat} {m m' : am_M} {n : Nat} (h : ∀ o, o < n → am_ent E (S o) (m o) = am_ent E (S o) (m' o)) : am_ws E S m n = am_ws E S m' n := by
  unfold am_ws
  exact List.map_congr_left (fun o ho => by rw [h o (List.mem_range.mp ho)])
/-- memory with one place written -/
def am_st (m : am_M) (o k v : Int) : am_M := fun o' k' => if o' = o ∧ k' = k then v else m o' k'
theorem am_st_same (m : am_M) (o k v : Int) : am_st m o k v o k = v := by simp [am_st]
theorem am_st_ne (m : am_M) {o k o' k' v : Int} (h : ¬ (o' = o ∧ k' = k)) : am_st m o k v o' k' = m o' k' := if_neg h
theorem am_ws_set {E : am_E} {S : Nat → Nat × Nat} {m : am_M} {n o : Nat} {k v : Int} (h : o < n) {e : va_E} (he : e = am_ent E (S o) (am_st m o k v o)) : (am_ws E S m n).set o (E.1 + o, e) = am_ws E S (am_st m o k v) n := by
  apply List.ext_getElem?
  intro i
  by_cases hi : i < n
  · rw [am_ws_get hi]
    by_cases hio : i = o
    · subst hio
      rw [List.getElem?_set_self (by rw [am_ws_len]; exact h), he]
    · rw [List.getElem?_set_ne (Ne.symm hio), am_ws_get hi]
      congr 3
      funext z
      rw [am_st_ne]
      rintro ⟨h1, -⟩
      exact hio (by omega)
  · rw [List.getElem?_eq_none (by rw [List.length_set, am_ws_len]; omega), List.getElem?_eq_none (by rw [am_ws_len]; omega)]
theorem am_Rng_st {S : Nat → Nat × Nat} {m : am_M} {n o k : Nat} {v : Int} (h : am_Rng S m n) (hv : am_R (am_ct (S o) k, v)) : am_Rng S (am_st m o k v) n := by
  intro o' ho' k' hk'
  by_cases e : o' = o ∧ k' = k
  · obtain ⟨rfl, rfl⟩ := e
    rw [am_st_same]; exact hv
  · rw [am_st_ne]
    · exact h o' ho' k' hk'
    · rintro ⟨h1, h2⟩
      exact e ⟨by omega, by omega⟩
/-- a frame of the machine: program, launch, environment, room, its start, method, arguments, what lies below, method and code, its end; the world from outside, what kinds the objects are of, how many there were at its start, its class's name, its bytes, how many locals -/
abbrev am_F : Type := Program × Launch × Env × Room × State × MethodId × Array Value × List Frame × Method × Code × (State → Prop) × am_E × (Nat → Nat × Nat) × Nat × String × ByteArray × Nat
def am_Z (F : am_F) (pc : Nat) (st loc : List am_V) (mm : am_M) (n : Nat) : Prop := match F with
  | (p, l, e, R, s, m, args, below, meth, c, Q, E, S, n0, _, _, nL) => (∀ v ∈ st, am_R v) → (∀ v ∈ loc, am_R v) → am_Rng S mm n → loc.length = nL → ∀ (H : Heap) (ls : Array Slot) (locs : List Loc), lv_has ls nL (am_lm E 0 loc) → va_P E.2.2.2.1 vwCl (am_ws E S mm n) H → H.size = E.1 + n → va_S (fun q => E.1 ≤ q) s.heap H locs → W p l e R s m args below meth c H locs (n - n0) (am_SL S n - am_SL S n0) Q (F0 m pc ls (st.map (am_rv E)))
def am_tys (E : am_E) : List (ClassId × FieldType) := [(E.2.2.2.2 20, .int), (E.2.2.2.2 21, .byte), (E.2.2.2.2 22, .boolean), (E.2.2.2.2 23, .long), (E.2.2.2.2 24, .object RX0), (E.2.2.2.2 25, .object RX4)]
/-- what a frame rests on -/
def am_TB : List Cond := lw_tbl.filter goodWord
def am_G (F : am_F) : Prop := match F with
  | (p, _, _, _, s, m, args, _, _, c, _, E, _, n0, own, cc, nL) => p.tables.exec = Jvm.exec ∧ c.code = cc ∧ c.maxLocals = nL ∧ s.vm.findClass own = some m.cls ∧ (∀ w ∈ am_TB, w.before args s = true) ∧ va_K E.2.2.2.1 vwCl (am_tys E) s ∧ s.heap.size = E.1 + n0
def am_cc (F : am_F) : ByteArray := match F with
  | (_, _, _, _, _, _, _, _, _, _, _, _, _, _, _, cc, _) => cc
def am_own (F : am_F) : String := match F with
  | (_, _, _, _, _, _, _, _, _, _, _, _, _, _, own, _, _) => own
def am_shF (F : am_F) : Nat → Nat × Nat := match F with
  | (_, _, _, _, _, _, _, _, _, _, _, _, S, _, _, _, _) => S
section AMZ
variable {F : am_F} {pc : Nat} {st loc : List am_V} {m : am_M} {n : Nat}
theorem am_all_cons {P : am_V → Prop} {a : am_V} {l : List am_V} (h : ∀ v ∈ a :: l, P v) : P a ∧ ∀ v ∈ l, P v := ⟨h a List.mem_cons_self, fun v hv => h v (List.mem_cons_of_mem _ hv)⟩
theorem am_all_mk {P : am_V → Prop} {a : am_V} {l : List am_V} (ha : P a) (h : ∀ v ∈ l, P v) : ∀ v ∈ a :: l, P v := fun v hv => (List.mem_cons.mp hv).elim (fun e => e ▸ ha) (h v)
-- constants
theorem z_iconst (G : am_G F) {z : Int} (hz : R32 z) (hd : decode (am_cc F) pc = .ok (.iconst z, 1)) (k : am_Z F (pc + 1) ((0, z) :: st) loc m n) : am_Z F pc st loc m n := by
  obtain ⟨p, l, e, R, s, mm, args, below, meth, c, Q, E, S, n0, own, cc, nL⟩ := F
  obtain ⟨hx, hb, -⟩ := G
  intro h1 h2 h3 h4 H ls locs h5 h6 h7 h8
  exact lv_iconst hx hb hd rfl (k (am_all_mk (am_R0 hz) h1) h2 h3 h4 H ls locs h5 h6 h7 h8)
theorem z_bipush (G : am_G F) {a z : Int} (hz : R32 z) (he : (Int8.ofInt a).toInt32 = Int32.ofInt z) (hd : decode (am_cc F) pc = .ok (.bipush a, 2)) (k : am_Z F (pc + 2) ((0, z) :: st) loc m n) : am_Z F pc st loc m n := by
  obtain ⟨p, l, e, R, s, mm, args, below, meth, c, Q, E, S, n0, own, cc, nL⟩ := F
  obtain ⟨hx, hb, -⟩ := G
  intro h1 h2 h3 h4 H ls locs h5 h6 h7 h8
  exact lv_bipush hx hb hd he (k (am_all_mk (am_R0 hz) h1) h2 h3 h4 H ls locs h5 h6 h7 h8)
theorem z_sipush (G : am_G F) {a z : Int} (hz : R32 z) (he : (Int16.ofInt a).toInt32 = Int32.ofInt z) (hd : decode (am_cc F) pc = .ok (.sipush a, 3)) (k : am_Z F (pc + 3) ((0, z) :: st) loc m n) : am_Z F pc st loc m n := by
  obtain ⟨p, l, e, R, s, mm, args, below, meth, c, Q, E, S, n0, own, cc, nL⟩ := F
  obtain ⟨hx, hb, -⟩ := G
  intro h1 h2 h3 h4 H ls locs h5 h6 h7 h8
  exact lv_sipush hx hb hd he (k (am_all_mk (am_R0 hz) h1) h2 h3 h4 H ls locs h5 h6 h7 h8)
end AMZ
