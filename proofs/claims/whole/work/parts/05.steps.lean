/-! A ROW AN INSTRUCTION: am_Z behind it gives am_Z ahead of it. -/
/-- the string constants: their places in the pool, their texts, lengths, bytes -/
def am_sx : List Nat := [120, 122, 124, 126, 128, 130, 132, 188, 190, 198, 200, 202, 204, 206, 208, 210, 213, 215, 217, 219, 221, 223, 182, 184, 186, 175, 177, 106, 111, 157, 159, 164, 166, 168, 170, 155, 143, 53]
def am_stx : List String := ["pray", "dawn", "rank", "breath", "bars", "for", "of", "[", "]", "day", "prayers", "waiting", "done", "said", "granted", "length", "voices", "asker", "age", "thing", "waits", "mood", "*", "/", "%", "+", "-", "times", "if", "not", "(", ")", "<", ">", "=", "and", "or", ";"]
def am_sby : List (List Int) := [[112, 114, 97, 121], [100, 97, 119, 110], [114, 97, 110, 107], [98, 114, 101, 97, 116, 104], [98, 97, 114, 115], [102, 111, 114], [111, 102], [91], [93], [100, 97, 121], [112, 114, 97, 121, 101, 114, 115], [119, 97, 105, 116, 105, 110, 103], [100, 111, 110, 101], [115, 97, 105, 100], [103, 114, 97, 110, 116, 101, 100], [108, 101, 110, 103, 116, 104], [118, 111, 105, 99, 101, 115], [97, 115, 107, 101, 114], [97, 103, 101], [116, 104, 105, 110, 103], [119, 97, 105, 116, 115], [109, 111, 111, 100], [42], [47], [37], [43], [45], [116, 105, 109, 101, 115], [105, 102], [110, 111, 116], [40], [41], [60], [62], [61], [97, 110, 100], [111, 114], [59]]
def am_slen (k : Nat) : Nat := (am_sby.getD k []).length
def am_sch (k : Nat) (j : Nat) : Int := (am_sby.getD k []).getD j 0

def am_A (E : am_E) : Nat → Prop := fun q => E.1 ≤ q
/-- what is taken from outside -/
def am_X (E : am_E) (U : State) : Prop := (∀ w ∈ am_nestW, va_Nw w U) ∧ (∀ k, k < 38 → vk_R RX5 (am_sx.getD k 0) (am_stx.getD k "") (E.2.1 k) U) ∧ (∀ k, k < 38 → va_O "java/lang/String" (E.2.1 k) (am_A E) U U.heap ∧ va_OF "java/lang/String" "coder" "B" (.int 0) (E.2.1 k) (am_A E) U U.heap ∧ va_OF "java/lang/String" "value" "[B" (.ref (E.2.1 (100 + k))) (E.2.1 k) (am_A E) U U.heap ∧ va_T .byte (E.2.1 (100 + k)) (am_slen k) (fun j => .int (Int32.ofInt (am_sch k j))) (am_A E) U U.heap) ∧ va_Z "java/lang/String" "COMPACT_STRINGS" "Z" (.int 1) (am_A E) U U.heap ∧ (va_Z "jdk/internal/util/Preconditions" "SIOOBE_FORMATTER" "Ljava/util/function/BiFunction;" .null (am_A E) U U.heap ∨ va_Z "jdk/internal/util/Preconditions" "SIOOBE_FORMATTER" "Ljava/util/function/BiFunction;" (.ref (E.2.1 99)) (am_A E) U U.heap) ∧ va_AO RX0 U ∧ va_AO RX4 U
theorem am_X.go {E : am_E} {s t : State} (h : am_X E s) (hW : s.WarmedH t.vm) (hq : ∀ a : Nat, a < s.heap.size → ¬ am_A E a → t.heap[a]? = s.heap[a]?) : am_X E t := by
  obtain ⟨h1, h2, h3, h4, h5, h6, h7⟩ := h
  refine ⟨fun w hw => ?_, fun k hk => vk_R.warm hW (h2 k hk), fun k hk => ?_, (h4.moved hW.alike).kept hq, h5.imp (fun h => (h.moved hW.alike).kept hq) (fun h => (h.moved hW.alike).kept hq), h6.moved hW.alike, h7.moved hW.alike⟩
  · rcases am_nest_kind w hw with ⟨a, i, b, n, d, g, rfl⟩ | ⟨a, i, x, g, rfl⟩
    · exact va_Nw.warmF hW (h1 _ hw)
    · exact va_Nw.warmM hW (h1 _ hw)
  · obtain ⟨g1, g2, g3, g4⟩ := h3 k hk
    exact ⟨(g1.moved hW.alike).kept hq, (g2.moved hW.alike).kept hq, (g3.moved hW.alike).kept hq, (g4.moved hW.alike).kept hq⟩
theorem am_X.vm {E : am_E} {s t : State} (h : am_X E s) (h1 : t.vm = s.vm) (h2 : t.heap = s.heap) : am_X E t := by
  have e : ∀ {P : State → Heap → Prop}, P s s.heap → (∀ u U : State, u.vm = U.vm → ∀ H, P u H → P U H) → P t t.heap := fun hp hm => h2 ▸ hm s t h1.symm s.heap hp
  obtain ⟨g1, g2, g3, g4, g5, g6, g7⟩ := h
  have hal : s.vm.Alike t.vm := by rw [h1]; exact Vm.Alike.refl _
  refine ⟨fun w hw => ?_, fun k hk => vk_R.same h1 (g2 k hk), fun k hk => ?_, ?_, ?_, g6.moved hal, g7.moved hal⟩
  · rcases am_nest_kind w hw with ⟨a, i, b, n, d, g, rfl⟩ | ⟨a, i, x, g, rfl⟩
    · exact va_Nw.same rfl h1.symm (g1 _ hw)
    · exact va_Nw.same rfl h1.symm (g1 _ hw)
  · obtain ⟨q1, q2, q3, q4⟩ := g3 k hk
    rw [h2]
    exact ⟨q1.moved hal, q2.moved hal, q3.moved hal, q4.moved hal⟩
  · rw [h2]; exact g4.moved hal
  · rw [h2]; exact g5.imp (fun h => h.moved hal) (fun h => h.moved hal)
/-- the world of n objects with memory m -/
def am_Wd (E : am_E) (m : am_M) (n : Nat) (U : State) : Prop := U.heap.size = E.1 + n ∧ va_P E.2.2.2.1 vwCl (am_ws E m n) U.heap ∧ va_K E.2.2.2.1 vwCl (am_tys E) U ∧ am_X E U
abbrev am_K : Type := Option am_V → am_M → Nat → Prop
def am_Qc (E : am_E) (post : am_K) : Array Value → State → Outcome → State → Prop := fun _ st o t => ∃ (r : Option am_V) (m : am_M) (n : Nat), o = .returned (r.map (am_rv E)) ∧ post r m n ∧ (∀ v, r = some v → am_R v) ∧ am_Rng m n ∧ am_Wd E m n t ∧ st.heap.size ≤ t.heap.size ∧ ∀ q : Nat, q < st.heap.size → ¬ am_A E q → t.heap[q]? = st.heap[q]?
def am_G (F : am_F) (cc : ByteArray) (own : String) : Prop := match F with
  | (p, _, _, R, s, m, args, _, _, c, _, E, n0, cnt, d) => p.tables.exec = Jvm.exec ∧ c.code = cc ∧ s.vm.findClass own = some m.cls ∧ (∀ w ∈ am_TB, w.before args s = true) ∧ va_K E.2.2.2.1 vwCl (am_tys E) s ∧ am_X E s ∧ s.heap.size = E.1 + n0 ∧ cnt ≤ R.cells ∧ am_SL (n0 + cnt) - am_SL n0 ≤ R.slots ∧ d + 1 ≤ R.frames ∧ 60 * (d + 1) ≤ R.locals
/-- the frame's end is a return that meets post -/
def am_P (F : am_F) (post : am_K) (rt : Option FieldType) : Prop := match F with
  | (_, _, _, _, s, _, args, below, meth, _, Q, E, n0, cnt, _) => Q = MQ below (am_Qc E post) args s cnt (am_SL (n0 + cnt) - am_SL n0) (am_A E) ∧ meth.sig.returnType = rt ∧ meth.locks = false
def am_lim (F : am_F) (n : Nat) : Prop := match F with
  | (_, _, _, _, _, _, _, _, _, _, _, _, n0, cnt, _) => n ≤ n0 + cnt
def am_isInit (F : am_F) : Prop := match F with
  | (_, _, _, _, _, _, _, _, meth, _, _, _, _, _, _) => meth.name = "<init>"
section AMZ
variable {F : am_F} {cc : ByteArray} {own : String} {pc nx : Nat} {st loc : List am_V} {m : am_M} {n : Nat}
theorem am_hd {P : am_V → Prop} {a : am_V} {l : List am_V} (h : ∀ v ∈ a :: l, P v) : P a := h a List.mem_cons_self
theorem am_tl {P : am_V → Prop} {a : am_V} {l : List am_V} (h : ∀ v ∈ a :: l, P v) : ∀ v ∈ l, P v := fun v hv => h v (List.mem_cons_of_mem _ hv)
theorem am_mk {P : am_V → Prop} {a : am_V} {l : List am_V} (ha : P a) (h : ∀ v ∈ l, P v) : ∀ v ∈ a :: l, P v := fun v hv => (List.mem_cons.mp hv).elim (fun e => e ▸ ha) (h v)
theorem am_mset {P : am_V → Prop} {a : am_V} {l : List am_V} {k : Nat} (ha : P a) (h : ∀ v ∈ l, P v) : ∀ v ∈ l.set k a, P v := fun v hv => (List.mem_or_eq_of_mem_set hv).elim (h v) (fun e => e ▸ ha)
theorem z_pc {F : am_F} {pc nx : Nat} {st loc : List am_V} {m : am_M} {n : Nat} (h : pc = nx) (k : am_Z F nx st loc m n) : am_Z F pc st loc m n := h ▸ k

theorem z_iconst (G : am_G F cc own) {z : Int} (hz : R32 z) (hd : decode cc pc = .ok (.iconst z, 1)) (hn : pc + 1 = nx) (k : am_Z F nx ((0, z) :: st) loc m n) : am_Z F pc st loc m n := by
  subst hn
  obtain ⟨p, l, e, R, s, mm, args, below, meth, c, Q, E, n0, cnt, d⟩ := F
  obtain ⟨hx, hb, hown, hts, hK, hX, hsz, hc1, hc2, hc3, hc4⟩ := G
  intro h1 h2 h3 h4 h0 H ls locs h5 h6 h8
  exact lv_iconst hx hb hd rfl (k (am_mk (am_R0 hz) h1) h2 h3 h4 h0 H ls locs h5 h6 h8)
theorem z_bipush (G : am_G F cc own) {a z : Int} (hz : R32 z) (he : (Int8.ofInt a).toInt32 = Int32.ofInt z) (hd : decode cc pc = .ok (.bipush a, 2)) (hn : pc + 2 = nx) (k : am_Z F nx ((0, z) :: st) loc m n) : am_Z F pc st loc m n := by
  subst hn
  obtain ⟨p, l, e, R, s, mm, args, below, meth, c, Q, E, n0, cnt, d⟩ := F
  obtain ⟨hx, hb, hown, hts, hK, hX, hsz, hc1, hc2, hc3, hc4⟩ := G
  intro h1 h2 h3 h4 h0 H ls locs h5 h6 h8
  exact lv_bipush hx hb hd he (k (am_mk (am_R0 hz) h1) h2 h3 h4 h0 H ls locs h5 h6 h8)
theorem z_sipush (G : am_G F cc own) {a z : Int} (hz : R32 z) (he : (Int16.ofInt a).toInt32 = Int32.ofInt z) (hd : decode cc pc = .ok (.sipush a, 3)) (hn : pc + 3 = nx) (k : am_Z F nx ((0, z) :: st) loc m n) : am_Z F pc st loc m n := by
  subst hn
  obtain ⟨p, l, e, R, s, mm, args, below, meth, c, Q, E, n0, cnt, d⟩ := F
  obtain ⟨hx, hb, hown, hts, hK, hX, hsz, hc1, hc2, hc3, hc4⟩ := G
  intro h1 h2 h3 h4 h0 H ls locs h5 h6 h8
  exact lv_sipush hx hb hd he (k (am_mk (am_R0 hz) h1) h2 h3 h4 h0 H ls locs h5 h6 h8)
theorem z_ldc (G : am_G F cc own) {z : Int} {idx : Nat} {v : Int32} (hz : R32 z) (he : v = Int32.ofInt z) (hw : Cond.constant own idx v ∈ am_TB) (hd : decode cc pc = .ok (.ldc idx, 2)) (hn : pc + 2 = nx) (k : am_Z F nx ((0, z) :: st) loc m n) : am_Z F pc st loc m n := by
  subst hn
  obtain ⟨p, l, e, R, s, mm, args, below, meth, c, Q, E, n0, cnt, d⟩ := F
  obtain ⟨hx, hb, hown, hts, hK, hX, hsz, hc1, hc2, hc3, hc4⟩ := G
  intro h1 h2 h3 h4 h0 H ls locs h5 h6 h8
  exact lv_ldc hx hb hown (hts _ (he ▸ hw)) hd (k (am_mk (am_R0 hz) h1) h2 h3 h4 h0 H ls locs h5 h6 h8)
theorem z_ldcw (G : am_G F cc own) {z : Int} {idx : Nat} {v : Int32} (hz : R32 z) (he : v = Int32.ofInt z) (hw : Cond.constant own idx v ∈ am_TB) (hd : decode cc pc = .ok (.ldc_w idx, 3)) (hn : pc + 3 = nx) (k : am_Z F nx ((0, z) :: st) loc m n) : am_Z F pc st loc m n := by
  subst hn
  obtain ⟨p, l, e, R, s, mm, args, below, meth, c, Q, E, n0, cnt, d⟩ := F
  obtain ⟨hx, hb, hown, hts, hK, hX, hsz, hc1, hc2, hc3, hc4⟩ := G
  intro h1 h2 h3 h4 h0 H ls locs h5 h6 h8
  exact lv_ldcw hx hb hown (hts _ (he ▸ hw)) hd (k (am_mk (am_R0 hz) h1) h2 h3 h4 h0 H ls locs h5 h6 h8)
theorem z_ldc2 (G : am_G F cc own) {z : Int} {idx : Nat} {v : Int64} (hz : R64 z) (he : v = Int64.ofInt z) (hw : Cond.constantLong own idx v ∈ am_TB) (hd : decode cc pc = .ok (.ldc2_w idx, 3)) (hn : pc + 3 = nx) (k : am_Z F nx ((1, z) :: st) loc m n) : am_Z F pc st loc m n := by
  subst hn
  obtain ⟨p, l, e, R, s, mm, args, below, meth, c, Q, E, n0, cnt, d⟩ := F
  obtain ⟨hx, hb, hown, hts, hK, hX, hsz, hc1, hc2, hc3, hc4⟩ := G
  intro h1 h2 h3 h4 h0 H ls locs h5 h6 h8
  exact lv_ldc2 hx hb hown (hts _ (he ▸ hw)) hd (k (am_mk (am_R1 hz) h1) h2 h3 h4 h0 H ls locs h5 h6 h8)
theorem z_lconst (G : am_G F cc own) {z : Int} {a : Fin 2} (hz : R64 z) (he : Int64.ofNat (a : Nat) = Int64.ofInt z) (hd : decode cc pc = .ok (.lconst a, 1)) (hn : pc + 1 = nx) (k : am_Z F nx ((1, z) :: st) loc m n) : am_Z F pc st loc m n := by
  subst hn
  obtain ⟨p, l, e, R, s, mm, args, below, meth, c, Q, E, n0, cnt, d⟩ := F
  obtain ⟨hx, hb, hown, hts, hK, hX, hsz, hc1, hc2, hc3, hc4⟩ := G
  intro h1 h2 h3 h4 h0 H ls locs h5 h6 h8
  exact lv_lconst hx hb hd he (k (am_mk (am_R1 hz) h1) h2 h3 h4 h0 H ls locs h5 h6 h8)
theorem z_null (G : am_G F cc own)  (hd : decode cc pc = .ok (.aconst_null, 1)) (hn : pc + 1 = nx) (k : am_Z F nx ((2, -1) :: st) loc m n) : am_Z F pc st loc m n := by
  subst hn
  obtain ⟨p, l, e, R, s, mm, args, below, meth, c, Q, E, n0, cnt, d⟩ := F
  obtain ⟨hx, hb, hown, hts, hK, hX, hsz, hc1, hc2, hc3, hc4⟩ := G
  intro h1 h2 h3 h4 h0 H ls locs h5 h6 h8
  exact lv_null hx hb hd (k (am_mk (am_R2 _) h1) h2 h3 h4 h0 H ls locs h5 h6 h8)
theorem z_ldcS (G : am_G F cc RX5) {idx i : Nat} (hi : i < 38) (he : am_sx.getD i 0 = idx) (hd : decode cc pc = .ok (.ldc idx, 2)) (hn : pc + 2 = nx) (k : am_Z F nx ((3, (i : Int)) :: st) loc m n) : am_Z F pc st loc m n := by
  subst hn
  subst he
  obtain ⟨p, l, e, R, s, mm, args, below, meth, c, Q, E, n0, cnt, d⟩ := F
  obtain ⟨hx, hb, hown, hts, hK, hX, hsz, hc1, hc2, hc3, hc4⟩ := G
  intro h1 h2 h3 h4 h0 H ls locs h5 h6 h8
  obtain ⟨-, hX2, -⟩ := hX
  exact va_ldcS hx hb hown (hX2 i hi) hd (k (am_mk (am_R3 _) h1) h2 h3 h4 h0 H ls locs h5 h6 h8)
theorem z_iload_n (G : am_G F cc own) {a : Fin 4} {x : Int} (hl : loc[(a : Nat)]? = some (0, x)) (hd : decode cc pc = .ok (.iload_n a, 1)) (hn : pc + 1 = nx) (k : am_Z F nx ((0, x) :: st) loc m n) : am_Z F pc st loc m n := by
  subst hn
  obtain ⟨p, l, e, R, s, mm, args, below, meth, c, Q, E, n0, cnt, d⟩ := F
  obtain ⟨hx, hb, hown, hts, hK, hX, hsz, hc1, hc2, hc3, hc4⟩ := G
  intro h1 h2 h3 h4 h0 H ls locs h5 h6 h8
  exact lv_iload_n hx hb hd rfl (am_lm_at h5 hl (fun h => nomatch h)) (k (am_mk (h2 _ (List.mem_of_getElem? hl)) h1) h2 h3 h4 h0 H ls locs h5 h6 h8)
theorem z_iload (G : am_G F cc own) {a : Nat} {x : Int} (hl : loc[a]? = some (0, x)) (hd : decode cc pc = .ok (.iload a, 2)) (hn : pc + 2 = nx) (k : am_Z F nx ((0, x) :: st) loc m n) : am_Z F pc st loc m n := by
  subst hn
  obtain ⟨p, l, e, R, s, mm, args, below, meth, c, Q, E, n0, cnt, d⟩ := F
  obtain ⟨hx, hb, hown, hts, hK, hX, hsz, hc1, hc2, hc3, hc4⟩ := G
  intro h1 h2 h3 h4 h0 H ls locs h5 h6 h8
  exact lv_iload hx hb hd (am_lm_at h5 hl (fun h => nomatch h)) (k (am_mk (h2 _ (List.mem_of_getElem? hl)) h1) h2 h3 h4 h0 H ls locs h5 h6 h8)
theorem z_lload_n (G : am_G F cc own) {a : Fin 4} {x : Int} (hl : loc[(a : Nat)]? = some (1, x)) (hd : decode cc pc = .ok (.lload_n a, 1)) (hn : pc + 1 = nx) (k : am_Z F nx ((1, x) :: st) loc m n) : am_Z F pc st loc m n := by
  subst hn
  obtain ⟨p, l, e, R, s, mm, args, below, meth, c, Q, E, n0, cnt, d⟩ := F
  obtain ⟨hx, hb, hown, hts, hK, hX, hsz, hc1, hc2, hc3, hc4⟩ := G
  intro h1 h2 h3 h4 h0 H ls locs h5 h6 h8
  exact lv_lload_n hx hb hd rfl (am_lm_at h5 hl (fun h => nomatch h)) (k (am_mk (h2 _ (List.mem_of_getElem? hl)) h1) h2 h3 h4 h0 H ls locs h5 h6 h8)
theorem z_lload (G : am_G F cc own) {a : Nat} {x : Int} (hl : loc[a]? = some (1, x)) (hd : decode cc pc = .ok (.lload a, 2)) (hn : pc + 2 = nx) (k : am_Z F nx ((1, x) :: st) loc m n) : am_Z F pc st loc m n := by
  subst hn
  obtain ⟨p, l, e, R, s, mm, args, below, meth, c, Q, E, n0, cnt, d⟩ := F
  obtain ⟨hx, hb, hown, hts, hK, hX, hsz, hc1, hc2, hc3, hc4⟩ := G
  intro h1 h2 h3 h4 h0 H ls locs h5 h6 h8
  exact lv_lload hx hb hd (am_lm_at h5 hl (fun h => nomatch h)) (k (am_mk (h2 _ (List.mem_of_getElem? hl)) h1) h2 h3 h4 h0 H ls locs h5 h6 h8)

theorem am_ref {E : am_E} {v : am_V} (h : v.1 = 2 ∨ v.1 = 3) : am_rv E v = .null ∨ ∃ a, am_rv E v = .ref a := by
  obtain ⟨t, z⟩ := v
  rcases h with h | h
  · cases h
    show va_rf (am_rf E.1 z) = .null ∨ ∃ a, va_rf (am_rf E.1 z) = .ref a
    unfold am_rf
    split
    · exact Or.inl rfl
    · exact Or.inr ⟨_, rfl⟩
  · cases h
    exact Or.inr ⟨_, rfl⟩
theorem am_ref1 {E : am_E} {v : am_V} (h : v.1 = 2 ∨ v.1 = 3) : (am_rv E v).category = 1 := by
  rw [am_cat]
  rcases h with h | h <;> rw [h] <;> rfl
theorem am_ref9 {v : am_V} (h : v.1 = 2 ∨ v.1 = 3) : v.1 ≠ 9 := by omega
theorem z_aload_n (G : am_G F cc own) {a : Fin 4} {v : am_V} (hl : loc[(a : Nat)]? = some v) (hv : v.1 = 2 ∨ v.1 = 3) (hd : decode cc pc = .ok (.aload_n a, 1)) (hn : pc + 1 = nx) (k : am_Z F nx (v :: st) loc m n) : am_Z F pc st loc m n := by
  subst hn
  obtain ⟨p, l, e, R, s, mm, args, below, meth, c, Q, E, n0, cnt, d⟩ := F
  obtain ⟨hx, hb, hown, hts, hK, hX, hsz, hc1, hc2, hc3, hc4⟩ := G
  intro h1 h2 h3 h4 h0 H ls locs h5 h6 h8
  have hk := k (am_mk (h2 _ (List.mem_of_getElem? hl)) h1) h2 h3 h4 h0 H ls locs h5 h6 h8
  have hs := am_lm_at h5 hl (am_ref9 hv)
  rw [List.map_cons] at hk
  rcases am_ref (E := E) hv with hr | ⟨a0, hr⟩
  · rw [hr] at hs hk
    exact lv_aload_nN hx hb hd rfl hs hk
  · rw [hr] at hs hk
    exact lv_aload_n hx hb hd rfl hs hk
theorem z_aload (G : am_G F cc own) {a : Nat} {v : am_V} (hl : loc[(a : Nat)]? = some v) (hv : v.1 = 2 ∨ v.1 = 3) (hd : decode cc pc = .ok (.aload a, 2)) (hn : pc + 2 = nx) (k : am_Z F nx (v :: st) loc m n) : am_Z F pc st loc m n := by
  subst hn
  obtain ⟨p, l, e, R, s, mm, args, below, meth, c, Q, E, n0, cnt, d⟩ := F
  obtain ⟨hx, hb, hown, hts, hK, hX, hsz, hc1, hc2, hc3, hc4⟩ := G
  intro h1 h2 h3 h4 h0 H ls locs h5 h6 h8
  have hk := k (am_mk (h2 _ (List.mem_of_getElem? hl)) h1) h2 h3 h4 h0 H ls locs h5 h6 h8
  have hs := am_lm_at h5 hl (am_ref9 hv)
  rw [List.map_cons] at hk
  rcases am_ref (E := E) hv with hr | ⟨a0, hr⟩
  · rw [hr] at hs hk
    exact lv_aloadN hx hb hd hs hk
  · rw [hr] at hs hk
    exact lv_aload hx hb hd hs hk
theorem z_istore_n (G : am_G F cc own) {a : Fin 4} {x : Int} (hl : (a : Nat) < loc.length) (hp : am_pl loc a) (hd : decode cc pc = .ok (.istore_n a, 1)) (hn : pc + 1 = nx) (k : am_Z F nx st (loc.set a (0, x)) m n) : am_Z F pc ((0, x) :: st) loc m n := by
  subst hn
  obtain ⟨p, l, e, R, s, mm, args, below, meth, c, Q, E, n0, cnt, d⟩ := F
  obtain ⟨hx, hb, hown, hts, hK, hX, hsz, hc1, hc2, hc3, hc4⟩ := G
  intro h1 h2 h3 h4 h0 H ls locs h5 h6 h8
  refine lv_istore_n hx hb hd rfl h5 (h4 ▸ hl) rfl (fun ls' h5' => ?_)
  exact k (am_tl h1) (am_mset (am_hd h1) h2) h3 (by rw [List.length_set]; exact h4) h0 H ls' locs (am_lm_set1 (v := (0, x)) hl hp h5') h6 h8
theorem z_istore (G : am_G F cc own) {a : Nat} {x : Int} (hl : (a : Nat) < loc.length) (hp : am_pl loc a) (hd : decode cc pc = .ok (.istore a, 2)) (hn : pc + 2 = nx) (k : am_Z F nx st (loc.set a (0, x)) m n) : am_Z F pc ((0, x) :: st) loc m n := by
  subst hn
  obtain ⟨p, l, e, R, s, mm, args, below, meth, c, Q, E, n0, cnt, d⟩ := F
  obtain ⟨hx, hb, hown, hts, hK, hX, hsz, hc1, hc2, hc3, hc4⟩ := G
  intro h1 h2 h3 h4 h0 H ls locs h5 h6 h8
  refine lv_istore hx hb hd h5 (h4 ▸ hl) rfl (fun ls' h5' => ?_)
  exact k (am_tl h1) (am_mset (am_hd h1) h2) h3 (by rw [List.length_set]; exact h4) h0 H ls' locs (am_lm_set1 (v := (0, x)) hl hp h5') h6 h8
theorem z_lstore_n (G : am_G F cc own) {a : Fin 4} {x : Int} (hl : (a : Nat) + 1 < loc.length) (hp : am_pl loc a) (hq : ∀ w, loc[(a : Nat) + 1]? = some w → w.1 = 9) (hd : decode cc pc = .ok (.lstore_n a, 1)) (hn : pc + 1 = nx) (k : am_Z F nx st (loc.set a (1, x)) m n) : am_Z F pc ((1, x) :: st) loc m n := by
  subst hn
  obtain ⟨p, l, e, R, s, mm, args, below, meth, c, Q, E, n0, cnt, d⟩ := F
  obtain ⟨hx, hb, hown, hts, hK, hX, hsz, hc1, hc2, hc3, hc4⟩ := G
  intro h1 h2 h3 h4 h0 H ls locs h5 h6 h8
  refine lv_lstore_n hx hb hd rfl h5 (h4 ▸ hl) rfl (fun ls' h5' => ?_)
  exact k (am_tl h1) (am_mset (am_hd h1) h2) h3 (by rw [List.length_set]; exact h4) h0 H ls' locs (am_lm_set2 (v := (1, x)) (by omega) hp hq h5') h6 h8
theorem z_lstore (G : am_G F cc own) {a : Nat} {x : Int} (hl : (a : Nat) + 1 < loc.length) (hp : am_pl loc a) (hq : ∀ w, loc[(a : Nat) + 1]? = some w → w.1 = 9) (hd : decode cc pc = .ok (.lstore a, 2)) (hn : pc + 2 = nx) (k : am_Z F nx st (loc.set a (1, x)) m n) : am_Z F pc ((1, x) :: st) loc m n := by
  subst hn
  obtain ⟨p, l, e, R, s, mm, args, below, meth, c, Q, E, n0, cnt, d⟩ := F
  obtain ⟨hx, hb, hown, hts, hK, hX, hsz, hc1, hc2, hc3, hc4⟩ := G
  intro h1 h2 h3 h4 h0 H ls locs h5 h6 h8
  refine lv_lstore hx hb hd h5 (h4 ▸ hl) rfl (fun ls' h5' => ?_)
  exact k (am_tl h1) (am_mset (am_hd h1) h2) h3 (by rw [List.length_set]; exact h4) h0 H ls' locs (am_lm_set2 (v := (1, x)) (by omega) hp hq h5') h6 h8
theorem z_astore_n (G : am_G F cc own) {a : Fin 4} {v : am_V} (hv : v.1 = 2 ∨ v.1 = 3) (hl : (a : Nat) < loc.length) (hp : am_pl loc a) (hd : decode cc pc = .ok (.astore_n a, 1)) (hn : pc + 1 = nx) (k : am_Z F nx st (loc.set a v) m n) : am_Z F pc (v :: st) loc m n := by
  subst hn
  obtain ⟨p, l, e, R, s, mm, args, below, meth, c, Q, E, n0, cnt, d⟩ := F
  obtain ⟨hx, hb, hown, hts, hK, hX, hsz, hc1, hc2, hc3, hc4⟩ := G
  intro h1 h2 h3 h4 h0 H ls locs h5 h6 h8
  rw [List.map_cons]
  have hk := fun ls' h5' => k (am_tl h1) (am_mset (am_hd h1) h2) h3 (by rw [List.length_set]; exact h4) h0 H ls' locs (am_lm_set1 (v := v) hl hp h5') h6 h8
  rcases am_ref (E := E) hv with hr | ⟨a0, hr⟩
  · rw [hr] at hk ⊢
    exact lv_astore_nN hx hb hd rfl h5 (h4 ▸ hl) rfl hk
  · rw [hr] at hk ⊢
    exact lv_astore_n hx hb hd rfl h5 (h4 ▸ hl) rfl hk
theorem z_astore (G : am_G F cc own) {a : Nat} {v : am_V} (hv : v.1 = 2 ∨ v.1 = 3) (hl : (a : Nat) < loc.length) (hp : am_pl loc a) (hd : decode cc pc = .ok (.astore a, 2)) (hn : pc + 2 = nx) (k : am_Z F nx st (loc.set a v) m n) : am_Z F pc (v :: st) loc m n := by
  subst hn
  obtain ⟨p, l, e, R, s, mm, args, below, meth, c, Q, E, n0, cnt, d⟩ := F
  obtain ⟨hx, hb, hown, hts, hK, hX, hsz, hc1, hc2, hc3, hc4⟩ := G
  intro h1 h2 h3 h4 h0 H ls locs h5 h6 h8
  rw [List.map_cons]
  have hk := fun ls' h5' => k (am_tl h1) (am_mset (am_hd h1) h2) h3 (by rw [List.length_set]; exact h4) h0 H ls' locs (am_lm_set1 (v := v) hl hp h5') h6 h8
  rcases am_ref (E := E) hv with hr | ⟨a0, hr⟩
  · rw [hr] at hk ⊢
    exact lv_astoreN hx hb hd h5 (h4 ▸ hl) rfl hk
  · rw [hr] at hk ⊢
    exact lv_astore hx hb hd h5 (h4 ▸ hl) rfl hk
theorem z_iinc (G : am_G F cc own) {a : Nat} {x b : Int} (hl : loc[a]? = some (0, x)) (hp : am_pl loc a) (hd : decode cc pc = .ok (.iinc a b, 3)) (hn : pc + 3 = nx) (k : am_Z F nx st (loc.set a (0, w32 (x + b))) m n) : am_Z F pc st loc m n := by
  subst hn
  obtain ⟨p, l, e, R, s, mm, args, below, meth, c, Q, E, n0, cnt, d⟩ := F
  obtain ⟨hx, hb, hown, hts, hK, hX, hsz, hc1, hc2, hc3, hc4⟩ := G
  intro h1 h2 h3 h4 h0 H ls locs h5 h6 h8
  have hlt : a < loc.length := (List.getElem?_eq_some_iff.mp hl).1
  have hm : (a, am_rv E (0, x)) ∈ am_lm E 0 loc := (am_lm_mem loc 0 _).mpr ⟨a, _, hl, (fun h => nomatch h), by rw [Nat.zero_add]⟩
  obtain ⟨i, hi⟩ := List.getElem?_of_mem hm
  refine lv_iinc (k := i) (v := Int32.ofInt (w32 (x + b))) hx hb hd h5 hi (by rw [i32_w, Int32.ofInt_add]) (h4 ▸ hlt) rfl (fun ls' h5' => ?_)
  exact k h1 (am_mset (am_R0 (w32_R _)) h2) h3 (by rw [List.length_set]; exact h4) h0 H ls' locs (am_lm_set1 (v := (0, w32 (x + b))) hlt hp h5') h6 h8
theorem z_dup (G : am_G F cc own) {v : am_V} (hv : v.1 ≠ 1) (hd : decode cc pc = .ok (.dup, 1)) (hn : pc + 1 = nx) (k : am_Z F nx (v :: v :: st) loc m n) : am_Z F pc (v :: st) loc m n := by
  subst hn
  obtain ⟨p, l, e, R, s, mm, args, below, meth, c, Q, E, n0, cnt, d⟩ := F
  obtain ⟨hx, hb, hown, hts, hK, hX, hsz, hc1, hc2, hc3, hc4⟩ := G
  intro h1 h2 h3 h4 h0 H ls locs h5 h6 h8
  exact lv_dup hx hb hd (by rw [am_cat, if_neg hv]) (k (am_mk (am_hd h1) h1) h2 h3 h4 h0 H ls locs h5 h6 h8)
theorem z_dup2 (G : am_G F cc own) {v w : am_V} (hv : v.1 ≠ 1) (hw : w.1 ≠ 1) (hd : decode cc pc = .ok (.dup2, 1)) (hn : pc + 1 = nx) (k : am_Z F nx (v :: w :: v :: w :: st) loc m n) : am_Z F pc (v :: w :: st) loc m n := by
  subst hn
  obtain ⟨p, l, e, R, s, mm, args, below, meth, c, Q, E, n0, cnt, d⟩ := F
  obtain ⟨hx, hb, hown, hts, hK, hX, hsz, hc1, hc2, hc3, hc4⟩ := G
  intro h1 h2 h3 h4 h0 H ls locs h5 h6 h8
  exact lv_dup2_11 hx hb hd (by rw [am_cat, if_neg hv]) (by rw [am_cat, if_neg hw]) (k (am_mk (am_hd h1) (am_mk (am_hd (am_tl h1)) h1)) h2 h3 h4 h0 H ls locs h5 h6 h8)
theorem z_pop (G : am_G F cc own) {v : am_V} (hv : v.1 ≠ 1) (hd : decode cc pc = .ok (.pop, 1)) (hn : pc + 1 = nx) (k : am_Z F nx st loc m n) : am_Z F pc (v :: st) loc m n := by
  subst hn
  obtain ⟨p, l, e, R, s, mm, args, below, meth, c, Q, E, n0, cnt, d⟩ := F
  obtain ⟨hx, hb, hown, hts, hK, hX, hsz, hc1, hc2, hc3, hc4⟩ := G
  intro h1 h2 h3 h4 h0 H ls locs h5 h6 h8
  exact lv_pop hx hb hd (by rw [am_cat, if_neg hv]) (k (am_tl h1) h2 h3 h4 h0 H ls locs h5 h6 h8)
theorem z_iadd (G : am_G F cc own) {a b : Int} (hd : decode cc pc = .ok (.iadd, 1)) (hn : pc + 1 = nx) (k : am_Z F nx ((0, w32 (a + b)) :: st) loc m n) : am_Z F pc ((0, b) :: (0, a) :: st) loc m n := by
  subst hn
  obtain ⟨p, l, e, R, s, mm, args, below, meth, c, Q, E, n0, cnt, d⟩ := F
  obtain ⟨hx, hb, hown, hts, hK, hX, hsz, hc1, hc2, hc3, hc4⟩ := G
  intro h1 h2 h3 h4 h0 H ls locs h5 h6 h8
  exact lv_iadd hx hb hd (i32_add _ _ ▸ k (am_mk (am_R0 (w32_R _)) (am_tl (am_tl h1))) h2 h3 h4 h0 H ls locs h5 h6 h8)
theorem z_isub (G : am_G F cc own) {a b : Int} (hd : decode cc pc = .ok (.isub, 1)) (hn : pc + 1 = nx) (k : am_Z F nx ((0, w32 (a - b)) :: st) loc m n) : am_Z F pc ((0, b) :: (0, a) :: st) loc m n := by
  subst hn
  obtain ⟨p, l, e, R, s, mm, args, below, meth, c, Q, E, n0, cnt, d⟩ := F
  obtain ⟨hx, hb, hown, hts, hK, hX, hsz, hc1, hc2, hc3, hc4⟩ := G
  intro h1 h2 h3 h4 h0 H ls locs h5 h6 h8
  exact lv_isub hx hb hd (i32_sub _ _ ▸ k (am_mk (am_R0 (w32_R _)) (am_tl (am_tl h1))) h2 h3 h4 h0 H ls locs h5 h6 h8)
theorem z_imul (G : am_G F cc own) {a b : Int} (hd : decode cc pc = .ok (.imul, 1)) (hn : pc + 1 = nx) (k : am_Z F nx ((0, w32 (a * b)) :: st) loc m n) : am_Z F pc ((0, b) :: (0, a) :: st) loc m n := by
  subst hn
  obtain ⟨p, l, e, R, s, mm, args, below, meth, c, Q, E, n0, cnt, d⟩ := F
  obtain ⟨hx, hb, hown, hts, hK, hX, hsz, hc1, hc2, hc3, hc4⟩ := G
  intro h1 h2 h3 h4 h0 H ls locs h5 h6 h8
  exact lv_imul hx hb hd (i32_mul _ _ ▸ k (am_mk (am_R0 (w32_R _)) (am_tl (am_tl h1))) h2 h3 h4 h0 H ls locs h5 h6 h8)
theorem z_ishl (G : am_G F cc own) {a b : Int} (hd : decode cc pc = .ok (.ishl, 1)) (hn : pc + 1 = nx) (k : am_Z F nx ((0, am_shl a b) :: st) loc m n) : am_Z F pc ((0, b) :: (0, a) :: st) loc m n := by
  subst hn
  obtain ⟨p, l, e, R, s, mm, args, below, meth, c, Q, E, n0, cnt, d⟩ := F
  obtain ⟨hx, hb, hown, hts, hK, hX, hsz, hc1, hc2, hc3, hc4⟩ := G
  intro h1 h2 h3 h4 h0 H ls locs h5 h6 h8
  have hk := k (am_mk (am_R0 (i32_R _)) (am_tl (am_tl h1))) h2 h3 h4 h0 H ls locs h5 h6 h8
  refine lv_ishl hx hb hd ?_
  simp only [List.map_cons, am_rv, am_shl, i32_of_to] at hk ⊢
  exact hk
theorem z_ishr (G : am_G F cc own) {a b : Int} (hd : decode cc pc = .ok (.ishr, 1)) (hn : pc + 1 = nx) (k : am_Z F nx ((0, am_shr a b) :: st) loc m n) : am_Z F pc ((0, b) :: (0, a) :: st) loc m n := by
  subst hn
  obtain ⟨p, l, e, R, s, mm, args, below, meth, c, Q, E, n0, cnt, d⟩ := F
  obtain ⟨hx, hb, hown, hts, hK, hX, hsz, hc1, hc2, hc3, hc4⟩ := G
  intro h1 h2 h3 h4 h0 H ls locs h5 h6 h8
  have hk := k (am_mk (am_R0 (i32_R _)) (am_tl (am_tl h1))) h2 h3 h4 h0 H ls locs h5 h6 h8
  refine lv_ishr hx hb hd ?_
  simp only [List.map_cons, am_rv, am_shr, i32_of_to] at hk ⊢
  exact hk
theorem z_iand (G : am_G F cc own) {a b : Int} (hd : decode cc pc = .ok (.iand, 1)) (hn : pc + 1 = nx) (k : am_Z F nx ((0, am_and a b) :: st) loc m n) : am_Z F pc ((0, b) :: (0, a) :: st) loc m n := by
  subst hn
  obtain ⟨p, l, e, R, s, mm, args, below, meth, c, Q, E, n0, cnt, d⟩ := F
  obtain ⟨hx, hb, hown, hts, hK, hX, hsz, hc1, hc2, hc3, hc4⟩ := G
  intro h1 h2 h3 h4 h0 H ls locs h5 h6 h8
  have hk := k (am_mk (am_R0 (i32_R _)) (am_tl (am_tl h1))) h2 h3 h4 h0 H ls locs h5 h6 h8
  refine lv_iand hx hb hd ?_
  simp only [List.map_cons, am_rv, am_and, i32_of_to] at hk ⊢
  exact hk
theorem z_ior (G : am_G F cc own) {a b : Int} (hd : decode cc pc = .ok (.ior, 1)) (hn : pc + 1 = nx) (k : am_Z F nx ((0, am_or a b) :: st) loc m n) : am_Z F pc ((0, b) :: (0, a) :: st) loc m n := by
  subst hn
  obtain ⟨p, l, e, R, s, mm, args, below, meth, c, Q, E, n0, cnt, d⟩ := F
  obtain ⟨hx, hb, hown, hts, hK, hX, hsz, hc1, hc2, hc3, hc4⟩ := G
  intro h1 h2 h3 h4 h0 H ls locs h5 h6 h8
  have hk := k (am_mk (am_R0 (i32_R _)) (am_tl (am_tl h1))) h2 h3 h4 h0 H ls locs h5 h6 h8
  refine lv_ior hx hb hd ?_
  simp only [List.map_cons, am_rv, am_or, i32_of_to] at hk ⊢
  exact hk
theorem z_ixor (G : am_G F cc own) {a b : Int} (hd : decode cc pc = .ok (.ixor, 1)) (hn : pc + 1 = nx) (k : am_Z F nx ((0, am_xor a b) :: st) loc m n) : am_Z F pc ((0, b) :: (0, a) :: st) loc m n := by
  subst hn
  obtain ⟨p, l, e, R, s, mm, args, below, meth, c, Q, E, n0, cnt, d⟩ := F
  obtain ⟨hx, hb, hown, hts, hK, hX, hsz, hc1, hc2, hc3, hc4⟩ := G
  intro h1 h2 h3 h4 h0 H ls locs h5 h6 h8
  have hk := k (am_mk (am_R0 (i32_R _)) (am_tl (am_tl h1))) h2 h3 h4 h0 H ls locs h5 h6 h8
  refine lv_ixor hx hb hd ?_
  simp only [List.map_cons, am_rv, am_xor, i32_of_to] at hk ⊢
  exact hk
theorem z_iushr (G : am_G F cc own) {a b : Int} (hd : decode cc pc = .ok (.iushr, 1)) (hn : pc + 1 = nx) (k : am_Z F nx ((0, am_ushr a b) :: st) loc m n) : am_Z F pc ((0, b) :: (0, a) :: st) loc m n := by
  subst hn
  obtain ⟨p, l, e, R, s, mm, args, below, meth, c, Q, E, n0, cnt, d⟩ := F
  obtain ⟨hx, hb, hown, hts, hK, hX, hsz, hc1, hc2, hc3, hc4⟩ := G
  intro h1 h2 h3 h4 h0 H ls locs h5 h6 h8
  have hk := k (am_mk (am_R0 (i32_R _)) (am_tl (am_tl h1))) h2 h3 h4 h0 H ls locs h5 h6 h8
  refine lv_iushr hx hb hd rfl ?_
  simp only [List.map_cons, am_rv, am_ushr, i32_of_to] at hk ⊢
  exact hk
theorem z_ineg (G : am_G F cc own) {a : Int} (hd : decode cc pc = .ok (.ineg, 1)) (hn : pc + 1 = nx) (k : am_Z F nx ((0, w32 (-a)) :: st) loc m n) : am_Z F pc ((0, a) :: st) loc m n := by
  subst hn
  obtain ⟨p, l, e, R, s, mm, args, below, meth, c, Q, E, n0, cnt, d⟩ := F
  obtain ⟨hx, hb, hown, hts, hK, hX, hsz, hc1, hc2, hc3, hc4⟩ := G
  intro h1 h2 h3 h4 h0 H ls locs h5 h6 h8
  exact lv_ineg hx hb hd (i32_neg _ ▸ k (am_mk (am_R0 (w32_R _)) (am_tl h1)) h2 h3 h4 h0 H ls locs h5 h6 h8)
theorem z_idiv (G : am_G F cc own) {a b : Int} (hb0 : b ≠ 0) (hd : decode cc pc = .ok (.idiv, 1)) (hn : pc + 1 = nx) (k : am_Z F nx ((0, w32 (a.tdiv b)) :: st) loc m n) : am_Z F pc ((0, b) :: (0, a) :: st) loc m n := by
  subst hn
  obtain ⟨p, l, e, R, s, mm, args, below, meth, c, Q, E, n0, cnt, d⟩ := F
  obtain ⟨hx, hb, hown, hts, hK, hX, hsz, hc1, hc2, hc3, hc4⟩ := G
  intro h1 h2 h3 h4 h0 H ls locs h5 h6 h8
  have ra := (am_hd (am_tl h1)).1 rfl
  have rb := (am_hd h1).1 rfl
  exact lv_idiv hx hb hd (fun h => hb0 ((i32_eq rb R32_0).mp h)) (i32_div ra rb ▸ k (am_mk (am_R0 (w32_R _)) (am_tl (am_tl h1))) h2 h3 h4 h0 H ls locs h5 h6 h8)
theorem z_irem (G : am_G F cc own) {a b : Int} (hb0 : b ≠ 0) (hd : decode cc pc = .ok (.irem, 1)) (hn : pc + 1 = nx) (k : am_Z F nx ((0, w32 (a.tmod b)) :: st) loc m n) : am_Z F pc ((0, b) :: (0, a) :: st) loc m n := by
  subst hn
  obtain ⟨p, l, e, R, s, mm, args, below, meth, c, Q, E, n0, cnt, d⟩ := F
  obtain ⟨hx, hb, hown, hts, hK, hX, hsz, hc1, hc2, hc3, hc4⟩ := G
  intro h1 h2 h3 h4 h0 H ls locs h5 h6 h8
  have ra := (am_hd (am_tl h1)).1 rfl
  have rb := (am_hd h1).1 rfl
  exact lv_irem hx hb hd (fun h => hb0 ((i32_eq rb R32_0).mp h)) (i32_rem ra rb ▸ k (am_mk (am_R0 (w32_R _)) (am_tl (am_tl h1))) h2 h3 h4 h0 H ls locs h5 h6 h8)
theorem z_ladd (G : am_G F cc own) {a b : Int} (hd : decode cc pc = .ok (.ladd, 1)) (hn : pc + 1 = nx) (k : am_Z F nx ((1, w64 (a + b)) :: st) loc m n) : am_Z F pc ((1, b) :: (1, a) :: st) loc m n := by
  subst hn
  obtain ⟨p, l, e, R, s, mm, args, below, meth, c, Q, E, n0, cnt, d⟩ := F
  obtain ⟨hx, hb, hown, hts, hK, hX, hsz, hc1, hc2, hc3, hc4⟩ := G
  intro h1 h2 h3 h4 h0 H ls locs h5 h6 h8
  exact lv_ladd hx hb hd (i64_add _ _ ▸ k (am_mk (am_R1 (w64_R _)) (am_tl (am_tl h1))) h2 h3 h4 h0 H ls locs h5 h6 h8)
theorem z_lsub (G : am_G F cc own) {a b : Int} (hd : decode cc pc = .ok (.lsub, 1)) (hn : pc + 1 = nx) (k : am_Z F nx ((1, w64 (a - b)) :: st) loc m n) : am_Z F pc ((1, b) :: (1, a) :: st) loc m n := by
  subst hn
  obtain ⟨p, l, e, R, s, mm, args, below, meth, c, Q, E, n0, cnt, d⟩ := F
  obtain ⟨hx, hb, hown, hts, hK, hX, hsz, hc1, hc2, hc3, hc4⟩ := G
  intro h1 h2 h3 h4 h0 H ls locs h5 h6 h8
  exact lv_lsub hx hb hd (i64_sub _ _ ▸ k (am_mk (am_R1 (w64_R _)) (am_tl (am_tl h1))) h2 h3 h4 h0 H ls locs h5 h6 h8)
theorem z_lmul (G : am_G F cc own) {a b : Int} (hd : decode cc pc = .ok (.lmul, 1)) (hn : pc + 1 = nx) (k : am_Z F nx ((1, w64 (a * b)) :: st) loc m n) : am_Z F pc ((1, b) :: (1, a) :: st) loc m n := by
  subst hn
  obtain ⟨p, l, e, R, s, mm, args, below, meth, c, Q, E, n0, cnt, d⟩ := F
  obtain ⟨hx, hb, hown, hts, hK, hX, hsz, hc1, hc2, hc3, hc4⟩ := G
  intro h1 h2 h3 h4 h0 H ls locs h5 h6 h8
  exact lv_lmul hx hb hd (i64_mul _ _ ▸ k (am_mk (am_R1 (w64_R _)) (am_tl (am_tl h1))) h2 h3 h4 h0 H ls locs h5 h6 h8)
theorem z_ldiv (G : am_G F cc own) {a b : Int} (hb0 : b ≠ 0) (hd : decode cc pc = .ok (.ldiv, 1)) (hn : pc + 1 = nx) (k : am_Z F nx ((1, w64 (a.tdiv b)) :: st) loc m n) : am_Z F pc ((1, b) :: (1, a) :: st) loc m n := by
  subst hn
  obtain ⟨p, l, e, R, s, mm, args, below, meth, c, Q, E, n0, cnt, d⟩ := F
  obtain ⟨hx, hb, hown, hts, hK, hX, hsz, hc1, hc2, hc3, hc4⟩ := G
  intro h1 h2 h3 h4 h0 H ls locs h5 h6 h8
  have ra := (am_hd (am_tl h1)).2 rfl
  have rb := (am_hd h1).2 rfl
  exact lv_ldiv hx hb hd (fun h => hb0 ((i64_eq rb R64_0).mp h)) (i64_div ra rb ▸ k (am_mk (am_R1 (w64_R _)) (am_tl (am_tl h1))) h2 h3 h4 h0 H ls locs h5 h6 h8)
theorem z_lrem (G : am_G F cc own) {a b : Int} (hb0 : b ≠ 0) (hd : decode cc pc = .ok (.lrem, 1)) (hn : pc + 1 = nx) (k : am_Z F nx ((1, w64 (a.tmod b)) :: st) loc m n) : am_Z F pc ((1, b) :: (1, a) :: st) loc m n := by
  subst hn
  obtain ⟨p, l, e, R, s, mm, args, below, meth, c, Q, E, n0, cnt, d⟩ := F
  obtain ⟨hx, hb, hown, hts, hK, hX, hsz, hc1, hc2, hc3, hc4⟩ := G
  intro h1 h2 h3 h4 h0 H ls locs h5 h6 h8
  have ra := (am_hd (am_tl h1)).2 rfl
  have rb := (am_hd h1).2 rfl
  exact lv_lrem hx hb hd (fun h => hb0 ((i64_eq rb R64_0).mp h)) (i64_rem ra rb ▸ k (am_mk (am_R1 (w64_R _)) (am_tl (am_tl h1))) h2 h3 h4 h0 H ls locs h5 h6 h8)

theorem am_lgcmp {a b : Int} (ha : R64 a) (hb : R64 b) : lg_cmp (Int64.ofInt a) (Int64.ofInt b) = Int32.ofInt (am_cmp a b) := by
  unfold lg_cmp am_cmp
  have h1 := i64_lt ha hb
  have h2 := i64_eq ha hb
  have h3 := i64_lt hb ha
  by_cases c1 : a < b
  · have c2 := h1.mpr c1
    have c3 : ¬ Int64.ofInt b < Int64.ofInt a := fun h => by have := h3.mp h; omega
    have c4 : ¬ Int64.ofInt a = Int64.ofInt b := fun h => by have := h2.mp h; omega
    simp [c1, c3, c4]
  · by_cases c3 : a = b
    · subst c3; simp
    · have c4 : ¬ Int64.ofInt a < Int64.ofInt b := fun h => c1 (h1.mp h)
      have c5 : ¬ Int64.ofInt a = Int64.ofInt b := fun h => c3 (h2.mp h)
      have c6 : Int64.ofInt b < Int64.ofInt a := h3.mpr (by omega)
      simp [c1, c3, c6]
theorem am_cmp_R (a b : Int) : R32 (am_cmp a b) := by unfold am_cmp R32; split <;> (try split) <;> omega
theorem am_i2b_R (a : Int) : R32 (am_i2b a) := i32_R _
theorem z_lcmp (G : am_G F cc own) {a b : Int} (hd : decode cc pc = .ok (.lcmp, 1)) (hn : pc + 1 = nx) (k : am_Z F nx ((0, am_cmp a b) :: st) loc m n) : am_Z F pc ((1, b) :: (1, a) :: st) loc m n := by
  subst hn
  obtain ⟨p, l, e, R, s, mm, args, below, meth, c, Q, E, n0, cnt, d⟩ := F
  obtain ⟨hx, hb, hown, hts, hK, hX, hsz, hc1, hc2, hc3, hc4⟩ := G
  intro h1 h2 h3 h4 h0 H ls locs h5 h6 h8
  have ra := (am_hd (am_tl h1)).2 rfl
  have rb := (am_hd h1).2 rfl
  exact W.lcmp hx hb hd (am_lgcmp ra rb ▸ k (am_mk (am_R0 (am_cmp_R _ _)) (am_tl (am_tl h1))) h2 h3 h4 h0 H ls locs h5 h6 h8)
theorem z_i2l (G : am_G F cc own) {a : Int} (hd : decode cc pc = .ok (.i2l, 1)) (hn : pc + 1 = nx) (k : am_Z F nx ((1, a) :: st) loc m n) : am_Z F pc ((0, a) :: st) loc m n := by
  subst hn
  obtain ⟨p, l, e, R, s, mm, args, below, meth, c, Q, E, n0, cnt, d⟩ := F
  obtain ⟨hx, hb, hown, hts, hK, hX, hsz, hc1, hc2, hc3, hc4⟩ := G
  intro h1 h2 h3 h4 h0 H ls locs h5 h6 h8
  have ra := (am_hd h1).1 rfl
  exact lv_i2l hx hb hd (i32_i64 ra) (k (am_mk (am_R1 (R32_64 ra)) (am_tl h1)) h2 h3 h4 h0 H ls locs h5 h6 h8)
theorem z_l2i (G : am_G F cc own) {a : Int} (hd : decode cc pc = .ok (.l2i, 1)) (hn : pc + 1 = nx) (k : am_Z F nx ((0, am_l2i a) :: st) loc m n) : am_Z F pc ((1, a) :: st) loc m n := by
  subst hn
  obtain ⟨p, l, e, R, s, mm, args, below, meth, c, Q, E, n0, cnt, d⟩ := F
  obtain ⟨hx, hb, hown, hts, hK, hX, hsz, hc1, hc2, hc3, hc4⟩ := G
  intro h1 h2 h3 h4 h0 H ls locs h5 h6 h8
  exact lv_l2i hx hb hd (i32_of_to _).symm (k (am_mk (am_R0 (i32_R _)) (am_tl h1)) h2 h3 h4 h0 H ls locs h5 h6 h8)
theorem z_i2b (G : am_G F cc own) {a : Int} (hd : decode cc pc = .ok (.i2b, 1)) (hn : pc + 1 = nx) (k : am_Z F nx ((0, am_i2b a) :: st) loc m n) : am_Z F pc ((0, a) :: st) loc m n := by
  subst hn
  obtain ⟨p, l, e, R, s, mm, args, below, meth, c, Q, E, n0, cnt, d⟩ := F
  obtain ⟨hx, hb, hown, hts, hK, hX, hsz, hc1, hc2, hc3, hc4⟩ := G
  intro h1 h2 h3 h4 h0 H ls locs h5 h6 h8
  exact lv_i2b hx hb hd (i32_of_to _).symm (k (am_mk (am_R0 (i32_R _)) (am_tl h1)) h2 h3 h4 h0 H ls locs h5 h6 h8)
theorem z_icmp_eq (G : am_G F cc own) {a b off : Int} {tgt : Nat} (hd : decode cc pc = .ok (.if_icmp .eq off, 3)) (ht : (pc : Int) + off = (tgt : Int)) (hn : pc + 3 = nx) (kt : a = b → am_Z F tgt st loc m n) (kf : ¬ (a = b) → am_Z F nx st loc m n) : am_Z F pc ((0, b) :: (0, a) :: st) loc m n := by
  subst hn
  obtain ⟨p, l, e, R, s, mm, args, below, meth, c, Q, E, n0, cnt, d⟩ := F
  obtain ⟨hx, hb, hown, hts, hK, hX, hsz, hc1, hc2, hc3, hc4⟩ := G
  intro h1 h2 h3 h4 h0 H ls locs h5 h6 h8
  have ra := (am_hd (am_tl h1)).1 rfl
  have rb := (am_hd h1).1 rfl
  exact lv_icmp_eq hx hb hd ht (fun h => kt ((i32_eq ra rb).mp h) (am_tl (am_tl h1)) h2 h3 h4 h0 H ls locs h5 h6 h8) (fun h => kf (fun z => h ((i32_eq ra rb).mpr z)) (am_tl (am_tl h1)) h2 h3 h4 h0 H ls locs h5 h6 h8)
theorem z_if_eq (G : am_G F cc own) {a off : Int} {tgt : Nat} (hd : decode cc pc = .ok (.ifCond .eq off, 3)) (ht : (pc : Int) + off = (tgt : Int)) (hn : pc + 3 = nx) (kt : a = 0 → am_Z F tgt st loc m n) (kf : ¬ (a = 0) → am_Z F nx st loc m n) : am_Z F pc ((0, a) :: st) loc m n := by
  subst hn
  obtain ⟨p, l, e, R, s, mm, args, below, meth, c, Q, E, n0, cnt, d⟩ := F
  obtain ⟨hx, hb, hown, hts, hK, hX, hsz, hc1, hc2, hc3, hc4⟩ := G
  intro h1 h2 h3 h4 h0 H ls locs h5 h6 h8
  have ra := (am_hd h1).1 rfl
  exact lv_if_eq hx hb hd ht (fun h => kt ((i32_eq ra R32_0).mp h) (am_tl h1) h2 h3 h4 h0 H ls locs h5 h6 h8) (fun h => kf (fun z => h ((i32_eq ra R32_0).mpr z)) (am_tl h1) h2 h3 h4 h0 H ls locs h5 h6 h8)
theorem z_icmp_ne (G : am_G F cc own) {a b off : Int} {tgt : Nat} (hd : decode cc pc = .ok (.if_icmp .ne off, 3)) (ht : (pc : Int) + off = (tgt : Int)) (hn : pc + 3 = nx) (kt : a ≠ b → am_Z F tgt st loc m n) (kf : ¬ (a ≠ b) → am_Z F nx st loc m n) : am_Z F pc ((0, b) :: (0, a) :: st) loc m n := by
  subst hn
  obtain ⟨p, l, e, R, s, mm, args, below, meth, c, Q, E, n0, cnt, d⟩ := F
  obtain ⟨hx, hb, hown, hts, hK, hX, hsz, hc1, hc2, hc3, hc4⟩ := G
  intro h1 h2 h3 h4 h0 H ls locs h5 h6 h8
  have ra := (am_hd (am_tl h1)).1 rfl
  have rb := (am_hd h1).1 rfl
  exact lv_icmp_ne hx hb hd ht (fun h => kt ((not_congr (i32_eq ra rb)).mp h) (am_tl (am_tl h1)) h2 h3 h4 h0 H ls locs h5 h6 h8) (fun h => kf (fun z => z ((i32_eq ra rb).mp h)) (am_tl (am_tl h1)) h2 h3 h4 h0 H ls locs h5 h6 h8)
theorem z_if_ne (G : am_G F cc own) {a off : Int} {tgt : Nat} (hd : decode cc pc = .ok (.ifCond .ne off, 3)) (ht : (pc : Int) + off = (tgt : Int)) (hn : pc + 3 = nx) (kt : a ≠ 0 → am_Z F tgt st loc m n) (kf : ¬ (a ≠ 0) → am_Z F nx st loc m n) : am_Z F pc ((0, a) :: st) loc m n := by
  subst hn
  obtain ⟨p, l, e, R, s, mm, args, below, meth, c, Q, E, n0, cnt, d⟩ := F
  obtain ⟨hx, hb, hown, hts, hK, hX, hsz, hc1, hc2, hc3, hc4⟩ := G
  intro h1 h2 h3 h4 h0 H ls locs h5 h6 h8
  have ra := (am_hd h1).1 rfl
  exact lv_if_ne hx hb hd ht (fun h => kt ((not_congr (i32_eq ra R32_0)).mp h) (am_tl h1) h2 h3 h4 h0 H ls locs h5 h6 h8) (fun h => kf (fun z => z ((i32_eq ra R32_0).mp h)) (am_tl h1) h2 h3 h4 h0 H ls locs h5 h6 h8)
theorem z_icmp_lt (G : am_G F cc own) {a b off : Int} {tgt : Nat} (hd : decode cc pc = .ok (.if_icmp .lt off, 3)) (ht : (pc : Int) + off = (tgt : Int)) (hn : pc + 3 = nx) (kt : a < b → am_Z F tgt st loc m n) (kf : ¬ (a < b) → am_Z F nx st loc m n) : am_Z F pc ((0, b) :: (0, a) :: st) loc m n := by
  subst hn
  obtain ⟨p, l, e, R, s, mm, args, below, meth, c, Q, E, n0, cnt, d⟩ := F
  obtain ⟨hx, hb, hown, hts, hK, hX, hsz, hc1, hc2, hc3, hc4⟩ := G
  intro h1 h2 h3 h4 h0 H ls locs h5 h6 h8
  have ra := (am_hd (am_tl h1)).1 rfl
  have rb := (am_hd h1).1 rfl
  exact lv_icmp_lt hx hb hd ht (fun h => kt ((i32_lt ra rb).mp h) (am_tl (am_tl h1)) h2 h3 h4 h0 H ls locs h5 h6 h8) (fun h => kf (fun z => h ((i32_lt ra rb).mpr z)) (am_tl (am_tl h1)) h2 h3 h4 h0 H ls locs h5 h6 h8)
theorem z_if_lt (G : am_G F cc own) {a off : Int} {tgt : Nat} (hd : decode cc pc = .ok (.ifCond .lt off, 3)) (ht : (pc : Int) + off = (tgt : Int)) (hn : pc + 3 = nx) (kt : a < 0 → am_Z F tgt st loc m n) (kf : ¬ (a < 0) → am_Z F nx st loc m n) : am_Z F pc ((0, a) :: st) loc m n := by
  subst hn
  obtain ⟨p, l, e, R, s, mm, args, below, meth, c, Q, E, n0, cnt, d⟩ := F
  obtain ⟨hx, hb, hown, hts, hK, hX, hsz, hc1, hc2, hc3, hc4⟩ := G
  intro h1 h2 h3 h4 h0 H ls locs h5 h6 h8
  have ra := (am_hd h1).1 rfl
  exact lv_if_lt hx hb hd ht (fun h => kt ((i32_lt ra R32_0).mp h) (am_tl h1) h2 h3 h4 h0 H ls locs h5 h6 h8) (fun h => kf (fun z => h ((i32_lt ra R32_0).mpr z)) (am_tl h1) h2 h3 h4 h0 H ls locs h5 h6 h8)
theorem z_icmp_ge (G : am_G F cc own) {a b off : Int} {tgt : Nat} (hd : decode cc pc = .ok (.if_icmp .ge off, 3)) (ht : (pc : Int) + off = (tgt : Int)) (hn : pc + 3 = nx) (kt : b ≤ a → am_Z F tgt st loc m n) (kf : ¬ (b ≤ a) → am_Z F nx st loc m n) : am_Z F pc ((0, b) :: (0, a) :: st) loc m n := by
  subst hn
  obtain ⟨p, l, e, R, s, mm, args, below, meth, c, Q, E, n0, cnt, d⟩ := F
  obtain ⟨hx, hb, hown, hts, hK, hX, hsz, hc1, hc2, hc3, hc4⟩ := G
  intro h1 h2 h3 h4 h0 H ls locs h5 h6 h8
  have ra := (am_hd (am_tl h1)).1 rfl
  have rb := (am_hd h1).1 rfl
  exact lv_icmp_ge hx hb hd ht (fun h => kt ((i32_le rb ra).mp h) (am_tl (am_tl h1)) h2 h3 h4 h0 H ls locs h5 h6 h8) (fun h => kf (fun z => h ((i32_le rb ra).mpr z)) (am_tl (am_tl h1)) h2 h3 h4 h0 H ls locs h5 h6 h8)
theorem z_if_ge (G : am_G F cc own) {a off : Int} {tgt : Nat} (hd : decode cc pc = .ok (.ifCond .ge off, 3)) (ht : (pc : Int) + off = (tgt : Int)) (hn : pc + 3 = nx) (kt : 0 ≤ a → am_Z F tgt st loc m n) (kf : ¬ (0 ≤ a) → am_Z F nx st loc m n) : am_Z F pc ((0, a) :: st) loc m n := by
  subst hn
  obtain ⟨p, l, e, R, s, mm, args, below, meth, c, Q, E, n0, cnt, d⟩ := F
  obtain ⟨hx, hb, hown, hts, hK, hX, hsz, hc1, hc2, hc3, hc4⟩ := G
  intro h1 h2 h3 h4 h0 H ls locs h5 h6 h8
  have ra := (am_hd h1).1 rfl
  exact lv_if_ge hx hb hd ht (fun h => kt ((i32_le R32_0 ra).mp h) (am_tl h1) h2 h3 h4 h0 H ls locs h5 h6 h8) (fun h => kf (fun z => h ((i32_le R32_0 ra).mpr z)) (am_tl h1) h2 h3 h4 h0 H ls locs h5 h6 h8)
theorem z_icmp_gt (G : am_G F cc own) {a b off : Int} {tgt : Nat} (hd : decode cc pc = .ok (.if_icmp .gt off, 3)) (ht : (pc : Int) + off = (tgt : Int)) (hn : pc + 3 = nx) (kt : b < a → am_Z F tgt st loc m n) (kf : ¬ (b < a) → am_Z F nx st loc m n) : am_Z F pc ((0, b) :: (0, a) :: st) loc m n := by
  subst hn
  obtain ⟨p, l, e, R, s, mm, args, below, meth, c, Q, E, n0, cnt, d⟩ := F
  obtain ⟨hx, hb, hown, hts, hK, hX, hsz, hc1, hc2, hc3, hc4⟩ := G
  intro h1 h2 h3 h4 h0 H ls locs h5 h6 h8
  have ra := (am_hd (am_tl h1)).1 rfl
  have rb := (am_hd h1).1 rfl
  exact lv_icmp_gt hx hb hd ht (fun h => kt ((i32_lt rb ra).mp h) (am_tl (am_tl h1)) h2 h3 h4 h0 H ls locs h5 h6 h8) (fun h => kf (fun z => h ((i32_lt rb ra).mpr z)) (am_tl (am_tl h1)) h2 h3 h4 h0 H ls locs h5 h6 h8)
theorem z_if_gt (G : am_G F cc own) {a off : Int} {tgt : Nat} (hd : decode cc pc = .ok (.ifCond .gt off, 3)) (ht : (pc : Int) + off = (tgt : Int)) (hn : pc + 3 = nx) (kt : 0 < a → am_Z F tgt st loc m n) (kf : ¬ (0 < a) → am_Z F nx st loc m n) : am_Z F pc ((0, a) :: st) loc m n := by
  subst hn
  obtain ⟨p, l, e, R, s, mm, args, below, meth, c, Q, E, n0, cnt, d⟩ := F
  obtain ⟨hx, hb, hown, hts, hK, hX, hsz, hc1, hc2, hc3, hc4⟩ := G
  intro h1 h2 h3 h4 h0 H ls locs h5 h6 h8
  have ra := (am_hd h1).1 rfl
  exact lv_if_gt hx hb hd ht (fun h => kt ((i32_lt R32_0 ra).mp h) (am_tl h1) h2 h3 h4 h0 H ls locs h5 h6 h8) (fun h => kf (fun z => h ((i32_lt R32_0 ra).mpr z)) (am_tl h1) h2 h3 h4 h0 H ls locs h5 h6 h8)
theorem z_icmp_le (G : am_G F cc own) {a b off : Int} {tgt : Nat} (hd : decode cc pc = .ok (.if_icmp .le off, 3)) (ht : (pc : Int) + off = (tgt : Int)) (hn : pc + 3 = nx) (kt : a ≤ b → am_Z F tgt st loc m n) (kf : ¬ (a ≤ b) → am_Z F nx st loc m n) : am_Z F pc ((0, b) :: (0, a) :: st) loc m n := by
  subst hn
  obtain ⟨p, l, e, R, s, mm, args, below, meth, c, Q, E, n0, cnt, d⟩ := F
  obtain ⟨hx, hb, hown, hts, hK, hX, hsz, hc1, hc2, hc3, hc4⟩ := G
  intro h1 h2 h3 h4 h0 H ls locs h5 h6 h8
  have ra := (am_hd (am_tl h1)).1 rfl
  have rb := (am_hd h1).1 rfl
  exact lv_icmp_le hx hb hd ht (fun h => kt ((i32_le ra rb).mp h) (am_tl (am_tl h1)) h2 h3 h4 h0 H ls locs h5 h6 h8) (fun h => kf (fun z => h ((i32_le ra rb).mpr z)) (am_tl (am_tl h1)) h2 h3 h4 h0 H ls locs h5 h6 h8)
theorem z_if_le (G : am_G F cc own) {a off : Int} {tgt : Nat} (hd : decode cc pc = .ok (.ifCond .le off, 3)) (ht : (pc : Int) + off = (tgt : Int)) (hn : pc + 3 = nx) (kt : a ≤ 0 → am_Z F tgt st loc m n) (kf : ¬ (a ≤ 0) → am_Z F nx st loc m n) : am_Z F pc ((0, a) :: st) loc m n := by
  subst hn
  obtain ⟨p, l, e, R, s, mm, args, below, meth, c, Q, E, n0, cnt, d⟩ := F
  obtain ⟨hx, hb, hown, hts, hK, hX, hsz, hc1, hc2, hc3, hc4⟩ := G
  intro h1 h2 h3 h4 h0 H ls locs h5 h6 h8
  have ra := (am_hd h1).1 rfl
  exact lv_if_le hx hb hd ht (fun h => kt ((i32_le ra R32_0).mp h) (am_tl h1) h2 h3 h4 h0 H ls locs h5 h6 h8) (fun h => kf (fun z => h ((i32_le ra R32_0).mpr z)) (am_tl h1) h2 h3 h4 h0 H ls locs h5 h6 h8)
theorem z_goto (G : am_G F cc own) {off : Int} {tgt : Nat} (hd : decode cc pc = .ok (.goto off, 3)) (ht : (pc : Int) + off = (tgt : Int)) (k : am_Z F tgt st loc m n) : am_Z F pc st loc m n := by
  obtain ⟨p, l, e, R, s, mm, args, below, meth, c, Q, E, n0, cnt, d⟩ := F
  obtain ⟨hx, hb, hown, hts, hK, hX, hsz, hc1, hc2, hc3, hc4⟩ := G
  intro h1 h2 h3 h4 h0 H ls locs h5 h6 h8
  exact lv_goto hx hb hd ht (k h1 h2 h3 h4 h0 H ls locs h5 h6 h8)
theorem z_ifnonnull (G : am_G F cc own) {z off : Int} {tgt : Nat} (hd : decode cc pc = .ok (.ifnonnull off, 3)) (ht : (pc : Int) + off = (tgt : Int)) (hn : pc + 3 = nx) (kt : 0 ≤ z → am_Z F tgt st loc m n) (kf : ¬ 0 ≤ z → am_Z F nx st loc m n) : am_Z F pc ((2, z) :: st) loc m n := by
  subst hn
  obtain ⟨p, l, e, R, s, mm, args, below, meth, c, Q, E, n0, cnt, d⟩ := F
  obtain ⟨hx, hb, hown, hts, hK, hX, hsz, hc1, hc2, hc3, hc4⟩ := G
  intro h1 h2 h3 h4 h0 H ls locs h5 h6 h8
  by_cases hz : z < 0
  · have e : am_rv E (2, z) = .null := by show va_rf (am_rf E.1 z) = .null; unfold am_rf; rw [if_pos hz]; rfl
    rw [List.map_cons, e]
    exact lv_ifnonnullN hx hb hd (kf (by omega) (am_tl h1) h2 h3 h4 h0 H ls locs h5 h6 h8)
  · have e : am_rv E (2, z) = .ref (E.1 + z.toNat) := by show va_rf (am_rf E.1 z) = _; unfold am_rf; rw [if_neg hz]; rfl
    rw [List.map_cons, e]
    exact lv_ifnonnull hx hb hd ht (kt (by omega) (am_tl h1) h2 h3 h4 h0 H ls locs h5 h6 h8)
theorem z_table (G : am_G F cc own) {a dflt lo hi : Int} {offs : Array Int} {len : Nat} (hd : decode cc pc = .ok (.tableswitch dflt lo hi offs, len)) (tg : Nat → Nat) (td : Nat) (h : ∀ i : Nat, (i : Int) ≤ hi - lo → ∃ off, offs[i]? = some off ∧ (pc : Int) + off = (tg i : Int)) (htd : (pc : Int) + dflt = (td : Int)) (ki : ∀ i : Nat, (i : Int) ≤ hi - lo → a = lo + i → am_Z F (tg i) st loc m n) (kd : (a < lo ∨ hi < a) → am_Z F td st loc m n) : am_Z F pc ((0, a) :: st) loc m n := by
  obtain ⟨p, l, e, R, s, mm, args, below, meth, c, Q, E, n0, cnt, d⟩ := F
  obtain ⟨hx, hb, hown, hts, hK, hX, hsz, hc1, hc2, hc3, hc4⟩ := G
  intro h1 h2 h3 h4 h0 H ls locs h5 h6 h8
  have ra := (am_hd h1).1 rfl
  have ea := i32_toR ra
  by_cases c1 : a < lo ∨ hi < a
  · exact lv_tableOut hx hb hd (by rw [ea]; exact c1) htd (kd c1 (am_tl h1) h2 h3 h4 h0 H ls locs h5 h6 h8)
  · obtain ⟨off, ho, hoff⟩ := h (a - lo).toNat (by omega)
    exact lv_tableIn hx hb hd (by rw [ea]; omega) (by rw [ea]; omega) (by rw [ea]; exact ho) hoff (ki (a - lo).toNat (by omega) (by omega) (am_tl h1) h2 h3 h4 h0 H ls locs h5 h6 h8)
theorem z_fewer {loc2 : List am_V} (h : am_le loc2 loc) (k : am_Z F pc st loc2 m n) : am_Z F pc st loc m n := by
  obtain ⟨p, l, e, R, s, mm, args, below, meth, c, Q, E, n0, cnt, d⟩ := F
  intro h1 h2 h3 h4 h0 H ls locs h5 h6 h8
  obtain ⟨e1, e2⟩ := am_le_get h
  refine k h1 (fun v hv => ?_) h3 (e1.trans h4) h0 H ls locs ⟨h5.1, h5.2.1, fun q hq => ?_⟩ h6 h8
  · obtain ⟨i, hi⟩ := List.getElem?_of_mem hv
    rcases e2 i v hi with rfl | h
    · exact am_R9 0
    · exact h2 v (List.mem_of_getElem? h)
  · obtain ⟨i, w, g1, g2, rfl⟩ := (am_lm_mem _ _ _).mp hq
    rcases e2 i w g1 with rfl | h
    · exact absurd rfl g2
    · exact h5.2.2 _ ((am_lm_mem _ _ _).mpr ⟨i, w, h, g2, rfl⟩)
end AMZ
