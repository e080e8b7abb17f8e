/-! MAKING, COPYING, CALLS, RETURNS. -/
theorem am_size {p : Program} {l : Launch} {e : Env} {R : Room} {s : State} {mm : MethodId} {args : Array Value} {below : List Frame} {meth : Method} {c : Code} {E : am_E} {m : am_M} {n0 n slots : Nat} {T : State} {H : Heap} {locs : List Loc} {D : va_G} (hsz : s.heap.size = E.1 + n0) (h0 : n0 ≤ n) (h6 : va_P D vwCl (am_ws E m n) H) (h8 : va_S (fun q => E.1 ≤ q) s.heap H locs) (hT : T.heap = H) (X : Stand p l e R s mm args below meth c T locs (n - n0) slots) : H.size = E.1 + n := by
  have h1 := X.heapSize
  rw [hT] at h1
  have h2 := h8.1
  rcases Nat.lt_or_ge n0 n with q | q
  · have := (h6 (n - 1) _ (am_ws_get (E := E) (m := m) (n := n) (o := n - 1) (by omega))).lt
    have e : (E.1 + (n - 1), am_ent E (am_sh (n - 1)) (m ((n - 1 : Nat) : Int))).1 = E.1 + (n - 1) := rfl
    rw [e] at this
    omega
  · omega
theorem am_sized {p : Program} {l : Launch} {e : Env} {R : Room} {s : State} {mm : MethodId} {args : Array Value} {below : List Frame} {meth : Method} {c : Code} {E : am_E} {m : am_M} {n0 n slots : Nat} {H : Heap} {locs : List Loc} {D : va_G} {Q : State → Prop} {g : JFrame} (hsz : s.heap.size = E.1 + n0) (h0 : n0 ≤ n) (h6 : va_P D vwCl (am_ws E m n) H) (h8 : va_S (fun q => E.1 ≤ q) s.heap H locs) (k : H.size = E.1 + n → W p l e R s mm args below meth c H locs (n - n0) slots Q g) : W p l e R s mm args below meth c H locs (n - n0) slots Q g := fun T hT X => k (am_size hsz h0 h6 h8 hT X) T hT X
/-- memory with one more object, all of it as it is made -/
def am_fr (m : am_M) (n : Nat) : am_M := fun o k => if o = n then (if am_ct (am_sh n) k.toNat = 2 then -1 else 0) else m o k
def am_okT (t : FieldType) : Bool := match t with
  | .int => true
  | .boolean => true
  | .long => true
  | .object _ => true
  | .array _ => true
  | _ => false
theorem am_okTy : ∀ ci, ci < 13 → ∀ k, k < am_N ci → am_okT (am_ty ci k) = true := by decide +kernel
theorem am_dflt {E : am_E} {t : FieldType} (h : am_okT t = true) : defaultValue t = am_rv E (am_tag t, if am_tag t = 2 then -1 else 0) := by
  cases t <;> first | rfl | cases h
theorem am_R_dflt (t : Nat) : am_R (t, if t = 2 then -1 else 0) := by
  by_cases h : t = 2
  · subst h; exact am_R2 _
  · rw [if_neg h]
    exact ⟨fun _ => R32_0, fun _ => R64_0⟩
theorem am_Rng_fr {m : am_M} {n : Nat} (h : am_Rng m n) : am_Rng (am_fr m n) (n + 1) := by
  intro o ho k hk
  unfold am_fr
  by_cases e : o = n
  · subst e
    rw [if_pos rfl]
    exact am_R_dflt _
  · rw [if_neg (by omega)]
    exact h o (by omega) k hk
theorem am_ws_fr {E : am_E} {m : am_M} {n : Nat} : am_ws E (am_fr m n) (n + 1) = am_ws E m n ++ [(E.1 + n, am_ent E (am_sh n) (am_fr m n n))] := by
  rw [am_ws_succ]
  congr 1
  refine am_ws_congr (fun o ho => ?_)
  congr 1
  funext k
  unfold am_fr
  rw [if_neg (by omega)]
def am_n0 (F : am_F) : Nat := match F with
  | (_, _, _, _, _, _, _, _, _, _, _, _, n0, _, _) => n0
def am_d (F : am_F) : Nat := match F with
  | (_, _, _, _, _, _, _, _, _, _, _, _, _, _, d) => d
def am_end (F : am_F) (n : Nat) : Prop := match F with
  | (_, _, _, _, _, _, _, _, _, _, _, _, n0, cnt, _) => n = n0 + cnt
theorem am_push {D : va_G} {H H1 : Heap} {ws : va_W} {a : Nat} {x : va_E} (h : va_P D vwCl ws H) (o1 : ∀ q, q < H.size → H1[q]? = H[q]?) (hx : va_at D vwCl (a, x) H1) : va_P D vwCl (ws ++ [(a, x)]) H1 := by
  refine (h.kept (fun k q hk => o1 q.1 (h k q hk).lt)).app (fun k q hk => ?_)
  have hz : k < 1 := (List.getElem?_eq_some_iff.mp hk).1
  rw [show k = 0 by omega] at hk
  cases hk
  exact hx
theorem am_S_grow {A : Nat → Prop} {H0 H H1 : Heap} {locs : List Loc} (h : va_S A H0 H locs) (z1 : H1.size = H.size + 1) (o1 : ∀ q, q < H.size → H1[q]? = H[q]?) : va_S A H0 H1 locs :=
  ⟨Nat.le_trans h.1 (by omega), fun x a b => (o1 x (Nat.lt_of_lt_of_le a h.1)).trans (h.2.1 x a b), h.2.2⟩
theorem am_ar1 {a b c d r N : Nat} (h1 : b = a + N) (h2 : b ≤ c) (h3 : d ≤ a) (h4 : c - d ≤ r) : a - d + N ≤ r := by omega
theorem am_ar2 {a b d N : Nat} (h1 : b = a + N) (h3 : d ≤ a) : a - d + N = b - d := by omega
theorem am_ar3 {a b c d r : Nat} (h1 : a ≤ b) (h2 : b ≤ c) (h3 : d ≤ a) (h4 : c - d ≤ r) : a - d + (b - a) ≤ r := by omega
theorem am_ar4 {a b d : Nat} (h1 : a ≤ b) (h3 : d ≤ a) : a - d + (b - a) = b - d := by omega
theorem am_ar5 {a c d r : Nat} (h2 : a ≤ c) (h4 : c - d ≤ r) : a - d ≤ r := by omega
theorem am_SLs {n a b : Nat} (h : am_sh n = (a, b)) : am_SL (n + 1) = am_SL n + b := by rw [am_SL_succ, h]
theorem am_plainC : ∀ ci, ci < 13 → am_C ci ≠ "java/lang/invoke/MethodHandle" ∧ am_C ci ≠ "java/lang/invoke/VarHandle" := by decide +kernel
theorem am_plain {y : MethodName} {ci k : Nat} (hci : ci < 13) (hyc : y.cls = am_C ci) (hpar : (parseMethodDescriptor y.desc).map (fun d => d.parameters.length) = some k) : y.cls ≠ "java/lang/invoke/MethodHandle" ∧ y.cls ≠ "java/lang/invoke/VarHandle" ∧ (parseMethodDescriptor y.desc).map (fun d => d.parameters.length) = some k := by
  rw [hyc]
  exact ⟨(am_plainC ci hci).1, (am_plainC ci hci).2, hpar⟩
section AMC
variable {F : am_F} {cc : ByteArray} {own : String} {pc nx : Nat} {st loc : List am_V} {m : am_M} {n : Nat}
theorem z_new (G : am_G F cc own) {idx ci : Nat} (hci : ci < 13) (hcl : Cond.classLink own idx (am_C ci) ∈ am_TB) (hinst : Cond.instantiable (am_C ci) (am_N ci) ∈ am_TB) (hini : Cond.initialized (am_C ci) ∈ am_TB) (hsh : am_sh n = (ci, am_N ci)) (hlim : am_lim F (n + 1)) (hd : decode cc pc = .ok (.new idx, 3)) (hn : pc + 3 = nx) (k : am_Z F nx ((2, (n : Int)) :: st) loc (am_fr m n) (n + 1)) : am_Z F pc st loc m n := by
  subst hn
  obtain ⟨p, l, e, R, s, mm, args, below, meth, c, Q, E, n0, cnt, d⟩ := F
  obtain ⟨hx, hb, hown, hts, hK, hX, hsz, hc1, hc2, hc3, hc4⟩ := G
  intro h1 h2 h3 h4 h0 H ls locs h5 h6 h8
  refine am_sized hsz h0 h6 h8 (fun hsize => ?_)
  have hKn := hK.1 ci _ (am_cl ci hci)
  have hlim : n + 1 ≤ n0 + cnt := hlim
  have hce : n - n0 + 1 ≤ R.cells := by omega
  have hce2 : n - n0 + 1 = n + 1 - n0 := by omega
  have hge : n0 ≤ n + 1 := by omega
  refine W.newcK hx hb hown (hts _ hcl) (hts _ hinst) (hts _ hini) rfl hd hce (am_ar1 (am_SLs hsh) (am_SL_mono hlim) (am_SL_mono h0) hc2) hKn.2.1 rfl (fun H1 kC hkC e1 z1 o1 => ?_)
  have hkk := k (am_mk (am_R2 _) h1) h2 (am_Rng_fr h3) h4 hge H1 ls locs h5 (am_ws_fr (E := E) (m := m) ▸ am_push h6 o1 (by
    rw [hsh, am_ent_o hci]
    refine ⟨_, am_cl ci hci, ?_⟩
    rw [← hsize]
    refine (u_born (am_ty ci) hts (am_lay ci hci) hKn hkC e1 (am_tyok ci hci)).to (fun j hj => ?_)
    unfold vp_V
    rw [List.getD_eq_getElem?_getD, List.getElem?_map, List.getElem?_range hj]
    rw [am_dflt (E := E) (am_okTy ci hci j hj)]
    show _ = am_rv E (am_ft ci j, if (n : Int) = n then (if am_ct (am_sh n) (j : Int).toNat = 2 then -1 else 0) else _)
    rw [if_pos rfl, hsh, Int.toNat_natCast, am_ct, if_pos (show (ci, am_N ci).1 < 20 by show ci < 20; omega)]
    rfl)) (am_S_grow h8 z1 o1)
  refine W.cs (cells' := n + 1 - n0) (slots' := am_SL (n + 1) - am_SL n0) hce2 (am_ar2 (am_SLs hsh) (am_SL_mono h0)) ?_
  rw [List.map_cons, am_rv2 (Int.natCast_nonneg n), Int.toNat_natCast, ← hsize] at hkk
  exact hkk

theorem z_newi (G : am_G F cc own) {z : Int} (hw : Cond.arrayClass .int ∈ am_TB) (h0z : 0 ≤ z) (hz : z ≤ 100000) (hsh : am_sh n = (20, z.toNat)) (hlim : am_lim F (n + 1)) (hd : decode cc pc = .ok (.newarray .int, 2)) (hn : pc + 2 = nx) (k : am_Z F nx ((2, (n : Int)) :: st) loc (am_fr m n) (n + 1)) : am_Z F pc ((0, z) :: st) loc m n := by
  subst hn
  obtain ⟨p, l, e, R, s, mm, args, below, meth, c, Q, E, n0, cnt, d⟩ := F
  obtain ⟨hx, hb, hown, hts, hK, hX, hsz, hc1, hc2, hc3, hc4⟩ := G
  intro h1 h2 h3 h4 h0 H ls locs h5 h6 h8
  refine am_sized hsz h0 h6 h8 (fun hsize => ?_)
  have hlim : n + 1 ≤ n0 + cnt := hlim
  have hce : n - n0 + 1 ≤ R.cells := by omega
  have hce2 : n - n0 + 1 = n + 1 - n0 := by omega
  have hge : n0 ≤ n + 1 := by omega
  have rz := (am_hd h1).1 rfl
  have hcl := am_clamp rz
  have hneg : ¬ Int32.ofInt z < 0 := fun h => by have := (i32_lt rz R32_0).mp h; omega
  have hby : z.toNat * componentBytes .int ≤ 536870912 := by simp only [componentBytes]; omega
  refine va_newaK (atype := .int) (N := z.toNat) hx hb (hts _ hw) rfl hd rfl hneg hcl hby hce (am_ar1 (am_SLs hsh) (am_SL_mono hlim) (am_SL_mono h0) hc2) rfl (fun H1 cA e1 z1 o1 hA hF => ?_)
  have hcA : cA = E.2.2.2.2 20 := by
    have h := (hK.2 0 _ rfl).2
    have h : s.vm.findClass ("[" ++ (FieldType.toString .int)) = some (E.2.2.2.2 20) := h
    have hF : s.vm.findClass ("[" ++ (FieldType.toString .int)) = some cA := hF
    rw [h] at hF
    exact (Option.some.inj hF).symm
  have hkk := k (am_mk (am_R2 _) (am_tl h1)) h2 (am_Rng_fr h3) h4 hge H1 ls locs h5 (am_ws_fr (E := E) (m := m) ▸ am_push h6 o1 (by
    rw [hsh, am_ent_i (by decide) (by decide)]
    show H1[E.1 + n]? = _
    rw [← hsize, e1, hcA]
    refine congrArg some ?_
    show _ = vp_cell (E.2.2.2.2 20) (z.toNat, .inl _)
    rw [vp_cell_i]
    congr 1
    funext j
    unfold am_fr
    rw [if_pos rfl, hsh, am_ctA (by decide)]
    rfl)) (am_S_grow h8 z1 o1)
  refine W.cs (cells' := n + 1 - n0) (slots' := am_SL (n + 1) - am_SL n0) hce2 (am_ar2 (am_SLs hsh) (am_SL_mono h0)) ?_
  rw [List.map_cons, am_rv2 (Int.natCast_nonneg n), Int.toNat_natCast, ← hsize] at hkk
  exact hkk

theorem z_newb (G : am_G F cc own) {z : Int} (hw : Cond.arrayClass .byte ∈ am_TB) (h0z : 0 ≤ z) (hz : z ≤ 100000) (hsh : am_sh n = (21, z.toNat)) (hlim : am_lim F (n + 1)) (hd : decode cc pc = .ok (.newarray .byte, 2)) (hn : pc + 2 = nx) (k : am_Z F nx ((2, (n : Int)) :: st) loc (am_fr m n) (n + 1)) : am_Z F pc ((0, z) :: st) loc m n := by
  subst hn
  obtain ⟨p, l, e, R, s, mm, args, below, meth, c, Q, E, n0, cnt, d⟩ := F
  obtain ⟨hx, hb, hown, hts, hK, hX, hsz, hc1, hc2, hc3, hc4⟩ := G
  intro h1 h2 h3 h4 h0 H ls locs h5 h6 h8
  refine am_sized hsz h0 h6 h8 (fun hsize => ?_)
  have hlim : n + 1 ≤ n0 + cnt := hlim
  have hce : n - n0 + 1 ≤ R.cells := by omega
  have hce2 : n - n0 + 1 = n + 1 - n0 := by omega
  have hge : n0 ≤ n + 1 := by omega
  have rz := (am_hd h1).1 rfl
  have hcl := am_clamp rz
  have hneg : ¬ Int32.ofInt z < 0 := fun h => by have := (i32_lt rz R32_0).mp h; omega
  have hby : z.toNat * componentBytes .byte ≤ 536870912 := by simp only [componentBytes]; omega
  refine va_newaK (atype := .byte) (N := z.toNat) hx hb (hts _ hw) rfl hd rfl hneg hcl hby hce (am_ar1 (am_SLs hsh) (am_SL_mono hlim) (am_SL_mono h0) hc2) rfl (fun H1 cA e1 z1 o1 hA hF => ?_)
  have hcA : cA = E.2.2.2.2 21 := by
    have h := (hK.2 1 _ rfl).2
    have h : s.vm.findClass ("[" ++ (FieldType.toString .byte)) = some (E.2.2.2.2 21) := h
    have hF : s.vm.findClass ("[" ++ (FieldType.toString .byte)) = some cA := hF
    rw [h] at hF
    exact (Option.some.inj hF).symm
  have hkk := k (am_mk (am_R2 _) (am_tl h1)) h2 (am_Rng_fr h3) h4 hge H1 ls locs h5 (am_ws_fr (E := E) (m := m) ▸ am_push h6 o1 (by
    rw [hsh, am_ent_i (by decide) (by decide)]
    show H1[E.1 + n]? = _
    rw [← hsize, e1, hcA]
    refine congrArg some ?_
    show _ = vp_cell (E.2.2.2.2 21) (z.toNat, .inl _)
    rw [vp_cell_i]
    congr 1
    funext j
    unfold am_fr
    rw [if_pos rfl, hsh, am_ctA (by decide)]
    rfl)) (am_S_grow h8 z1 o1)
  refine W.cs (cells' := n + 1 - n0) (slots' := am_SL (n + 1) - am_SL n0) hce2 (am_ar2 (am_SLs hsh) (am_SL_mono h0)) ?_
  rw [List.map_cons, am_rv2 (Int.natCast_nonneg n), Int.toNat_natCast, ← hsize] at hkk
  exact hkk

theorem z_newz (G : am_G F cc own) {z : Int} (hw : Cond.arrayClass .boolean ∈ am_TB) (h0z : 0 ≤ z) (hz : z ≤ 100000) (hsh : am_sh n = (22, z.toNat)) (hlim : am_lim F (n + 1)) (hd : decode cc pc = .ok (.newarray .boolean, 2)) (hn : pc + 2 = nx) (k : am_Z F nx ((2, (n : Int)) :: st) loc (am_fr m n) (n + 1)) : am_Z F pc ((0, z) :: st) loc m n := by
  subst hn
  obtain ⟨p, l, e, R, s, mm, args, below, meth, c, Q, E, n0, cnt, d⟩ := F
  obtain ⟨hx, hb, hown, hts, hK, hX, hsz, hc1, hc2, hc3, hc4⟩ := G
  intro h1 h2 h3 h4 h0 H ls locs h5 h6 h8
  refine am_sized hsz h0 h6 h8 (fun hsize => ?_)
  have hlim : n + 1 ≤ n0 + cnt := hlim
  have hce : n - n0 + 1 ≤ R.cells := by omega
  have hce2 : n - n0 + 1 = n + 1 - n0 := by omega
  have hge : n0 ≤ n + 1 := by omega
  have rz := (am_hd h1).1 rfl
  have hcl := am_clamp rz
  have hneg : ¬ Int32.ofInt z < 0 := fun h => by have := (i32_lt rz R32_0).mp h; omega
  have hby : z.toNat * componentBytes .boolean ≤ 536870912 := by simp only [componentBytes]; omega
  refine va_newaK (atype := .boolean) (N := z.toNat) hx hb (hts _ hw) rfl hd rfl hneg hcl hby hce (am_ar1 (am_SLs hsh) (am_SL_mono hlim) (am_SL_mono h0) hc2) rfl (fun H1 cA e1 z1 o1 hA hF => ?_)
  have hcA : cA = E.2.2.2.2 22 := by
    have h := (hK.2 2 _ rfl).2
    have h : s.vm.findClass ("[" ++ (FieldType.toString .boolean)) = some (E.2.2.2.2 22) := h
    have hF : s.vm.findClass ("[" ++ (FieldType.toString .boolean)) = some cA := hF
    rw [h] at hF
    exact (Option.some.inj hF).symm
  have hkk := k (am_mk (am_R2 _) (am_tl h1)) h2 (am_Rng_fr h3) h4 hge H1 ls locs h5 (am_ws_fr (E := E) (m := m) ▸ am_push h6 o1 (by
    rw [hsh, am_ent_i (by decide) (by decide)]
    show H1[E.1 + n]? = _
    rw [← hsize, e1, hcA]
    refine congrArg some ?_
    show _ = vp_cell (E.2.2.2.2 22) (z.toNat, .inl _)
    rw [vp_cell_i]
    congr 1
    funext j
    unfold am_fr
    rw [if_pos rfl, hsh, am_ctA (by decide)]
    rfl)) (am_S_grow h8 z1 o1)
  refine W.cs (cells' := n + 1 - n0) (slots' := am_SL (n + 1) - am_SL n0) hce2 (am_ar2 (am_SLs hsh) (am_SL_mono h0)) ?_
  rw [List.map_cons, am_rv2 (Int.natCast_nonneg n), Int.toNat_natCast, ← hsize] at hkk
  exact hkk

theorem z_newl (G : am_G F cc own) {z : Int} (hw : Cond.arrayClass .long ∈ am_TB) (h0z : 0 ≤ z) (hz : z ≤ 100000) (hsh : am_sh n = (23, z.toNat)) (hlim : am_lim F (n + 1)) (hd : decode cc pc = .ok (.newarray .long, 2)) (hn : pc + 2 = nx) (k : am_Z F nx ((2, (n : Int)) :: st) loc (am_fr m n) (n + 1)) : am_Z F pc ((0, z) :: st) loc m n := by
  subst hn
  obtain ⟨p, l, e, R, s, mm, args, below, meth, c, Q, E, n0, cnt, d⟩ := F
  obtain ⟨hx, hb, hown, hts, hK, hX, hsz, hc1, hc2, hc3, hc4⟩ := G
  intro h1 h2 h3 h4 h0 H ls locs h5 h6 h8
  refine am_sized hsz h0 h6 h8 (fun hsize => ?_)
  have hlim : n + 1 ≤ n0 + cnt := hlim
  have hce : n - n0 + 1 ≤ R.cells := by omega
  have hce2 : n - n0 + 1 = n + 1 - n0 := by omega
  have hge : n0 ≤ n + 1 := by omega
  have rz := (am_hd h1).1 rfl
  have hcl := am_clamp rz
  have hneg : ¬ Int32.ofInt z < 0 := fun h => by have := (i32_lt rz R32_0).mp h; omega
  have hby : z.toNat * componentBytes .long ≤ 536870912 := by simp only [componentBytes]; omega
  refine va_newaK (atype := .long) (N := z.toNat) hx hb (hts _ hw) rfl hd rfl hneg hcl hby hce (am_ar1 (am_SLs hsh) (am_SL_mono hlim) (am_SL_mono h0) hc2) rfl (fun H1 cA e1 z1 o1 hA hF => ?_)
  have hcA : cA = E.2.2.2.2 23 := by
    have h := (hK.2 3 _ rfl).2
    have h : s.vm.findClass ("[" ++ (FieldType.toString .long)) = some (E.2.2.2.2 23) := h
    have hF : s.vm.findClass ("[" ++ (FieldType.toString .long)) = some cA := hF
    rw [h] at hF
    exact (Option.some.inj hF).symm
  have hkk := k (am_mk (am_R2 _) (am_tl h1)) h2 (am_Rng_fr h3) h4 hge H1 ls locs h5 (am_ws_fr (E := E) (m := m) ▸ am_push h6 o1 (by
    rw [hsh, am_ent_l]
    show H1[E.1 + n]? = _
    rw [← hsize, e1, hcA]
    refine congrArg some ?_
    show _ = vp_cell (E.2.2.2.2 23) (z.toNat, .inr (.inl _))
    rw [vp_cell_l]
    congr 1
    funext j
    unfold am_fr
    rw [if_pos rfl, hsh, am_ctA (by decide)]
    rfl)) (am_S_grow h8 z1 o1)
  refine W.cs (cells' := n + 1 - n0) (slots' := am_SL (n + 1) - am_SL n0) hce2 (am_ar2 (am_SLs hsh) (am_SL_mono h0)) ?_
  rw [List.map_cons, am_rv2 (Int.natCast_nonneg n), Int.toNat_natCast, ← hsize] at hkk
  exact hkk

theorem z_newB (G : am_G F cc own) {z : Int} {idx : Nat} (hw : Cond.classLink own idx RX0 ∈ am_TB) (h0z : 0 ≤ z) (hz : z ≤ 100000) (hsh : am_sh n = (24, z.toNat)) (hlim : am_lim F (n + 1)) (hd : decode cc pc = .ok (.anewarray idx, 3)) (hn : pc + 3 = nx) (k : am_Z F nx ((2, (n : Int)) :: st) loc (am_fr m n) (n + 1)) : am_Z F pc ((0, z) :: st) loc m n := by
  subst hn
  obtain ⟨p, l, e, R, s, mm, args, below, meth, c, Q, E, n0, cnt, d⟩ := F
  obtain ⟨hx, hb, hown, hts, hK, hX, hsz, hc1, hc2, hc3, hc4⟩ := G
  intro h1 h2 h3 h4 h0 H ls locs h5 h6 h8
  refine am_sized hsz h0 h6 h8 (fun hsize => ?_)
  have hlim : n + 1 ≤ n0 + cnt := hlim
  have hce : n - n0 + 1 ≤ R.cells := by omega
  have hce2 : n - n0 + 1 = n + 1 - n0 := by omega
  have hge : n0 ≤ n + 1 := by omega
  have rz := (am_hd h1).1 rfl
  have hcl := am_clamp rz
  have hneg : ¬ Int32.ofInt z < 0 := fun h => by have := (i32_lt rz R32_0).mp h; omega
  have hby : (Int32.ofInt z).toNatClampNeg * 4 ≤ 536870912 := by rw [hcl]; omega
  refine W.anew (n := Int32.ofInt z) hx hb hown (hts _ hw) (va_AO.use hX.2.2.2.2.2.1) rfl hd rfl hneg hby hce (by rw [hcl]; exact am_ar1 (am_SLs hsh) (am_SL_mono hlim) (am_SL_mono h0) hc2) (fun cA kA comp f1 f2 f3 f4 => ?_)
  generalize hH1 : H.push ({ cls := cA, slots := Array.replicate (Int32.ofInt z).toNatClampNeg .null, vm := .none } : Cell) = H1
  have z1 : H1.size = H.size + 1 := by rw [← hH1, Array.size_push]
  have e1 : H1[H.size]? = some (arrV cA (Int32.ofInt z).toNatClampNeg (fun _ => .null)) := by rw [← hH1, Array.getElem?_push_size, ← arrV_new]
  have o1 : ∀ q : Nat, q < H.size → H1[q]? = H[q]? := fun q hq => by rw [← hH1, Array.getElem?_push, if_neg (Nat.ne_of_lt hq)]
  have hcA : cA = E.2.2.2.2 24 := by
    obtain ⟨kA', comp', g1, g2, g3, g4⟩ := (hK.2 4 _ rfl).2
    rw [f1] at g4
    exact Option.some.inj g4
  have hkk := k (am_mk (am_R2 _) (am_tl h1)) h2 (am_Rng_fr h3) h4 hge H1 ls locs h5 (am_ws_fr (E := E) (m := m) ▸ am_push h6 o1 (by
    rw [hsh, am_ent_a (by decide)]
    show H1[E.1 + n]? = _
    rw [← hsize, e1, hcA, hcl]
    refine congrArg some ?_
    show _ = vp_cell (E.2.2.2.2 24) (z.toNat, .inr (.inr (.inr (.inr _))))
    rw [vp_cell_q]
    congr 1
    funext j
    unfold am_fr
    rw [if_pos rfl, hsh, am_ctA (by decide)]
    rfl)) (am_S_grow h8 z1 o1)
  refine W.cs (cells' := n + 1 - n0) (slots' := am_SL (n + 1) - am_SL n0) hce2 (by rw [hcl]; exact am_ar2 (am_SLs hsh) (am_SL_mono h0)) ?_
  rw [List.map_cons, am_rv2 (Int.natCast_nonneg n), Int.toNat_natCast, ← hsize] at hkk
  exact hkk

theorem z_newP (G : am_G F cc own) {z : Int} {idx : Nat} (hw : Cond.classLink own idx RX4 ∈ am_TB) (h0z : 0 ≤ z) (hz : z ≤ 100000) (hsh : am_sh n = (25, z.toNat)) (hlim : am_lim F (n + 1)) (hd : decode cc pc = .ok (.anewarray idx, 3)) (hn : pc + 3 = nx) (k : am_Z F nx ((2, (n : Int)) :: st) loc (am_fr m n) (n + 1)) : am_Z F pc ((0, z) :: st) loc m n := by
  subst hn
  obtain ⟨p, l, e, R, s, mm, args, below, meth, c, Q, E, n0, cnt, d⟩ := F
  obtain ⟨hx, hb, hown, hts, hK, hX, hsz, hc1, hc2, hc3, hc4⟩ := G
  intro h1 h2 h3 h4 h0 H ls locs h5 h6 h8
  refine am_sized hsz h0 h6 h8 (fun hsize => ?_)
  have hlim : n + 1 ≤ n0 + cnt := hlim
  have hce : n - n0 + 1 ≤ R.cells := by omega
  have hce2 : n - n0 + 1 = n + 1 - n0 := by omega
  have hge : n0 ≤ n + 1 := by omega
  have rz := (am_hd h1).1 rfl
  have hcl := am_clamp rz
  have hneg : ¬ Int32.ofInt z < 0 := fun h => by have := (i32_lt rz R32_0).mp h; omega
  have hby : (Int32.ofInt z).toNatClampNeg * 4 ≤ 536870912 := by rw [hcl]; omega
  refine W.anew (n := Int32.ofInt z) hx hb hown (hts _ hw) (va_AO.use hX.2.2.2.2.2.2) rfl hd rfl hneg hby hce (by rw [hcl]; exact am_ar1 (am_SLs hsh) (am_SL_mono hlim) (am_SL_mono h0) hc2) (fun cA kA comp f1 f2 f3 f4 => ?_)
  generalize hH1 : H.push ({ cls := cA, slots := Array.replicate (Int32.ofInt z).toNatClampNeg .null, vm := .none } : Cell) = H1
  have z1 : H1.size = H.size + 1 := by rw [← hH1, Array.size_push]
  have e1 : H1[H.size]? = some (arrV cA (Int32.ofInt z).toNatClampNeg (fun _ => .null)) := by rw [← hH1, Array.getElem?_push_size, ← arrV_new]
  have o1 : ∀ q : Nat, q < H.size → H1[q]? = H[q]? := fun q hq => by rw [← hH1, Array.getElem?_push, if_neg (Nat.ne_of_lt hq)]
  have hcA : cA = E.2.2.2.2 25 := by
    obtain ⟨kA', comp', g1, g2, g3, g4⟩ := (hK.2 5 _ rfl).2
    rw [f1] at g4
    exact Option.some.inj g4
  have hkk := k (am_mk (am_R2 _) (am_tl h1)) h2 (am_Rng_fr h3) h4 hge H1 ls locs h5 (am_ws_fr (E := E) (m := m) ▸ am_push h6 o1 (by
    rw [hsh, am_ent_a (by decide)]
    show H1[E.1 + n]? = _
    rw [← hsize, e1, hcA, hcl]
    refine congrArg some ?_
    show _ = vp_cell (E.2.2.2.2 25) (z.toNat, .inr (.inr (.inr (.inr _))))
    rw [vp_cell_q]
    congr 1
    funext j
    unfold am_fr
    rw [if_pos rfl, hsh, am_ctA (by decide)]
    rfl)) (am_S_grow h8 z1 o1)
  refine W.cs (cells' := n + 1 - n0) (slots' := am_SL (n + 1) - am_SL n0) hce2 (by rw [hcl]; exact am_ar2 (am_SLs hsh) (am_SL_mono h0)) ?_
  rw [List.map_cons, am_rv2 (Int.natCast_nonneg n), Int.toNat_natCast, ← hsize] at hkk
  exact hkk

/-- how many words a stack takes -/
def am_cats (st : List am_V) : Nat := (st.map fun v => if v.1 = 1 then 2 else 1).sum
theorem am_cats_eq (E : am_E) (st : List am_V) : ((st.map (am_rv E)).map fun v => v.category).sum = am_cats st := by
  unfold am_cats
  rw [List.map_map]
  congr 1
  exact List.map_congr_left (fun v _ => am_cat E v)
/-- part of an array copied over part of one -/
def am_cp (m : am_M) (z0 sp z1 dp len : Int) : am_M := fun o k => if o = z1 ∧ dp ≤ k ∧ k < dp + len then m z0 (sp + (k - dp)) else m o k
theorem z_copy (G : am_G F cc own) {z0 sp z1 dp len l0 l1 : Int} {idx : Nat} (hw : Cond.methodLink own idx arraycopyName ∈ am_TB) (ho0 : am_isA n z0 20 l0) (ho1 : am_isA n z1 20 l1) (g0 : 0 ≤ sp) (g1 : 0 ≤ dp) (g2 : 0 ≤ len) (g3 : sp + len ≤ l0) (g4 : dp + len ≤ l1) (hst : am_cats st ≤ 8) (hd : decode cc pc = .ok (.invokestatic idx, 3)) (hn : pc + 3 = nx) (k : am_Z F nx st loc (am_cp m z0 sp z1 dp len) n) : am_Z F pc ((0, len) :: (0, dp) :: (2, z1) :: (0, sp) :: (2, z0) :: st) loc m n := by
  subst hn
  obtain ⟨p, l, e, R, s, mm, args, below, meth, c, Q, E, n0, cnt, d⟩ := F
  obtain ⟨hx, hb, hown, hts, hK, hX, hsz, hc1, hc2, hc3, hc4⟩ := G
  intro h1 h2 h3 h4 h0 H ls locs h5 h6 h8
  have r2 := (am_hd h1).1 rfl
  have r1 := (am_hd (am_tl h1)).1 rfl
  have r0 := (am_hd (am_tl (am_tl (am_tl h1)))).1 rfl
  have hg0 := am_get_i (by decide) (by decide) (h := ho0) (E := E) (m := m)
  have hg1 := am_get_i (by decide) (by decide) (h := ho1) (E := E) (m := m)
  have hR : am_Rng (am_cp m z0 sp z1 dp len) n := by
    intro o ho k0 hk0
    unfold am_cp
    by_cases e : (o : Int) = z1 ∧ dp ≤ k0 ∧ (k0 : Int) < dp + len
    · rw [if_pos e]
      have h := h3 z0.toNat ho0.2.1 (sp + (k0 - dp)).toNat (by rw [am_shape ho0.2.2.1 ho0.2.2.2]; show _ < l0.toNat; omega)
      rw [am_shape ho0.2.2.1 ho0.2.2.2, am_ctA (by decide), am_toNat ho0.1, am_toNat (by omega)] at h
      have eo : o = z1.toNat := by omega
      rw [eo, am_shape ho1.2.2.1 ho1.2.2.2, am_ctA (by decide)]
      exact h
    · rw [if_neg e]
      exact h3 o ho k0 hk0
  have hs : (am_ws E m n).set z1.toNat (E.1 + z1.toNat, .inl (E.2.2.2.2 20, (l1.toNat, .inl (va_cpy (fun j : Nat => Int32.ofInt (m z0 j)) (fun j : Nat => Int32.ofInt (m z1 j)) (Int32.ofInt sp).toNatClampNeg (Int32.ofInt dp).toNatClampNeg (Int32.ofInt len).toNatClampNeg)))) = am_ws E (am_cp m z0 sp z1 dp len) n := by
    apply List.ext_getElem?
    intro i
    by_cases hi : i < n
    · rw [am_ws_get hi]
      by_cases hio : i = z1.toNat
      · subst hio
        rw [List.getElem?_set_self (by rw [am_ws_len]; exact hi), am_shape ho1.2.2.1 ho1.2.2.2, am_ent_i (by decide) (by decide), am_toNat ho1.1]
        congr 6
        funext j
        rw [am_clamp r0, am_clamp r1, am_clamp r2]
        unfold va_cpy am_cp
        by_cases c : dp.toNat ≤ j ∧ j < dp.toNat + len.toNat
        · rw [if_pos c, if_pos ⟨rfl, by omega, by omega⟩]
          show Int32.ofInt (m z0 ((sp.toNat + (j - dp.toNat) : Nat) : Int)) = _
          rw [show ((sp.toNat + (j - dp.toNat) : Nat) : Int) = sp + ((j : Int) - dp) from by omega]
        · rw [if_neg c, if_neg (fun q => c ⟨by omega, by omega⟩)]
      · rw [List.getElem?_set_ne (Ne.symm hio), am_ws_get hi]
        congr 3
        funext z
        unfold am_cp
        rw [if_neg]
        rintro ⟨q, -⟩
        exact hio (by omega)
    · rw [List.getElem?_eq_none (by rw [List.length_set, am_ws_len]; omega), List.getElem?_eq_none (by rw [am_ws_len]; omega)]
  simp only [List.map_cons]
  rw [am_rv2 ho0.1, am_rv2 ho1.1]
  refine va_copyi hx hb h5.1.symm hown (hts _ hw) (hts _ ntw) (hts _ stw) (hts _ nw_RJ10) hK h6 am_ws_D h8 _ _ 0 0 hg0 hg1 rfl rfl rfl (fun h => by have := (i32_lt r0 R32_0).mp h; omega) (fun h => by have := (i32_lt r1 R32_0).mp h; omega) (fun h => by have := (i32_lt r2 R32_0).mp h; omega) (by rw [am_clamp r0, am_clamp r2]; omega) (by rw [am_clamp r1, am_clamp r2]; omega) (fun i hi => rfl) (by omega) (by
    have : nativeFrameWords "java/lang/System" "arraycopy" 5 ≤ 30 := by decide +kernel
    rw [am_cats_eq]; omega) hd (fun H1 locs1 q1 _ q3 => ?_)
  exact k (am_tl (am_tl (am_tl (am_tl (am_tl h1))))) h2 hR h4 h0 H1 ls locs1 h5 (hs ▸ q1) q3
theorem z_objInit (G : am_G F cc own) {z : Int} {idx : Nat} (h0z : 0 ≤ z) (hw : Cond.methodLink own idx Lib.objectInit ∈ am_TB) (hst : am_cats st ≤ 8) (hd : decode cc pc = .ok (.invokespecial idx, 3)) (hn : pc + 3 = nx) (k : am_Z F nx st loc m n) : am_Z F pc ((2, z) :: st) loc m n := by
  subst hn
  obtain ⟨p, l, e, R, s, mm, args, below, meth, c, Q, E, n0, cnt, d⟩ := F
  obtain ⟨hx, hb, hown, hts, hK, hX, hsz, hc1, hc2, hc3, hc4⟩ := G
  intro h1 h2 h3 h4 h0 H ls locs h5 h6 h8
  rw [List.map_cons, am_rv2 h0z]
  exact W.objInit hx hb hown (hts _ hw) (hts _ oiw) (hts _ ocw) rfl h5.1 rfl hd (by omega) (by
    show 2 * 0 + _ + 12 ≤ _
    rw [am_cats_eq]; omega) (k (am_tl h1) h2 h3 h4 h0 H ls locs h5 h6 h8)
theorem z_mmin (G : am_G F cc own) {a b : Int} {idx : Nat} (hw : Cond.methodLink own idx Lib.Math.min.name ∈ am_TB) (hst : am_cats st ≤ 8) (hd : decode cc pc = .ok (.invokestatic idx, 3)) (hn : pc + 3 = nx) (k : am_Z F nx ((0, if b < a then b else a) :: st) loc m n) (hlim : am_lim F n) : am_Z F pc ((0, b) :: (0, a) :: st) loc m n := by
  subst hn
  obtain ⟨p, l, e, R, s, mm, args, below, meth, c, Q, E, n0, cnt, d⟩ := F
  obtain ⟨hx, hb, hown, hts, hK, hX, hsz, hc1, hc2, hc3, hc4⟩ := G
  intro h1 h2 h3 h4 h0 H ls locs h5 h6 h8
  have rb := (am_hd h1).1 rfl
  have ra := (am_hd (am_tl h1)).1 rfl
  have hlim : n ≤ n0 + cnt := hlim
  have hce : n - n0 ≤ R.cells := by omega
  have hfr : 1 ≤ R.frames := by omega
  have hlo : am_cats st + 13 ≤ R.locals := by omega
  have hkk := k (am_mk (am_R0 (by split <;> assumption)) (am_tl (am_tl h1))) h2 h3 h4 h0 H ls locs h5 h6 h8
  refine va_mmin hx hb h5.1.symm hown (hts _ hw) (hts _ sw_J9_min_7cf53) (hts _ nw_RJ9) (hts _ cw_J9_min_7cf53) hfr (by rw [am_cats_eq]; exact hlo) hce (am_ar5 (am_SL_mono hlim) hc2) hd ?_
  have e : (if Int32.ofInt b < Int32.ofInt a then Int32.ofInt b else Int32.ofInt a) = Int32.ofInt (if b < a then b else a) := by
    by_cases c : b < a
    · rw [if_pos c, if_pos ((i32_lt rb ra).mpr c)]
    · rw [if_neg c, if_neg (fun h => c ((i32_lt rb ra).mp h))]
  show W _ _ _ _ _ _ _ _ _ _ _ _ _ _ _ (F0 _ _ _ (Value.int (if Int32.ofInt b < Int32.ofInt a then Int32.ofInt b else Int32.ofInt a) :: _))
  rw [e]
  exact hkk
theorem z_mmax (G : am_G F cc own) {a b : Int} {idx : Nat} (hw : Cond.methodLink own idx Lib.Math.max.name ∈ am_TB) (hst : am_cats st ≤ 8) (hd : decode cc pc = .ok (.invokestatic idx, 3)) (hn : pc + 3 = nx) (k : am_Z F nx ((0, if a < b then b else a) :: st) loc m n) (hlim : am_lim F n) : am_Z F pc ((0, b) :: (0, a) :: st) loc m n := by
  subst hn
  obtain ⟨p, l, e, R, s, mm, args, below, meth, c, Q, E, n0, cnt, d⟩ := F
  obtain ⟨hx, hb, hown, hts, hK, hX, hsz, hc1, hc2, hc3, hc4⟩ := G
  intro h1 h2 h3 h4 h0 H ls locs h5 h6 h8
  have rb := (am_hd h1).1 rfl
  have ra := (am_hd (am_tl h1)).1 rfl
  have hlim : n ≤ n0 + cnt := hlim
  have hce : n - n0 ≤ R.cells := by omega
  have hfr : 1 ≤ R.frames := by omega
  have hlo : am_cats st + 13 ≤ R.locals := by omega
  have hkk := k (am_mk (am_R0 (by split <;> assumption)) (am_tl (am_tl h1))) h2 h3 h4 h0 H ls locs h5 h6 h8
  refine va_mmax hx hb h5.1.symm hown (hts _ hw) (hts _ sw_J9_max_7cf53) (hts _ nw_RJ9) (hts _ cw_J9_max_7cf53) hfr (by rw [am_cats_eq]; exact hlo) hce (am_ar5 (am_SL_mono hlim) hc2) hd ?_
  have e : (if Int32.ofInt a < Int32.ofInt b then Int32.ofInt b else Int32.ofInt a) = Int32.ofInt (if a < b then b else a) := by
    by_cases c : a < b
    · rw [if_pos c, if_pos ((i32_lt ra rb).mpr c)]
    · rw [if_neg c, if_neg (fun h => c ((i32_lt ra rb).mp h))]
  show W _ _ _ _ _ _ _ _ _ _ _ _ _ _ _ (F0 _ _ _ (Value.int (if Int32.ofInt a < Int32.ofInt b then Int32.ofInt b else Int32.ofInt a) :: _))
  rw [e]
  exact hkk


theorem am_Wd.vm {E : am_E} {m : am_M} {n : Nat} {u U : State} (h : am_Wd E m n u) (h1 : U.vm = u.vm) (h2 : U.heap = u.heap) : am_Wd E m n U := by
  obtain ⟨g1, g2, g3, g4⟩ := h
  refine ⟨by rw [h2]; exact g1, by rw [h2]; exact g2, va_K.moved (by rw [h1]; exact Vm.Alike.refl _) g3, g4.vm h1 h2⟩
/-- the room of a method at depth d that makes cnt objects, n there -/
def am_rm (d cnt n : Nat) : Room := { frames := d + 1, cells := cnt, slots := am_SL (n + cnt) - am_SL n, locals := 60 * (d + 1) }
def am_Pc (E : am_E) (as : List am_V) (m : am_M) (n : Nat) : Array Value → State → Prop := fun a U => a = (as.map (am_rv E)).toArray ∧ am_Wd E m n U
abbrev am_T3 : Type := List am_V → am_K → am_M → Nat → Prop
/-- a method does what M says: wherever M holds of the arguments and the memory, it returns, and what comes back meets post -/
def am_Snd (y : MethodName) (bytes : ByteArray) (maxL : Nat) (ret : Option FieldType) (cnt d : Nat) (M : am_T3) : Prop := ∀ (l : Launch) (E : am_E) (as : List am_V) (post : am_K) (m : am_M) (n : Nat), (∀ v ∈ as, am_R v) → am_Rng m n → M as post m n → Met l y (.code y bytes maxL ret :: am_TB) (am_rm d cnt n) (am_Pc E as m n) (am_Qc E (fun r m' n' => n' = n + cnt ∧ post r m' n')) cnt (am_SL (n + cnt) - am_SL n) (am_A E)
theorem am_Pc_blind {E : am_E} {as : List am_V} {m : am_M} {n : Nat} : FrameBlind (am_Pc E as m n) := fun a U g mk h => ⟨h.1, h.2.vm rfl rfl⟩
theorem am_goodTB {big : List Cond} {c0 : Cond} (h0 : c0 ∈ big) (hg : (c0.onTables && c0.keeps) = true ∨ ∃ ty, c0 = .arrayClass ty) (hb : ∀ w ∈ am_TB, w ∈ big) : GoodIn big (c0 :: am_TB) := by
  intro w hw
  rcases List.mem_cons.mp hw with rfl | hw
  · exact ⟨h0, hg⟩
  · exact ⟨hb w hw, good_of_word (List.mem_filter.mp hw).2⟩
/-- what goes on behind a call -/
theorem am_after {p : Program} {l : Launch} {e : Env} {R : Room} {s : State} {mm : MethodId} {args : Array Value} {below : List Frame} {meth : Method} {c : Code} {E : am_E} {n0 n cnt : Nat} {H : Heap} {locs : List Loc} {ls : Array Slot} {Q : State → Prop} {a : Array Value} {K : am_K} {stv : List Value} {rest : List am_V} {pc : Nat} (hsz : s.heap.size = E.1 + n0) (h0 : n0 ≤ n)
    (hr : va_Run p l e R s mm args below meth c H locs (n - n0) (am_SL n - am_SL n0) cnt (am_SL (n + cnt) - am_SL n) (F0 mm pc ls stv) (rest.map (am_rv E)) (am_Qc E (fun r m' n' => n' = n + cnt ∧ K r m' n') a) (am_A E)) (h8 : va_S (fun q => E.1 ≤ q) s.heap H locs)
    (kk : ∀ (r : Option am_V) (m' : am_M), K r m' (n + cnt) → (∀ v, r = some v → am_R v) → am_Rng m' (n + cnt) → ∀ (H1 : Heap) (locs1 : List Loc), va_P E.2.2.2.1 vwCl (am_ws E m' (n + cnt)) H1 → va_S (fun q => E.1 ≤ q) s.heap H1 locs1 → W p l e R s mm args below meth c H1 locs1 (n + cnt - n0) (am_SL (n + cnt) - am_SL n0) Q (F0 mm (pc + 3) ls ((r.toList ++ rest).map (am_rv E)))) : W p l e R s mm args below meth c H locs (n - n0) (am_SL n - am_SL n0) Q (F0 mm pc ls stv) := by
  intro T hT X
  obtain ⟨v, st₀, t, T', L, g0, X', hL, e1, e2, ⟨r, m', n', hv, ⟨rfl, hp⟩, hRr, hRng, hWd, hgz, hfr⟩, st⟩ := hr T hT X
  have hv : v = r.map (am_rv E) := by cases hv; rfl
  subst hv
  have hce : n - n0 + cnt = n + cnt - n0 := by omega
  have hkk := kk r m' hp hRr hRng T'.heap (locs ++ L) (e1 ▸ hWd.2.1) ⟨by rw [e1]; rw [g0] at hgz; exact Nat.le_trans h8.1 hgz, fun q a1 a2 => by
      rw [e1, hfr q (by rw [g0]; exact Nat.lt_of_lt_of_le a1 h8.1) a2, g0]
      exact h8.2.1 q a1 a2, fun q hq => by
      rcases List.mem_append.mp hq with h | h
      · exact h8.2.2 q h
      · exact hL q h⟩
  have es : (r.map (am_rv E)).toList ++ rest.map (am_rv E) = (r.toList ++ rest).map (am_rv E) := by cases r <;> rfl
  obtain ⟨t2, a1, b1⟩ := W.cs hce (am_ar4 (am_SL_mono (Nat.le_add_right n cnt)) (am_SL_mono h0)) hkk T' rfl X'
  refine ⟨t2, st t2 ?_, b1⟩
  show Steps p.tables e below (T'.setTop (F0 mm (pc + 3) ls ((r.map (am_rv E)).toList ++ rest.map (am_rv E)))) t2
  rw [es]
  exact a1

theorem z_callV (G : am_G F cc own) {y : MethodName} {bytes : ByteArray} {maxL : Nat} {ret : Option FieldType} {cj dj : Nat} {M : am_T3} {as : List am_V} {K : am_K} {idx : Nat} {z : Int} {ci : Nat} (hci : ci < 13) (hyc : y.cls = am_C ci) (hz : am_is n z ci) (hM : am_Snd y bytes maxL ret cj dj M) (hdj : dj + 1 ≤ am_d F) (hml : maxL ≤ 41) (hlim : am_lim F (n + cj)) (hl : Cond.methodLink own idx y ∈ am_TB) (hi : Cond.instanceMethod y ∈ am_TB) (hs : Cond.selects y.cls y y ∈ am_TB) (hcode : Cond.code y bytes maxL ret ∈ am_TB) (hini : Cond.initialized y.cls ∈ am_TB) (hpar : (parseMethodDescriptor y.desc).map (fun d => d.parameters.length) = some as.length) (hst : am_cats st ≤ 8) (hd : decode cc pc = .ok (.invokevirtual idx, 3)) (hn : pc + 3 = nx) (hm : M ((2, z) :: as) K m n) (k : ∀ r m', K r m' (n + cj) → am_Z F nx (r.toList ++ st) loc m' (n + cj)) : am_Z F pc (as.reverse ++ (2, z) :: st) loc m n := by
  subst hn
  obtain ⟨p, l, e, R, s, mm, args, below, meth, c, Q, E, n0, cnt, d⟩ := F
  obtain ⟨hx, hb, hown, hts, hK, hX, hsz, hc1, hc2, hc3, hc4⟩ := G
  intro h1 h2 h3 h4 h0 H ls locs h5 h6 h8
  have hcall : 8 + (maxL + 11) + 60 * (dj + 1) ≤ R.locals := by
    have : dj + 1 ≤ d := hdj
    have : 60 * (dj + 1 + 1) ≤ R.locals := Nat.le_trans (Nat.mul_le_mul_left 60 (by omega)) hc4
    omega
  have hfrm : dj + 1 + 1 ≤ R.frames := by
    have : dj + 1 ≤ d := hdj
    omega
  have hlim : n + cj ≤ n0 + cnt := hlim
  have hce : n - n0 + cj ≤ R.cells := by omega
  have hge : n0 ≤ n + cj := by omega
  have hslo := am_ar3 (am_SL_mono (Nat.le_add_right n cj)) (am_SL_mono hlim) (am_SL_mono h0) hc2
  have hcatr : 2 * (F0 mm pc ls (List.map (am_rv E) (as.reverse ++ (2, z) :: st))).monitorRoom + ((st.map (am_rv E)).map fun v => v.category).sum ≤ 8 := by
    rw [am_cats_eq]
    show 2 * 0 + am_cats st ≤ 8
    omega
  have hGd : GoodIn am_TB (.code y bytes maxL ret :: am_TB) := am_goodTB hcode (Or.inl rfl) (fun w h => h)

  have hRa : ∀ v ∈ as, am_R v := fun v hv => h1 v (List.mem_append_left _ (List.mem_reverse.mpr hv))
  have hRs : ∀ v ∈ st, am_R v := fun v hv => h1 v (List.mem_append_right _ (List.mem_cons_of_mem _ hv))
  have hMet := hM l E ((2, z) :: as) K m n (am_mk (am_R2 z) hRa) h3 hm
  have hstk : (as.reverse ++ (2, z) :: st).map (am_rv E) = (as.map (am_rv E)).reverse ++ .ref (E.1 + z.toNat) :: st.map (am_rv E) := by simp [am_rv2 hz.1]
  refine am_sized hsz h0 h6 h8 (fun hsize => ?_)
  have hpc : ∀ U : State, U.heap = H → s.WarmedH U.vm → am_Pc E ((2, z) :: as) m n (Value.ref (E.1 + z.toNat) :: as.map (am_rv E)).toArray U := fun U hU hW => ⟨by rw [List.map_cons, am_rv2 hz.1], by rw [hU]; exact hsize, by rw [hU]; exact h6, va_K.moved hW.alike hK, hX.go hW (fun a g1 g2 => by rw [hU]; exact h8.2.1 a g1 g2)⟩
  refine am_after (K := K) (rest := st) (a := (Value.ref (E.1 + z.toNat) :: as.map (am_rv E)).toArray) hsz h0 (va_runV (n := as.length) (As := as.map (am_rv E)) (C := am_C ci) ⟨hx, hb, rfl, hown, hts⟩ hMet (show CallW R s args own (am_C ci) idx y bytes maxL ret (.code y bytes maxL ret :: am_TB) (am_rm dj cj n) cj (am_SL (n + cj) - am_SL n) as.length from ⟨callB_of (own := own) (index := idx) as.length hts hGd rfl rfl rfl (hts _ hini) (hts _ hl) (am_plain hci hyc hpar) ⟨hfrm, hcall⟩, hts _ hi, hyc ▸ hts _ hs⟩) ⟨am_Pc_blind, va_recv hK h6 (am_cl ci hci) (am_get_o hci hz), hpc⟩ rfl (by simp) h5.1 hstk hcatr hd ⟨hce, hslo⟩) h8 (fun r m' g1 g2 g3 H1 locs1 g4 g5 => k r m' g1 (fun v hv => by
      rcases List.mem_append.mp hv with h | h
      · exact g2 v (by cases r <;> simp at h ⊢; exact h.symm)
      · exact hRs v h) h2 g3 h4 hge H1 ls locs1 h5 g4 g5)
theorem z_callVN (G : am_G F cc own) {y : MethodName} {bytes : ByteArray} {maxL : Nat} {ret : Option FieldType} {cj dj : Nat} {M : am_T3} {as : List am_V} {K : am_K} {idx : Nat} {z : Int} {ci : Nat} (hci : ci < 13) (hyc : y.cls = am_C ci) (hz : am_is n z ci) (hM : am_Snd y bytes maxL ret cj dj M) (hdj : dj + 1 ≤ am_d F) (hml : maxL ≤ 41) (hlim : am_lim F (n + cj)) (hl : Cond.methodLinkNest own idx y RX11 ∈ am_nestW) (hi : Cond.instanceMethod y ∈ am_TB) (hs : Cond.selects y.cls y y ∈ am_TB) (hcode : Cond.code y bytes maxL ret ∈ am_TB) (hini : Cond.initialized y.cls ∈ am_TB) (hpar : (parseMethodDescriptor y.desc).map (fun d => d.parameters.length) = some as.length) (hst : am_cats st ≤ 8) (hd : decode cc pc = .ok (.invokevirtual idx, 3)) (hn : pc + 3 = nx) (hm : M ((2, z) :: as) K m n) (k : ∀ r m', K r m' (n + cj) → am_Z F nx (r.toList ++ st) loc m' (n + cj)) : am_Z F pc (as.reverse ++ (2, z) :: st) loc m n := by
  subst hn
  obtain ⟨p, l, e, R, s, mm, args, below, meth, c, Q, E, n0, cnt, d⟩ := F
  obtain ⟨hx, hb, hown, hts, hK, hX, hsz, hc1, hc2, hc3, hc4⟩ := G
  intro h1 h2 h3 h4 h0 H ls locs h5 h6 h8
  have hcall : 8 + (maxL + 11) + 60 * (dj + 1) ≤ R.locals := by
    have : dj + 1 ≤ d := hdj
    have : 60 * (dj + 1 + 1) ≤ R.locals := Nat.le_trans (Nat.mul_le_mul_left 60 (by omega)) hc4
    omega
  have hfrm : dj + 1 + 1 ≤ R.frames := by
    have : dj + 1 ≤ d := hdj
    omega
  have hlim : n + cj ≤ n0 + cnt := hlim
  have hce : n - n0 + cj ≤ R.cells := by omega
  have hge : n0 ≤ n + cj := by omega
  have hslo := am_ar3 (am_SL_mono (Nat.le_add_right n cj)) (am_SL_mono hlim) (am_SL_mono h0) hc2
  have hcatr : 2 * (F0 mm pc ls (List.map (am_rv E) (as.reverse ++ (2, z) :: st))).monitorRoom + ((st.map (am_rv E)).map fun v => v.category).sum ≤ 8 := by
    rw [am_cats_eq]
    show 2 * 0 + am_cats st ≤ 8
    omega
  have hGd : GoodIn am_TB (.code y bytes maxL ret :: am_TB) := am_goodTB hcode (Or.inl rfl) (fun w h => h)

  have hRa : ∀ v ∈ as, am_R v := fun v hv => h1 v (List.mem_append_left _ (List.mem_reverse.mpr hv))
  have hRs : ∀ v ∈ st, am_R v := fun v hv => h1 v (List.mem_append_right _ (List.mem_cons_of_mem _ hv))
  have hMet := hM l E ((2, z) :: as) K m n (am_mk (am_R2 z) hRa) h3 hm
  have hstk : (as.reverse ++ (2, z) :: st).map (am_rv E) = (as.map (am_rv E)).reverse ++ .ref (E.1 + z.toNat) :: st.map (am_rv E) := by simp [am_rv2 hz.1]
  refine am_sized hsz h0 h6 h8 (fun hsize => ?_)
  have hpc : ∀ U : State, U.heap = H → s.WarmedH U.vm → am_Pc E ((2, z) :: as) m n (Value.ref (E.1 + z.toNat) :: as.map (am_rv E)).toArray U := fun U hU hW => ⟨by rw [List.map_cons, am_rv2 hz.1], by rw [hU]; exact hsize, by rw [hU]; exact h6, va_K.moved hW.alike hK, hX.go hW (fun a g1 g2 => by rw [hU]; exact h8.2.1 a g1 g2)⟩
  refine am_after (K := K) (rest := st) (a := (Value.ref (E.1 + z.toNat) :: as.map (am_rv E)).toArray) hsz h0 (va_runVN (n := as.length) (As := as.map (am_rv E)) (C := am_C ci) (host := RX11) ⟨hx, hb, rfl, hown, hts⟩ hMet (show va_CN R s args own idx y RX11 bytes maxL ret (.code y bytes maxL ret :: am_TB) (am_rm dj cj n) cj (am_SL (n + cj) - am_SL n) as.length ∧ (Cond.instanceMethod y).before args s = true ∧ (Cond.selects (am_C ci) y y).before args s = true from ⟨va_cnB as.length hts hGd rfl rfl rfl (hX.1 _ hl) (hts _ hini) (am_plain hci hyc hpar) ⟨hfrm, hcall⟩, hts _ hi, hyc ▸ hts _ hs⟩) ⟨am_Pc_blind, va_recv hK h6 (am_cl ci hci) (am_get_o hci hz), hpc⟩ rfl (by simp) h5.1 hstk hcatr hd ⟨hce, hslo⟩) h8 (fun r m' g1 g2 g3 H1 locs1 g4 g5 => k r m' g1 (fun v hv => by
      rcases List.mem_append.mp hv with h | h
      · exact g2 v (by cases r <;> simp at h ⊢; exact h.symm)
      · exact hRs v h) h2 g3 h4 hge H1 ls locs1 h5 g4 g5)
theorem z_callS (G : am_G F cc own) {y : MethodName} {bytes : ByteArray} {maxL : Nat} {ret : Option FieldType} {cj dj : Nat} {M : am_T3} {as : List am_V} {K : am_K} {idx : Nat} (hM : am_Snd y bytes maxL ret cj dj M) (hdj : dj + 1 ≤ am_d F) (hml : maxL ≤ 41) (hlim : am_lim F (n + cj)) (hl : Cond.methodLink own idx y ∈ am_TB) (hs : Cond.static y ∈ am_TB) (hpl : y.cls ≠ "java/lang/invoke/MethodHandle" ∧ y.cls ≠ "java/lang/invoke/VarHandle") (hcode : Cond.code y bytes maxL ret ∈ am_TB) (hini : Cond.initialized y.cls ∈ am_TB) (hpar : (parseMethodDescriptor y.desc).map (fun d => d.parameters.length) = some as.length) (hst : am_cats st ≤ 8) (hd : decode cc pc = .ok (.invokestatic idx, 3)) (hn : pc + 3 = nx) (hm : M as K m n) (k : ∀ r m', K r m' (n + cj) → am_Z F nx (r.toList ++ st) loc m' (n + cj)) : am_Z F pc (as.reverse ++ st) loc m n := by
  subst hn
  obtain ⟨p, l, e, R, s, mm, args, below, meth, c, Q, E, n0, cnt, d⟩ := F
  obtain ⟨hx, hb, hown, hts, hK, hX, hsz, hc1, hc2, hc3, hc4⟩ := G
  intro h1 h2 h3 h4 h0 H ls locs h5 h6 h8
  have hcall : 8 + (maxL + 11) + 60 * (dj + 1) ≤ R.locals := by
    have : dj + 1 ≤ d := hdj
    have : 60 * (dj + 1 + 1) ≤ R.locals := Nat.le_trans (Nat.mul_le_mul_left 60 (by omega)) hc4
    omega
  have hfrm : dj + 1 + 1 ≤ R.frames := by
    have : dj + 1 ≤ d := hdj
    omega
  have hlim : n + cj ≤ n0 + cnt := hlim
  have hce : n - n0 + cj ≤ R.cells := by omega
  have hge : n0 ≤ n + cj := by omega
  have hslo := am_ar3 (am_SL_mono (Nat.le_add_right n cj)) (am_SL_mono hlim) (am_SL_mono h0) hc2
  have hcatr : 2 * (F0 mm pc ls (List.map (am_rv E) (as.reverse ++ st))).monitorRoom + ((st.map (am_rv E)).map fun v => v.category).sum ≤ 8 := by
    rw [am_cats_eq]
    show 2 * 0 + am_cats st ≤ 8
    omega
  have hGd : GoodIn am_TB (.code y bytes maxL ret :: am_TB) := am_goodTB hcode (Or.inl rfl) (fun w h => h)

  have hRa : ∀ v ∈ as, am_R v := fun v hv => h1 v (List.mem_append_left _ (List.mem_reverse.mpr hv))
  have hRs : ∀ v ∈ st, am_R v := fun v hv => h1 v (List.mem_append_right _ (hv))
  have hMet := hM l E as K m n (hRa) h3 hm
  have hstk : (as.reverse ++ st).map (am_rv E) = (as.map (am_rv E)).reverse ++ st.map (am_rv E) := by simp
  refine am_sized hsz h0 h6 h8 (fun hsize => ?_)
  have hpc : ∀ U : State, U.heap = H → s.WarmedH U.vm → am_Pc E as m n (as.map (am_rv E)).toArray U := fun U hU hW => ⟨rfl, by rw [hU]; exact hsize, by rw [hU]; exact h6, va_K.moved hW.alike hK, hX.go hW (fun a g1 g2 => by rw [hU]; exact h8.2.1 a g1 g2)⟩
  refine am_after (K := K) (rest := st) (a := (as.map (am_rv E)).toArray) hsz h0 (va_runS (n := as.length) (As := as.map (am_rv E)) ⟨hx, hb, rfl, hown, hts⟩ hMet (show CallB R s args own idx y bytes maxL ret (.code y bytes maxL ret :: am_TB) (am_rm dj cj n) cj (am_SL (n + cj) - am_SL n) as.length ∧ (Cond.static y).before args s = true from ⟨callB_of (own := own) (index := idx) as.length hts hGd rfl rfl rfl (hts _ hini) (hts _ hl) ⟨hpl.1, hpl.2, hpar⟩ ⟨hfrm, hcall⟩, hts _ hs⟩) ⟨am_Pc_blind, hpc⟩ rfl (by simp) h5.1 hstk hcatr hd ⟨hce, hslo⟩) h8 (fun r m' g1 g2 g3 H1 locs1 g4 g5 => k r m' g1 (fun v hv => by
      rcases List.mem_append.mp hv with h | h
      · exact g2 v (by cases r <;> simp at h ⊢; exact h.symm)
      · exact hRs v h) h2 g3 h4 hge H1 ls locs1 h5 g4 g5)
theorem z_callSN (G : am_G F cc own) {y : MethodName} {bytes : ByteArray} {maxL : Nat} {ret : Option FieldType} {cj dj : Nat} {M : am_T3} {as : List am_V} {K : am_K} {idx : Nat} (hM : am_Snd y bytes maxL ret cj dj M) (hdj : dj + 1 ≤ am_d F) (hml : maxL ≤ 41) (hlim : am_lim F (n + cj)) (hl : Cond.methodLinkNest own idx y RX11 ∈ am_nestW) (hs : Cond.static y ∈ am_TB) (hpl : y.cls ≠ "java/lang/invoke/MethodHandle" ∧ y.cls ≠ "java/lang/invoke/VarHandle") (hcode : Cond.code y bytes maxL ret ∈ am_TB) (hini : Cond.initialized y.cls ∈ am_TB) (hpar : (parseMethodDescriptor y.desc).map (fun d => d.parameters.length) = some as.length) (hst : am_cats st ≤ 8) (hd : decode cc pc = .ok (.invokestatic idx, 3)) (hn : pc + 3 = nx) (hm : M as K m n) (k : ∀ r m', K r m' (n + cj) → am_Z F nx (r.toList ++ st) loc m' (n + cj)) : am_Z F pc (as.reverse ++ st) loc m n := by
  subst hn
  obtain ⟨p, l, e, R, s, mm, args, below, meth, c, Q, E, n0, cnt, d⟩ := F
  obtain ⟨hx, hb, hown, hts, hK, hX, hsz, hc1, hc2, hc3, hc4⟩ := G
  intro h1 h2 h3 h4 h0 H ls locs h5 h6 h8
  have hcall : 8 + (maxL + 11) + 60 * (dj + 1) ≤ R.locals := by
    have : dj + 1 ≤ d := hdj
    have : 60 * (dj + 1 + 1) ≤ R.locals := Nat.le_trans (Nat.mul_le_mul_left 60 (by omega)) hc4
    omega
  have hfrm : dj + 1 + 1 ≤ R.frames := by
    have : dj + 1 ≤ d := hdj
    omega
  have hlim : n + cj ≤ n0 + cnt := hlim
  have hce : n - n0 + cj ≤ R.cells := by omega
  have hge : n0 ≤ n + cj := by omega
  have hslo := am_ar3 (am_SL_mono (Nat.le_add_right n cj)) (am_SL_mono hlim) (am_SL_mono h0) hc2
  have hcatr : 2 * (F0 mm pc ls (List.map (am_rv E) (as.reverse ++ st))).monitorRoom + ((st.map (am_rv E)).map fun v => v.category).sum ≤ 8 := by
    rw [am_cats_eq]
    show 2 * 0 + am_cats st ≤ 8
    omega
  have hGd : GoodIn am_TB (.code y bytes maxL ret :: am_TB) := am_goodTB hcode (Or.inl rfl) (fun w h => h)

  have hRa : ∀ v ∈ as, am_R v := fun v hv => h1 v (List.mem_append_left _ (List.mem_reverse.mpr hv))
  have hRs : ∀ v ∈ st, am_R v := fun v hv => h1 v (List.mem_append_right _ (hv))
  have hMet := hM l E as K m n (hRa) h3 hm
  have hstk : (as.reverse ++ st).map (am_rv E) = (as.map (am_rv E)).reverse ++ st.map (am_rv E) := by simp
  refine am_sized hsz h0 h6 h8 (fun hsize => ?_)
  have hpc : ∀ U : State, U.heap = H → s.WarmedH U.vm → am_Pc E as m n (as.map (am_rv E)).toArray U := fun U hU hW => ⟨rfl, by rw [hU]; exact hsize, by rw [hU]; exact h6, va_K.moved hW.alike hK, hX.go hW (fun a g1 g2 => by rw [hU]; exact h8.2.1 a g1 g2)⟩
  refine am_after (K := K) (rest := st) (a := (as.map (am_rv E)).toArray) hsz h0 (va_runSN (n := as.length) (As := as.map (am_rv E)) (host := RX11) ⟨hx, hb, rfl, hown, hts⟩ hMet (show va_CN R s args own idx y RX11 bytes maxL ret (.code y bytes maxL ret :: am_TB) (am_rm dj cj n) cj (am_SL (n + cj) - am_SL n) as.length ∧ (Cond.static y).before args s = true ∧ True from ⟨va_cnB as.length hts hGd rfl rfl rfl (hX.1 _ hl) (hts _ hini) ⟨hpl.1, hpl.2, hpar⟩ ⟨hfrm, hcall⟩, hts _ hs, trivial⟩) ⟨am_Pc_blind, hpc⟩ rfl (by simp) h5.1 hstk hcatr hd ⟨hce, hslo⟩) h8 (fun r m' g1 g2 g3 H1 locs1 g4 g5 => k r m' g1 (fun v hv => by
      rcases List.mem_append.mp hv with h | h
      · exact g2 v (by cases r <;> simp at h ⊢; exact h.symm)
      · exact hRs v h) h2 g3 h4 hge H1 ls locs1 h5 g4 g5)
theorem z_callI (G : am_G F cc own) {y : MethodName} {bytes : ByteArray} {maxL : Nat} {ret : Option FieldType} {cj dj : Nat} {M : am_T3} {as : List am_V} {K : am_K} {idx : Nat} {z : Int} (hz : 0 ≤ z) (hM : am_Snd y bytes maxL ret cj dj M) (hdj : dj + 1 ≤ am_d F) (hml : maxL ≤ 41) (hlim : am_lim F (n + cj)) (hl : Cond.methodLink own idx y ∈ am_TB) (hi : Cond.instanceMethod y ∈ am_TB) (hnm : y.name = "<init>") (hrt : ret = none) (hpl : y.cls ≠ "java/lang/invoke/MethodHandle" ∧ y.cls ≠ "java/lang/invoke/VarHandle") (hcode : Cond.code y bytes maxL ret ∈ am_TB) (hini : Cond.initialized y.cls ∈ am_TB) (hpar : (parseMethodDescriptor y.desc).map (fun d => d.parameters.length) = some as.length) (hst : am_cats st ≤ 8) (hd : decode cc pc = .ok (.invokespecial idx, 3)) (hn : pc + 3 = nx) (hm : M ((2, z) :: as) K m n) (k : ∀ r m', K r m' (n + cj) → am_Z F nx (r.toList ++ st) loc m' (n + cj)) : am_Z F pc (as.reverse ++ (2, z) :: st) loc m n := by
  subst hn
  obtain ⟨p, l, e, R, s, mm, args, below, meth, c, Q, E, n0, cnt, d⟩ := F
  obtain ⟨hx, hb, hown, hts, hK, hX, hsz, hc1, hc2, hc3, hc4⟩ := G
  intro h1 h2 h3 h4 h0 H ls locs h5 h6 h8
  have hcall : 8 + (maxL + 11) + 60 * (dj + 1) ≤ R.locals := by
    have : dj + 1 ≤ d := hdj
    have : 60 * (dj + 1 + 1) ≤ R.locals := Nat.le_trans (Nat.mul_le_mul_left 60 (by omega)) hc4
    omega
  have hfrm : dj + 1 + 1 ≤ R.frames := by
    have : dj + 1 ≤ d := hdj
    omega
  have hlim : n + cj ≤ n0 + cnt := hlim
  have hce : n - n0 + cj ≤ R.cells := by omega
  have hge : n0 ≤ n + cj := by omega
  have hslo := am_ar3 (am_SL_mono (Nat.le_add_right n cj)) (am_SL_mono hlim) (am_SL_mono h0) hc2
  have hcatr : 2 * (F0 mm pc ls (List.map (am_rv E) (as.reverse ++ (2, z) :: st))).monitorRoom + ((st.map (am_rv E)).map fun v => v.category).sum ≤ 8 := by
    rw [am_cats_eq]
    show 2 * 0 + am_cats st ≤ 8
    omega
  have hGd : GoodIn am_TB (.code y bytes maxL ret :: am_TB) := am_goodTB hcode (Or.inl rfl) (fun w h => h)

  subst hrt
  have hRa : ∀ v ∈ as, am_R v := fun v hv => h1 v (List.mem_append_left _ (List.mem_reverse.mpr hv))
  have hRs : ∀ v ∈ st, am_R v := fun v hv => h1 v (List.mem_append_right _ (List.mem_cons_of_mem _ hv))
  have hMet := hM l E ((2, z) :: as) K m n (am_mk (am_R2 z) hRa) h3 hm
  have hstk : (as.reverse ++ (2, z) :: st).map (am_rv E) = (as.map (am_rv E)).reverse ++ .ref (E.1 + z.toNat) :: st.map (am_rv E) := by simp [am_rv2 hz]
  refine am_sized hsz h0 h6 h8 (fun hsize => ?_)
  have hpc : ∀ U : State, U.heap = H → s.WarmedH U.vm → am_Pc E ((2, z) :: as) m n (Value.ref (E.1 + z.toNat) :: as.map (am_rv E)).toArray U := fun U hU hW => ⟨by rw [List.map_cons, am_rv2 hz], by rw [hU]; exact hsize, by rw [hU]; exact h6, va_K.moved hW.alike hK, hX.go hW (fun a g1 g2 => by rw [hU]; exact h8.2.1 a g1 g2)⟩
  refine am_after (K := K) (rest := st) (a := (Value.ref (E.1 + z.toNat) :: as.map (am_rv E)).toArray) hsz h0 (va_runI (n := as.length) (As := as.map (am_rv E)) ⟨hx, hb, rfl, hown, hts⟩ hMet (show CallB R s args own idx y bytes maxL none (.code y bytes maxL none :: am_TB) (am_rm dj cj n) cj (am_SL (n + cj) - am_SL n) as.length ∧ y.name = "<init>" ∧ (Cond.instanceMethod y).before args s = true from ⟨callB_of (own := own) (index := idx) as.length hts hGd rfl rfl rfl (hts _ hini) (hts _ hl) ⟨hpl.1, hpl.2, hpar⟩ ⟨hfrm, hcall⟩, hnm, hts _ hi⟩) ⟨am_Pc_blind, hpc⟩ rfl (by simp) h5.1 hstk hcatr hd ⟨hce, hslo⟩) h8 (fun r m' g1 g2 g3 H1 locs1 g4 g5 => k r m' g1 (fun v hv => by
      rcases List.mem_append.mp hv with h | h
      · exact g2 v (by cases r <;> simp at h ⊢; exact h.symm)
      · exact hRs v h) h2 g3 h4 hge H1 ls locs1 h5 g4 g5)
theorem z_callIN (G : am_G F cc own) {y : MethodName} {bytes : ByteArray} {maxL : Nat} {ret : Option FieldType} {cj dj : Nat} {M : am_T3} {as : List am_V} {K : am_K} {idx : Nat} {z : Int} (hz : 0 ≤ z) (hM : am_Snd y bytes maxL ret cj dj M) (hdj : dj + 1 ≤ am_d F) (hml : maxL ≤ 41) (hlim : am_lim F (n + cj)) (hl : Cond.methodLinkNest own idx y RX11 ∈ am_nestW) (hi : Cond.instanceMethod y ∈ am_TB) (hnm : y.name = "<init>") (hrt : ret = none) (hpl : y.cls ≠ "java/lang/invoke/MethodHandle" ∧ y.cls ≠ "java/lang/invoke/VarHandle") (hcode : Cond.code y bytes maxL ret ∈ am_TB) (hini : Cond.initialized y.cls ∈ am_TB) (hpar : (parseMethodDescriptor y.desc).map (fun d => d.parameters.length) = some as.length) (hst : am_cats st ≤ 8) (hd : decode cc pc = .ok (.invokespecial idx, 3)) (hn : pc + 3 = nx) (hm : M ((2, z) :: as) K m n) (k : ∀ r m', K r m' (n + cj) → am_Z F nx (r.toList ++ st) loc m' (n + cj)) : am_Z F pc (as.reverse ++ (2, z) :: st) loc m n := by
  subst hn
  obtain ⟨p, l, e, R, s, mm, args, below, meth, c, Q, E, n0, cnt, d⟩ := F
  obtain ⟨hx, hb, hown, hts, hK, hX, hsz, hc1, hc2, hc3, hc4⟩ := G
  intro h1 h2 h3 h4 h0 H ls locs h5 h6 h8
  have hcall : 8 + (maxL + 11) + 60 * (dj + 1) ≤ R.locals := by
    have : dj + 1 ≤ d := hdj
    have : 60 * (dj + 1 + 1) ≤ R.locals := Nat.le_trans (Nat.mul_le_mul_left 60 (by omega)) hc4
    omega
  have hfrm : dj + 1 + 1 ≤ R.frames := by
    have : dj + 1 ≤ d := hdj
    omega
  have hlim : n + cj ≤ n0 + cnt := hlim
  have hce : n - n0 + cj ≤ R.cells := by omega
  have hge : n0 ≤ n + cj := by omega
  have hslo := am_ar3 (am_SL_mono (Nat.le_add_right n cj)) (am_SL_mono hlim) (am_SL_mono h0) hc2
  have hcatr : 2 * (F0 mm pc ls (List.map (am_rv E) (as.reverse ++ (2, z) :: st))).monitorRoom + ((st.map (am_rv E)).map fun v => v.category).sum ≤ 8 := by
    rw [am_cats_eq]
    show 2 * 0 + am_cats st ≤ 8
    omega
  have hGd : GoodIn am_TB (.code y bytes maxL ret :: am_TB) := am_goodTB hcode (Or.inl rfl) (fun w h => h)

  subst hrt
  have hRa : ∀ v ∈ as, am_R v := fun v hv => h1 v (List.mem_append_left _ (List.mem_reverse.mpr hv))
  have hRs : ∀ v ∈ st, am_R v := fun v hv => h1 v (List.mem_append_right _ (List.mem_cons_of_mem _ hv))
  have hMet := hM l E ((2, z) :: as) K m n (am_mk (am_R2 z) hRa) h3 hm
  have hstk : (as.reverse ++ (2, z) :: st).map (am_rv E) = (as.map (am_rv E)).reverse ++ .ref (E.1 + z.toNat) :: st.map (am_rv E) := by simp [am_rv2 hz]
  refine am_sized hsz h0 h6 h8 (fun hsize => ?_)
  have hpc : ∀ U : State, U.heap = H → s.WarmedH U.vm → am_Pc E ((2, z) :: as) m n (Value.ref (E.1 + z.toNat) :: as.map (am_rv E)).toArray U := fun U hU hW => ⟨by rw [List.map_cons, am_rv2 hz], by rw [hU]; exact hsize, by rw [hU]; exact h6, va_K.moved hW.alike hK, hX.go hW (fun a g1 g2 => by rw [hU]; exact h8.2.1 a g1 g2)⟩
  refine am_after (K := K) (rest := st) (a := (Value.ref (E.1 + z.toNat) :: as.map (am_rv E)).toArray) hsz h0 (va_runIN (n := as.length) (As := as.map (am_rv E)) (host := RX11) ⟨hx, hb, rfl, hown, hts⟩ hMet (show va_CN R s args own idx y RX11 bytes maxL none (.code y bytes maxL none :: am_TB) (am_rm dj cj n) cj (am_SL (n + cj) - am_SL n) as.length ∧ y.name = "<init>" ∧ (Cond.instanceMethod y).before args s = true from ⟨va_cnB as.length hts hGd rfl rfl rfl (hX.1 _ hl) (hts _ hini) ⟨hpl.1, hpl.2, hpar⟩ ⟨hfrm, hcall⟩, hnm, hts _ hi⟩) ⟨am_Pc_blind, hpc⟩ rfl (by simp) h5.1 hstk hcatr hd ⟨hce, hslo⟩) h8 (fun r m' g1 g2 g3 H1 locs1 g4 g5 => k r m' g1 (fun v hv => by
      rcases List.mem_append.mp hv with h | h
      · exact g2 v (by cases r <;> simp at h ⊢; exact h.symm)
      · exact hRs v h) h2 g3 h4 hge H1 ls locs1 h5 g4 g5)
theorem z_callT (G : am_G F cc own) {y : MethodName} {bytes : ByteArray} {maxL : Nat} {ret : Option FieldType} {cj dj : Nat} {M : am_T3} {as : List am_V} {K : am_K} {idx : Nat} {z : Nat} (hz : z < 38) (hyc : y.cls = RJ0) (hM : am_Snd y bytes maxL ret cj dj M) (hdj : dj + 1 ≤ am_d F) (hml : maxL ≤ 41) (hlim : am_lim F (n + cj)) (hl : Cond.methodLink own idx y ∈ am_TB) (hi : Cond.instanceMethod y ∈ am_TB) (hs : Cond.selects y.cls y y ∈ am_TB) (hpl : y.cls ≠ "java/lang/invoke/MethodHandle" ∧ y.cls ≠ "java/lang/invoke/VarHandle") (hcode : Cond.code y bytes maxL ret ∈ am_TB) (hini : Cond.initialized y.cls ∈ am_TB) (hpar : (parseMethodDescriptor y.desc).map (fun d => d.parameters.length) = some as.length) (hst : am_cats st ≤ 8) (hd : decode cc pc = .ok (.invokevirtual idx, 3)) (hn : pc + 3 = nx) (hm : M ((3, (z : Int)) :: as) K m n) (k : ∀ r m', K r m' (n + cj) → am_Z F nx (r.toList ++ st) loc m' (n + cj)) : am_Z F pc (as.reverse ++ (3, (z : Int)) :: st) loc m n := by
  subst hn
  obtain ⟨p, l, e, R, s, mm, args, below, meth, c, Q, E, n0, cnt, d⟩ := F
  obtain ⟨hx, hb, hown, hts, hK, hX, hsz, hc1, hc2, hc3, hc4⟩ := G
  intro h1 h2 h3 h4 h0 H ls locs h5 h6 h8
  have hcall : 8 + (maxL + 11) + 60 * (dj + 1) ≤ R.locals := by
    have : dj + 1 ≤ d := hdj
    have : 60 * (dj + 1 + 1) ≤ R.locals := Nat.le_trans (Nat.mul_le_mul_left 60 (by omega)) hc4
    omega
  have hfrm : dj + 1 + 1 ≤ R.frames := by
    have : dj + 1 ≤ d := hdj
    omega
  have hlim : n + cj ≤ n0 + cnt := hlim
  have hce : n - n0 + cj ≤ R.cells := by omega
  have hge : n0 ≤ n + cj := by omega
  have hslo := am_ar3 (am_SL_mono (Nat.le_add_right n cj)) (am_SL_mono hlim) (am_SL_mono h0) hc2
  have hcatr : 2 * (F0 mm pc ls (List.map (am_rv E) (as.reverse ++ (3, (z : Int)) :: st))).monitorRoom + ((st.map (am_rv E)).map fun v => v.category).sum ≤ 8 := by
    rw [am_cats_eq]
    show 2 * 0 + am_cats st ≤ 8
    omega
  have hGd : GoodIn am_TB (.code y bytes maxL ret :: am_TB) := am_goodTB hcode (Or.inl rfl) (fun w h => h)

  have hRa : ∀ v ∈ as, am_R v := fun v hv => h1 v (List.mem_append_left _ (List.mem_reverse.mpr hv))
  have hRs : ∀ v ∈ st, am_R v := fun v hv => h1 v (List.mem_append_right _ (List.mem_cons_of_mem _ hv))
  have hMet := hM l E ((3, (z : Int)) :: as) K m n (am_mk (am_R3 (z : Int)) hRa) h3 hm
  have hstk : (as.reverse ++ (3, (z : Int)) :: st).map (am_rv E) = (as.map (am_rv E)).reverse ++ .ref (E.2.1 z) :: st.map (am_rv E) := by simp [am_rv]
  refine am_sized hsz h0 h6 h8 (fun hsize => ?_)
  have hpc : ∀ U : State, U.heap = H → s.WarmedH U.vm → am_Pc E ((3, (z : Int)) :: as) m n (Value.ref (E.2.1 z) :: as.map (am_rv E)).toArray U := fun U hU hW => ⟨rfl, by rw [hU]; exact hsize, by rw [hU]; exact h6, va_K.moved hW.alike hK, hX.go hW (fun a g1 g2 => by rw [hU]; exact h8.2.1 a g1 g2)⟩
  refine am_after (K := K) (rest := st) (a := (Value.ref (E.2.1 z) :: as.map (am_rv E)).toArray) hsz h0 (va_runV (n := as.length) (As := as.map (am_rv E)) (C := RJ0) ⟨hx, hb, rfl, hown, hts⟩ hMet (show CallW R s args own RJ0 idx y bytes maxL ret (.code y bytes maxL ret :: am_TB) (am_rm dj cj n) cj (am_SL (n + cj) - am_SL n) as.length from ⟨callB_of (own := own) (index := idx) as.length hts hGd rfl rfl rfl (hts _ hini) (hts _ hl) ⟨hpl.1, hpl.2, hpar⟩ ⟨hfrm, hcall⟩, hts _ hi, hyc ▸ hts _ hs⟩) ⟨am_Pc_blind, (by
      obtain ⟨cell, g1, g2, g3, -⟩ := ((hX.2.2.1 z hz).1).kept h8.2.1
      exact ⟨cell, g1, g2, g3⟩), hpc⟩ rfl (by simp) h5.1 hstk hcatr hd ⟨hce, hslo⟩) h8 (fun r m' g1 g2 g3 H1 locs1 g4 g5 => k r m' g1 (fun v hv => by
      rcases List.mem_append.mp hv with h | h
      · exact g2 v (by cases r <;> simp at h ⊢; exact h.symm)
      · exact hRs v h) h2 g3 h4 hge H1 ls locs1 h5 g4 g5)
end AMC
