/-! RETURNS, AND A METHOD OUT OF ITS WALK. -/
section AMM
variable {F : am_F} {cc : ByteArray} {own : String} {pc nx : Nat} {st loc : List am_V} {m : am_M} {n : Nat} {post : am_K} {rt : Option FieldType}
theorem am_back {E : am_E} {n0 cnt n : Nat} {m : am_M} {s t : State} {H : Heap} {locs : List Loc} {a : Array Value} {r : Option am_V} {K : am_K} (hK : va_K E.2.2.2.1 vwCl (am_tys E) s) (hX : am_X E s) (h3 : am_Rng m n) (h6 : va_P E.2.2.2.1 vwCl (am_ws E m n) H) (hsize : H.size = E.1 + n) (h8 : va_S (fun q => E.1 ≤ q) s.heap H locs) (hr : ∀ v, r = some v → am_R v) (hk : K r m n) (hH : t.heap = H) (hW : s.WarmedH t.vm) : am_Qc E K a s (.returned (r.map (am_rv E))) t :=
  ⟨r, m, n, rfl, hk, hr, h3, ⟨by rw [hH]; exact hsize, by rw [hH]; exact h6, va_K.moved hW.alike hK, hX.go hW (fun q g1 g2 => by rw [hH]; exact h8.2.1 q g1 g2)⟩, by rw [hH]; exact h8.1, fun q g1 g2 => by rw [hH]; exact h8.2.1 q g1 g2⟩
theorem z_ireturn (G : am_G F cc own) (hP : am_P F post (some .int)) {x : Int} (hend : am_end F n) (hd : decode cc pc = .ok (.ireturn, 1)) (hk : post (some (0, x)) m n) : am_Z F pc [(0, x)] loc m n := by
  obtain ⟨p, l, e, R, s, mm, args, below, meth, c, Q, E, n0, cnt, d⟩ := F
  obtain ⟨hx, hb, hown, hts, hK, hX, hsz, hc1, hc2, hc3, hc4⟩ := G
  obtain ⟨hQ, hrt, hlk⟩ := hP
  intro h1 h2 h3 h4 h0 H ls locs h5 h6 h8
  have hend : n = n0 + cnt := hend
  subst hQ
  refine am_sized hsz h0 h6 h8 (fun hsize => ?_)
  subst hend
  refine W.cs (cells' := cnt) (slots' := am_SL (n0 + cnt) - am_SL n0) (by omega) rfl ?_
  exact W.zret hx hb hrt rfl (fun t hH hW => am_back (r := some (0, x)) (n0 := n0) (cnt := cnt) hK hX h3 h6 hsize h8 (fun v hv => by cases hv; exact am_hd h1) hk hH hW) h8.2.2 hd hlk
theorem z_zreturn (G : am_G F cc own) (hP : am_P F post (some .boolean)) {x : Int} (hend : am_end F n) (hx01 : x = 0 ∨ x = 1) (hd : decode cc pc = .ok (.ireturn, 1)) (hk : post (some (0, x)) m n) : am_Z F pc [(0, x)] loc m n := by
  obtain ⟨p, l, e, R, s, mm, args, below, meth, c, Q, E, n0, cnt, d⟩ := F
  obtain ⟨hx, hb, hown, hts, hK, hX, hsz, hc1, hc2, hc3, hc4⟩ := G
  obtain ⟨hQ, hrt, hlk⟩ := hP
  intro h1 h2 h3 h4 h0 H ls locs h5 h6 h8
  have hend : n = n0 + cnt := hend
  subst hQ
  refine am_sized hsz h0 h6 h8 (fun hsize => ?_)
  subst hend
  refine W.cs (cells' := cnt) (slots' := am_SL (n0 + cnt) - am_SL n0) (by omega) rfl ?_
  exact W.zret hx hb hrt (by rcases hx01 with rfl | rfl <;> rfl) (fun t hH hW => am_back (r := some (0, x)) (n0 := n0) (cnt := cnt) hK hX h3 h6 hsize h8 (fun v hv => by cases hv; exact am_hd h1) hk hH hW) h8.2.2 hd hlk
theorem z_lreturn (G : am_G F cc own) (hP : am_P F post (some .long)) {x : Int} (hend : am_end F n) (hd : decode cc pc = .ok (.lreturn, 1)) (hk : post (some (1, x)) m n) : am_Z F pc [(1, x)] loc m n := by
  obtain ⟨p, l, e, R, s, mm, args, below, meth, c, Q, E, n0, cnt, d⟩ := F
  obtain ⟨hx, hb, hown, hts, hK, hX, hsz, hc1, hc2, hc3, hc4⟩ := G
  obtain ⟨hQ, hrt, hlk⟩ := hP
  intro h1 h2 h3 h4 h0 H ls locs h5 h6 h8
  have hend : n = n0 + cnt := hend
  subst hQ
  refine am_sized hsz h0 h6 h8 (fun hsize => ?_)
  subst hend
  refine W.cs (cells' := cnt) (slots' := am_SL (n0 + cnt) - am_SL n0) (by omega) rfl ?_
  exact W.lret hx hb hrt (fun t hH hW => am_back (r := some (1, x)) (n0 := n0) (cnt := cnt) hK hX h3 h6 hsize h8 (fun v hv => by cases hv; exact am_hd h1) hk hH hW) h8.2.2 hd hlk
theorem z_areturn (G : am_G F cc own) {C : String} (hP : am_P F post (some (.object C))) {x : Int} (hend : am_end F n) (hd : decode cc pc = .ok (.areturn, 1)) (hk : post (some (2, x)) m n) : am_Z F pc [(2, x)] loc m n := by
  obtain ⟨p, l, e, R, s, mm, args, below, meth, c, Q, E, n0, cnt, d⟩ := F
  obtain ⟨hx, hb, hown, hts, hK, hX, hsz, hc1, hc2, hc3, hc4⟩ := G
  obtain ⟨hQ, hrt, hlk⟩ := hP
  intro h1 h2 h3 h4 h0 H ls locs h5 h6 h8
  have hend : n = n0 + cnt := hend
  subst hQ
  refine am_sized hsz h0 h6 h8 (fun hsize => ?_)
  subst hend
  refine W.cs (cells' := cnt) (slots' := am_SL (n0 + cnt) - am_SL n0) (by omega) rfl ?_
  exact W.aret hx hb hrt (Or.inl ⟨_, rfl⟩) (am_ref (E := E) (v := (2, x)) (Or.inl rfl)) (fun t hH hW => am_back (r := some (2, x)) (n0 := n0) (cnt := cnt) hK hX h3 h6 hsize h8 (fun v hv => by cases hv; exact am_hd h1) hk hH hW) h8.2.2 hd hlk
theorem z_return (G : am_G F cc own) (hP : am_P F post none) (hend : am_end F n) (hd : decode cc pc = .ok (.return_, 1)) (hk : post none m n) : am_Z F pc [] loc m n := by
  obtain ⟨p, l, e, R, s, mm, args, below, meth, c, Q, E, n0, cnt, d⟩ := F
  obtain ⟨hx, hb, hown, hts, hK, hX, hsz, hc1, hc2, hc3, hc4⟩ := G
  obtain ⟨hQ, hrt, hlk⟩ := hP
  intro h1 h2 h3 h4 h0 H ls locs h5 h6 h8
  have hend : n = n0 + cnt := hend
  subst hQ
  refine am_sized hsz h0 h6 h8 (fun hsize => ?_)
  subst hend
  refine W.cs (cells' := cnt) (slots' := am_SL (n0 + cnt) - am_SL n0) (by omega) rfl ?_
  exact W.vret hx hb hrt (fun t hH hW => am_back (r := none) (n0 := n0) (cnt := cnt) hK hX h3 h6 hsize h8 (fun v hv => by cases hv) hk hH hW) h8.2.2 hd hlk
end AMM
/-- the locals at a method's entry -/
def am_al : List am_V → List am_V
  | [] => []
  | v :: l => if v.1 = 1 then v :: (9, 0) :: am_al l else v :: am_al l
def am_loc (as : List am_V) (nL : Nat) : List am_V := am_al as ++ List.replicate (nL - (am_al as).length) (9, 0)
theorem am_al_mem {E : am_E} : ∀ (as : List am_V) (i : Nat) (q : Nat × Value), q ∈ am_lm E i (am_al as) → q ∈ lv_args i (as.map (am_rv E)) := by
  intro as
  induction as with
  | nil => intro i q h; exact h
  | cons v l ih =>
    intro i q h
    rw [List.map_cons, lv_args, am_cat]
    rw [am_al] at h
    by_cases h1 : v.1 = 1
    · rw [if_pos h1] at h ⊢
      rw [am_lm, if_neg (by omega), am_lm, if_pos rfl] at h
      rcases List.mem_cons.mp h with h | h
      · exact List.mem_cons.mpr (Or.inl h)
      · exact List.mem_cons_of_mem _ (by rw [if_pos rfl]; exact ih (i + 2) q h)
    · rw [if_neg h1] at h ⊢
      rw [am_lm] at h
      have hh : q = (i, am_rv E v) ∨ q ∈ am_lm E (i + 1) (am_al l) := by
        by_cases h9 : v.1 = 9
        · rw [if_pos h9] at h; exact Or.inr h
        · rw [if_neg h9] at h; exact List.mem_cons.mp h
      rcases hh with h | h
      · exact List.mem_cons.mpr (Or.inl h)
      · exact List.mem_cons_of_mem _ (by rw [if_neg (by omega)]; exact ih (i + 1) q h)
theorem am_lm_app {E : am_E} : ∀ (a : List am_V) (i k : Nat) (q : Nat × Value), q ∈ am_lm E i (a ++ List.replicate k (9, 0)) → q ∈ am_lm E i a := by
  intro a
  induction a with
  | nil =>
    intro i k q h
    obtain ⟨j, v, h1, h2, -⟩ := (am_lm_mem _ _ _).mp h
    rw [List.nil_append, List.getElem?_replicate] at h1
    by_cases hj : j < k
    · rw [if_pos hj] at h1
      cases h1
      exact absurd rfl h2
    · rw [if_neg hj] at h1
      cases h1
  | cons v l ih =>
    intro i k q h
    rw [List.cons_append, am_lm] at h
    rw [am_lm]
    by_cases h9 : v.1 = 9
    · rw [if_pos h9] at h ⊢; exact ih _ _ _ h
    · rw [if_neg h9] at h ⊢
      rcases List.mem_cons.mp h with h | h
      · exact List.mem_cons.mpr (Or.inl h)
      · exact List.mem_cons_of_mem _ (ih _ _ _ h)
theorem am_al_len (E : am_E) : ∀ as : List am_V, (lg_sl (as.map (am_rv E))).length = (am_al as).length := by
  intro as
  induction as with
  | nil => rfl
  | cons v l ih =>
    have e : lg_sl ((v :: l).map (am_rv E)) = (if (am_rv E v).category = 2 then [.val (am_rv E v), .second] else [.val (am_rv E v)]) ++ lg_sl (l.map (am_rv E)) := by simp [lg_sl]
    rw [e, am_al, am_cat]
    by_cases h : v.1 = 1
    · simp [h, ih]
    · simp [h, ih]
theorem am_al_R : ∀ {as : List am_V}, (∀ v ∈ as, am_R v) → ∀ v ∈ am_al as, am_R v := by
  intro as
  induction as with
  | nil => intro _ v hv; cases hv
  | cons a l ih =>
    intro h v hv
    rw [am_al] at hv
    by_cases h1 : a.1 = 1
    · rw [if_pos h1] at hv
      rcases List.mem_cons.mp hv with rfl | hv
      · exact am_hd h
      · rcases List.mem_cons.mp hv with rfl | hv
        · exact am_R9 0
        · exact ih (am_tl h) v hv
    · rw [if_neg h1] at hv
      rcases List.mem_cons.mp hv with rfl | hv
      · exact am_hd h
      · exact ih (am_tl h) v hv
/-- a method does what M says, if its walk from its entry does -/
theorem am_SndOf {y : MethodName} {bytes : ByteArray} {maxL : Nat} {ret : Option FieldType} {cnt d : Nat} {M : am_T3} (hy : plainName y.cls = true)
    (hlen : ∀ as post m n, M as post m n → (am_al as).length ≤ maxL)
    (h : ∀ (F : am_F) (post : am_K) (as : List am_V) (m : am_M) (n : Nat), am_G F bytes y.cls → am_P F (fun r m' n' => n' = n + cnt ∧ post r m' n') ret → am_n0 F = n → am_d F = d → (∀ k, am_lim F k ↔ k ≤ n + cnt) → (∀ k, am_end F k ↔ k = n + cnt) → (y.name = "<init>" → am_isInit F) → M as post m n → am_Z F 0 [] (am_loc as maxL) m n) : am_Snd y bytes maxL ret cnt d M := by
  intro l E as post m n hR hRng hM
  refine Met.ofW (cc := bytes) (maxL := maxL) (ret := ret) hy rfl ?_
  intro p e s mm args below meth c s₁ B hml hv
  obtain ⟨rfl, hsz, hPP, hK, hX⟩ := hv
  have hts := atoms_spec (ws := Cond.code y bytes maxL ret :: am_TB) B.pre
  have hown : s.vm.findClass y.cls = some mm.cls := findClass_of_methodNamed B.named
  have hle := hlen _ _ _ _ hM
  have hl := lv_entry (as.map (am_rv E)) (n := maxL) (by rw [am_al_len]; exact hle)
  rw [lg_entry_eq]
  generalize (lg_sl (as.map (am_rv E)) ++ List.replicate (maxL - (lg_sl (as.map (am_rv E))).length) Slot.unset).toArray = ls at hl ⊢
  have key := h (p, l, e, (headSpec (Cond.code y bytes maxL ret :: am_TB) (am_rm d cnt n)).room, s, mm, (as.map (am_rv E)).toArray, below, meth, c, MQ below (am_Qc E (fun r m' n' => n' = n + cnt ∧ post r m' n')) (as.map (am_rv E)).toArray s cnt (am_SL (n + cnt) - am_SL n) (am_A E), E, n, cnt, d) post as m n
    ⟨B.exec, B.bytes, hown, fun w hw => hts w (List.mem_cons_of_mem _ hw), hK, hX, hsz, Nat.le_refl _, Nat.le_refl _, Nat.le_refl _, Nat.le_refl _⟩
    ⟨rfl, B.returns, B.notSynchronized⟩ rfl rfl (fun k => Iff.rfl) (fun k => Iff.rfl) (fun hi => by have := (name_of_methodNamed B.named B.method).1; rw [hi] at this; exact this) hM
  have hlen2 : (am_loc as maxL).length = c.maxLocals := by
    rw [hml]
    unfold am_loc
    rw [List.length_append, List.length_replicate]
    omega
  have hW := key (fun v hv => by cases hv) (fun v hv => by
    rcases List.mem_append.mp hv with hv | hv
    · exact am_al_R hR v hv
    · rw [List.eq_of_mem_replicate hv]; exact am_R9 0) hRng hlen2 (Nat.le_refl n) s.heap ls [] ⟨hl.1.trans hml.symm, hl.2.1, fun q hq => hl.2.2 q (am_al_mem as 0 q (am_lm_app _ _ _ _ hq))⟩ hPP va_S.rf
  exact W.cs (Nat.sub_self n).symm (Nat.sub_self _).symm hW
