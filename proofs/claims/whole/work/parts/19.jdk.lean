/-! THE JDK'S OWN METHODS ON STRING CONSTANTS. -/
theorem am_Snd_false {y : MethodName} {bytes : ByteArray} {maxL : Nat} {ret : Option FieldType} {cnt d rt : Nat} {tags : List Nat} : am_Snd y bytes maxL ret cnt d (am_L tags rt (fun _ _ _ => False)) := by
  intro l E as post m n _ _ h
  obtain ⟨-, -, zs, -, K, h, -⟩ := h
  exact h.elim
theorem am_plJ : yJ6_bitCount_0f7a4.cls ≠ "java/lang/invoke/MethodHandle" ∧ yJ6_bitCount_0f7a4.cls ≠ "java/lang/invoke/VarHandle" := by decide +kernel
theorem jw_value : Cond.fieldLink RJ0 9 "java/lang/String" "value" "[B" ∈ am_TB := am_TB_mem (tb_8 (List.mem_of_getElem? (i := 111) rfl)) rfl
theorem jw_coder : Cond.fieldLink RJ0 15 "java/lang/String" "coder" "B" ∈ am_TB := am_TB_mem (tb_8 (List.mem_of_getElem? (i := 112) rfl)) rfl
theorem jw_compact : Cond.fieldLink RJ0 38 "java/lang/String" "COMPACT_STRINGS" "Z" ∈ am_TB := am_TB_mem (tb_3 (List.mem_of_getElem? (i := 89) rfl)) rfl
theorem jw_siooe : Cond.fieldLink RJ0 1053 "jdk/internal/util/Preconditions" "SIOOBE_FORMATTER" "Ljava/util/function/BiFunction;" ∈ am_TB := am_TB_mem (tb_3 (List.mem_of_getElem? (i := 105) rfl)) rfl
theorem am_slen_b : ∀ k, k < 38 → am_slen k < 20 ∧ ∀ j, j < am_slen k → 0 ≤ am_sch k j ∧ am_sch k j < 128 := by decide +kernel
section AMJ
variable {F : am_F} {cc : ByteArray} {pc nx : Nat} {st loc : List am_V} {m : am_M} {n : Nat}
theorem z_jvalue (G : am_G F cc RJ0) {i : Nat} (hi : i < 38) (hd : decode cc pc = .ok (.getfield 9, 3)) (hn : pc + 3 = nx) (k : am_Z F nx ((3, ((100 + i : Nat) : Int)) :: st) loc m n) : am_Z F pc ((3, (i : Int)) :: st) loc m n := by
  subst hn
  obtain ⟨p, l, e, R, s, mm, args, below, meth, c, Q, E, n0, cnt, d⟩ := F
  obtain ⟨hx, hb, hown, hts, hK, hX, hsz, hc1, hc2, hc3, hc4⟩ := G
  intro h1 h2 h3 h4 h0 H ls locs h5 h6 h8
  exact vk_getf hx hb (hX.2.2.1 i hi).2.2.1 h8 hown (hts _ jw_value) (fun x q => q) hd (k (am_mk (am_R3 _) (am_tl h1)) h2 h3 h4 h0 H ls locs h5 h6 h8)
theorem z_jcoder (G : am_G F cc RJ0) {i : Nat} (hi : i < 38) (hd : decode cc pc = .ok (.getfield 15, 3)) (hn : pc + 3 = nx) (k : am_Z F nx ((0, 0) :: st) loc m n) : am_Z F pc ((3, (i : Int)) :: st) loc m n := by
  subst hn
  obtain ⟨p, l, e, R, s, mm, args, below, meth, c, Q, E, n0, cnt, d⟩ := F
  obtain ⟨hx, hb, hown, hts, hK, hX, hsz, hc1, hc2, hc3, hc4⟩ := G
  intro h1 h2 h3 h4 h0 H ls locs h5 h6 h8
  exact vk_getf hx hb (hX.2.2.1 i hi).2.1 h8 hown (hts _ jw_coder) (fun x q => q) hd (k (am_mk (am_R0 R32_0) (am_tl h1)) h2 h3 h4 h0 H ls locs h5 h6 h8)
theorem z_jcompact (G : am_G F cc RJ0)  (hd : decode cc pc = .ok (.getstatic 38, 3)) (hn : pc + 3 = nx) (k : am_Z F nx ((0, 1) :: st) loc m n) : am_Z F pc (st) loc m n := by
  subst hn
  obtain ⟨p, l, e, R, s, mm, args, below, meth, c, Q, E, n0, cnt, d⟩ := F
  obtain ⟨hx, hb, hown, hts, hK, hX, hsz, hc1, hc2, hc3, hc4⟩ := G
  intro h1 h2 h3 h4 h0 H ls locs h5 h6 h8
  exact va_gets hx hb hX.2.2.2.1 h8 hown (hts _ jw_compact) (fun x q => q) hd (k (am_mk (am_R0 (R32c rfl)) h1) h2 h3 h4 h0 H ls locs h5 h6 h8)
theorem z_jsiooe (G : am_G F cc RJ0) (hd : decode cc pc = .ok (.getstatic 1053, 3)) (hn : pc + 3 = nx) (k : ∀ v : am_V, (v = (2, -1) ∨ v = (3, 99)) → am_Z F nx (v :: st) loc m n) : am_Z F pc st loc m n := by
  subst hn
  obtain ⟨p, l, e, R, s, mm, args, below, meth, c, Q, E, n0, cnt, d⟩ := F
  obtain ⟨hx, hb, hown, hts, hK, hX, hsz, hc1, hc2, hc3, hc4⟩ := G
  intro h1 h2 h3 h4 h0 H ls locs h5 h6 h8
  rcases hX.2.2.2.2.1 with hZ | hZ
  · exact va_gets hx hb hZ h8 hown (hts _ jw_siooe) (fun x q => q) hd (k _ (Or.inl rfl) (am_mk (am_R2 _) h1) h2 h3 h4 h0 H ls locs h5 h6 h8)
  · exact va_gets hx hb hZ h8 hown (hts _ jw_siooe) (fun x q => q) hd (k _ (Or.inr rfl) (am_mk (am_R3 _) h1) h2 h3 h4 h0 H ls locs h5 h6 h8)
theorem z_jalen {own : String} (G : am_G F cc own) {i : Nat} (hi : i < 38) (hd : decode cc pc = .ok (.arraylength, 1)) (hn : pc + 1 = nx) (k : am_Z F nx ((0, (am_slen i : Int)) :: st) loc m n) : am_Z F pc ((3, ((100 + i : Nat) : Int)) :: st) loc m n := by
  subst hn
  obtain ⟨p, l, e, R, s, mm, args, below, meth, c, Q, E, n0, cnt, d⟩ := F
  obtain ⟨hx, hb, hown, hts, hK, hX, hsz, hc1, hc2, hc3, hc4⟩ := G
  intro h1 h2 h3 h4 h0 H ls locs h5 h6 h8
  obtain ⟨cell, g1, g2, g3, g4, g5, g6, g7⟩ := ((hX.2.2.1 i hi).2.2.2).kept h8.2.1
  have hb0 := (am_slen_b i hi).1
  exact W.alen hx hb g1 g2 g5 rfl rfl hd (k (am_mk (am_R0 (by unfold R32; omega)) (am_tl h1)) h2 h3 h4 h0 H ls locs h5 h6 h8)
theorem z_jbald {own : String} (G : am_G F cc own) {i : Nat} {j : Int} (hi : i < 38) (hj : 0 ≤ j ∧ j < (am_slen i : Int)) (hd : decode cc pc = .ok (.baload, 1)) (hn : pc + 1 = nx) (k : am_Z F nx ((0, am_sch i j.toNat) :: st) loc m n) : am_Z F pc ((0, j) :: (3, ((100 + i : Nat) : Int)) :: st) loc m n := by
  subst hn
  obtain ⟨p, l, e, R, s, mm, args, below, meth, c, Q, E, n0, cnt, d⟩ := F
  obtain ⟨hx, hb, hown, hts, hK, hX, hsz, hc1, hc2, hc3, hc4⟩ := G
  intro h1 h2 h3 h4 h0 H ls locs h5 h6 h8
  obtain ⟨cell, g1, g2, g3, g4, g5, g6, g7⟩ := ((hX.2.2.1 i hi).2.2.2).kept h8.2.1
  have rj := (am_hd h1).1 rfl
  have hb0 := (am_slen_b i hi).2 j.toNat (by omega)
  have hcl := am_clamp rj
  have hsz := (am_slen_b i hi).1
  have hin : vp_in (Int32.ofInt j) cell.slots.size := am_in rj hj.1 (by omega)
  exact W.bald (v := .int (Int32.ofInt (am_sch i j.toNat))) hx hb g1 g2 g3 hin (by rw [hcl]; exact g6 j.toNat (by omega)) rfl rfl hd (k (am_mk (am_R0 (by unfold R32; omega)) (am_tl (am_tl h1))) h2 h3 h4 h0 H ls locs h5 h6 h8)
theorem z_i2c {own : String} (G : am_G F cc own) {a : Int} (ha : 0 ≤ a ∧ a < 65536) (hd : decode cc pc = .ok (.i2c, 1)) (hn : pc + 1 = nx) (k : am_Z F nx ((0, a) :: st) loc m n) : am_Z F pc ((0, a) :: st) loc m n := by
  subst hn
  obtain ⟨p, l, e, R, s, mm, args, below, meth, c, Q, E, n0, cnt, d⟩ := F
  obtain ⟨hx, hb, hown, hts, hK, hX, hsz, hc1, hc2, hc3, hc4⟩ := G
  intro h1 h2 h3 h4 h0 H ls locs h5 h6 h8
  have ra := (am_hd h1).1 rfl
  obtain ⟨q, hq⟩ : ∃ q : Nat, a = (q : Int) := ⟨a.toNat, by omega⟩
  subst hq
  refine lv_i2c hx hb hd ?_ (k h1 h2 h3 h4 h0 H ls locs h5 h6 h8)
  show ((nI q).toUInt32 % 65536).toInt32 = nI q
  rw [pk_char, pk_tn (by omega)]
  congr 1
  omega
theorem z_creturn {own : String} {post : am_K} (G : am_G F cc own) (hP : am_P F post (some .char)) {x : Int} (hend : am_end F n) (hx0 : 0 ≤ x ∧ x < 65536) (hd : decode cc pc = .ok (.ireturn, 1)) (hk : post (some (0, x)) m n) : am_Z F pc [(0, x)] loc m n := by
  obtain ⟨p, l, e, R, s, mm, args, below, meth, c, Q, E, n0, cnt, d⟩ := F
  obtain ⟨hx, hb, hown, hts, hK, hX, hsz, hc1, hc2, hc3, hc4⟩ := G
  obtain ⟨hQ, hrt, hlk⟩ := hP
  intro h1 h2 h3 h4 h0 H ls locs h5 h6 h8
  have hend : n = n0 + cnt := hend
  subst hQ
  refine am_sized hsz h0 h6 h8 (fun hsize => ?_)
  subst hend
  refine W.cs (cells' := cnt) (slots' := am_SL (n0 + cnt) - am_SL n0) (by omega) rfl ?_
  exact W.zret hx hb hrt (by
    obtain ⟨q, hq⟩ : ∃ q : Nat, x = (q : Int) := ⟨x.toNat, by omega⟩
    subst hq
    exact (pk_charN (q := q) (by omega)).1) (fun t hH hW => am_back (r := some (0, x)) (n0 := n0) (cnt := cnt) hK hX h3 h6 hsize h8 (fun v hv => by cases hv; exact am_hd h1) hk hH hW) h8.2.2 hd hlk
theorem z_breturn {own : String} {post : am_K} (G : am_G F cc own) (hP : am_P F post (some .byte)) {x : Int} (hend : am_end F n) (hx0 : x = 0) (hd : decode cc pc = .ok (.ireturn, 1)) (hk : post (some (0, x)) m n) : am_Z F pc [(0, x)] loc m n := by
  obtain ⟨p, l, e, R, s, mm, args, below, meth, c, Q, E, n0, cnt, d⟩ := F
  obtain ⟨hx, hb, hown, hts, hK, hX, hsz, hc1, hc2, hc3, hc4⟩ := G
  obtain ⟨hQ, hrt, hlk⟩ := hP
  intro h1 h2 h3 h4 h0 H ls locs h5 h6 h8
  have hend : n = n0 + cnt := hend
  subst hQ
  refine am_sized hsz h0 h6 h8 (fun hsize => ?_)
  subst hend
  refine W.cs (cells' := cnt) (slots' := am_SL (n0 + cnt) - am_SL n0) (by omega) rfl ?_
  exact W.zret hx hb hrt (by subst hx0; rfl) (fun t hH hW => am_back (r := some (0, x)) (n0 := n0) (cnt := cnt) hK hX h3 h6 hsize h8 (fun v hv => by cases hv; exact am_hd h1) hk hH hW) h8.2.2 hd hlk
end AMJ
def J_pre : am_T3 := fun as post m n => ∃ i j w, as = [(0, i), (0, j), w] ∧ (w.1 = 2 ∨ w.1 = 3) ∧ 0 ≤ i ∧ i < j ∧ post (some (0, i)) m n
def J_chk : am_T3 := fun as post m n => ∃ i j, as = [(0, i), (0, j)] ∧ 0 ≤ i ∧ i < j ∧ post none m n
def J_l1 : am_T3 := fun as post m n => ∃ (k : Nat) (i : Int), as = [(3, ((100 + k : Nat) : Int)), (0, i)] ∧ k < 38 ∧ 0 ≤ i ∧ i < (am_slen k : Int) ∧ post (some (0, am_sch k i.toNat)) m n
def J_isL : am_T3 := fun as post m n => ∃ k : Nat, as = [(3, (k : Int))] ∧ k < 38 ∧ post (some (0, 1)) m n
def J_coder : am_T3 := fun as post m n => ∃ k : Nat, as = [(3, (k : Int))] ∧ k < 38 ∧ post (some (0, 0)) m n
def J_len : am_T3 := fun as post m n => ∃ k : Nat, as = [(3, (k : Int))] ∧ k < 38 ∧ post (some (0, (am_slen k : Int))) m n
def J_char : am_T3 := fun as post m n => ∃ (k : Nat) (i : Int), as = [(3, (k : Int)), (0, i)] ∧ k < 38 ∧ 0 ≤ i ∧ i < (am_slen k : Int) ∧ post (some (0, am_sch k i.toNat)) m n
theorem jp_pre : (parseMethodDescriptor yJ3_checkIndex_8e157.desc).map (fun d => d.parameters.length) = some 3 := by decide +kernel
theorem jp_chk : (parseMethodDescriptor yJ0_checkIndex_df160.desc).map (fun d => d.parameters.length) = some 2 := by decide +kernel
theorem jp_l1 : (parseMethodDescriptor yJ1_charAt_3b067.desc).map (fun d => d.parameters.length) = some 2 := by decide +kernel
theorem jp_isL : (parseMethodDescriptor yJ0_isLatin1_aae02.desc).map (fun d => d.parameters.length) = some 0 := by decide +kernel
theorem jp_coder : (parseMethodDescriptor yJ0_coder_7d493.desc).map (fun d => d.parameters.length) = some 0 := by decide +kernel
theorem jp_len : (parseMethodDescriptor yJ0_length_8abf5.desc).map (fun d => d.parameters.length) = some 0 := by decide +kernel
theorem jp_char : (parseMethodDescriptor yJ0_charAt_5068e.desc).map (fun d => d.parameters.length) = some 1 := by decide +kernel
theorem jpl (y : MethodName) (h : y.cls = RJ0 ∨ y.cls = RJ1 ∨ y.cls = RJ3) : y.cls ≠ "java/lang/invoke/MethodHandle" ∧ y.cls ≠ "java/lang/invoke/VarHandle" := by
  have : ∀ c ∈ [RJ0, RJ1, RJ3], c ≠ "java/lang/invoke/MethodHandle" ∧ c ≠ "java/lang/invoke/VarHandle" := by decide +kernel
  exact this _ (by rcases h with h | h | h <;> rw [h] <;> simp)
theorem JS_pre : am_Snd yJ3_checkIndex_8e157 cJ3_checkIndex_8e157 3 (some .int) 0 0 J_pre := by
  refine am_SndOf (by decide +kernel) ?_ ?_
  · rintro as post m n ⟨i, j, w, rfl, hw, -⟩
    obtain ⟨t, z⟩ := w
    rcases hw with h | h <;> cases h <;> exact Nat.le_refl _
  · rintro F post as m n G hP - - - he - ⟨i, j, w, rfl, hw, hi, hj, hk⟩
    have hl : am_loc [(0, i), (0, j), w] 3 = [(0, i), (0, j), w] := by
      obtain ⟨t, z⟩ := w
      rcases hw with h | h <;> cases h <;> rfl
    rw [hl]
    refine z_iload_n (nx := 1) (a := 0) G rfl dJ3_checkIndex_8e157_0 rfl ?_
    refine z_if_lt (nx := 4) (tgt := 9) G dJ3_checkIndex_8e157_1 (by decide) rfl (fun c => absurd hi (by omega)) (fun c => ?_)
    refine z_iload_n (nx := 5) (a := 0) G rfl dJ3_checkIndex_8e157_4 rfl (z_iload_n (nx := 6) (a := 1) G rfl dJ3_checkIndex_8e157_5 rfl ?_)
    refine z_icmp_lt (nx := 9) (tgt := 16) G dJ3_checkIndex_8e157_6 (by decide) rfl (fun c => ?_) (fun c => absurd hj c)
    refine z_iload_n (nx := 17) (a := 0) G rfl dJ3_checkIndex_8e157_16 rfl ?_
    exact z_ireturn G hP ((he n).mpr rfl) dJ3_checkIndex_8e157_17 ⟨rfl, hk⟩
theorem JS_chk : am_Snd yJ0_checkIndex_df160 cJ0_checkIndex_df160 2 none 0 1 J_chk := by
  refine am_SndOf (by decide +kernel) ?_ ?_
  · rintro as post m n ⟨i, j, rfl, -⟩
    exact Nat.le_refl _
  · rintro F post as m n G hP - hd hl he - ⟨i, j, rfl, hi, hj, hk⟩
    show am_Z F 0 [] [(0, i), (0, j)] m n
    refine z_iload_n (nx := 1) (a := 0) G rfl dJ0_checkIndex_df160_0 rfl (z_iload_n (nx := 2) (a := 1) G rfl dJ0_checkIndex_df160_1 rfl ?_)
    refine z_jsiooe (nx := 5) G dJ0_checkIndex_df160_2 rfl (fun v hv => ?_)
    refine z_callS (nx := 8) (K := fun r m' n' => r = some (0, i) ∧ m' = m ∧ n' = n) (as := [(0, i), (0, j), v]) (st := []) G JS_pre (by rw [hd]; exact Nat.le_refl _) (by decide) ((hl _).mpr (Nat.le_refl _)) (am_TB_mem (tb_3 (List.mem_of_getElem? (i := 107) rfl)) rfl) sw_J3_checkIndex_8e157 (jpl _ (Or.inr (Or.inr rfl))) cw_J3_checkIndex_8e157 nw_RJ3 jp_pre (Nat.le_of_ble_eq_true rfl) dJ0_checkIndex_df160_5 rfl ⟨i, j, v, rfl, by rcases hv with rfl | rfl <;> simp, hi, hj, rfl, rfl, rfl⟩ ?_
    rintro r m' ⟨rfl, rfl, -⟩
    refine z_pop (v := (0, i)) (nx := 9) G (fun h => nomatch h) dJ0_checkIndex_df160_8 rfl ?_
    exact z_return G hP ((he n).mpr rfl) dJ0_checkIndex_df160_9 ⟨rfl, hk⟩
theorem JS_l1 : am_Snd yJ1_charAt_3b067 cJ1_charAt_3b067 2 (some .char) 0 2 J_l1 := by
  refine am_SndOf (by decide +kernel) ?_ ?_
  · rintro as post m n ⟨k, i, rfl, -⟩
    exact Nat.le_refl _
  · rintro F post as m n G hP - hd hl he - ⟨k, i, rfl, hk38, hi, hj, hk⟩
    show am_Z F 0 [] [(3, ((100 + k : Nat) : Int)), (0, i)] m n
    refine z_iload_n (nx := 1) (a := 1) G rfl dJ1_charAt_3b067_0 rfl (z_aload_n (nx := 2) (a := 0) G rfl (Or.inr rfl) dJ1_charAt_3b067_1 rfl (z_jalen (nx := 3) G hk38 dJ1_charAt_3b067_2 rfl ?_))
    refine z_callS (nx := 6) (K := fun r m' n' => r = none ∧ m' = m ∧ n' = n) (as := [(0, i), (0, (am_slen k : Int))]) (st := []) G JS_chk (by rw [hd]; exact Nat.le_refl _) (by decide) ((hl _).mpr (Nat.le_refl _)) (am_TB_mem (tb_3 (List.mem_of_getElem? (i := 102) rfl)) rfl) sw_J0_checkIndex_df160 (jpl _ (Or.inl rfl)) cw_J0_checkIndex_df160 nw_RJ0 jp_chk (Nat.le_of_ble_eq_true rfl) dJ1_charAt_3b067_3 rfl ⟨i, _, rfl, hi, hj, rfl, rfl, rfl⟩ ?_
    rintro r m' ⟨rfl, rfl, -⟩
    have hch := (am_slen_b k hk38).2 i.toNat (by omega)
    refine z_aload_n (nx := 7) (a := 0) G rfl (Or.inr rfl) dJ1_charAt_3b067_6 rfl (z_iload_n (nx := 8) (a := 1) G rfl dJ1_charAt_3b067_7 rfl (z_jbald (nx := 9) G hk38 ⟨hi, hj⟩ dJ1_charAt_3b067_8 rfl (z_sipush (nx := 12) (z := 255) G (R32c rfl) rfl dJ1_charAt_3b067_9 rfl (z_iand (nx := 13) G dJ1_charAt_3b067_12 rfl ?_))))
    have e : am_and (am_sch k i.toNat) 255 = am_sch k i.toNat := by
      have key : ∀ q : Nat, q < 128 → am_and (q : Int) 255 = (q : Int) := by decide +kernel
      have := key (am_sch k i.toNat).toNat (by omega)
      rwa [am_toNat hch.1] at this
    rw [e]
    refine z_i2c (nx := 14) G (by omega) dJ1_charAt_3b067_13 rfl ?_
    exact z_creturn G hP ((he n).mpr rfl) (by omega) dJ1_charAt_3b067_14 ⟨rfl, hk⟩
theorem JS_isL : am_Snd yJ0_isLatin1_aae02 cJ0_isLatin1_aae02 1 (some .boolean) 0 0 J_isL := by
  refine am_SndOf (by decide +kernel) ?_ ?_
  · rintro as post m n ⟨k, rfl, -⟩
    exact Nat.le_refl _
  · rintro F post as m n G hP - - - he - ⟨k, rfl, hk38, hk⟩
    show am_Z F 0 [] [(3, (k : Int))] m n
    refine z_jcompact (nx := 3) G dJ0_isLatin1_aae02_0 rfl ?_
    refine z_if_eq (nx := 6) (tgt := 17) G dJ0_isLatin1_aae02_3 (by decide) rfl (fun c => absurd c (by decide)) (fun c => ?_)
    refine z_aload_n (nx := 7) (a := 0) G rfl (Or.inr rfl) dJ0_isLatin1_aae02_6 rfl (z_jcoder (nx := 10) G hk38 dJ0_isLatin1_aae02_7 rfl ?_)
    refine z_if_ne (nx := 13) (tgt := 17) G dJ0_isLatin1_aae02_10 (by decide) rfl (fun c => absurd rfl c) (fun c => ?_)
    refine z_iconst (nx := 14) (z := 1) G (R32c rfl) dJ0_isLatin1_aae02_13 rfl (z_goto (tgt := 18) G dJ0_isLatin1_aae02_14 (by decide) ?_)
    exact z_zreturn G hP ((he n).mpr rfl) (Or.inr rfl) dJ0_isLatin1_aae02_18 ⟨rfl, hk⟩
theorem JS_coder : am_Snd yJ0_coder_7d493 cJ0_coder_7d493 1 (some .byte) 0 0 J_coder := by
  refine am_SndOf (by decide +kernel) ?_ ?_
  · rintro as post m n ⟨k, rfl, -⟩
    exact Nat.le_refl _
  · rintro F post as m n G hP - - - he - ⟨k, rfl, hk38, hk⟩
    show am_Z F 0 [] [(3, (k : Int))] m n
    refine z_jcompact (nx := 3) G dJ0_coder_7d493_0 rfl ?_
    refine z_if_eq (nx := 6) (tgt := 13) G dJ0_coder_7d493_3 (by decide) rfl (fun c => absurd c (by decide)) (fun c => ?_)
    refine z_aload_n (nx := 7) (a := 0) G rfl (Or.inr rfl) dJ0_coder_7d493_6 rfl (z_jcoder (nx := 10) G hk38 dJ0_coder_7d493_7 rfl (z_goto (tgt := 14) G dJ0_coder_7d493_10 (by decide) ?_))
    exact z_breturn G hP ((he n).mpr rfl) rfl dJ0_coder_7d493_14 ⟨rfl, hk⟩
theorem JS_len : am_Snd yJ0_length_8abf5 cJ0_length_8abf5 1 (some .int) 0 4 J_len := by
  refine am_SndOf (by decide +kernel) ?_ ?_
  · rintro as post m n ⟨k, rfl, -⟩
    exact Nat.le_refl _
  · rintro F post as m n G hP - hd hl he - ⟨k, rfl, hk38, hk⟩
    show am_Z F 0 [] [(3, (k : Int))] m n
    refine z_aload_n (nx := 1) (a := 0) G rfl (Or.inr rfl) dJ0_length_8abf5_0 rfl (z_jvalue (nx := 4) G hk38 dJ0_length_8abf5_1 rfl (z_jalen (nx := 5) G hk38 dJ0_length_8abf5_4 rfl (z_aload_n (nx := 6) (a := 0) G rfl (Or.inr rfl) dJ0_length_8abf5_5 rfl ?_)))
    refine z_callT (nx := 9) (z := k) (K := fun r m' n' => r = some (0, 0) ∧ m' = m ∧ n' = n) (as := []) (st := [(0, (am_slen k : Int))]) G hk38 rfl JS_coder (by rw [hd]; decide) (by decide) ((hl _).mpr (Nat.le_refl _)) (am_TB_mem (tb_3 (List.mem_of_getElem? (i := 85) rfl)) rfl) iw_J0_coder_7d493 vw_J0_coder_7d493 (jpl _ (Or.inl rfl)) cw_J0_coder_7d493 nw_RJ0 jp_coder (Nat.le_of_ble_eq_true rfl) dJ0_length_8abf5_6 rfl ⟨k, rfl, hk38, rfl, rfl, rfl⟩ ?_
    rintro r m' ⟨rfl, rfl, -⟩
    have hb0 := (am_slen_b k hk38).1
    have e : am_shr (am_slen k : Int) 0 = (am_slen k : Int) := by
      have key : ∀ q : Nat, q < 20 → am_shr (q : Int) 0 = (q : Int) := by decide +kernel
      exact key _ hb0
    refine z_ishr (a := (am_slen k : Int)) (b := 0) (nx := 10) G dJ0_length_8abf5_9 rfl ?_
    rw [e]
    exact z_ireturn G hP ((he n).mpr rfl) dJ0_length_8abf5_10 ⟨rfl, hk⟩
theorem JS_char : am_Snd yJ0_charAt_5068e cJ0_charAt_5068e 2 (some .char) 0 4 J_char := by
  refine am_SndOf (by decide +kernel) ?_ ?_
  · rintro as post m n ⟨k, i, rfl, -⟩
    exact Nat.le_refl _
  · rintro F post as m n G hP - hd hl he - ⟨k, i, rfl, hk38, hi, hj, hk⟩
    show am_Z F 0 [] [(3, (k : Int)), (0, i)] m n
    refine z_aload_n (nx := 1) (a := 0) G rfl (Or.inr rfl) dJ0_charAt_5068e_0 rfl ?_
    refine z_callT (nx := 4) (z := k) (K := fun r m' n' => r = some (0, 1) ∧ m' = m ∧ n' = n) (as := []) (st := []) G hk38 rfl JS_isL (by rw [hd]; decide) (by decide) ((hl _).mpr (Nat.le_refl _)) (am_TB_mem (tb_3 (List.mem_of_getElem? (i := 95) rfl)) rfl) iw_J0_isLatin1_aae02 vw_J0_isLatin1_aae02 (jpl _ (Or.inl rfl)) cw_J0_isLatin1_aae02 nw_RJ0 jp_isL (Nat.le_of_ble_eq_true rfl) dJ0_charAt_5068e_1 rfl ⟨k, rfl, hk38, rfl, rfl, rfl⟩ ?_
    rintro r m' ⟨rfl, rfl, -⟩
    refine z_if_eq (a := 1) (nx := 7) (tgt := 16) G dJ0_charAt_5068e_4 (by decide) rfl (fun c => absurd c (by decide)) (fun c => ?_)
    refine z_aload_n (nx := 8) (a := 0) G rfl (Or.inr rfl) dJ0_charAt_5068e_7 rfl (z_jvalue (nx := 11) G hk38 dJ0_charAt_5068e_8 rfl (z_iload_n (nx := 12) (a := 1) G rfl dJ0_charAt_5068e_11 rfl ?_))
    refine z_callS (nx := 15) (K := fun r m'' n' => r = some (0, am_sch k i.toNat) ∧ m'' = m' ∧ n' = n) (as := [(3, ((100 + k : Nat) : Int)), (0, i)]) (st := []) G JS_l1 (by rw [hd]; decide) (by decide) ((hl _).mpr (Nat.le_refl _)) (am_TB_mem (tb_3 (List.mem_of_getElem? (i := 99) rfl)) rfl) sw_J1_charAt_3b067 (jpl _ (Or.inr (Or.inl rfl))) cw_J1_charAt_3b067 nw_RJ1 jp_l1 (Nat.le_of_ble_eq_true rfl) dJ0_charAt_5068e_12 rfl ⟨k, i, rfl, hk38, hi, hj, rfl, rfl, rfl⟩ ?_
    rintro r m' ⟨rfl, rfl, -⟩
    have hch := (am_slen_b k hk38).2 i.toNat (by omega)
    exact z_creturn G hP ((he n).mpr rfl) (by omega) dJ0_charAt_5068e_15 ⟨rfl, hk⟩
section AMJ2
variable {F : am_F} {cc : ByteArray} {own : String} {pc nx : Nat} {st loc : List am_V} {m : am_M} {ret : Option FieldType} {d rt : Nat} {K : am_KK}
theorem b_strLen (X : am_Cx F cc own ret d rt K) (hB : am_Bt m) {i : Int} (hi : 0 ≤ i ∧ i < 38) {idx : Nat} (hl : Cond.methodLink own idx yJ0_length_8abf5 ∈ am_TB) (hst : am_cats st ≤ 8) (hdj : 4 + 1 ≤ d) (hd : decode cc pc = .ok (.invokevirtual idx, 3)) (hn : pc + 3 = nx) (k : am_Z F nx ((0, am_sln i) :: st) loc m 200) : am_Z F pc ((3, i) :: st) loc m 200 := by
  obtain ⟨post, G, -, hdd, hl2, -⟩ := X
  obtain ⟨q, hq⟩ : ∃ q : Nat, i = (q : Int) := ⟨i.toNat, by omega⟩
  subst hq
  refine z_callT (z := q) (K := fun r m' n' => r = some (0, am_sln (q : Int)) ∧ m' = m) (as := []) (st := st) G (by omega) rfl JS_len (by rw [hdd]; exact hdj) (by decide) ((hl2 _).mpr (Nat.le_refl _)) hl iw_J0_length_8abf5 vw_J0_length_8abf5 (jpl _ (Or.inl rfl)) cw_J0_length_8abf5 nw_RJ0 jp_len hst hd hn ⟨q, rfl, by omega, rfl, rfl⟩ ?_
  rintro r m' ⟨rfl, rfl⟩
  exact k
theorem b_charAt (X : am_Cx F cc own ret d rt K) (hB : am_Bt m) {i j : Int} (hi : 0 ≤ i ∧ i < 38) (hj : 0 ≤ j ∧ j < am_sln i) {idx : Nat} (hl : Cond.methodLink own idx yJ0_charAt_5068e ∈ am_TB) (hst : am_cats st ≤ 8) (hdj : 4 + 1 ≤ d) (hd : decode cc pc = .ok (.invokevirtual idx, 3)) (hn : pc + 3 = nx) (k : am_Z F nx ((0, am_sc i j) :: st) loc m 200) : am_Z F pc ((0, j) :: (3, i) :: st) loc m 200 := by
  obtain ⟨post, G, -, hdd, hl2, -⟩ := X
  obtain ⟨q, hq⟩ : ∃ q : Nat, i = (q : Int) := ⟨i.toNat, by omega⟩
  subst hq
  refine z_callT (z := q) (K := fun r m' n' => r = some (0, am_sc (q : Int) j) ∧ m' = m) (as := [(0, j)]) (st := st) G (by omega) rfl JS_char (by rw [hdd]; exact hdj) (by decide) ((hl2 _).mpr (Nat.le_refl _)) hl iw_J0_charAt_5068e vw_J0_charAt_5068e (jpl _ (Or.inl rfl)) cw_J0_charAt_5068e nw_RJ0 jp_char hst hd hn ⟨q, j, rfl, by omega, hj.1, hj.2, rfl, rfl⟩ ?_
  rintro r m' ⟨rfl, rfl⟩
  exact k
end AMJ2
