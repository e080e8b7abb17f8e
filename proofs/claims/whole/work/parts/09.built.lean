/-! ALL IS MADE: 200 objects, their references fixed (am_rfv). Rows for methods that make nothing. -/
def am_rfv (o k : Int) : Int := ((am_rfL.getD o.toNat []).lookup k.toNat).getD (-1)
/-- an array's length -/
def am_len (o : Int) : Int := ((am_sh o.toNat).2 : Int)
def am_Bt (m : am_M) : Prop := ∀ o, o < 200 → ∀ k, k < (am_sh o).2 → am_ct (am_sh o) k = 2 → m o k = am_rfv o k
abbrev am_ob (z : Int) (ci : Nat) : Prop := am_is 200 z ci
abbrev am_ar (z : Int) (kd : Nat) : Prop := am_isA 200 z kd (am_len z)
theorem am_shb : ∀ o, o < 200 → (am_sh o).2 ≤ 100000 := by decide +kernel
theorem am_len_R {z : Int} {kd : Nat} (h : am_ar z kd) : R32 (am_len z) := by
  have := am_shb z.toNat h.2.1
  unfold am_len R32
  omega
theorem am_Bt_st {m : am_M} {z k v : Int} (hB : am_Bt m) (h0 : 0 ≤ z) (hk : 0 ≤ k) (hct : am_ct (am_sh z.toNat) k.toNat ≠ 2) : am_Bt (am_st m z k v) := by
  intro o ho k' hk' hc
  rw [am_st_ne]
  · exact hB o ho k' hk' hc
  · rintro ⟨e1, e2⟩
    have e1 : z.toNat = o := by omega
    have e2 : k.toNat = k' := by omega
    rw [e1, e2] at hct
    exact hct hc
theorem am_Bt_o {m : am_M} {z v : Int} {ci k : Nat} (hB : am_Bt m) (h : am_ob z ci) (hci : ci < 13) (hk : am_ft ci k ≠ 2) : am_Bt (am_st m z k v) := am_Bt_st hB h.1 (Int.natCast_nonneg k) (by rw [h.2.2, am_ct, if_pos (show (ci, am_N ci).1 < 20 by show ci < 20; omega)]; exact hk)
theorem am_Bt_a {m : am_M} {z i v : Int} {kd : Nat} (hB : am_Bt m) (h : am_ar z kd) (hk : 20 ≤ kd) (hk2 : kd ≤ 23) (hi : 0 ≤ i) : am_Bt (am_st m z i v) := am_Bt_st hB h.1 hi (by
  rw [am_shape h.2.2.1 h.2.2.2, am_ctA hk]
  by_cases c : kd < 23
  · rw [if_pos c]; decide
  · rw [if_neg c, if_pos (by omega)]; decide)
theorem am_Bt_c {m : am_M} {z0 sp z1 dp n : Int} (hB : am_Bt m) (h : am_ar z1 20) : am_Bt (am_cp m z0 sp z1 dp n) := by
  intro o ho k hk hc
  unfold am_cp
  rw [if_neg]
  · exact hB o ho k hk hc
  · rintro ⟨e1, -⟩
    have e1 : o = z1.toNat := by omega
    rw [e1, am_shape h.2.2.1 h.2.2.2, am_ctA (by decide)] at hc
    exact absurd hc (by decide)
def am_min (a b : Int) : Int := if b < a then b else a
def am_max (a b : Int) : Int := if a < b then b else a
/-- what a method of made things says: the arguments' tags (5: 0 or 1), the answer's (9: none) -/
def am_tagd : List Nat → List Int → List am_V → Prop
  | [], [], [] => True
  | t :: ts, z :: zs, v :: vs => (v = (if t = 5 then 0 else t, z) ∧ (t = 5 → z = 0 ∨ z = 1)) ∧ am_tagd ts zs vs
  | _, _, _ => False
def am_rr (rt : Nat) (z : Int) : Option am_V := if rt = 9 then none else some (if rt = 5 then 0 else rt, z)
abbrev am_KK : Type := Int → am_M → Prop
abbrev am_PT : Type := List Int → am_KK → am_M → Prop
def am_L (tags : List Nat) (rt : Nat) (M : am_PT) : am_T3 := fun as post m n => n = 200 ∧ am_Bt m ∧ ∃ zs, am_tagd tags zs as ∧ ∃ K : am_KK, M zs K m ∧ ∀ z m', am_Bt m' → (rt = 5 → z = 0 ∨ z = 1) → K z m' → post (am_rr rt z) m' 200
def am_Cx (F : am_F) (cc : ByteArray) (own : String) (ret : Option FieldType) (d rt : Nat) (K : am_KK) : Prop := ∃ post : am_K, am_G F cc own ∧ am_P F (fun r m' n' => n' = 200 + 0 ∧ post r m' n') ret ∧ am_d F = d ∧ (∀ k, am_lim F k ↔ k ≤ 200 + 0) ∧ (∀ k, am_end F k ↔ k = 200 + 0) ∧ ∀ z m', am_Bt m' → (rt = 5 → z = 0 ∨ z = 1) → K z m' → post (am_rr rt z) m' 200
theorem am_tagd_len : ∀ {ts : List Nat} {zs : List Int} {vs : List am_V}, am_tagd ts zs vs → (am_al vs).length = (ts.map fun t => if t = 1 then 2 else 1).sum := by
  intro ts
  induction ts with
  | nil =>
    intro zs vs h
    cases zs <;> cases vs <;> first | rfl | exact h.elim
  | cons t ts ih =>
    intro zs vs h
    cases zs with
    | nil => cases vs <;> exact h.elim
    | cons z zs =>
      cases vs with
      | nil => exact h.elim
      | cons v vs =>
        obtain ⟨⟨rfl, -⟩, h2⟩ := h
        rw [am_al, List.map_cons, List.sum_cons]
        by_cases h1 : t = 1
        · subst h1
          simp [ih h2]
          omega
        · have e : ¬ (if t = 5 then 0 else t) = 1 := by split <;> omega
          rw [if_neg e, if_neg h1, List.length_cons, ih h2]
          omega
/-- a method of made things, out of its walk -/
theorem am_SB {y : MethodName} {bytes : ByteArray} {maxL : Nat} {ret : Option FieldType} {d rt : Nat} {tags : List Nat} {M : am_PT} (hy : plainName y.cls = true) (hlen : (tags.map fun t => if t = 1 then 2 else 1).sum ≤ maxL)
    (h : ∀ (F : am_F) (zs : List Int) (as : List am_V) (K : am_KK) (m : am_M), am_Cx F bytes y.cls ret d rt K → am_tagd tags zs as → am_Bt m → M zs K m → am_Z F 0 [] (am_loc as maxL) m 200) : am_Snd y bytes maxL ret 0 d (am_L tags rt M) := by
  refine am_SndOf hy (fun as post m n hM => ?_) (fun F post as m n G hP _ hd hl he _ hM => ?_)
  · obtain ⟨-, -, zs, ht, -⟩ := hM
    rw [am_tagd_len ht]
    exact hlen
  · obtain ⟨rfl, hB, zs, ht, K, hM, hK⟩ := hM
    exact h F zs as K m ⟨post, G, hP, hd, hl, he, hK⟩ ht hB hM
section AMB
variable {F : am_F} {cc : ByteArray} {own : String} {pc nx : Nat} {st loc : List am_V} {m : am_M} {ret : Option FieldType} {d rt : Nat} {K : am_KK}
theorem am_Cx.G (X : am_Cx F cc own ret d rt K) : am_G F cc own := by
  obtain ⟨post, G, -⟩ := X
  exact G
theorem b_store {a : Nat} {x : Int} {loc2 : Int → List am_V} {n : Nat} (G : am_G F cc own) (h2 : ∀ y, loc.set a (0, y) = loc2 y) (hl : a < loc.length) (hp : am_pl loc a) (hd : decode cc pc = .ok (.istore a, 2)) (hn : pc + 2 = nx) (k : ∀ y, y = x → am_Z F nx st (loc2 y) m n) : am_Z F pc ((0, x) :: st) loc m n := z_istore G hl hp hd hn (h2 x ▸ k x rfl)
theorem b_store_n {a : Fin 4} {x : Int} {loc2 : Int → List am_V} {n : Nat} (G : am_G F cc own) (h2 : ∀ y, loc.set (a : Nat) (0, y) = loc2 y) (hl : (a : Nat) < loc.length) (hp : am_pl loc a) (hd : decode cc pc = .ok (.istore_n a, 1)) (hn : pc + 1 = nx) (k : ∀ y, y = x → am_Z F nx st (loc2 y) m n) : am_Z F pc ((0, x) :: st) loc m n := z_istore_n G hl hp hd hn (h2 x ▸ k x rfl)
theorem b_lstore {a : Nat} {x : Int} {loc2 : Int → List am_V} {n : Nat} (G : am_G F cc own) (h2 : ∀ y, loc.set a (1, y) = loc2 y) (hl : a + 1 < loc.length) (hp : am_pl loc a) (hq : ∀ w, loc[a + 1]? = some w → w.1 = 9) (hd : decode cc pc = .ok (.lstore a, 2)) (hn : pc + 2 = nx) (k : ∀ y, y = x → am_Z F nx st (loc2 y) m n) : am_Z F pc ((1, x) :: st) loc m n := z_lstore G hl hp hq hd hn (h2 x ▸ k x rfl)
theorem b_lstore_n {a : Fin 4} {x : Int} {loc2 : Int → List am_V} {n : Nat} (G : am_G F cc own) (h2 : ∀ y, loc.set (a : Nat) (1, y) = loc2 y) (hl : (a : Nat) + 1 < loc.length) (hp : am_pl loc a) (hq : ∀ w, loc[(a : Nat) + 1]? = some w → w.1 = 9) (hd : decode cc pc = .ok (.lstore_n a, 1)) (hn : pc + 1 = nx) (k : ∀ y, y = x → am_Z F nx st (loc2 y) m n) : am_Z F pc ((1, x) :: st) loc m n := z_lstore_n G hl hp hq hd hn (h2 x ▸ k x rfl)
theorem b_astore {a : Nat} {v : am_V} {loc2 : List am_V} {n : Nat} (G : am_G F cc own) (h2 : loc.set a v = loc2) (hv : v.1 = 2 ∨ v.1 = 3) (hl : a < loc.length) (hp : am_pl loc a) (hd : decode cc pc = .ok (.astore a, 2)) (hn : pc + 2 = nx) (k : am_Z F nx st loc2 m n) : am_Z F pc (v :: st) loc m n := z_astore G hv hl hp hd hn (h2 ▸ k)
theorem b_astore_n {a : Fin 4} {v : am_V} {loc2 : List am_V} {n : Nat} (G : am_G F cc own) (h2 : loc.set (a : Nat) v = loc2) (hv : v.1 = 2 ∨ v.1 = 3) (hl : (a : Nat) < loc.length) (hp : am_pl loc a) (hd : decode cc pc = .ok (.astore_n a, 1)) (hn : pc + 1 = nx) (k : am_Z F nx st loc2 m n) : am_Z F pc (v :: st) loc m n := z_astore_n G hv hl hp hd hn (h2 ▸ k)
theorem b_iinc {a : Nat} {x b : Int} {loc2 : Int → List am_V} {n : Nat} (G : am_G F cc own) (h2 : ∀ y, loc.set a (0, y) = loc2 y) (hl : loc[a]? = some (0, x)) (hp : am_pl loc a) (hd : decode cc pc = .ok (.iinc a b, 3)) (hn : pc + 3 = nx) (k : ∀ y, y = w32 (x + b) → am_Z F nx st (loc2 y) m n) : am_Z F pc st loc m n := z_iinc G hl hp hd hn (h2 _ ▸ k _ rfl)
theorem b_fewer {loc2 : List am_V} {n : Nat} (h : am_le loc2 loc) (k : am_Z F pc st loc2 m n) : am_Z F pc st loc m n := z_fewer h k
theorem b_getA (G : am_G F cc own) (hB : am_Bt m) {z : Int} {idx ci k0 : Nat} (hw : am_Fld own idx ci k0) (hci : ci < 13) (hk0 : k0 < am_N ci) (hft : am_ft ci k0 = 2) (ho : am_ob z ci) (hd : decode cc pc = .ok (.getfield idx, 3)) (hn : pc + 3 = nx) (k : am_Z F nx ((2, am_rfv z k0) :: st) loc m 200) : am_Z F pc ((2, z) :: st) loc m 200 := by
  refine z_getf G hw hci hk0 ho hd hn ?_
  have e := hB z.toNat ho.2.1 k0 (by rw [ho.2.2]; exact hk0) (by rw [ho.2.2, am_ct, if_pos (show (ci, am_N ci).1 < 20 by show ci < 20; omega)]; exact hft)
  rw [am_toNat ho.1] at e
  rw [hft, e]
  exact k
theorem b_getI (G : am_G F cc own) {z : Int} {idx ci k0 t : Nat} (hw : am_Fld own idx ci k0) (hci : ci < 13) (hk0 : k0 < am_N ci) (hft : am_ft ci k0 = t) (ho : am_ob z ci) (hd : decode cc pc = .ok (.getfield idx, 3)) (hn : pc + 3 = nx) (k : am_Z F nx ((t, m z k0) :: st) loc m 200) : am_Z F pc ((2, z) :: st) loc m 200 := z_getf G hw hci hk0 ho hd hn (hft ▸ k)
theorem b_put (G : am_G F cc own) (hB : am_Bt m) {z x : Int} {t idx ci k0 : Nat} (hw : am_Fld own idx ci k0) (hci : ci < 13) (hk0 : k0 < am_N ci) (hfin : (am_T ci k0).2.2.2 = false) (hft : am_ft ci k0 ≠ 2) (hfit : am_fitV (am_ty ci k0) (t, x)) (ho : am_ob z ci) (hd : decode cc pc = .ok (.putfield idx, 3)) (hn : pc + 3 = nx) (k : ∀ m1, m1 = am_st m z k0 x → am_Bt m1 → am_Z F nx st loc m1 200) : am_Z F pc ((t, x) :: (2, z) :: st) loc m 200 := z_putf G hw hci hk0 hfin hfit ho hd hn (k _ rfl (am_Bt_o hB ho hci hft))
theorem b_aald (G : am_G F cc own) (hB : am_Bt m) {z i : Int} {kd : Nat} (hkd : kd = 24 ∨ kd = 25) (ho : am_ar z kd) (h0 : 0 ≤ i) (hl : i < am_len z) (hd : decode cc pc = .ok (.aaload, 1)) (hn : pc + 1 = nx) (k : am_Z F nx ((2, am_rfv z i) :: st) loc m 200) : am_Z F pc ((0, i) :: (2, z) :: st) loc m 200 := by
  refine z_aald G hkd ho h0 hl hd hn ?_
  have e := hB z.toNat ho.2.1 i.toNat (by
    have := ho.2.2.2
    unfold am_len at hl
    omega) (by rw [am_shape ho.2.2.1 ho.2.2.2, am_ctA (by omega), if_neg (by omega), if_neg (by omega)])
  rw [am_toNat ho.1, am_toNat h0] at e
  rw [e]
  exact k
theorem b_iast (G : am_G F cc own) (hB : am_Bt m) {z i x : Int} (ho : am_ar z 20) (h0 : 0 ≤ i) (hl : i < am_len z) (hd : decode cc pc = .ok (.iastore, 1)) (hn : pc + 1 = nx) (k : ∀ m1, m1 = am_st m z i x → am_Bt m1 → am_Z F nx st loc m1 200) : am_Z F pc ((0, x) :: (0, i) :: (2, z) :: st) loc m 200 := z_iast G ho h0 hl hd hn (k _ rfl (am_Bt_a hB ho (by decide) (by decide) h0))
theorem b_bast (G : am_G F cc own) (hB : am_Bt m) {z i x : Int} (hv : -128 ≤ x ∧ x ≤ 127) (ho : am_ar z 21) (h0 : 0 ≤ i) (hl : i < am_len z) (hd : decode cc pc = .ok (.bastore, 1)) (hn : pc + 1 = nx) (k : ∀ m1, m1 = am_st m z i x → am_Bt m1 → am_Z F nx st loc m1 200) : am_Z F pc ((0, x) :: (0, i) :: (2, z) :: st) loc m 200 := z_bast G hv ho h0 hl hd hn (k _ rfl (am_Bt_a hB ho (by decide) (by decide) h0))
theorem b_zast (G : am_G F cc own) (hB : am_Bt m) {z i x : Int} (hv : x = 0 ∨ x = 1) (ho : am_ar z 22) (h0 : 0 ≤ i) (hl : i < am_len z) (hd : decode cc pc = .ok (.bastore, 1)) (hn : pc + 1 = nx) (k : ∀ m1, m1 = am_st m z i x → am_Bt m1 → am_Z F nx st loc m1 200) : am_Z F pc ((0, x) :: (0, i) :: (2, z) :: st) loc m 200 := z_zast G hv ho h0 hl hd hn (k _ rfl (am_Bt_a hB ho (by decide) (by decide) h0))
theorem b_last (G : am_G F cc own) (hB : am_Bt m) {z i x : Int} (ho : am_ar z 23) (h0 : 0 ≤ i) (hl : i < am_len z) (hd : decode cc pc = .ok (.lastore, 1)) (hn : pc + 1 = nx) (k : ∀ m1, m1 = am_st m z i x → am_Bt m1 → am_Z F nx st loc m1 200) : am_Z F pc ((1, x) :: (0, i) :: (2, z) :: st) loc m 200 := z_last G ho h0 hl hd hn (k _ rfl (am_Bt_a hB ho (by decide) (by decide) h0))
theorem b_alen (G : am_G F cc own) {z : Int} {kd : Nat} (hk : 20 ≤ kd) (hk2 : kd ≤ 25) (ho : am_ar z kd) (hd : decode cc pc = .ok (.arraylength, 1)) (hn : pc + 1 = nx) (k : am_Z F nx ((0, am_len z) :: st) loc m 200) : am_Z F pc ((2, z) :: st) loc m 200 := z_alen G hk hk2 ho (am_len_R ho) hd hn k
theorem b_copy (G : am_G F cc own) (hB : am_Bt m) {z0 sp z1 dp len : Int} {idx : Nat} (hw : Cond.methodLink own idx arraycopyName ∈ am_TB) (ho0 : am_ar z0 20) (ho1 : am_ar z1 20) (g : 0 ≤ sp ∧ 0 ≤ dp ∧ 0 ≤ len ∧ sp + len ≤ am_len z0 ∧ dp + len ≤ am_len z1) (hst : am_cats st ≤ 8) (hd : decode cc pc = .ok (.invokestatic idx, 3)) (hn : pc + 3 = nx) (k : ∀ m1, m1 = am_cp m z0 sp z1 dp len → am_Bt m1 → am_Z F nx st loc m1 200) : am_Z F pc ((0, len) :: (0, dp) :: (2, z1) :: (0, sp) :: (2, z0) :: st) loc m 200 := z_copy G hw ho0 ho1 g.1 g.2.1 g.2.2.1 g.2.2.2.1 g.2.2.2.2 hst hd hn (k _ rfl (am_Bt_c hB ho1))
theorem b_mmin (X : am_Cx F cc own ret d rt K) {a b : Int} {idx : Nat} (hw : Cond.methodLink own idx Lib.Math.min.name ∈ am_TB) (hst : am_cats st ≤ 8) (hd : decode cc pc = .ok (.invokestatic idx, 3)) (hn : pc + 3 = nx) (k : am_Z F nx ((0, am_min a b) :: st) loc m 200) : am_Z F pc ((0, b) :: (0, a) :: st) loc m 200 := by
  obtain ⟨post, G, -, -, hl, -⟩ := X
  exact z_mmin G hw hst hd hn k ((hl 200).mpr (Nat.le_refl _))
theorem b_mmax (X : am_Cx F cc own ret d rt K) {a b : Int} {idx : Nat} (hw : Cond.methodLink own idx Lib.Math.max.name ∈ am_TB) (hst : am_cats st ≤ 8) (hd : decode cc pc = .ok (.invokestatic idx, 3)) (hn : pc + 3 = nx) (k : am_Z F nx ((0, am_max a b) :: st) loc m 200) : am_Z F pc ((0, b) :: (0, a) :: st) loc m 200 := by
  obtain ⟨post, G, -, -, hl, -⟩ := X
  exact z_mmax G hw hst hd hn k ((hl 200).mpr (Nat.le_refl _))
theorem b_ireturn (X : am_Cx F cc own (some .int) d 0 K) (hB : am_Bt m) {x : Int} (hd : decode cc pc = .ok (.ireturn, 1)) (h : K x m) : am_Z F pc [(0, x)] loc m 200 := by
  obtain ⟨post, G, hP, -, -, he, hK⟩ := X
  exact z_ireturn G hP ((he 200).mpr rfl) hd ⟨rfl, hK x m hB (fun h => nomatch h) h⟩
theorem b_zreturn (X : am_Cx F cc own (some .boolean) d 5 K) (hB : am_Bt m) {x : Int} (hx : x = 0 ∨ x = 1) (hd : decode cc pc = .ok (.ireturn, 1)) (h : K x m) : am_Z F pc [(0, x)] loc m 200 := by
  obtain ⟨post, G, hP, -, -, he, hK⟩ := X
  exact z_zreturn G hP ((he 200).mpr rfl) hx hd ⟨rfl, hK x m hB (fun _ => hx) h⟩
theorem b_lreturn (X : am_Cx F cc own (some .long) d 1 K) (hB : am_Bt m) {x : Int} (hd : decode cc pc = .ok (.lreturn, 1)) (h : K x m) : am_Z F pc [(1, x)] loc m 200 := by
  obtain ⟨post, G, hP, -, -, he, hK⟩ := X
  exact z_lreturn G hP ((he 200).mpr rfl) hd ⟨rfl, hK x m hB (fun h => nomatch h) h⟩
theorem b_areturn {C : String} (X : am_Cx F cc own (some (.object C)) d 2 K) (hB : am_Bt m) {x : Int} (hd : decode cc pc = .ok (.areturn, 1)) (h : K x m) : am_Z F pc [(2, x)] loc m 200 := by
  obtain ⟨post, G, hP, -, -, he, hK⟩ := X
  exact z_areturn G hP ((he 200).mpr rfl) hd ⟨rfl, hK x m hB (fun h => nomatch h) h⟩
theorem b_return (X : am_Cx F cc own none d 9 K) (hB : am_Bt m) (hd : decode cc pc = .ok (.return_, 1)) (h : K 0 m) : am_Z F pc [] loc m 200 := by
  obtain ⟨post, G, hP, -, -, he, hK⟩ := X
  exact z_return G hP ((he 200).mpr rfl) hd ⟨rfl, hK 0 m hB (fun h => nomatch h) h⟩

theorem b_callV0 (X : am_Cx F cc own ret d rt K) (hB : am_Bt m) {y : MethodName} {bytes : ByteArray} {maxL : Nat} {rty : Option FieldType} {dj : Nat} {tags : List Nat} {M : am_PT} {as : List am_V} {zs : List Int} {K1 : am_KK} {idx : Nat} {z : Int} {ci : Nat} (hci : ci < 13) (hyc : y.cls = am_C ci) (hz : am_ob z ci) (hM : am_Snd y bytes maxL rty 0 dj (am_L tags 0 M)) (ht : am_tagd tags zs ((2, z) :: as)) (hdj : dj + 1 ≤ d) (hml : maxL ≤ 41) (hl : Cond.methodLink own idx y ∈ am_TB) (hi : Cond.instanceMethod y ∈ am_TB) (hs : Cond.selects y.cls y y ∈ am_TB) (hcode : Cond.code y bytes maxL rty ∈ am_TB) (hini : Cond.initialized y.cls ∈ am_TB) (hpar : (parseMethodDescriptor y.desc).map (fun d => d.parameters.length) = some as.length) (hst : am_cats st ≤ 8) (hd : decode cc pc = .ok (.invokevirtual idx, 3)) (hn : pc + 3 = nx) (hm : M zs K1 m) (k : ∀ r m1, K1 r m1 → am_Bt m1 → am_Z F nx ((0, r) :: st) loc m1 200) : am_Z F pc (as.reverse ++ (2, z) :: st) loc m 200 := by
  obtain ⟨post, G, -, hdd, hl2, -⟩ := X
  refine z_callV (K := fun r m' n' => ∃ z, r = am_rr 0 z ∧ am_Bt m' ∧ K1 z m') G hci hyc hz hM (hdd.symm ▸ hdj) hml ((hl2 _).mpr (Nat.le_refl _)) hl hi hs hcode hini hpar hst hd hn ⟨rfl, hB, zs, ht, K1, hm, fun z m' g1 g2 g3 => ⟨z, rfl, g1, g3⟩⟩ (fun r m' g => ?_)
  obtain ⟨z1, rfl, g1, g3⟩ := g
  exact k z1 m' g3 g1
theorem b_callV5 (X : am_Cx F cc own ret d rt K) (hB : am_Bt m) {y : MethodName} {bytes : ByteArray} {maxL : Nat} {rty : Option FieldType} {dj : Nat} {tags : List Nat} {M : am_PT} {as : List am_V} {zs : List Int} {K1 : am_KK} {idx : Nat} {z : Int} {ci : Nat} (hci : ci < 13) (hyc : y.cls = am_C ci) (hz : am_ob z ci) (hM : am_Snd y bytes maxL rty 0 dj (am_L tags 5 M)) (ht : am_tagd tags zs ((2, z) :: as)) (hdj : dj + 1 ≤ d) (hml : maxL ≤ 41) (hl : Cond.methodLink own idx y ∈ am_TB) (hi : Cond.instanceMethod y ∈ am_TB) (hs : Cond.selects y.cls y y ∈ am_TB) (hcode : Cond.code y bytes maxL rty ∈ am_TB) (hini : Cond.initialized y.cls ∈ am_TB) (hpar : (parseMethodDescriptor y.desc).map (fun d => d.parameters.length) = some as.length) (hst : am_cats st ≤ 8) (hd : decode cc pc = .ok (.invokevirtual idx, 3)) (hn : pc + 3 = nx) (hm : M zs K1 m) (k : ∀ r m1, K1 r m1 → (r = 0 ∨ r = 1) → am_Bt m1 → am_Z F nx ((0, r) :: st) loc m1 200) : am_Z F pc (as.reverse ++ (2, z) :: st) loc m 200 := by
  obtain ⟨post, G, -, hdd, hl2, -⟩ := X
  refine z_callV (K := fun r m' n' => ∃ z, r = am_rr 5 z ∧ am_Bt m' ∧ (z = 0 ∨ z = 1) ∧ K1 z m') G hci hyc hz hM (hdd.symm ▸ hdj) hml ((hl2 _).mpr (Nat.le_refl _)) hl hi hs hcode hini hpar hst hd hn ⟨rfl, hB, zs, ht, K1, hm, fun z m' g1 g2 g3 => ⟨z, rfl, g1, g2 rfl, g3⟩⟩ (fun r m' g => ?_)
  obtain ⟨z1, rfl, g1, g2, g3⟩ := g
  exact k z1 m' g3 g2 g1
theorem b_callV1 (X : am_Cx F cc own ret d rt K) (hB : am_Bt m) {y : MethodName} {bytes : ByteArray} {maxL : Nat} {rty : Option FieldType} {dj : Nat} {tags : List Nat} {M : am_PT} {as : List am_V} {zs : List Int} {K1 : am_KK} {idx : Nat} {z : Int} {ci : Nat} (hci : ci < 13) (hyc : y.cls = am_C ci) (hz : am_ob z ci) (hM : am_Snd y bytes maxL rty 0 dj (am_L tags 1 M)) (ht : am_tagd tags zs ((2, z) :: as)) (hdj : dj + 1 ≤ d) (hml : maxL ≤ 41) (hl : Cond.methodLink own idx y ∈ am_TB) (hi : Cond.instanceMethod y ∈ am_TB) (hs : Cond.selects y.cls y y ∈ am_TB) (hcode : Cond.code y bytes maxL rty ∈ am_TB) (hini : Cond.initialized y.cls ∈ am_TB) (hpar : (parseMethodDescriptor y.desc).map (fun d => d.parameters.length) = some as.length) (hst : am_cats st ≤ 8) (hd : decode cc pc = .ok (.invokevirtual idx, 3)) (hn : pc + 3 = nx) (hm : M zs K1 m) (k : ∀ r m1, K1 r m1 → am_Bt m1 → am_Z F nx ((1, r) :: st) loc m1 200) : am_Z F pc (as.reverse ++ (2, z) :: st) loc m 200 := by
  obtain ⟨post, G, -, hdd, hl2, -⟩ := X
  refine z_callV (K := fun r m' n' => ∃ z, r = am_rr 1 z ∧ am_Bt m' ∧ K1 z m') G hci hyc hz hM (hdd.symm ▸ hdj) hml ((hl2 _).mpr (Nat.le_refl _)) hl hi hs hcode hini hpar hst hd hn ⟨rfl, hB, zs, ht, K1, hm, fun z m' g1 g2 g3 => ⟨z, rfl, g1, g3⟩⟩ (fun r m' g => ?_)
  obtain ⟨z1, rfl, g1, g3⟩ := g
  exact k z1 m' g3 g1
theorem b_callV2 (X : am_Cx F cc own ret d rt K) (hB : am_Bt m) {y : MethodName} {bytes : ByteArray} {maxL : Nat} {rty : Option FieldType} {dj : Nat} {tags : List Nat} {M : am_PT} {as : List am_V} {zs : List Int} {K1 : am_KK} {idx : Nat} {z : Int} {ci : Nat} (hci : ci < 13) (hyc : y.cls = am_C ci) (hz : am_ob z ci) (hM : am_Snd y bytes maxL rty 0 dj (am_L tags 2 M)) (ht : am_tagd tags zs ((2, z) :: as)) (hdj : dj + 1 ≤ d) (hml : maxL ≤ 41) (hl : Cond.methodLink own idx y ∈ am_TB) (hi : Cond.instanceMethod y ∈ am_TB) (hs : Cond.selects y.cls y y ∈ am_TB) (hcode : Cond.code y bytes maxL rty ∈ am_TB) (hini : Cond.initialized y.cls ∈ am_TB) (hpar : (parseMethodDescriptor y.desc).map (fun d => d.parameters.length) = some as.length) (hst : am_cats st ≤ 8) (hd : decode cc pc = .ok (.invokevirtual idx, 3)) (hn : pc + 3 = nx) (hm : M zs K1 m) (k : ∀ r m1, K1 r m1 → am_Bt m1 → am_Z F nx ((2, r) :: st) loc m1 200) : am_Z F pc (as.reverse ++ (2, z) :: st) loc m 200 := by
  obtain ⟨post, G, -, hdd, hl2, -⟩ := X
  refine z_callV (K := fun r m' n' => ∃ z, r = am_rr 2 z ∧ am_Bt m' ∧ K1 z m') G hci hyc hz hM (hdd.symm ▸ hdj) hml ((hl2 _).mpr (Nat.le_refl _)) hl hi hs hcode hini hpar hst hd hn ⟨rfl, hB, zs, ht, K1, hm, fun z m' g1 g2 g3 => ⟨z, rfl, g1, g3⟩⟩ (fun r m' g => ?_)
  obtain ⟨z1, rfl, g1, g3⟩ := g
  exact k z1 m' g3 g1
theorem b_callV9 (X : am_Cx F cc own ret d rt K) (hB : am_Bt m) {y : MethodName} {bytes : ByteArray} {maxL : Nat} {rty : Option FieldType} {dj : Nat} {tags : List Nat} {M : am_PT} {as : List am_V} {zs : List Int} {K1 : am_KK} {idx : Nat} {z : Int} {ci : Nat} (hci : ci < 13) (hyc : y.cls = am_C ci) (hz : am_ob z ci) (hM : am_Snd y bytes maxL rty 0 dj (am_L tags 9 M)) (ht : am_tagd tags zs ((2, z) :: as)) (hdj : dj + 1 ≤ d) (hml : maxL ≤ 41) (hl : Cond.methodLink own idx y ∈ am_TB) (hi : Cond.instanceMethod y ∈ am_TB) (hs : Cond.selects y.cls y y ∈ am_TB) (hcode : Cond.code y bytes maxL rty ∈ am_TB) (hini : Cond.initialized y.cls ∈ am_TB) (hpar : (parseMethodDescriptor y.desc).map (fun d => d.parameters.length) = some as.length) (hst : am_cats st ≤ 8) (hd : decode cc pc = .ok (.invokevirtual idx, 3)) (hn : pc + 3 = nx) (hm : M zs K1 m) (k : ∀ r m1, K1 r m1 → am_Bt m1 → am_Z F nx st loc m1 200) : am_Z F pc (as.reverse ++ (2, z) :: st) loc m 200 := by
  obtain ⟨post, G, -, hdd, hl2, -⟩ := X
  refine z_callV (K := fun r m' n' => ∃ z, r = am_rr 9 z ∧ am_Bt m' ∧ K1 z m') G hci hyc hz hM (hdd.symm ▸ hdj) hml ((hl2 _).mpr (Nat.le_refl _)) hl hi hs hcode hini hpar hst hd hn ⟨rfl, hB, zs, ht, K1, hm, fun z m' g1 g2 g3 => ⟨z, rfl, g1, g3⟩⟩ (fun r m' g => ?_)
  obtain ⟨z1, rfl, g1, g3⟩ := g
  exact k z1 m' g3 g1
theorem b_callVN0 (X : am_Cx F cc own ret d rt K) (hB : am_Bt m) {y : MethodName} {bytes : ByteArray} {maxL : Nat} {rty : Option FieldType} {dj : Nat} {tags : List Nat} {M : am_PT} {as : List am_V} {zs : List Int} {K1 : am_KK} {idx : Nat} {z : Int} {ci : Nat} (hci : ci < 13) (hyc : y.cls = am_C ci) (hz : am_ob z ci) (hM : am_Snd y bytes maxL rty 0 dj (am_L tags 0 M)) (ht : am_tagd tags zs ((2, z) :: as)) (hdj : dj + 1 ≤ d) (hml : maxL ≤ 41) (hl : Cond.methodLinkNest own idx y RX11 ∈ am_nestW) (hi : Cond.instanceMethod y ∈ am_TB) (hs : Cond.selects y.cls y y ∈ am_TB) (hcode : Cond.code y bytes maxL rty ∈ am_TB) (hini : Cond.initialized y.cls ∈ am_TB) (hpar : (parseMethodDescriptor y.desc).map (fun d => d.parameters.length) = some as.length) (hst : am_cats st ≤ 8) (hd : decode cc pc = .ok (.invokevirtual idx, 3)) (hn : pc + 3 = nx) (hm : M zs K1 m) (k : ∀ r m1, K1 r m1 → am_Bt m1 → am_Z F nx ((0, r) :: st) loc m1 200) : am_Z F pc (as.reverse ++ (2, z) :: st) loc m 200 := by
  obtain ⟨post, G, -, hdd, hl2, -⟩ := X
  refine z_callVN (K := fun r m' n' => ∃ z, r = am_rr 0 z ∧ am_Bt m' ∧ K1 z m') G hci hyc hz hM (hdd.symm ▸ hdj) hml ((hl2 _).mpr (Nat.le_refl _)) hl hi hs hcode hini hpar hst hd hn ⟨rfl, hB, zs, ht, K1, hm, fun z m' g1 g2 g3 => ⟨z, rfl, g1, g3⟩⟩ (fun r m' g => ?_)
  obtain ⟨z1, rfl, g1, g3⟩ := g
  exact k z1 m' g3 g1
theorem b_callVN5 (X : am_Cx F cc own ret d rt K) (hB : am_Bt m) {y : MethodName} {bytes : ByteArray} {maxL : Nat} {rty : Option FieldType} {dj : Nat} {tags : List Nat} {M : am_PT} {as : List am_V} {zs : List Int} {K1 : am_KK} {idx : Nat} {z : Int} {ci : Nat} (hci : ci < 13) (hyc : y.cls = am_C ci) (hz : am_ob z ci) (hM : am_Snd y bytes maxL rty 0 dj (am_L tags 5 M)) (ht : am_tagd tags zs ((2, z) :: as)) (hdj : dj + 1 ≤ d) (hml : maxL ≤ 41) (hl : Cond.methodLinkNest own idx y RX11 ∈ am_nestW) (hi : Cond.instanceMethod y ∈ am_TB) (hs : Cond.selects y.cls y y ∈ am_TB) (hcode : Cond.code y bytes maxL rty ∈ am_TB) (hini : Cond.initialized y.cls ∈ am_TB) (hpar : (parseMethodDescriptor y.desc).map (fun d => d.parameters.length) = some as.length) (hst : am_cats st ≤ 8) (hd : decode cc pc = .ok (.invokevirtual idx, 3)) (hn : pc + 3 = nx) (hm : M zs K1 m) (k : ∀ r m1, K1 r m1 → (r = 0 ∨ r = 1) → am_Bt m1 → am_Z F nx ((0, r) :: st) loc m1 200) : am_Z F pc (as.reverse ++ (2, z) :: st) loc m 200 := by
  obtain ⟨post, G, -, hdd, hl2, -⟩ := X
  refine z_callVN (K := fun r m' n' => ∃ z, r = am_rr 5 z ∧ am_Bt m' ∧ (z = 0 ∨ z = 1) ∧ K1 z m') G hci hyc hz hM (hdd.symm ▸ hdj) hml ((hl2 _).mpr (Nat.le_refl _)) hl hi hs hcode hini hpar hst hd hn ⟨rfl, hB, zs, ht, K1, hm, fun z m' g1 g2 g3 => ⟨z, rfl, g1, g2 rfl, g3⟩⟩ (fun r m' g => ?_)
  obtain ⟨z1, rfl, g1, g2, g3⟩ := g
  exact k z1 m' g3 g2 g1
theorem b_callVN1 (X : am_Cx F cc own ret d rt K) (hB : am_Bt m) {y : MethodName} {bytes : ByteArray} {maxL : Nat} {rty : Option FieldType} {dj : Nat} {tags : List Nat} {M : am_PT} {as : List am_V} {zs : List Int} {K1 : am_KK} {idx : Nat} {z : Int} {ci : Nat} (hci : ci < 13) (hyc : y.cls = am_C ci) (hz : am_ob z ci) (hM : am_Snd y bytes maxL rty 0 dj (am_L tags 1 M)) (ht : am_tagd tags zs ((2, z) :: as)) (hdj : dj + 1 ≤ d) (hml : maxL ≤ 41) (hl : Cond.methodLinkNest own idx y RX11 ∈ am_nestW) (hi : Cond.instanceMethod y ∈ am_TB) (hs : Cond.selects y.cls y y ∈ am_TB) (hcode : Cond.code y bytes maxL rty ∈ am_TB) (hini : Cond.initialized y.cls ∈ am_TB) (hpar : (parseMethodDescriptor y.desc).map (fun d => d.parameters.length) = some as.length) (hst : am_cats st ≤ 8) (hd : decode cc pc = .ok (.invokevirtual idx, 3)) (hn : pc + 3 = nx) (hm : M zs K1 m) (k : ∀ r m1, K1 r m1 → am_Bt m1 → am_Z F nx ((1, r) :: st) loc m1 200) : am_Z F pc (as.reverse ++ (2, z) :: st) loc m 200 := by
  obtain ⟨post, G, -, hdd, hl2, -⟩ := X
  refine z_callVN (K := fun r m' n' => ∃ z, r = am_rr 1 z ∧ am_Bt m' ∧ K1 z m') G hci hyc hz hM (hdd.symm ▸ hdj) hml ((hl2 _).mpr (Nat.le_refl _)) hl hi hs hcode hini hpar hst hd hn ⟨rfl, hB, zs, ht, K1, hm, fun z m' g1 g2 g3 => ⟨z, rfl, g1, g3⟩⟩ (fun r m' g => ?_)
  obtain ⟨z1, rfl, g1, g3⟩ := g
  exact k z1 m' g3 g1
theorem b_callVN2 (X : am_Cx F cc own ret d rt K) (hB : am_Bt m) {y : MethodName} {bytes : ByteArray} {maxL : Nat} {rty : Option FieldType} {dj : Nat} {tags : List Nat} {M : am_PT} {as : List am_V} {zs : List Int} {K1 : am_KK} {idx : Nat} {z : Int} {ci : Nat} (hci : ci < 13) (hyc : y.cls = am_C ci) (hz : am_ob z ci) (hM : am_Snd y bytes maxL rty 0 dj (am_L tags 2 M)) (ht : am_tagd tags zs ((2, z) :: as)) (hdj : dj + 1 ≤ d) (hml : maxL ≤ 41) (hl : Cond.methodLinkNest own idx y RX11 ∈ am_nestW) (hi : Cond.instanceMethod y ∈ am_TB) (hs : Cond.selects y.cls y y ∈ am_TB) (hcode : Cond.code y bytes maxL rty ∈ am_TB) (hini : Cond.initialized y.cls ∈ am_TB) (hpar : (parseMethodDescriptor y.desc).map (fun d => d.parameters.length) = some as.length) (hst : am_cats st ≤ 8) (hd : decode cc pc = .ok (.invokevirtual idx, 3)) (hn : pc + 3 = nx) (hm : M zs K1 m) (k : ∀ r m1, K1 r m1 → am_Bt m1 → am_Z F nx ((2, r) :: st) loc m1 200) : am_Z F pc (as.reverse ++ (2, z) :: st) loc m 200 := by
  obtain ⟨post, G, -, hdd, hl2, -⟩ := X
  refine z_callVN (K := fun r m' n' => ∃ z, r = am_rr 2 z ∧ am_Bt m' ∧ K1 z m') G hci hyc hz hM (hdd.symm ▸ hdj) hml ((hl2 _).mpr (Nat.le_refl _)) hl hi hs hcode hini hpar hst hd hn ⟨rfl, hB, zs, ht, K1, hm, fun z m' g1 g2 g3 => ⟨z, rfl, g1, g3⟩⟩ (fun r m' g => ?_)
  obtain ⟨z1, rfl, g1, g3⟩ := g
  exact k z1 m' g3 g1
theorem b_callVN9 (X : am_Cx F cc own ret d rt K) (hB : am_Bt m) {y : MethodName} {bytes : ByteArray} {maxL : Nat} {rty : Option FieldType} {dj : Nat} {tags : List Nat} {M : am_PT} {as : List am_V} {zs : List Int} {K1 : am_KK} {idx : Nat} {z : Int} {ci : Nat} (hci : ci < 13) (hyc : y.cls = am_C ci) (hz : am_ob z ci) (hM : am_Snd y bytes maxL rty 0 dj (am_L tags 9 M)) (ht : am_tagd tags zs ((2, z) :: as)) (hdj : dj + 1 ≤ d) (hml : maxL ≤ 41) (hl : Cond.methodLinkNest own idx y RX11 ∈ am_nestW) (hi : Cond.instanceMethod y ∈ am_TB) (hs : Cond.selects y.cls y y ∈ am_TB) (hcode : Cond.code y bytes maxL rty ∈ am_TB) (hini : Cond.initialized y.cls ∈ am_TB) (hpar : (parseMethodDescriptor y.desc).map (fun d => d.parameters.length) = some as.length) (hst : am_cats st ≤ 8) (hd : decode cc pc = .ok (.invokevirtual idx, 3)) (hn : pc + 3 = nx) (hm : M zs K1 m) (k : ∀ r m1, K1 r m1 → am_Bt m1 → am_Z F nx st loc m1 200) : am_Z F pc (as.reverse ++ (2, z) :: st) loc m 200 := by
  obtain ⟨post, G, -, hdd, hl2, -⟩ := X
  refine z_callVN (K := fun r m' n' => ∃ z, r = am_rr 9 z ∧ am_Bt m' ∧ K1 z m') G hci hyc hz hM (hdd.symm ▸ hdj) hml ((hl2 _).mpr (Nat.le_refl _)) hl hi hs hcode hini hpar hst hd hn ⟨rfl, hB, zs, ht, K1, hm, fun z m' g1 g2 g3 => ⟨z, rfl, g1, g3⟩⟩ (fun r m' g => ?_)
  obtain ⟨z1, rfl, g1, g3⟩ := g
  exact k z1 m' g3 g1
theorem b_callS0 (X : am_Cx F cc own ret d rt K) (hB : am_Bt m) {y : MethodName} {bytes : ByteArray} {maxL : Nat} {rty : Option FieldType} {dj : Nat} {tags : List Nat} {M : am_PT} {as : List am_V} {zs : List Int} {K1 : am_KK} {idx : Nat} (hM : am_Snd y bytes maxL rty 0 dj (am_L tags 0 M)) (ht : am_tagd tags zs as) (hdj : dj + 1 ≤ d) (hml : maxL ≤ 41) (hl : Cond.methodLink own idx y ∈ am_TB) (hs : Cond.static y ∈ am_TB) (hpl : y.cls ≠ "java/lang/invoke/MethodHandle" ∧ y.cls ≠ "java/lang/invoke/VarHandle") (hcode : Cond.code y bytes maxL rty ∈ am_TB) (hini : Cond.initialized y.cls ∈ am_TB) (hpar : (parseMethodDescriptor y.desc).map (fun d => d.parameters.length) = some as.length) (hst : am_cats st ≤ 8) (hd : decode cc pc = .ok (.invokestatic idx, 3)) (hn : pc + 3 = nx) (hm : M zs K1 m) (k : ∀ r m1, K1 r m1 → am_Bt m1 → am_Z F nx ((0, r) :: st) loc m1 200) : am_Z F pc (as.reverse ++ st) loc m 200 := by
  obtain ⟨post, G, -, hdd, hl2, -⟩ := X
  refine z_callS (K := fun r m' n' => ∃ z, r = am_rr 0 z ∧ am_Bt m' ∧ K1 z m') G hM (hdd.symm ▸ hdj) hml ((hl2 _).mpr (Nat.le_refl _)) hl hs hpl hcode hini hpar hst hd hn ⟨rfl, hB, zs, ht, K1, hm, fun z m' g1 g2 g3 => ⟨z, rfl, g1, g3⟩⟩ (fun r m' g => ?_)
  obtain ⟨z1, rfl, g1, g3⟩ := g
  exact k z1 m' g3 g1
theorem b_callS5 (X : am_Cx F cc own ret d rt K) (hB : am_Bt m) {y : MethodName} {bytes : ByteArray} {maxL : Nat} {rty : Option FieldType} {dj : Nat} {tags : List Nat} {M : am_PT} {as : List am_V} {zs : List Int} {K1 : am_KK} {idx : Nat} (hM : am_Snd y bytes maxL rty 0 dj (am_L tags 5 M)) (ht : am_tagd tags zs as) (hdj : dj + 1 ≤ d) (hml : maxL ≤ 41) (hl : Cond.methodLink own idx y ∈ am_TB) (hs : Cond.static y ∈ am_TB) (hpl : y.cls ≠ "java/lang/invoke/MethodHandle" ∧ y.cls ≠ "java/lang/invoke/VarHandle") (hcode : Cond.code y bytes maxL rty ∈ am_TB) (hini : Cond.initialized y.cls ∈ am_TB) (hpar : (parseMethodDescriptor y.desc).map (fun d => d.parameters.length) = some as.length) (hst : am_cats st ≤ 8) (hd : decode cc pc = .ok (.invokestatic idx, 3)) (hn : pc + 3 = nx) (hm : M zs K1 m) (k : ∀ r m1, K1 r m1 → (r = 0 ∨ r = 1) → am_Bt m1 → am_Z F nx ((0, r) :: st) loc m1 200) : am_Z F pc (as.reverse ++ st) loc m 200 := by
  obtain ⟨post, G, -, hdd, hl2, -⟩ := X
  refine z_callS (K := fun r m' n' => ∃ z, r = am_rr 5 z ∧ am_Bt m' ∧ (z = 0 ∨ z = 1) ∧ K1 z m') G hM (hdd.symm ▸ hdj) hml ((hl2 _).mpr (Nat.le_refl _)) hl hs hpl hcode hini hpar hst hd hn ⟨rfl, hB, zs, ht, K1, hm, fun z m' g1 g2 g3 => ⟨z, rfl, g1, g2 rfl, g3⟩⟩ (fun r m' g => ?_)
  obtain ⟨z1, rfl, g1, g2, g3⟩ := g
  exact k z1 m' g3 g2 g1
theorem b_callS1 (X : am_Cx F cc own ret d rt K) (hB : am_Bt m) {y : MethodName} {bytes : ByteArray} {maxL : Nat} {rty : Option FieldType} {dj : Nat} {tags : List Nat} {M : am_PT} {as : List am_V} {zs : List Int} {K1 : am_KK} {idx : Nat} (hM : am_Snd y bytes maxL rty 0 dj (am_L tags 1 M)) (ht : am_tagd tags zs as) (hdj : dj + 1 ≤ d) (hml : maxL ≤ 41) (hl : Cond.methodLink own idx y ∈ am_TB) (hs : Cond.static y ∈ am_TB) (hpl : y.cls ≠ "java/lang/invoke/MethodHandle" ∧ y.cls ≠ "java/lang/invoke/VarHandle") (hcode : Cond.code y bytes maxL rty ∈ am_TB) (hini : Cond.initialized y.cls ∈ am_TB) (hpar : (parseMethodDescriptor y.desc).map (fun d => d.parameters.length) = some as.length) (hst : am_cats st ≤ 8) (hd : decode cc pc = .ok (.invokestatic idx, 3)) (hn : pc + 3 = nx) (hm : M zs K1 m) (k : ∀ r m1, K1 r m1 → am_Bt m1 → am_Z F nx ((1, r) :: st) loc m1 200) : am_Z F pc (as.reverse ++ st) loc m 200 := by
  obtain ⟨post, G, -, hdd, hl2, -⟩ := X
  refine z_callS (K := fun r m' n' => ∃ z, r = am_rr 1 z ∧ am_Bt m' ∧ K1 z m') G hM (hdd.symm ▸ hdj) hml ((hl2 _).mpr (Nat.le_refl _)) hl hs hpl hcode hini hpar hst hd hn ⟨rfl, hB, zs, ht, K1, hm, fun z m' g1 g2 g3 => ⟨z, rfl, g1, g3⟩⟩ (fun r m' g => ?_)
  obtain ⟨z1, rfl, g1, g3⟩ := g
  exact k z1 m' g3 g1
theorem b_callS2 (X : am_Cx F cc own ret d rt K) (hB : am_Bt m) {y : MethodName} {bytes : ByteArray} {maxL : Nat} {rty : Option FieldType} {dj : Nat} {tags : List Nat} {M : am_PT} {as : List am_V} {zs : List Int} {K1 : am_KK} {idx : Nat} (hM : am_Snd y bytes maxL rty 0 dj (am_L tags 2 M)) (ht : am_tagd tags zs as) (hdj : dj + 1 ≤ d) (hml : maxL ≤ 41) (hl : Cond.methodLink own idx y ∈ am_TB) (hs : Cond.static y ∈ am_TB) (hpl : y.cls ≠ "java/lang/invoke/MethodHandle" ∧ y.cls ≠ "java/lang/invoke/VarHandle") (hcode : Cond.code y bytes maxL rty ∈ am_TB) (hini : Cond.initialized y.cls ∈ am_TB) (hpar : (parseMethodDescriptor y.desc).map (fun d => d.parameters.length) = some as.length) (hst : am_cats st ≤ 8) (hd : decode cc pc = .ok (.invokestatic idx, 3)) (hn : pc + 3 = nx) (hm : M zs K1 m) (k : ∀ r m1, K1 r m1 → am_Bt m1 → am_Z F nx ((2, r) :: st) loc m1 200) : am_Z F pc (as.reverse ++ st) loc m 200 := by
  obtain ⟨post, G, -, hdd, hl2, -⟩ := X
  refine z_callS (K := fun r m' n' => ∃ z, r = am_rr 2 z ∧ am_Bt m' ∧ K1 z m') G hM (hdd.symm ▸ hdj) hml ((hl2 _).mpr (Nat.le_refl _)) hl hs hpl hcode hini hpar hst hd hn ⟨rfl, hB, zs, ht, K1, hm, fun z m' g1 g2 g3 => ⟨z, rfl, g1, g3⟩⟩ (fun r m' g => ?_)
  obtain ⟨z1, rfl, g1, g3⟩ := g
  exact k z1 m' g3 g1
theorem b_callS9 (X : am_Cx F cc own ret d rt K) (hB : am_Bt m) {y : MethodName} {bytes : ByteArray} {maxL : Nat} {rty : Option FieldType} {dj : Nat} {tags : List Nat} {M : am_PT} {as : List am_V} {zs : List Int} {K1 : am_KK} {idx : Nat} (hM : am_Snd y bytes maxL rty 0 dj (am_L tags 9 M)) (ht : am_tagd tags zs as) (hdj : dj + 1 ≤ d) (hml : maxL ≤ 41) (hl : Cond.methodLink own idx y ∈ am_TB) (hs : Cond.static y ∈ am_TB) (hpl : y.cls ≠ "java/lang/invoke/MethodHandle" ∧ y.cls ≠ "java/lang/invoke/VarHandle") (hcode : Cond.code y bytes maxL rty ∈ am_TB) (hini : Cond.initialized y.cls ∈ am_TB) (hpar : (parseMethodDescriptor y.desc).map (fun d => d.parameters.length) = some as.length) (hst : am_cats st ≤ 8) (hd : decode cc pc = .ok (.invokestatic idx, 3)) (hn : pc + 3 = nx) (hm : M zs K1 m) (k : ∀ r m1, K1 r m1 → am_Bt m1 → am_Z F nx st loc m1 200) : am_Z F pc (as.reverse ++ st) loc m 200 := by
  obtain ⟨post, G, -, hdd, hl2, -⟩ := X
  refine z_callS (K := fun r m' n' => ∃ z, r = am_rr 9 z ∧ am_Bt m' ∧ K1 z m') G hM (hdd.symm ▸ hdj) hml ((hl2 _).mpr (Nat.le_refl _)) hl hs hpl hcode hini hpar hst hd hn ⟨rfl, hB, zs, ht, K1, hm, fun z m' g1 g2 g3 => ⟨z, rfl, g1, g3⟩⟩ (fun r m' g => ?_)
  obtain ⟨z1, rfl, g1, g3⟩ := g
  exact k z1 m' g3 g1
theorem b_callSN0 (X : am_Cx F cc own ret d rt K) (hB : am_Bt m) {y : MethodName} {bytes : ByteArray} {maxL : Nat} {rty : Option FieldType} {dj : Nat} {tags : List Nat} {M : am_PT} {as : List am_V} {zs : List Int} {K1 : am_KK} {idx : Nat} (hM : am_Snd y bytes maxL rty 0 dj (am_L tags 0 M)) (ht : am_tagd tags zs as) (hdj : dj + 1 ≤ d) (hml : maxL ≤ 41) (hl : Cond.methodLinkNest own idx y RX11 ∈ am_nestW) (hs : Cond.static y ∈ am_TB) (hpl : y.cls ≠ "java/lang/invoke/MethodHandle" ∧ y.cls ≠ "java/lang/invoke/VarHandle") (hcode : Cond.code y bytes maxL rty ∈ am_TB) (hini : Cond.initialized y.cls ∈ am_TB) (hpar : (parseMethodDescriptor y.desc).map (fun d => d.parameters.length) = some as.length) (hst : am_cats st ≤ 8) (hd : decode cc pc = .ok (.invokestatic idx, 3)) (hn : pc + 3 = nx) (hm : M zs K1 m) (k : ∀ r m1, K1 r m1 → am_Bt m1 → am_Z F nx ((0, r) :: st) loc m1 200) : am_Z F pc (as.reverse ++ st) loc m 200 := by
  obtain ⟨post, G, -, hdd, hl2, -⟩ := X
  refine z_callSN (K := fun r m' n' => ∃ z, r = am_rr 0 z ∧ am_Bt m' ∧ K1 z m') G hM (hdd.symm ▸ hdj) hml ((hl2 _).mpr (Nat.le_refl _)) hl hs hpl hcode hini hpar hst hd hn ⟨rfl, hB, zs, ht, K1, hm, fun z m' g1 g2 g3 => ⟨z, rfl, g1, g3⟩⟩ (fun r m' g => ?_)
  obtain ⟨z1, rfl, g1, g3⟩ := g
  exact k z1 m' g3 g1
theorem b_callSN5 (X : am_Cx F cc own ret d rt K) (hB : am_Bt m) {y : MethodName} {bytes : ByteArray} {maxL : Nat} {rty : Option FieldType} {dj : Nat} {tags : List Nat} {M : am_PT} {as : List am_V} {zs : List Int} {K1 : am_KK} {idx : Nat} (hM : am_Snd y bytes maxL rty 0 dj (am_L tags 5 M)) (ht : am_tagd tags zs as) (hdj : dj + 1 ≤ d) (hml : maxL ≤ 41) (hl : Cond.methodLinkNest own idx y RX11 ∈ am_nestW) (hs : Cond.static y ∈ am_TB) (hpl : y.cls ≠ "java/lang/invoke/MethodHandle" ∧ y.cls ≠ "java/lang/invoke/VarHandle") (hcode : Cond.code y bytes maxL rty ∈ am_TB) (hini : Cond.initialized y.cls ∈ am_TB) (hpar : (parseMethodDescriptor y.desc).map (fun d => d.parameters.length) = some as.length) (hst : am_cats st ≤ 8) (hd : decode cc pc = .ok (.invokestatic idx, 3)) (hn : pc + 3 = nx) (hm : M zs K1 m) (k : ∀ r m1, K1 r m1 → (r = 0 ∨ r = 1) → am_Bt m1 → am_Z F nx ((0, r) :: st) loc m1 200) : am_Z F pc (as.reverse ++ st) loc m 200 := by
  obtain ⟨post, G, -, hdd, hl2, -⟩ := X
  refine z_callSN (K := fun r m' n' => ∃ z, r = am_rr 5 z ∧ am_Bt m' ∧ (z = 0 ∨ z = 1) ∧ K1 z m') G hM (hdd.symm ▸ hdj) hml ((hl2 _).mpr (Nat.le_refl _)) hl hs hpl hcode hini hpar hst hd hn ⟨rfl, hB, zs, ht, K1, hm, fun z m' g1 g2 g3 => ⟨z, rfl, g1, g2 rfl, g3⟩⟩ (fun r m' g => ?_)
  obtain ⟨z1, rfl, g1, g2, g3⟩ := g
  exact k z1 m' g3 g2 g1
theorem b_callSN1 (X : am_Cx F cc own ret d rt K) (hB : am_Bt m) {y : MethodName} {bytes : ByteArray} {maxL : Nat} {rty : Option FieldType} {dj : Nat} {tags : List Nat} {M : am_PT} {as : List am_V} {zs : List Int} {K1 : am_KK} {idx : Nat} (hM : am_Snd y bytes maxL rty 0 dj (am_L tags 1 M)) (ht : am_tagd tags zs as) (hdj : dj + 1 ≤ d) (hml : maxL ≤ 41) (hl : Cond.methodLinkNest own idx y RX11 ∈ am_nestW) (hs : Cond.static y ∈ am_TB) (hpl : y.cls ≠ "java/lang/invoke/MethodHandle" ∧ y.cls ≠ "java/lang/invoke/VarHandle") (hcode : Cond.code y bytes maxL rty ∈ am_TB) (hini : Cond.initialized y.cls ∈ am_TB) (hpar : (parseMethodDescriptor y.desc).map (fun d => d.parameters.length) = some as.length) (hst : am_cats st ≤ 8) (hd : decode cc pc = .ok (.invokestatic idx, 3)) (hn : pc + 3 = nx) (hm : M zs K1 m) (k : ∀ r m1, K1 r m1 → am_Bt m1 → am_Z F nx ((1, r) :: st) loc m1 200) : am_Z F pc (as.reverse ++ st) loc m 200 := by
  obtain ⟨post, G, -, hdd, hl2, -⟩ := X
  refine z_callSN (K := fun r m' n' => ∃ z, r = am_rr 1 z ∧ am_Bt m' ∧ K1 z m') G hM (hdd.symm ▸ hdj) hml ((hl2 _).mpr (Nat.le_refl _)) hl hs hpl hcode hini hpar hst hd hn ⟨rfl, hB, zs, ht, K1, hm, fun z m' g1 g2 g3 => ⟨z, rfl, g1, g3⟩⟩ (fun r m' g => ?_)
  obtain ⟨z1, rfl, g1, g3⟩ := g
  exact k z1 m' g3 g1
theorem b_callSN2 (X : am_Cx F cc own ret d rt K) (hB : am_Bt m) {y : MethodName} {bytes : ByteArray} {maxL : Nat} {rty : Option FieldType} {dj : Nat} {tags : List Nat} {M : am_PT} {as : List am_V} {zs : List Int} {K1 : am_KK} {idx : Nat} (hM : am_Snd y bytes maxL rty 0 dj (am_L tags 2 M)) (ht : am_tagd tags zs as) (hdj : dj + 1 ≤ d) (hml : maxL ≤ 41) (hl : Cond.methodLinkNest own idx y RX11 ∈ am_nestW) (hs : Cond.static y ∈ am_TB) (hpl : y.cls ≠ "java/lang/invoke/MethodHandle" ∧ y.cls ≠ "java/lang/invoke/VarHandle") (hcode : Cond.code y bytes maxL rty ∈ am_TB) (hini : Cond.initialized y.cls ∈ am_TB) (hpar : (parseMethodDescriptor y.desc).map (fun d => d.parameters.length) = some as.length) (hst : am_cats st ≤ 8) (hd : decode cc pc = .ok (.invokestatic idx, 3)) (hn : pc + 3 = nx) (hm : M zs K1 m) (k : ∀ r m1, K1 r m1 → am_Bt m1 → am_Z F nx ((2, r) :: st) loc m1 200) : am_Z F pc (as.reverse ++ st) loc m 200 := by
  obtain ⟨post, G, -, hdd, hl2, -⟩ := X
  refine z_callSN (K := fun r m' n' => ∃ z, r = am_rr 2 z ∧ am_Bt m' ∧ K1 z m') G hM (hdd.symm ▸ hdj) hml ((hl2 _).mpr (Nat.le_refl _)) hl hs hpl hcode hini hpar hst hd hn ⟨rfl, hB, zs, ht, K1, hm, fun z m' g1 g2 g3 => ⟨z, rfl, g1, g3⟩⟩ (fun r m' g => ?_)
  obtain ⟨z1, rfl, g1, g3⟩ := g
  exact k z1 m' g3 g1
theorem b_callSN9 (X : am_Cx F cc own ret d rt K) (hB : am_Bt m) {y : MethodName} {bytes : ByteArray} {maxL : Nat} {rty : Option FieldType} {dj : Nat} {tags : List Nat} {M : am_PT} {as : List am_V} {zs : List Int} {K1 : am_KK} {idx : Nat} (hM : am_Snd y bytes maxL rty 0 dj (am_L tags 9 M)) (ht : am_tagd tags zs as) (hdj : dj + 1 ≤ d) (hml : maxL ≤ 41) (hl : Cond.methodLinkNest own idx y RX11 ∈ am_nestW) (hs : Cond.static y ∈ am_TB) (hpl : y.cls ≠ "java/lang/invoke/MethodHandle" ∧ y.cls ≠ "java/lang/invoke/VarHandle") (hcode : Cond.code y bytes maxL rty ∈ am_TB) (hini : Cond.initialized y.cls ∈ am_TB) (hpar : (parseMethodDescriptor y.desc).map (fun d => d.parameters.length) = some as.length) (hst : am_cats st ≤ 8) (hd : decode cc pc = .ok (.invokestatic idx, 3)) (hn : pc + 3 = nx) (hm : M zs K1 m) (k : ∀ r m1, K1 r m1 → am_Bt m1 → am_Z F nx st loc m1 200) : am_Z F pc (as.reverse ++ st) loc m 200 := by
  obtain ⟨post, G, -, hdd, hl2, -⟩ := X
  refine z_callSN (K := fun r m' n' => ∃ z, r = am_rr 9 z ∧ am_Bt m' ∧ K1 z m') G hM (hdd.symm ▸ hdj) hml ((hl2 _).mpr (Nat.le_refl _)) hl hs hpl hcode hini hpar hst hd hn ⟨rfl, hB, zs, ht, K1, hm, fun z m' g1 g2 g3 => ⟨z, rfl, g1, g3⟩⟩ (fun r m' g => ?_)
  obtain ⟨z1, rfl, g1, g3⟩ := g
  exact k z1 m' g3 g1
end AMB

theorem R32c {z : Int} (h : (decide (-2147483648 ≤ z) && decide (z ≤ 2147483647)) = true) : R32 z := by
  simp only [Bool.and_eq_true, decide_eq_true_eq] at h
  exact h
theorem R64c {z : Int} (h : (decide (-9223372036854775808 ≤ z) && decide (z ≤ 9223372036854775807)) = true) : R64 z := by
  simp only [Bool.and_eq_true, decide_eq_true_eq] at h
  exact h
theorem am_pl0 {l : List am_V} : am_pl l 0 := trivial
theorem am_pl1 {l : List am_V} {j : Nat} {w : am_V} (h : l[j]? = some w) (h1 : w.1 ≠ 1) : am_pl l (j + 1) := fun v hv => by
  rw [h] at hv
  cases hv
  exact h1
theorem am_nx9 {l : List am_V} {j : Nat} {w : am_V} (h : l[j]? = some w) (h1 : w.1 = 9) : ∀ v, l[j]? = some v → v.1 = 9 := fun v hv => by
  rw [h] at hv
  cases hv
  exact h1
theorem am_lk {a : am_V} {l r : List am_V} (h : am_le l r) : am_le (a :: l) (a :: r) := ⟨Or.inl rfl, h⟩
theorem am_lf {b : am_V} {l r : List am_V} (h : am_le l r) : am_le ((9, 0) :: l) (b :: r) := ⟨Or.inr rfl, h⟩
theorem am_ln : am_le [] [] := trivial
theorem am_tn : am_tagd [] [] [] := trivial
theorem am_ti {ts : List Nat} {zs : List Int} {vs : List am_V} {z : Int} (h : am_tagd ts zs vs) : am_tagd (0 :: ts) (z :: zs) ((0, z) :: vs) := ⟨⟨rfl, fun h => nomatch h⟩, h⟩
theorem am_tz {ts : List Nat} {zs : List Int} {vs : List am_V} {z : Int} (hz : z = 0 ∨ z = 1) (h : am_tagd ts zs vs) : am_tagd (5 :: ts) (z :: zs) ((0, z) :: vs) := ⟨⟨rfl, fun _ => hz⟩, h⟩
theorem am_tj {ts : List Nat} {zs : List Int} {vs : List am_V} {z : Int} (h : am_tagd ts zs vs) : am_tagd (1 :: ts) (z :: zs) ((1, z) :: vs) := ⟨⟨rfl, fun h => nomatch h⟩, h⟩
theorem am_ta {ts : List Nat} {zs : List Int} {vs : List am_V} {z : Int} (h : am_tagd ts zs vs) : am_tagd (2 :: ts) (z :: zs) ((2, z) :: vs) := ⟨⟨rfl, fun h => nomatch h⟩, h⟩
theorem am_ts {ts : List Nat} {zs : List Int} {vs : List am_V} {z : Int} (h : am_tagd ts zs vs) : am_tagd (3 :: ts) (z :: zs) ((3, z) :: vs) := ⟨⟨rfl, fun h => nomatch h⟩, h⟩
theorem am_inv {t : Nat} {ts : List Nat} {zs : List Int} {vs : List am_V} (h : am_tagd (t :: ts) zs vs) : ∃ z zs' vs', zs = z :: zs' ∧ vs = (if t = 5 then 0 else t, z) :: vs' ∧ (t = 5 → z = 0 ∨ z = 1) ∧ am_tagd ts zs' vs' := by
  cases zs with
  | nil => cases vs <;> exact h.elim
  | cons z zs =>
    cases vs with
    | nil => exact h.elim
    | cons v vs => exact ⟨z, zs, vs, rfl, by rw [h.1.1], h.1.2, h.2⟩
theorem am_inv0 {zs : List Int} {vs : List am_V} (h : am_tagd [] zs vs) : zs = [] ∧ vs = [] := by
  cases zs <;> cases vs <;> first | exact ⟨rfl, rfl⟩ | exact h.elim
section AMB2
variable {F : am_F} {cc : ByteArray} {own : String} {pc nx : Nat} {st loc : List am_V} {m : am_M}
theorem b_storeE {a : Nat} {x : Int} {loc2 : List am_V} {n : Nat} (G : am_G F cc own) (h2 : loc.set a (0, x) = loc2) (hl : a < loc.length) (hp : am_pl loc a) (hd : decode cc pc = .ok (.istore a, 2)) (hn : pc + 2 = nx) (k : am_Z F nx st loc2 m n) : am_Z F pc ((0, x) :: st) loc m n := z_istore G hl hp hd hn (h2 ▸ k)
theorem b_storeE_n {a : Fin 4} {x : Int} {loc2 : List am_V} {n : Nat} (G : am_G F cc own) (h2 : loc.set (a : Nat) (0, x) = loc2) (hl : (a : Nat) < loc.length) (hp : am_pl loc a) (hd : decode cc pc = .ok (.istore_n a, 1)) (hn : pc + 1 = nx) (k : am_Z F nx st loc2 m n) : am_Z F pc ((0, x) :: st) loc m n := z_istore_n G hl hp hd hn (h2 ▸ k)
theorem b_lstoreE {a : Nat} {x : Int} {loc2 : List am_V} {n : Nat} (G : am_G F cc own) (h2 : loc.set a (1, x) = loc2) (hl : a + 1 < loc.length) (hp : am_pl loc a) (hq : ∀ w, loc[a + 1]? = some w → w.1 = 9) (hd : decode cc pc = .ok (.lstore a, 2)) (hn : pc + 2 = nx) (k : am_Z F nx st loc2 m n) : am_Z F pc ((1, x) :: st) loc m n := z_lstore G hl hp hq hd hn (h2 ▸ k)
theorem b_lstoreE_n {a : Fin 4} {x : Int} {loc2 : List am_V} {n : Nat} (G : am_G F cc own) (h2 : loc.set (a : Nat) (1, x) = loc2) (hl : (a : Nat) + 1 < loc.length) (hp : am_pl loc a) (hq : ∀ w, loc[(a : Nat) + 1]? = some w → w.1 = 9) (hd : decode cc pc = .ok (.lstore_n a, 1)) (hn : pc + 1 = nx) (k : am_Z F nx st loc2 m n) : am_Z F pc ((1, x) :: st) loc m n := z_lstore_n G hl hp hq hd hn (h2 ▸ k)
end AMB2
theorem am_fin {P : Int → Prop} {ci : Nat} (h : ∀ o, o < 200 → (am_sh o).1 = ci → P (o : Int)) : ∀ z, am_ob z ci → P z := fun z hz => by
  have := h z.toNat hz.2.1 (by rw [hz.2.2])
  rwa [am_toNat hz.1] at this
theorem sh_0_0 : ∀ z, am_ob z 0 → am_ob (am_rfv z ((0 : Nat) : Int)) 7 := am_fin (fun o h1 h2 => by
  have h : ∀ o, o < 200 → (am_sh o).1 = 0 → 0 ≤ am_rfv (o : Int) ((0 : Nat) : Int) ∧ (am_rfv (o : Int) ((0 : Nat) : Int)).toNat < 200 ∧ am_sh (am_rfv (o : Int) ((0 : Nat) : Int)).toNat = (7, am_N 7) := by decide +kernel
  exact h o h1 h2)
theorem sh_0_1 : ∀ z, am_ob z 0 → am_ob (am_rfv z ((1 : Nat) : Int)) 7 := am_fin (fun o h1 h2 => by
  have h : ∀ o, o < 200 → (am_sh o).1 = 0 → 0 ≤ am_rfv (o : Int) ((1 : Nat) : Int) ∧ (am_rfv (o : Int) ((1 : Nat) : Int)).toNat < 200 ∧ am_sh (am_rfv (o : Int) ((1 : Nat) : Int)).toNat = (7, am_N 7) := by decide +kernel
  exact h o h1 h2)
theorem sh_0_2 : ∀ z, am_ob z 0 → am_ob (am_rfv z ((2 : Nat) : Int)) 7 := am_fin (fun o h1 h2 => by
  have h : ∀ o, o < 200 → (am_sh o).1 = 0 → 0 ≤ am_rfv (o : Int) ((2 : Nat) : Int) ∧ (am_rfv (o : Int) ((2 : Nat) : Int)).toNat < 200 ∧ am_sh (am_rfv (o : Int) ((2 : Nat) : Int)).toNat = (7, am_N 7) := by decide +kernel
  exact h o h1 h2)
theorem sh_0_3 : ∀ z, am_ob z 0 → am_ob (am_rfv z ((3 : Nat) : Int)) 7 := am_fin (fun o h1 h2 => by
  have h : ∀ o, o < 200 → (am_sh o).1 = 0 → 0 ≤ am_rfv (o : Int) ((3 : Nat) : Int) ∧ (am_rfv (o : Int) ((3 : Nat) : Int)).toNat < 200 ∧ am_sh (am_rfv (o : Int) ((3 : Nat) : Int)).toNat = (7, am_N 7) := by decide +kernel
  exact h o h1 h2)
theorem sh_0_4 : ∀ z, am_ob z 0 → am_ob (am_rfv z ((4 : Nat) : Int)) 7 := am_fin (fun o h1 h2 => by
  have h : ∀ o, o < 200 → (am_sh o).1 = 0 → 0 ≤ am_rfv (o : Int) ((4 : Nat) : Int) ∧ (am_rfv (o : Int) ((4 : Nat) : Int)).toNat < 200 ∧ am_sh (am_rfv (o : Int) ((4 : Nat) : Int)).toNat = (7, am_N 7) := by decide +kernel
  exact h o h1 h2)
theorem sh_0_5 : ∀ z, am_ob z 0 → am_ob (am_rfv z ((5 : Nat) : Int)) 9 := am_fin (fun o h1 h2 => by
  have h : ∀ o, o < 200 → (am_sh o).1 = 0 → 0 ≤ am_rfv (o : Int) ((5 : Nat) : Int) ∧ (am_rfv (o : Int) ((5 : Nat) : Int)).toNat < 200 ∧ am_sh (am_rfv (o : Int) ((5 : Nat) : Int)).toNat = (9, am_N 9) := by decide +kernel
  exact h o h1 h2)
theorem sh_0_6 : ∀ z, am_ob z 0 → am_ar (am_rfv z ((6 : Nat) : Int)) 20 := am_fin (fun o h1 h2 => by
  have h : ∀ o, o < 200 → (am_sh o).1 = 0 → 0 ≤ am_rfv (o : Int) ((6 : Nat) : Int) ∧ (am_rfv (o : Int) ((6 : Nat) : Int)).toNat < 200 ∧ (am_sh (am_rfv (o : Int) ((6 : Nat) : Int)).toNat).1 = 20 := by decide +kernel
  obtain ⟨a, b, c⟩ := h o h1 h2
  exact ⟨a, b, c, rfl⟩)
theorem sh_0_7 : ∀ z, am_ob z 0 → am_ar (am_rfv z ((7 : Nat) : Int)) 20 := am_fin (fun o h1 h2 => by
  have h : ∀ o, o < 200 → (am_sh o).1 = 0 → 0 ≤ am_rfv (o : Int) ((7 : Nat) : Int) ∧ (am_rfv (o : Int) ((7 : Nat) : Int)).toNat < 200 ∧ (am_sh (am_rfv (o : Int) ((7 : Nat) : Int)).toNat).1 = 20 := by decide +kernel
  obtain ⟨a, b, c⟩ := h o h1 h2
  exact ⟨a, b, c, rfl⟩)
theorem sh_0_8 : ∀ z, am_ob z 0 → am_ar (am_rfv z ((8 : Nat) : Int)) 20 := am_fin (fun o h1 h2 => by
  have h : ∀ o, o < 200 → (am_sh o).1 = 0 → 0 ≤ am_rfv (o : Int) ((8 : Nat) : Int) ∧ (am_rfv (o : Int) ((8 : Nat) : Int)).toNat < 200 ∧ (am_sh (am_rfv (o : Int) ((8 : Nat) : Int)).toNat).1 = 20 := by decide +kernel
  obtain ⟨a, b, c⟩ := h o h1 h2
  exact ⟨a, b, c, rfl⟩)
theorem sh_0_9 : ∀ z, am_ob z 0 → am_ar (am_rfv z ((9 : Nat) : Int)) 25 := am_fin (fun o h1 h2 => by
  have h : ∀ o, o < 200 → (am_sh o).1 = 0 → 0 ≤ am_rfv (o : Int) ((9 : Nat) : Int) ∧ (am_rfv (o : Int) ((9 : Nat) : Int)).toNat < 200 ∧ (am_sh (am_rfv (o : Int) ((9 : Nat) : Int)).toNat).1 = 25 := by decide +kernel
  obtain ⟨a, b, c⟩ := h o h1 h2
  exact ⟨a, b, c, rfl⟩)
theorem sh_1_0 : ∀ z, am_ob z 1 → am_ar (am_rfv z ((0 : Nat) : Int)) 20 := am_fin (fun o h1 h2 => by
  have h : ∀ o, o < 200 → (am_sh o).1 = 1 → 0 ≤ am_rfv (o : Int) ((0 : Nat) : Int) ∧ (am_rfv (o : Int) ((0 : Nat) : Int)).toNat < 200 ∧ (am_sh (am_rfv (o : Int) ((0 : Nat) : Int)).toNat).1 = 20 := by decide +kernel
  obtain ⟨a, b, c⟩ := h o h1 h2
  exact ⟨a, b, c, rfl⟩)
theorem sh_1_2 : ∀ z, am_ob z 1 → am_ar (am_rfv z ((2 : Nat) : Int)) 20 := am_fin (fun o h1 h2 => by
  have h : ∀ o, o < 200 → (am_sh o).1 = 1 → 0 ≤ am_rfv (o : Int) ((2 : Nat) : Int) ∧ (am_rfv (o : Int) ((2 : Nat) : Int)).toNat < 200 ∧ (am_sh (am_rfv (o : Int) ((2 : Nat) : Int)).toNat).1 = 20 := by decide +kernel
  obtain ⟨a, b, c⟩ := h o h1 h2
  exact ⟨a, b, c, rfl⟩)
theorem sh_1_4 : ∀ z, am_ob z 1 → am_ar (am_rfv z ((4 : Nat) : Int)) 20 := am_fin (fun o h1 h2 => by
  have h : ∀ o, o < 200 → (am_sh o).1 = 1 → 0 ≤ am_rfv (o : Int) ((4 : Nat) : Int) ∧ (am_rfv (o : Int) ((4 : Nat) : Int)).toNat < 200 ∧ (am_sh (am_rfv (o : Int) ((4 : Nat) : Int)).toNat).1 = 20 := by decide +kernel
  obtain ⟨a, b, c⟩ := h o h1 h2
  exact ⟨a, b, c, rfl⟩)
theorem sh_1_5 : ∀ z, am_ob z 1 → am_ar (am_rfv z ((5 : Nat) : Int)) 20 := am_fin (fun o h1 h2 => by
  have h : ∀ o, o < 200 → (am_sh o).1 = 1 → 0 ≤ am_rfv (o : Int) ((5 : Nat) : Int) ∧ (am_rfv (o : Int) ((5 : Nat) : Int)).toNat < 200 ∧ (am_sh (am_rfv (o : Int) ((5 : Nat) : Int)).toNat).1 = 20 := by decide +kernel
  obtain ⟨a, b, c⟩ := h o h1 h2
  exact ⟨a, b, c, rfl⟩)
theorem sh_1_6 : ∀ z, am_ob z 1 → am_ar (am_rfv z ((6 : Nat) : Int)) 20 := am_fin (fun o h1 h2 => by
  have h : ∀ o, o < 200 → (am_sh o).1 = 1 → 0 ≤ am_rfv (o : Int) ((6 : Nat) : Int) ∧ (am_rfv (o : Int) ((6 : Nat) : Int)).toNat < 200 ∧ (am_sh (am_rfv (o : Int) ((6 : Nat) : Int)).toNat).1 = 20 := by decide +kernel
  obtain ⟨a, b, c⟩ := h o h1 h2
  exact ⟨a, b, c, rfl⟩)
theorem sh_1_7 : ∀ z, am_ob z 1 → am_ar (am_rfv z ((7 : Nat) : Int)) 20 := am_fin (fun o h1 h2 => by
  have h : ∀ o, o < 200 → (am_sh o).1 = 1 → 0 ≤ am_rfv (o : Int) ((7 : Nat) : Int) ∧ (am_rfv (o : Int) ((7 : Nat) : Int)).toNat < 200 ∧ (am_sh (am_rfv (o : Int) ((7 : Nat) : Int)).toNat).1 = 20 := by decide +kernel
  obtain ⟨a, b, c⟩ := h o h1 h2
  exact ⟨a, b, c, rfl⟩)
theorem sh_2_0 : ∀ z, am_ob z 2 → am_ar (am_rfv z ((0 : Nat) : Int)) 20 := am_fin (fun o h1 h2 => by
  have h : ∀ o, o < 200 → (am_sh o).1 = 2 → 0 ≤ am_rfv (o : Int) ((0 : Nat) : Int) ∧ (am_rfv (o : Int) ((0 : Nat) : Int)).toNat < 200 ∧ (am_sh (am_rfv (o : Int) ((0 : Nat) : Int)).toNat).1 = 20 := by decide +kernel
  obtain ⟨a, b, c⟩ := h o h1 h2
  exact ⟨a, b, c, rfl⟩)
theorem sh_2_1 : ∀ z, am_ob z 2 → am_ob (am_rfv z ((1 : Nat) : Int)) 3 := am_fin (fun o h1 h2 => by
  have h : ∀ o, o < 200 → (am_sh o).1 = 2 → 0 ≤ am_rfv (o : Int) ((1 : Nat) : Int) ∧ (am_rfv (o : Int) ((1 : Nat) : Int)).toNat < 200 ∧ am_sh (am_rfv (o : Int) ((1 : Nat) : Int)).toNat = (3, am_N 3) := by decide +kernel
  exact h o h1 h2)
theorem sh_3_0 : ∀ z, am_ob z 3 → am_ar (am_rfv z ((0 : Nat) : Int)) 20 := am_fin (fun o h1 h2 => by
  have h : ∀ o, o < 200 → (am_sh o).1 = 3 → 0 ≤ am_rfv (o : Int) ((0 : Nat) : Int) ∧ (am_rfv (o : Int) ((0 : Nat) : Int)).toNat < 200 ∧ (am_sh (am_rfv (o : Int) ((0 : Nat) : Int)).toNat).1 = 20 := by decide +kernel
  obtain ⟨a, b, c⟩ := h o h1 h2
  exact ⟨a, b, c, rfl⟩)
theorem sh_3_1 : ∀ z, am_ob z 3 → am_ob (am_rfv z ((1 : Nat) : Int)) 6 := am_fin (fun o h1 h2 => by
  have h : ∀ o, o < 200 → (am_sh o).1 = 3 → 0 ≤ am_rfv (o : Int) ((1 : Nat) : Int) ∧ (am_rfv (o : Int) ((1 : Nat) : Int)).toNat < 200 ∧ am_sh (am_rfv (o : Int) ((1 : Nat) : Int)).toNat = (6, am_N 6) := by decide +kernel
  exact h o h1 h2)
theorem sh_4_0 : ∀ z, am_ob z 4 → am_ar (am_rfv z ((0 : Nat) : Int)) 20 := am_fin (fun o h1 h2 => by
  have h : ∀ o, o < 200 → (am_sh o).1 = 4 → 0 ≤ am_rfv (o : Int) ((0 : Nat) : Int) ∧ (am_rfv (o : Int) ((0 : Nat) : Int)).toNat < 200 ∧ (am_sh (am_rfv (o : Int) ((0 : Nat) : Int)).toNat).1 = 20 := by decide +kernel
  obtain ⟨a, b, c⟩ := h o h1 h2
  exact ⟨a, b, c, rfl⟩)
theorem sh_4_2 : ∀ z, am_ob z 4 → am_ob (am_rfv z ((2 : Nat) : Int)) 7 := am_fin (fun o h1 h2 => by
  have h : ∀ o, o < 200 → (am_sh o).1 = 4 → 0 ≤ am_rfv (o : Int) ((2 : Nat) : Int) ∧ (am_rfv (o : Int) ((2 : Nat) : Int)).toNat < 200 ∧ am_sh (am_rfv (o : Int) ((2 : Nat) : Int)).toNat = (7, am_N 7) := by decide +kernel
  exact h o h1 h2)
theorem sh_5_0 : ∀ z, am_ob z 5 → am_ob (am_rfv z ((0 : Nat) : Int)) 7 := am_fin (fun o h1 h2 => by
  have h : ∀ o, o < 200 → (am_sh o).1 = 5 → 0 ≤ am_rfv (o : Int) ((0 : Nat) : Int) ∧ (am_rfv (o : Int) ((0 : Nat) : Int)).toNat < 200 ∧ am_sh (am_rfv (o : Int) ((0 : Nat) : Int)).toNat = (7, am_N 7) := by decide +kernel
  exact h o h1 h2)
theorem sh_5_1 : ∀ z, am_ob z 5 → am_ob (am_rfv z ((1 : Nat) : Int)) 4 := am_fin (fun o h1 h2 => by
  have h : ∀ o, o < 200 → (am_sh o).1 = 5 → 0 ≤ am_rfv (o : Int) ((1 : Nat) : Int) ∧ (am_rfv (o : Int) ((1 : Nat) : Int)).toNat < 200 ∧ am_sh (am_rfv (o : Int) ((1 : Nat) : Int)).toNat = (4, am_N 4) := by decide +kernel
  exact h o h1 h2)
theorem sh_6_0 : ∀ z, am_ob z 6 → am_ar (am_rfv z ((0 : Nat) : Int)) 20 := am_fin (fun o h1 h2 => by
  have h : ∀ o, o < 200 → (am_sh o).1 = 6 → 0 ≤ am_rfv (o : Int) ((0 : Nat) : Int) ∧ (am_rfv (o : Int) ((0 : Nat) : Int)).toNat < 200 ∧ (am_sh (am_rfv (o : Int) ((0 : Nat) : Int)).toNat).1 = 20 := by decide +kernel
  obtain ⟨a, b, c⟩ := h o h1 h2
  exact ⟨a, b, c, rfl⟩)
theorem sh_7_0 : ∀ z, am_ob z 7 → am_ar (am_rfv z ((0 : Nat) : Int)) 20 := am_fin (fun o h1 h2 => by
  have h : ∀ o, o < 200 → (am_sh o).1 = 7 → 0 ≤ am_rfv (o : Int) ((0 : Nat) : Int) ∧ (am_rfv (o : Int) ((0 : Nat) : Int)).toNat < 200 ∧ (am_sh (am_rfv (o : Int) ((0 : Nat) : Int)).toNat).1 = 20 := by decide +kernel
  obtain ⟨a, b, c⟩ := h o h1 h2
  exact ⟨a, b, c, rfl⟩)
theorem sh_8_0 : ∀ z, am_ob z 8 → am_ob (am_rfv z ((0 : Nat) : Int)) 7 := am_fin (fun o h1 h2 => by
  have h : ∀ o, o < 200 → (am_sh o).1 = 8 → 0 ≤ am_rfv (o : Int) ((0 : Nat) : Int) ∧ (am_rfv (o : Int) ((0 : Nat) : Int)).toNat < 200 ∧ am_sh (am_rfv (o : Int) ((0 : Nat) : Int)).toNat = (7, am_N 7) := by decide +kernel
  exact h o h1 h2)
theorem sh_9_0 : ∀ z, am_ob z 9 → am_ob (am_rfv z ((0 : Nat) : Int)) 7 := am_fin (fun o h1 h2 => by
  have h : ∀ o, o < 200 → (am_sh o).1 = 9 → 0 ≤ am_rfv (o : Int) ((0 : Nat) : Int) ∧ (am_rfv (o : Int) ((0 : Nat) : Int)).toNat < 200 ∧ am_sh (am_rfv (o : Int) ((0 : Nat) : Int)).toNat = (7, am_N 7) := by decide +kernel
  exact h o h1 h2)
theorem sh_10_0 : ∀ z, am_ob z 10 → am_ar (am_rfv z ((0 : Nat) : Int)) 23 := am_fin (fun o h1 h2 => by
  have h : ∀ o, o < 200 → (am_sh o).1 = 10 → 0 ≤ am_rfv (o : Int) ((0 : Nat) : Int) ∧ (am_rfv (o : Int) ((0 : Nat) : Int)).toNat < 200 ∧ (am_sh (am_rfv (o : Int) ((0 : Nat) : Int)).toNat).1 = 23 := by decide +kernel
  obtain ⟨a, b, c⟩ := h o h1 h2
  exact ⟨a, b, c, rfl⟩)
theorem sh_10_1 : ∀ z, am_ob z 10 → am_ar (am_rfv z ((1 : Nat) : Int)) 20 := am_fin (fun o h1 h2 => by
  have h : ∀ o, o < 200 → (am_sh o).1 = 10 → 0 ≤ am_rfv (o : Int) ((1 : Nat) : Int) ∧ (am_rfv (o : Int) ((1 : Nat) : Int)).toNat < 200 ∧ (am_sh (am_rfv (o : Int) ((1 : Nat) : Int)).toNat).1 = 20 := by decide +kernel
  obtain ⟨a, b, c⟩ := h o h1 h2
  exact ⟨a, b, c, rfl⟩)
theorem sh_10_2 : ∀ z, am_ob z 10 → am_ar (am_rfv z ((2 : Nat) : Int)) 20 := am_fin (fun o h1 h2 => by
  have h : ∀ o, o < 200 → (am_sh o).1 = 10 → 0 ≤ am_rfv (o : Int) ((2 : Nat) : Int) ∧ (am_rfv (o : Int) ((2 : Nat) : Int)).toNat < 200 ∧ (am_sh (am_rfv (o : Int) ((2 : Nat) : Int)).toNat).1 = 20 := by decide +kernel
  obtain ⟨a, b, c⟩ := h o h1 h2
  exact ⟨a, b, c, rfl⟩)
theorem sh_11_0 : ∀ z, am_ob z 11 → am_ob (am_rfv z ((0 : Nat) : Int)) 0 := am_fin (fun o h1 h2 => by
  have h : ∀ o, o < 200 → (am_sh o).1 = 11 → 0 ≤ am_rfv (o : Int) ((0 : Nat) : Int) ∧ (am_rfv (o : Int) ((0 : Nat) : Int)).toNat < 200 ∧ am_sh (am_rfv (o : Int) ((0 : Nat) : Int)).toNat = (0, am_N 0) := by decide +kernel
  exact h o h1 h2)
theorem sh_11_1 : ∀ z, am_ob z 11 → am_ar (am_rfv z ((1 : Nat) : Int)) 24 := am_fin (fun o h1 h2 => by
  have h : ∀ o, o < 200 → (am_sh o).1 = 11 → 0 ≤ am_rfv (o : Int) ((1 : Nat) : Int) ∧ (am_rfv (o : Int) ((1 : Nat) : Int)).toNat < 200 ∧ (am_sh (am_rfv (o : Int) ((1 : Nat) : Int)).toNat).1 = 24 := by decide +kernel
  obtain ⟨a, b, c⟩ := h o h1 h2
  exact ⟨a, b, c, rfl⟩)
theorem sh_11_2 : ∀ z, am_ob z 11 → am_ar (am_rfv z ((2 : Nat) : Int)) 22 := am_fin (fun o h1 h2 => by
  have h : ∀ o, o < 200 → (am_sh o).1 = 11 → 0 ≤ am_rfv (o : Int) ((2 : Nat) : Int) ∧ (am_rfv (o : Int) ((2 : Nat) : Int)).toNat < 200 ∧ (am_sh (am_rfv (o : Int) ((2 : Nat) : Int)).toNat).1 = 22 := by decide +kernel
  obtain ⟨a, b, c⟩ := h o h1 h2
  exact ⟨a, b, c, rfl⟩)
theorem sh_11_3 : ∀ z, am_ob z 11 → am_ob (am_rfv z ((3 : Nat) : Int)) 7 := am_fin (fun o h1 h2 => by
  have h : ∀ o, o < 200 → (am_sh o).1 = 11 → 0 ≤ am_rfv (o : Int) ((3 : Nat) : Int) ∧ (am_rfv (o : Int) ((3 : Nat) : Int)).toNat < 200 ∧ am_sh (am_rfv (o : Int) ((3 : Nat) : Int)).toNat = (7, am_N 7) := by decide +kernel
  exact h o h1 h2)
theorem sh_11_4 : ∀ z, am_ob z 11 → am_ob (am_rfv z ((4 : Nat) : Int)) 4 := am_fin (fun o h1 h2 => by
  have h : ∀ o, o < 200 → (am_sh o).1 = 11 → 0 ≤ am_rfv (o : Int) ((4 : Nat) : Int) ∧ (am_rfv (o : Int) ((4 : Nat) : Int)).toNat < 200 ∧ am_sh (am_rfv (o : Int) ((4 : Nat) : Int)).toNat = (4, am_N 4) := by decide +kernel
  exact h o h1 h2)
theorem sh_11_5 : ∀ z, am_ob z 11 → am_ob (am_rfv z ((5 : Nat) : Int)) 5 := am_fin (fun o h1 h2 => by
  have h : ∀ o, o < 200 → (am_sh o).1 = 11 → 0 ≤ am_rfv (o : Int) ((5 : Nat) : Int) ∧ (am_rfv (o : Int) ((5 : Nat) : Int)).toNat < 200 ∧ am_sh (am_rfv (o : Int) ((5 : Nat) : Int)).toNat = (5, am_N 5) := by decide +kernel
  exact h o h1 h2)
theorem sh_11_6 : ∀ z, am_ob z 11 → am_ob (am_rfv z ((6 : Nat) : Int)) 3 := am_fin (fun o h1 h2 => by
  have h : ∀ o, o < 200 → (am_sh o).1 = 11 → 0 ≤ am_rfv (o : Int) ((6 : Nat) : Int) ∧ (am_rfv (o : Int) ((6 : Nat) : Int)).toNat < 200 ∧ am_sh (am_rfv (o : Int) ((6 : Nat) : Int)).toNat = (3, am_N 3) := by decide +kernel
  exact h o h1 h2)
theorem sh_11_7 : ∀ z, am_ob z 11 → am_ob (am_rfv z ((7 : Nat) : Int)) 2 := am_fin (fun o h1 h2 => by
  have h : ∀ o, o < 200 → (am_sh o).1 = 11 → 0 ≤ am_rfv (o : Int) ((7 : Nat) : Int) ∧ (am_rfv (o : Int) ((7 : Nat) : Int)).toNat < 200 ∧ am_sh (am_rfv (o : Int) ((7 : Nat) : Int)).toNat = (2, am_N 2) := by decide +kernel
  exact h o h1 h2)
theorem sh_11_8 : ∀ z, am_ob z 11 → am_ob (am_rfv z ((8 : Nat) : Int)) 9 := am_fin (fun o h1 h2 => by
  have h : ∀ o, o < 200 → (am_sh o).1 = 11 → 0 ≤ am_rfv (o : Int) ((8 : Nat) : Int) ∧ (am_rfv (o : Int) ((8 : Nat) : Int)).toNat < 200 ∧ am_sh (am_rfv (o : Int) ((8 : Nat) : Int)).toNat = (9, am_N 9) := by decide +kernel
  exact h o h1 h2)
theorem sh_11_9 : ∀ z, am_ob z 11 → am_ob (am_rfv z ((9 : Nat) : Int)) 9 := am_fin (fun o h1 h2 => by
  have h : ∀ o, o < 200 → (am_sh o).1 = 11 → 0 ≤ am_rfv (o : Int) ((9 : Nat) : Int) ∧ (am_rfv (o : Int) ((9 : Nat) : Int)).toNat < 200 ∧ am_sh (am_rfv (o : Int) ((9 : Nat) : Int)).toNat = (9, am_N 9) := by decide +kernel
  exact h o h1 h2)
theorem sh_11_10 : ∀ z, am_ob z 11 → am_ob (am_rfv z ((10 : Nat) : Int)) 7 := am_fin (fun o h1 h2 => by
  have h : ∀ o, o < 200 → (am_sh o).1 = 11 → 0 ≤ am_rfv (o : Int) ((10 : Nat) : Int) ∧ (am_rfv (o : Int) ((10 : Nat) : Int)).toNat < 200 ∧ am_sh (am_rfv (o : Int) ((10 : Nat) : Int)).toNat = (7, am_N 7) := by decide +kernel
  exact h o h1 h2)
theorem sh_11_11 : ∀ z, am_ob z 11 → am_ob (am_rfv z ((11 : Nat) : Int)) 7 := am_fin (fun o h1 h2 => by
  have h : ∀ o, o < 200 → (am_sh o).1 = 11 → 0 ≤ am_rfv (o : Int) ((11 : Nat) : Int) ∧ (am_rfv (o : Int) ((11 : Nat) : Int)).toNat < 200 ∧ am_sh (am_rfv (o : Int) ((11 : Nat) : Int)).toNat = (7, am_N 7) := by decide +kernel
  exact h o h1 h2)
theorem sh_11_12 : ∀ z, am_ob z 11 → am_ob (am_rfv z ((12 : Nat) : Int)) 10 := am_fin (fun o h1 h2 => by
  have h : ∀ o, o < 200 → (am_sh o).1 = 11 → 0 ≤ am_rfv (o : Int) ((12 : Nat) : Int) ∧ (am_rfv (o : Int) ((12 : Nat) : Int)).toNat < 200 ∧ am_sh (am_rfv (o : Int) ((12 : Nat) : Int)).toNat = (10, am_N 10) := by decide +kernel
  exact h o h1 h2)
theorem sh_11_13 : ∀ z, am_ob z 11 → am_ob (am_rfv z ((13 : Nat) : Int)) 1 := am_fin (fun o h1 h2 => by
  have h : ∀ o, o < 200 → (am_sh o).1 = 11 → 0 ≤ am_rfv (o : Int) ((13 : Nat) : Int) ∧ (am_rfv (o : Int) ((13 : Nat) : Int)).toNat < 200 ∧ am_sh (am_rfv (o : Int) ((13 : Nat) : Int)).toNat = (1, am_N 1) := by decide +kernel
  exact h o h1 h2)
theorem sh_11_14 : ∀ z, am_ob z 11 → am_ob (am_rfv z ((14 : Nat) : Int)) 8 := am_fin (fun o h1 h2 => by
  have h : ∀ o, o < 200 → (am_sh o).1 = 11 → 0 ≤ am_rfv (o : Int) ((14 : Nat) : Int) ∧ (am_rfv (o : Int) ((14 : Nat) : Int)).toNat < 200 ∧ am_sh (am_rfv (o : Int) ((14 : Nat) : Int)).toNat = (8, am_N 8) := by decide +kernel
  exact h o h1 h2)
theorem sh_11_15 : ∀ z, am_ob z 11 → am_ar (am_rfv z ((15 : Nat) : Int)) 20 := am_fin (fun o h1 h2 => by
  have h : ∀ o, o < 200 → (am_sh o).1 = 11 → 0 ≤ am_rfv (o : Int) ((15 : Nat) : Int) ∧ (am_rfv (o : Int) ((15 : Nat) : Int)).toNat < 200 ∧ (am_sh (am_rfv (o : Int) ((15 : Nat) : Int)).toNat).1 = 20 := by decide +kernel
  obtain ⟨a, b, c⟩ := h o h1 h2
  exact ⟨a, b, c, rfl⟩)
theorem sh_11_16 : ∀ z, am_ob z 11 → am_ar (am_rfv z ((16 : Nat) : Int)) 20 := am_fin (fun o h1 h2 => by
  have h : ∀ o, o < 200 → (am_sh o).1 = 11 → 0 ≤ am_rfv (o : Int) ((16 : Nat) : Int) ∧ (am_rfv (o : Int) ((16 : Nat) : Int)).toNat < 200 ∧ (am_sh (am_rfv (o : Int) ((16 : Nat) : Int)).toNat).1 = 20 := by decide +kernel
  obtain ⟨a, b, c⟩ := h o h1 h2
  exact ⟨a, b, c, rfl⟩)
theorem sh_12_1 : ∀ z, am_ob z 12 → am_ar (am_rfv z ((1 : Nat) : Int)) 20 := am_fin (fun o h1 h2 => by
  have h : ∀ o, o < 200 → (am_sh o).1 = 12 → 0 ≤ am_rfv (o : Int) ((1 : Nat) : Int) ∧ (am_rfv (o : Int) ((1 : Nat) : Int)).toNat < 200 ∧ (am_sh (am_rfv (o : Int) ((1 : Nat) : Int)).toNat).1 = 20 := by decide +kernel
  obtain ⟨a, b, c⟩ := h o h1 h2
  exact ⟨a, b, c, rfl⟩)
theorem sh_12_2 : ∀ z, am_ob z 12 → am_ar (am_rfv z ((2 : Nat) : Int)) 20 := am_fin (fun o h1 h2 => by
  have h : ∀ o, o < 200 → (am_sh o).1 = 12 → 0 ≤ am_rfv (o : Int) ((2 : Nat) : Int) ∧ (am_rfv (o : Int) ((2 : Nat) : Int)).toNat < 200 ∧ (am_sh (am_rfv (o : Int) ((2 : Nat) : Int)).toNat).1 = 20 := by decide +kernel
  obtain ⟨a, b, c⟩ := h o h1 h2
  exact ⟨a, b, c, rfl⟩)
theorem sh_12_3 : ∀ z, am_ob z 12 → am_ar (am_rfv z ((3 : Nat) : Int)) 20 := am_fin (fun o h1 h2 => by
  have h : ∀ o, o < 200 → (am_sh o).1 = 12 → 0 ≤ am_rfv (o : Int) ((3 : Nat) : Int) ∧ (am_rfv (o : Int) ((3 : Nat) : Int)).toNat < 200 ∧ (am_sh (am_rfv (o : Int) ((3 : Nat) : Int)).toNat).1 = 20 := by decide +kernel
  obtain ⟨a, b, c⟩ := h o h1 h2
  exact ⟨a, b, c, rfl⟩)
theorem sh_12_4 : ∀ z, am_ob z 12 → am_ar (am_rfv z ((4 : Nat) : Int)) 22 := am_fin (fun o h1 h2 => by
  have h : ∀ o, o < 200 → (am_sh o).1 = 12 → 0 ≤ am_rfv (o : Int) ((4 : Nat) : Int) ∧ (am_rfv (o : Int) ((4 : Nat) : Int)).toNat < 200 ∧ (am_sh (am_rfv (o : Int) ((4 : Nat) : Int)).toNat).1 = 22 := by decide +kernel
  obtain ⟨a, b, c⟩ := h o h1 h2
  exact ⟨a, b, c, rfl⟩)
theorem sh_12_5 : ∀ z, am_ob z 12 → am_ar (am_rfv z ((5 : Nat) : Int)) 20 := am_fin (fun o h1 h2 => by
  have h : ∀ o, o < 200 → (am_sh o).1 = 12 → 0 ≤ am_rfv (o : Int) ((5 : Nat) : Int) ∧ (am_rfv (o : Int) ((5 : Nat) : Int)).toNat < 200 ∧ (am_sh (am_rfv (o : Int) ((5 : Nat) : Int)).toNat).1 = 20 := by decide +kernel
  obtain ⟨a, b, c⟩ := h o h1 h2
  exact ⟨a, b, c, rfl⟩)
theorem sh_12_7 : ∀ z, am_ob z 12 → am_ar (am_rfv z ((7 : Nat) : Int)) 21 := am_fin (fun o h1 h2 => by
  have h : ∀ o, o < 200 → (am_sh o).1 = 12 → 0 ≤ am_rfv (o : Int) ((7 : Nat) : Int) ∧ (am_rfv (o : Int) ((7 : Nat) : Int)).toNat < 200 ∧ (am_sh (am_rfv (o : Int) ((7 : Nat) : Int)).toNat).1 = 21 := by decide +kernel
  obtain ⟨a, b, c⟩ := h o h1 h2
  exact ⟨a, b, c, rfl⟩)
theorem sh_12_11 : ∀ z, am_ob z 12 → am_ar (am_rfv z ((11 : Nat) : Int)) 21 := am_fin (fun o h1 h2 => by
  have h : ∀ o, o < 200 → (am_sh o).1 = 12 → 0 ≤ am_rfv (o : Int) ((11 : Nat) : Int) ∧ (am_rfv (o : Int) ((11 : Nat) : Int)).toNat < 200 ∧ (am_sh (am_rfv (o : Int) ((11 : Nat) : Int)).toNat).1 = 21 := by decide +kernel
  obtain ⟨a, b, c⟩ := h o h1 h2
  exact ⟨a, b, c, rfl⟩)
theorem sh_12_12 : ∀ z, am_ob z 12 → am_ar (am_rfv z ((12 : Nat) : Int)) 20 := am_fin (fun o h1 h2 => by
  have h : ∀ o, o < 200 → (am_sh o).1 = 12 → 0 ≤ am_rfv (o : Int) ((12 : Nat) : Int) ∧ (am_rfv (o : Int) ((12 : Nat) : Int)).toNat < 200 ∧ (am_sh (am_rfv (o : Int) ((12 : Nat) : Int)).toNat).1 = 20 := by decide +kernel
  obtain ⟨a, b, c⟩ := h o h1 h2
  exact ⟨a, b, c, rfl⟩)
theorem sh_12_15 : ∀ z, am_ob z 12 → am_ar (am_rfv z ((15 : Nat) : Int)) 20 := am_fin (fun o h1 h2 => by
  have h : ∀ o, o < 200 → (am_sh o).1 = 12 → 0 ≤ am_rfv (o : Int) ((15 : Nat) : Int) ∧ (am_rfv (o : Int) ((15 : Nat) : Int)).toNat < 200 ∧ (am_sh (am_rfv (o : Int) ((15 : Nat) : Int)).toNat).1 = 20 := by decide +kernel
  obtain ⟨a, b, c⟩ := h o h1 h2
  exact ⟨a, b, c, rfl⟩)
theorem sh_12_16 : ∀ z, am_ob z 12 → am_ar (am_rfv z ((16 : Nat) : Int)) 20 := am_fin (fun o h1 h2 => by
  have h : ∀ o, o < 200 → (am_sh o).1 = 12 → 0 ≤ am_rfv (o : Int) ((16 : Nat) : Int) ∧ (am_rfv (o : Int) ((16 : Nat) : Int)).toNat < 200 ∧ (am_sh (am_rfv (o : Int) ((16 : Nat) : Int)).toNat).1 = 20 := by decide +kernel
  obtain ⟨a, b, c⟩ := h o h1 h2
  exact ⟨a, b, c, rfl⟩)
theorem sh_12_17 : ∀ z, am_ob z 12 → am_ar (am_rfv z ((17 : Nat) : Int)) 20 := am_fin (fun o h1 h2 => by
  have h : ∀ o, o < 200 → (am_sh o).1 = 12 → 0 ≤ am_rfv (o : Int) ((17 : Nat) : Int) ∧ (am_rfv (o : Int) ((17 : Nat) : Int)).toNat < 200 ∧ (am_sh (am_rfv (o : Int) ((17 : Nat) : Int)).toNat).1 = 20 := by decide +kernel
  obtain ⟨a, b, c⟩ := h o h1 h2
  exact ⟨a, b, c, rfl⟩)
theorem sh_12_25 : ∀ z, am_ob z 12 → am_ar (am_rfv z ((25 : Nat) : Int)) 20 := am_fin (fun o h1 h2 => by
  have h : ∀ o, o < 200 → (am_sh o).1 = 12 → 0 ≤ am_rfv (o : Int) ((25 : Nat) : Int) ∧ (am_rfv (o : Int) ((25 : Nat) : Int)).toNat < 200 ∧ (am_sh (am_rfv (o : Int) ((25 : Nat) : Int)).toNat).1 = 20 := by decide +kernel
  obtain ⟨a, b, c⟩ := h o h1 h2
  exact ⟨a, b, c, rfl⟩)
theorem sh_12_26 : ∀ z, am_ob z 12 → am_ar (am_rfv z ((26 : Nat) : Int)) 20 := am_fin (fun o h1 h2 => by
  have h : ∀ o, o < 200 → (am_sh o).1 = 12 → 0 ≤ am_rfv (o : Int) ((26 : Nat) : Int) ∧ (am_rfv (o : Int) ((26 : Nat) : Int)).toNat < 200 ∧ (am_sh (am_rfv (o : Int) ((26 : Nat) : Int)).toNat).1 = 20 := by decide +kernel
  obtain ⟨a, b, c⟩ := h o h1 h2
  exact ⟨a, b, c, rfl⟩)
theorem sh_12_27 : ∀ z, am_ob z 12 → am_ar (am_rfv z ((27 : Nat) : Int)) 20 := am_fin (fun o h1 h2 => by
  have h : ∀ o, o < 200 → (am_sh o).1 = 12 → 0 ≤ am_rfv (o : Int) ((27 : Nat) : Int) ∧ (am_rfv (o : Int) ((27 : Nat) : Int)).toNat < 200 ∧ (am_sh (am_rfv (o : Int) ((27 : Nat) : Int)).toNat).1 = 20 := by decide +kernel
  obtain ⟨a, b, c⟩ := h o h1 h2
  exact ⟨a, b, c, rfl⟩)
theorem sh_12_28 : ∀ z, am_ob z 12 → am_ar (am_rfv z ((28 : Nat) : Int)) 20 := am_fin (fun o h1 h2 => by
  have h : ∀ o, o < 200 → (am_sh o).1 = 12 → 0 ≤ am_rfv (o : Int) ((28 : Nat) : Int) ∧ (am_rfv (o : Int) ((28 : Nat) : Int)).toNat < 200 ∧ (am_sh (am_rfv (o : Int) ((28 : Nat) : Int)).toNat).1 = 20 := by decide +kernel
  obtain ⟨a, b, c⟩ := h o h1 h2
  exact ⟨a, b, c, rfl⟩)
theorem sh_12_29 : ∀ z, am_ob z 12 → am_ar (am_rfv z ((29 : Nat) : Int)) 20 := am_fin (fun o h1 h2 => by
  have h : ∀ o, o < 200 → (am_sh o).1 = 12 → 0 ≤ am_rfv (o : Int) ((29 : Nat) : Int) ∧ (am_rfv (o : Int) ((29 : Nat) : Int)).toNat < 200 ∧ (am_sh (am_rfv (o : Int) ((29 : Nat) : Int)).toNat).1 = 20 := by decide +kernel
  obtain ⟨a, b, c⟩ := h o h1 h2
  exact ⟨a, b, c, rfl⟩)
theorem sh_12_30 : ∀ z, am_ob z 12 → am_ar (am_rfv z ((30 : Nat) : Int)) 20 := am_fin (fun o h1 h2 => by
  have h : ∀ o, o < 200 → (am_sh o).1 = 12 → 0 ≤ am_rfv (o : Int) ((30 : Nat) : Int) ∧ (am_rfv (o : Int) ((30 : Nat) : Int)).toNat < 200 ∧ (am_sh (am_rfv (o : Int) ((30 : Nat) : Int)).toNat).1 = 20 := by decide +kernel
  obtain ⟨a, b, c⟩ := h o h1 h2
  exact ⟨a, b, c, rfl⟩)
theorem sh_12_31 : ∀ z, am_ob z 12 → am_ar (am_rfv z ((31 : Nat) : Int)) 20 := am_fin (fun o h1 h2 => by
  have h : ∀ o, o < 200 → (am_sh o).1 = 12 → 0 ≤ am_rfv (o : Int) ((31 : Nat) : Int) ∧ (am_rfv (o : Int) ((31 : Nat) : Int)).toNat < 200 ∧ (am_sh (am_rfv (o : Int) ((31 : Nat) : Int)).toNat).1 = 20 := by decide +kernel
  obtain ⟨a, b, c⟩ := h o h1 h2
  exact ⟨a, b, c, rfl⟩)
theorem sh_12_32 : ∀ z, am_ob z 12 → am_ar (am_rfv z ((32 : Nat) : Int)) 20 := am_fin (fun o h1 h2 => by
  have h : ∀ o, o < 200 → (am_sh o).1 = 12 → 0 ≤ am_rfv (o : Int) ((32 : Nat) : Int) ∧ (am_rfv (o : Int) ((32 : Nat) : Int)).toNat < 200 ∧ (am_sh (am_rfv (o : Int) ((32 : Nat) : Int)).toNat).1 = 20 := by decide +kernel
  obtain ⟨a, b, c⟩ := h o h1 h2
  exact ⟨a, b, c, rfl⟩)
theorem sh_12_33 : ∀ z, am_ob z 12 → am_ar (am_rfv z ((33 : Nat) : Int)) 20 := am_fin (fun o h1 h2 => by
  have h : ∀ o, o < 200 → (am_sh o).1 = 12 → 0 ≤ am_rfv (o : Int) ((33 : Nat) : Int) ∧ (am_rfv (o : Int) ((33 : Nat) : Int)).toNat < 200 ∧ (am_sh (am_rfv (o : Int) ((33 : Nat) : Int)).toNat).1 = 20 := by decide +kernel
  obtain ⟨a, b, c⟩ := h o h1 h2
  exact ⟨a, b, c, rfl⟩)
theorem sh_12_36 : ∀ z, am_ob z 12 → am_ar (am_rfv z ((36 : Nat) : Int)) 20 := am_fin (fun o h1 h2 => by
  have h : ∀ o, o < 200 → (am_sh o).1 = 12 → 0 ≤ am_rfv (o : Int) ((36 : Nat) : Int) ∧ (am_rfv (o : Int) ((36 : Nat) : Int)).toNat < 200 ∧ (am_sh (am_rfv (o : Int) ((36 : Nat) : Int)).toNat).1 = 20 := by decide +kernel
  obtain ⟨a, b, c⟩ := h o h1 h2
  exact ⟨a, b, c, rfl⟩)
theorem sh_12_37 : ∀ z, am_ob z 12 → am_ar (am_rfv z ((37 : Nat) : Int)) 20 := am_fin (fun o h1 h2 => by
  have h : ∀ o, o < 200 → (am_sh o).1 = 12 → 0 ≤ am_rfv (o : Int) ((37 : Nat) : Int) ∧ (am_rfv (o : Int) ((37 : Nat) : Int)).toNat < 200 ∧ (am_sh (am_rfv (o : Int) ((37 : Nat) : Int)).toNat).1 = 20 := by decide +kernel
  obtain ⟨a, b, c⟩ := h o h1 h2
  exact ⟨a, b, c, rfl⟩)
theorem sh_12_39 : ∀ z, am_ob z 12 → am_ar (am_rfv z ((39 : Nat) : Int)) 20 := am_fin (fun o h1 h2 => by
  have h : ∀ o, o < 200 → (am_sh o).1 = 12 → 0 ≤ am_rfv (o : Int) ((39 : Nat) : Int) ∧ (am_rfv (o : Int) ((39 : Nat) : Int)).toNat < 200 ∧ (am_sh (am_rfv (o : Int) ((39 : Nat) : Int)).toNat).1 = 20 := by decide +kernel
  obtain ⟨a, b, c⟩ := h o h1 h2
  exact ⟨a, b, c, rfl⟩)
theorem sh_12_40 : ∀ z, am_ob z 12 → am_ar (am_rfv z ((40 : Nat) : Int)) 20 := am_fin (fun o h1 h2 => by
  have h : ∀ o, o < 200 → (am_sh o).1 = 12 → 0 ≤ am_rfv (o : Int) ((40 : Nat) : Int) ∧ (am_rfv (o : Int) ((40 : Nat) : Int)).toNat < 200 ∧ (am_sh (am_rfv (o : Int) ((40 : Nat) : Int)).toNat).1 = 20 := by decide +kernel
  obtain ⟨a, b, c⟩ := h o h1 h2
  exact ⟨a, b, c, rfl⟩)
theorem sh_12_41 : ∀ z, am_ob z 12 → am_ar (am_rfv z ((41 : Nat) : Int)) 20 := am_fin (fun o h1 h2 => by
  have h : ∀ o, o < 200 → (am_sh o).1 = 12 → 0 ≤ am_rfv (o : Int) ((41 : Nat) : Int) ∧ (am_rfv (o : Int) ((41 : Nat) : Int)).toNat < 200 ∧ (am_sh (am_rfv (o : Int) ((41 : Nat) : Int)).toNat).1 = 20 := by decide +kernel
  obtain ⟨a, b, c⟩ := h o h1 h2
  exact ⟨a, b, c, rfl⟩)
theorem sh_12_42 : ∀ z, am_ob z 12 → am_ar (am_rfv z ((42 : Nat) : Int)) 20 := am_fin (fun o h1 h2 => by
  have h : ∀ o, o < 200 → (am_sh o).1 = 12 → 0 ≤ am_rfv (o : Int) ((42 : Nat) : Int) ∧ (am_rfv (o : Int) ((42 : Nat) : Int)).toNat < 200 ∧ (am_sh (am_rfv (o : Int) ((42 : Nat) : Int)).toNat).1 = 20 := by decide +kernel
  obtain ⟨a, b, c⟩ := h o h1 h2
  exact ⟨a, b, c, rfl⟩)
theorem sh_12_43 : ∀ z, am_ob z 12 → am_ar (am_rfv z ((43 : Nat) : Int)) 20 := am_fin (fun o h1 h2 => by
  have h : ∀ o, o < 200 → (am_sh o).1 = 12 → 0 ≤ am_rfv (o : Int) ((43 : Nat) : Int) ∧ (am_rfv (o : Int) ((43 : Nat) : Int)).toNat < 200 ∧ (am_sh (am_rfv (o : Int) ((43 : Nat) : Int)).toNat).1 = 20 := by decide +kernel
  obtain ⟨a, b, c⟩ := h o h1 h2
  exact ⟨a, b, c, rfl⟩)
theorem sh_12_44 : ∀ z, am_ob z 12 → am_ar (am_rfv z ((44 : Nat) : Int)) 20 := am_fin (fun o h1 h2 => by
  have h : ∀ o, o < 200 → (am_sh o).1 = 12 → 0 ≤ am_rfv (o : Int) ((44 : Nat) : Int) ∧ (am_rfv (o : Int) ((44 : Nat) : Int)).toNat < 200 ∧ (am_sh (am_rfv (o : Int) ((44 : Nat) : Int)).toNat).1 = 20 := by decide +kernel
  obtain ⟨a, b, c⟩ := h o h1 h2
  exact ⟨a, b, c, rfl⟩)
theorem sh_12_55 : ∀ z, am_ob z 12 → am_ar (am_rfv z ((55 : Nat) : Int)) 23 := am_fin (fun o h1 h2 => by
  have h : ∀ o, o < 200 → (am_sh o).1 = 12 → 0 ≤ am_rfv (o : Int) ((55 : Nat) : Int) ∧ (am_rfv (o : Int) ((55 : Nat) : Int)).toNat < 200 ∧ (am_sh (am_rfv (o : Int) ((55 : Nat) : Int)).toNat).1 = 23 := by decide +kernel
  obtain ⟨a, b, c⟩ := h o h1 h2
  exact ⟨a, b, c, rfl⟩)
theorem sh_12_56 : ∀ z, am_ob z 12 → am_ar (am_rfv z ((56 : Nat) : Int)) 20 := am_fin (fun o h1 h2 => by
  have h : ∀ o, o < 200 → (am_sh o).1 = 12 → 0 ≤ am_rfv (o : Int) ((56 : Nat) : Int) ∧ (am_rfv (o : Int) ((56 : Nat) : Int)).toNat < 200 ∧ (am_sh (am_rfv (o : Int) ((56 : Nat) : Int)).toNat).1 = 20 := by decide +kernel
  obtain ⟨a, b, c⟩ := h o h1 h2
  exact ⟨a, b, c, rfl⟩)
theorem sh_12_57 : ∀ z, am_ob z 12 → am_ar (am_rfv z ((57 : Nat) : Int)) 20 := am_fin (fun o h1 h2 => by
  have h : ∀ o, o < 200 → (am_sh o).1 = 12 → 0 ≤ am_rfv (o : Int) ((57 : Nat) : Int) ∧ (am_rfv (o : Int) ((57 : Nat) : Int)).toNat < 200 ∧ (am_sh (am_rfv (o : Int) ((57 : Nat) : Int)).toNat).1 = 20 := by decide +kernel
  obtain ⟨a, b, c⟩ := h o h1 h2
  exact ⟨a, b, c, rfl⟩)
theorem sh_el24 : ∀ z i, am_ar z 24 → 0 ≤ i → i < am_len z → am_ob (am_rfv z i) 0 := fun z i hz h0 h1 => by
  have h : ∀ o, o < 200 → (am_sh o).1 = 24 → ∀ j, j < (am_sh o).2 → 0 ≤ am_rfv (o : Int) (j : Int) ∧ (am_rfv (o : Int) (j : Int)).toNat < 200 ∧ am_sh (am_rfv (o : Int) (j : Int)).toNat = (0, am_N 0) := by decide +kernel
  have := h z.toNat hz.2.1 hz.2.2.1 i.toNat (by unfold am_len at h1; omega)
  rw [am_toNat hz.1, am_toNat h0] at this
  exact this
theorem sh_el25 : ∀ z i, am_ar z 25 → 0 ≤ i → i < am_len z → am_ob (am_rfv z i) 4 := fun z i hz h0 h1 => by
  have h : ∀ o, o < 200 → (am_sh o).1 = 25 → ∀ j, j < (am_sh o).2 → 0 ≤ am_rfv (o : Int) (j : Int) ∧ (am_rfv (o : Int) (j : Int)).toNat < 200 ∧ am_sh (am_rfv (o : Int) (j : Int)).toNat = (4, am_N 4) := by decide +kernel
  have := h z.toNat hz.2.1 hz.2.2.1 i.toNat (by unfold am_len at h1; omega)
  rw [am_toNat hz.1, am_toNat h0] at this
  exact this
