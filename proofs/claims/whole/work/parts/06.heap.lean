theorem am_decl0 : ∀ k, k < 12 → (TX0 k).1 = RX0 := by
  intro k h
  match k, h with
  | 0, _ => rfl
  | 1, _ => rfl
  | 2, _ => rfl
  | 3, _ => rfl
  | 4, _ => rfl
  | 5, _ => rfl
  | 6, _ => rfl
  | 7, _ => rfl
  | 8, _ => rfl
  | 9, _ => rfl
  | 10, _ => rfl
  | 11, _ => rfl
  | k + 12, h => omega
theorem am_decl1 : ∀ k, k < 8 → (TX1 k).1 = RX1 := by
  intro k h
  match k, h with
  | 0, _ => rfl
  | 1, _ => rfl
  | 2, _ => rfl
  | 3, _ => rfl
  | 4, _ => rfl
  | 5, _ => rfl
  | 6, _ => rfl
  | 7, _ => rfl
  | k + 8, h => omega
theorem am_decl2 : ∀ k, k < 4 → (TX2 k).1 = RX2 := by
  intro k h
  match k, h with
  | 0, _ => rfl
  | 1, _ => rfl
  | 2, _ => rfl
  | 3, _ => rfl
  | k + 4, h => omega
theorem am_decl3 : ∀ k, k < 2 → (TX3 k).1 = RX3 := by
  intro k h
  match k, h with
  | 0, _ => rfl
  | 1, _ => rfl
  | k + 2, h => omega
theorem am_decl4 : ∀ k, k < 3 → (TX4 k).1 = RX4 := by
  intro k h
  match k, h with
  | 0, _ => rfl
  | 1, _ => rfl
  | 2, _ => rfl
  | k + 3, h => omega
theorem am_decl5 : ∀ k, k < 7 → (TX5 k).1 = RX5 := by
  intro k h
  match k, h with
  | 0, _ => rfl
  | 1, _ => rfl
  | 2, _ => rfl
  | 3, _ => rfl
  | 4, _ => rfl
  | 5, _ => rfl
  | 6, _ => rfl
  | k + 7, h => omega
theorem am_decl6 : ∀ k, k < 1 → (TX6 k).1 = RX6 := by
  intro k h
  match k, h with
  | 0, _ => rfl
  | k + 1, h => omega
theorem am_decl7 : ∀ k, k < 3 → (TX7 k).1 = RX7 := by
  intro k h
  match k, h with
  | 0, _ => rfl
  | 1, _ => rfl
  | 2, _ => rfl
  | k + 3, h => omega
theorem am_decl8 : ∀ k, k < 2 → (TX8 k).1 = RX8 := by
  intro k h
  match k, h with
  | 0, _ => rfl
  | 1, _ => rfl
  | k + 2, h => omega
theorem am_decl9 : ∀ k, k < 2 → (TX9 k).1 = RX9 := by
  intro k h
  match k, h with
  | 0, _ => rfl
  | 1, _ => rfl
  | k + 2, h => omega
theorem am_decl10 : ∀ k, k < 3 → (TX10 k).1 = RX10 := by
  intro k h
  match k, h with
  | 0, _ => rfl
  | 1, _ => rfl
  | 2, _ => rfl
  | k + 3, h => omega
theorem am_decl11 : ∀ k, k < 20 → (TX11 k).1 = RX11 := by
  intro k h
  match k, h with
  | 0, _ => rfl
  | 1, _ => rfl
  | 2, _ => rfl
  | 3, _ => rfl
  | 4, _ => rfl
  | 5, _ => rfl
  | 6, _ => rfl
  | 7, _ => rfl
  | 8, _ => rfl
  | 9, _ => rfl
  | 10, _ => rfl
  | 11, _ => rfl
  | 12, _ => rfl
  | 13, _ => rfl
  | 14, _ => rfl
  | 15, _ => rfl
  | 16, _ => rfl
  | 17, _ => rfl
  | 18, _ => rfl
  | 19, _ => rfl
  | k + 20, h => omega
theorem am_decl12 : ∀ k, k < 60 → (TX12 k).1 = RX12 := by
  intro k h
  match k, h with
  | 0, _ => rfl
  | 1, _ => rfl
  | 2, _ => rfl
  | 3, _ => rfl
  | 4, _ => rfl
  | 5, _ => rfl
  | 6, _ => rfl
  | 7, _ => rfl
  | 8, _ => rfl
  | 9, _ => rfl
  | 10, _ => rfl
  | 11, _ => rfl
  | 12, _ => rfl
  | 13, _ => rfl
  | 14, _ => rfl
  | 15, _ => rfl
  | 16, _ => rfl
  | 17, _ => rfl
  | 18, _ => rfl
  | 19, _ => rfl
  | 20, _ => rfl
  | 21, _ => rfl
  | 22, _ => rfl
  | 23, _ => rfl
  | 24, _ => rfl
  | 25, _ => rfl
  | 26, _ => rfl
  | 27, _ => rfl
  | 28, _ => rfl
  | 29, _ => rfl
  | 30, _ => rfl
  | 31, _ => rfl
  | 32, _ => rfl
  | 33, _ => rfl
  | 34, _ => rfl
  | 35, _ => rfl
  | 36, _ => rfl
  | 37, _ => rfl
  | 38, _ => rfl
  | 39, _ => rfl
  | 40, _ => rfl
  | 41, _ => rfl
  | 42, _ => rfl
  | 43, _ => rfl
  | 44, _ => rfl
  | 45, _ => rfl
  | 46, _ => rfl
  | 47, _ => rfl
  | 48, _ => rfl
  | 49, _ => rfl
  | 50, _ => rfl
  | 51, _ => rfl
  | 52, _ => rfl
  | 53, _ => rfl
  | 54, _ => rfl
  | 55, _ => rfl
  | 56, _ => rfl
  | 57, _ => rfl
  | 58, _ => rfl
  | 59, _ => rfl
  | k + 60, h => omega
/-! THE HEAP: fields, arrays, making, System.arraycopy. -/
theorem am_decl : ∀ ci, ci < 13 → ∀ k, k < am_N ci → (am_T ci k).1 = am_C ci := by
  intro ci h
  have key : ∀ (N : Nat) (T : u_T) (C : String), (List.range N).all (fun k => decide ((T k).1 = C)) = true → ∀ k, k < N → (T k).1 = C := fun N T C h k hk => by
    have := List.all_eq_true.mp h k (List.mem_range.mpr hk)
    simpa using this
  match ci, h with

  | 0, _ => exact am_decl0
  | 1, _ => exact am_decl1
  | 2, _ => exact am_decl2
  | 3, _ => exact am_decl3
  | 4, _ => exact am_decl4
  | 5, _ => exact am_decl5
  | 6, _ => exact am_decl6
  | 7, _ => exact am_decl7
  | 8, _ => exact am_decl8
  | 9, _ => exact am_decl9
  | 10, _ => exact am_decl10
  | 11, _ => exact am_decl11
  | 12, _ => exact am_decl12
  | k + 13, h => omega

theorem am_rv2 {E : am_E} {z : Int} (h : 0 ≤ z) : am_rv E (2, z) = .ref (E.1 + z.toNat) := by
  show va_rf (am_rf E.1 z) = _
  unfold am_rf
  rw [if_neg (by omega)]
  rfl
theorem am_toNat {z : Int} (h : 0 ≤ z) : ((z.toNat : Nat) : Int) = z := Int.toNat_of_nonneg h
theorem am_clamp {z : Int} (h : R32 z) : (Int32.ofInt z).toNatClampNeg = z.toNat := by
  show (Int32.ofInt z).toInt.toNat = z.toNat
  rw [i32_toR h]
theorem am_in {z : Int} {len : Nat} (h : R32 z) (h0 : 0 ≤ z) (h1 : z < (len : Int)) : vp_in (Int32.ofInt z) len := vp_in_iff.mpr (by rw [i32_toR h]; exact ⟨h0, h1⟩)
theorem am_ent_o {E : am_E} {ci N : Nat} {f : Int → Int} (h : ci < 13) : am_ent E (ci, N) f = .inr (ci, (List.range N).map fun k : Nat => am_rv E (am_ft ci k, f k)) := if_pos (by show ci < 20; omega)
theorem am_ent_i {E : am_E} {kd len : Nat} {f : Int → Int} (h : 20 ≤ kd) (h2 : kd < 23) : am_ent E (kd, len) f = .inl (E.2.2.2.2 kd, (len, .inl fun j : Nat => Int32.ofInt (f j))) := by
  unfold am_ent
  rw [if_neg (by show ¬ kd < 20; omega), if_pos (by show kd < 23; omega)]
theorem am_ent_l {E : am_E} {len : Nat} {f : Int → Int} : am_ent E (23, len) f = .inl (E.2.2.2.2 23, (len, .inr (.inl fun j : Nat => Int64.ofInt (f j)))) := rfl
theorem am_ent_a {E : am_E} {kd len : Nat} {f : Int → Int} (h : 24 ≤ kd) : am_ent E (kd, len) f = .inl (E.2.2.2.2 kd, (len, .inr (.inr (.inr (.inr fun j : Nat => am_rf E.1 (f j)))))) := by
  unfold am_ent
  rw [if_neg (by show ¬ kd < 20; omega), if_neg (by show ¬ kd < 23; omega), if_neg (by show ¬ kd = 23; omega)]
theorem am_get_o {E : am_E} {m : am_M} {n : Nat} {z : Int} {ci : Nat} (hci : ci < 13) (h : am_is n z ci) : (am_ws E m n)[z.toNat]? = some (E.1 + z.toNat, .inr (ci, (List.range (am_N ci)).map fun k : Nat => am_rv E (am_ft ci k, m z k))) := by
  obtain ⟨h1, h2, h3⟩ := h
  rw [am_ws_get h2, h3, am_ent_o hci, am_toNat h1]
theorem am_shape {z : Int} {kd : Nat} {len : Int} (h3 : (am_sh z.toNat).1 = kd) (h4 : len = ((am_sh z.toNat).2 : Int)) : am_sh z.toNat = (kd, len.toNat) := by
  rw [← h3, h4]
  rfl
theorem am_get_i {E : am_E} {m : am_M} {n : Nat} {z : Int} {kd : Nat} {len : Int} (hk : 20 ≤ kd) (hk2 : kd < 23) (h : am_isA n z kd len) : (am_ws E m n)[z.toNat]? = some (E.1 + z.toNat, .inl (E.2.2.2.2 kd, (len.toNat, .inl fun j : Nat => Int32.ofInt (m z j)))) := by
  obtain ⟨h1, h2, h3, h4⟩ := h
  rw [am_ws_get h2, am_shape h3 h4, am_ent_i hk hk2, am_toNat h1]
theorem am_get_l {E : am_E} {m : am_M} {n : Nat} {z : Int} {len : Int} (h : am_isA n z 23 len) : (am_ws E m n)[z.toNat]? = some (E.1 + z.toNat, .inl (E.2.2.2.2 23, (len.toNat, .inr (.inl fun j : Nat => Int64.ofInt (m z j))))) := by
  obtain ⟨h1, h2, h3, h4⟩ := h
  rw [am_ws_get h2, am_shape h3 h4, am_ent_l, am_toNat h1]
theorem am_get_a {E : am_E} {m : am_M} {n : Nat} {z : Int} {kd : Nat} {len : Int} (hk : 24 ≤ kd) (h : am_isA n z kd len) : (am_ws E m n)[z.toNat]? = some (E.1 + z.toNat, .inl (E.2.2.2.2 kd, (len.toNat, .inr (.inr (.inr (.inr fun j : Nat => am_rf E.1 (m z j))))))) := by
  obtain ⟨h1, h2, h3, h4⟩ := h
  rw [am_ws_get h2, am_shape h3 h4, am_ent_a hk, am_toNat h1]
/-- what a field's type takes -/
def am_fitV (t : FieldType) (v : am_V) : Prop := match t with
  | .int => v.1 = 0
  | .boolean => v.1 = 0 ∧ (v.2 = 0 ∨ v.2 = 1)
  | .long => v.1 = 1
  | .object _ => v.1 = 2
  | .array _ => v.1 = 2
  | _ => False
theorem am_fit {E : am_E} {t : FieldType} {v : am_V} (h : am_fitV t v) : narrow t (am_rv E v) = am_rv E v ∧ fits t (am_rv E v) = true ∧ v.1 = am_tag t := by
  obtain ⟨g, z⟩ := v
  have hr := am_ref (E := E) (v := (2, z)) (Or.inl rfl)
  cases t <;> simp only [am_fitV] at h
  case boolean =>
    obtain ⟨rfl, h⟩ := h
    rcases h with rfl | rfl <;> exact ⟨rfl, rfl, rfl⟩
  case int => subst h; exact ⟨rfl, rfl, rfl⟩
  case long => subst h; exact ⟨rfl, rfl, rfl⟩
  case object C =>
    subst h
    refine ⟨?_, ?_, rfl⟩
    · rcases hr with h | ⟨a, h⟩ <;> rw [h] <;> rfl
    · rcases hr with h | ⟨a, h⟩ <;> rw [h] <;> rfl
  case array C =>
    subst h
    refine ⟨?_, ?_, rfl⟩
    · rcases hr with h | ⟨a, h⟩ <;> rw [h] <;> rfl
    · rcases hr with h | ⟨a, h⟩ <;> rw [h] <;> rfl
theorem am_range_set {α : Type} {N k : Nat} {f g : Nat → α} {v : α} (hv : g k = v) (ho : ∀ j, j ≠ k → g j = f j) : ((List.range N).map f).set k v = (List.range N).map g := by
  apply List.ext_getElem?
  intro i
  by_cases hik : i = k
  · subst hik
    by_cases hi : i < N
    · rw [List.getElem?_set_self (by simp [hi])]
      simp [List.getElem?_map, List.getElem?_range hi, hv]
    · rw [List.getElem?_eq_none (by simp; omega), List.getElem?_eq_none (by simp; omega)]
  · rw [List.getElem?_set_ne (Ne.symm hik)]
    by_cases hi : i < N
    · simp [List.getElem?_map, List.getElem?_range hi, ho i hik]
    · rw [List.getElem?_eq_none (by simp; omega), List.getElem?_eq_none (by simp; omega)]
theorem am_setZ {E : am_E} {m : am_M} {n : Nat} {z k v : Int} (h0 : 0 ≤ z) (hz : z.toNat < n) {e : va_E} (he : e = am_ent E (am_sh z.toNat) (am_st m z k v z)) : (am_ws E m n).set z.toNat (E.1 + z.toNat, e) = am_ws E (am_st m z k v) n := by
  have hh : ((z.toNat : Nat) : Int) = z := am_toNat h0
  have := am_ws_set (E := E) (m := m) (k := k) (v := v) hz (e := e) (by rw [hh]; exact he)
  rwa [hh] at this
theorem am_RngZ {m : am_M} {n : Nat} {z k v : Int} (h : am_Rng m n) (h0 : 0 ≤ z) (hk : 0 ≤ k) (hv : am_R (am_ct (am_sh z.toNat) k.toNat, v)) : am_Rng (am_st m z k v) n := by
  have := am_Rng_st (m := m) (n := n) (o := z.toNat) (k := k.toNat) (v := v) h hv
  rwa [am_toNat h0, am_toNat hk] at this
theorem am_put {E : am_E} {m : am_M} {n : Nat} {z : Int} {ci k0 : Nat} {v : am_V} (hci : ci < 13) (ho : am_is n z ci) (hv : v.1 = am_ft ci k0) : (am_ws E m n).set z.toNat (E.1 + z.toNat, .inr (ci, ((List.range (am_N ci)).map fun k : Nat => am_rv E (am_ft ci k, m z k)).set k0 (am_rv E v))) = am_ws E (am_st m z k0 v.2) n := by
  refine am_setZ ho.1 ho.2.1 ?_
  rw [ho.2.2, am_ent_o hci, am_range_set (g := fun k : Nat => am_rv E (am_ft ci k, am_st m z k0 v.2 z k))]
  · rw [am_st_same, ← hv]
  · intro j hj
    rw [am_st_ne]
    rintro ⟨-, h⟩
    exact hj (by omega)
theorem am_updI {m : am_M} {z i x : Int} (hi : 0 ≤ i) (hr : R32 i) : upd (fun j : Nat => Int32.ofInt (m z j)) (Int32.ofInt i).toNatClampNeg (Int32.ofInt x) = fun j : Nat => Int32.ofInt (am_st m z i x z j) := by
  funext j
  rw [am_clamp hr]
  by_cases h : j = i.toNat
  · subst h
    rw [pk_us, am_toNat hi, am_st_same]
  · rw [pk_un h, am_st_ne]
    rintro ⟨-, q⟩
    exact h (by omega)
theorem am_updL {m : am_M} {z i x : Int} (hi : 0 ≤ i) (hr : R32 i) : vp_updL (fun j : Nat => Int64.ofInt (m z j)) (Int32.ofInt i).toNatClampNeg (Int64.ofInt x) = fun j : Nat => Int64.ofInt (am_st m z i x z j) := by
  funext j
  rw [am_clamp hr]
  by_cases h : j = i.toNat
  · subst h
    rw [pk_uLs, am_toNat hi, am_st_same]
  · rw [pk_uLn h, am_st_ne]
    rintro ⟨-, q⟩
    exact h (by omega)
theorem am_updA {b : Nat} {m : am_M} {z i x : Int} (hi : 0 ≤ i) (hr : R32 i) (hx : 0 ≤ x) : va_up (fun j : Nat => am_rf b (m z j)) (Int32.ofInt i).toNatClampNeg (some (b + x.toNat)) = fun j : Nat => am_rf b (am_st m z i x z j) := by
  funext j
  rw [am_clamp hr]
  by_cases h : j = i.toNat
  · subst h
    rw [am_toNat hi, am_st_same]
    unfold va_up am_rf
    rw [if_pos rfl, if_neg (by omega)]
  · unfold va_up
    rw [if_neg h, am_st_ne]
    rintro ⟨-, q⟩
    exact h (by omega)
theorem am_ctA {kd len : Nat} (h : 20 ≤ kd) (k : Nat) : am_ct (kd, len) k = if kd < 23 then 0 else if kd = 23 then 1 else 2 := by
  unfold am_ct
  rw [if_neg (by show ¬ kd < 20; omega)]
theorem am_nar8 {x : Int} (h : -128 ≤ x ∧ x ≤ 127) : vp_nar .byte (Int32.ofInt x) = Int32.ofInt x := by
  rw [vp_nar_byte]
  apply i32_ext
  have hr : R32 x := by unfold R32; omega
  rw [Int8.toInt_toInt32, Int32.toInt_toInt8, i32_toR hr, Int.bmod_def]
  split <;> omega
theorem am_nar1 {x : Int} (h : x = 0 ∨ x = 1) : vp_nar .boolean (Int32.ofInt x) = Int32.ofInt x := by
  rcases h with rfl | rfl <;> rfl
section AMH
variable {F : am_F} {cc : ByteArray} {own : String} {pc nx : Nat} {st loc : List am_V} {m : am_M} {n : Nat}
theorem z_getf (G : am_G F cc own) {z : Int} {idx ci k0 : Nat} (hw : am_Fld own idx ci k0) (hci : ci < 13) (hk0 : k0 < am_N ci) (ho : am_is n z ci) (hd : decode cc pc = .ok (.getfield idx, 3)) (hn : pc + 3 = nx) (k : am_Z F nx ((am_ft ci k0, m z k0) :: st) loc m n) : am_Z F pc ((2, z) :: st) loc m n := by
  subst hn
  obtain ⟨p, l, e, R, s, mm, args, below, meth, c, Q, E, n0, cnt, d⟩ := F
  obtain ⟨hx, hb, hown, hts, hK, hX, hsz, hc1, hc2, hc3, hc4⟩ := G
  intro h1 h2 h3 h4 h0 H ls locs h5 h6 h8
  have hr : am_R (am_ft ci k0, m z k0) := by
    have := h3 z.toNat ho.2.1 k0 (by rw [ho.2.2]; exact hk0)
    rwa [ho.2.2, am_toNat ho.1, am_ct, if_pos (show (ci, am_N ci).1 < 20 by show ci < 20; omega)] at this
  have hg := am_get_o (E := E) (m := m) hci ho
  have hf : ((List.range (am_N ci)).map fun k : Nat => am_rv E (am_ft ci k, m z k))[k0]? = some (am_rv E (am_ft ci k0, m z k0)) := by simp [List.getElem?_map, List.getElem?_range hk0]
  have hkk := k (am_mk hr (am_tl h1)) h2 h3 h4 h0 H ls locs h5 h6 h8
  have e1 : (am_T ci k0).1 = am_C ci := am_decl ci hci k0 hk0
  rw [List.map_cons, am_rv2 ho.1]
  rcases hw with hw | hw
  · exact va_get hx hb hts (am_lay ci hci) hown hK h6 _ hg (am_cl ci hci) k0 hk0 (hts _ hw) (fun x q => by rwa [e1] at q) hf hd hkk
  · exact va_getN (host := RX11) hx hb hts (am_lay ci hci) hown hK h6 _ hg (am_cl ci hci) k0 hk0 (va_Nw.use rfl (hX.1 _ hw)) (fun x q => by rwa [e1] at q) hf hd hkk
theorem z_putf (G : am_G F cc own) {z : Int} {v : am_V} {idx ci k0 : Nat} (hw : am_Fld own idx ci k0) (hci : ci < 13) (hk0 : k0 < am_N ci) (hfin : (am_T ci k0).2.2.2 = false) (hfit : am_fitV (am_ty ci k0) v) (ho : am_is n z ci) (hd : decode cc pc = .ok (.putfield idx, 3)) (hn : pc + 3 = nx) (k : am_Z F nx st loc (am_st m z k0 v.2) n) : am_Z F pc (v :: (2, z) :: st) loc m n := by
  subst hn
  obtain ⟨p, l, e, R, s, mm, args, below, meth, c, Q, E, n0, cnt, d⟩ := F
  obtain ⟨hx, hb, hown, hts, hK, hX, hsz, hc1, hc2, hc3, hc4⟩ := G
  intro h1 h2 h3 h4 h0 H ls locs h5 h6 h8
  obtain ⟨f1, f2, f3⟩ := am_fit (E := E) hfit
  have hg := am_get_o (E := E) (m := m) hci ho
  have hR : am_Rng (am_st m z k0 v.2) n := am_RngZ h3 ho.1 (Int.natCast_nonneg k0) (by
      rw [ho.2.2, am_ct, if_pos (show (ci, am_N ci).1 < 20 by show ci < 20; omega)]
      show am_R (am_tag (am_ty ci k0), v.2)
      rw [← f3]
      exact am_hd h1)
  have hs := am_put (E := E) (m := m) (k0 := k0) (v := v) hci ho f3
  have hlen : k0 < ((List.range (am_N ci)).map fun k : Nat => am_rv E (am_ft ci k, m z k)).length := by simp [hk0]
  have e1 : (am_T ci k0).1 = am_C ci := am_decl ci hci k0 hk0
  have hty := am_tyok ci hci k0 hk0
  rw [List.map_cons, List.map_cons, am_rv2 ho.1]
  rcases hw with hw | hw
  · exact va_put hx hb hts (am_lay ci hci) (am_ty ci) (am_tyok ci hci) (am_nm ci hci) hown hK h6 am_ws_D h8 _ hg (am_cl ci hci) k0 hk0 (hts _ hw) (fun x q => by rwa [e1] at q) hfin hty f1 f2 hlen hd (fun H1 locs1 g1 _ g3 => k (am_tl (am_tl h1)) h2 hR h4 h0 H1 ls locs1 h5 (hs ▸ g1) g3)
  · exact va_putN (host := RX11) hx hb hts (am_lay ci hci) (am_ty ci) (am_tyok ci hci) (am_nm ci hci) hown hK h6 am_ws_D h8 _ hg (am_cl ci hci) k0 hk0 (va_Nw.use rfl (hX.1 _ hw)) (fun x q => by rwa [e1] at q) hfin hty f1 f2 hlen hd (fun H1 locs1 g1 _ g3 => k (am_tl (am_tl h1)) h2 hR h4 h0 H1 ls locs1 h5 (hs ▸ g1) g3)
theorem z_putF (G : am_G F cc own) {z : Int} {v : am_V} {idx ci k0 : Nat} (hw : am_Fld own idx ci k0) (hci : ci < 13) (hk0 : k0 < am_N ci) (hfin : (am_T ci k0).2.2.2 = true) (hI : am_isInit F) (hC : am_C ci = own) (hw2 : Cond.fieldLink own idx (am_C ci) (am_T ci k0).2.1 (am_T ci k0).2.2.1 ∈ am_TB) (hfit : am_fitV (am_ty ci k0) v) (ho : am_is n z ci) (hd : decode cc pc = .ok (.putfield idx, 3)) (hn : pc + 3 = nx) (k : am_Z F nx st loc (am_st m z k0 v.2) n) : am_Z F pc (v :: (2, z) :: st) loc m n := by
  subst hn
  obtain ⟨p, l, e, R, s, mm, args, below, meth, c, Q, E, n0, cnt, d⟩ := F
  obtain ⟨hx, hb, hown, hts, hK, hX, hsz, hc1, hc2, hc3, hc4⟩ := G
  intro h1 h2 h3 h4 h0 H ls locs h5 h6 h8
  obtain ⟨f1, f2, f3⟩ := am_fit (E := E) hfit
  have hg := am_get_o (E := E) (m := m) hci ho
  have hR : am_Rng (am_st m z k0 v.2) n := am_RngZ h3 ho.1 (Int.natCast_nonneg k0) (by
      rw [ho.2.2, am_ct, if_pos (show (ci, am_N ci).1 < 20 by show ci < 20; omega)]
      show am_R (am_tag (am_ty ci k0), v.2)
      rw [← f3]
      exact am_hd h1)
  have hs := am_put (E := E) (m := m) (k0 := k0) (v := v) hci ho f3
  have hlen : k0 < ((List.range (am_N ci)).map fun k : Nat => am_rv E (am_ft ci k, m z k)).length := by simp [hk0]
  have e1 : (am_T ci k0).1 = am_C ci := am_decl ci hci k0 hk0
  have hty := am_tyok ci hci k0 hk0
  rw [List.map_cons, List.map_cons, am_rv2 ho.1]
  exact va_putF hx hb hts (am_lay ci hci) (am_ty ci) (am_tyok ci hci) (am_nm ci hci) hown hK h6 am_ws_D h8 _ hg (am_cl ci hci) k0 hk0 (hts _ hw2) (fun x q => by rwa [e1] at q) hfin hI (e1.trans hC) hty f1 f2 hlen hd (fun H1 locs1 g1 _ g3 => k (am_tl (am_tl h1)) h2 hR h4 h0 H1 ls locs1 h5 (hs ▸ g1) g3)

theorem z_iald (G : am_G F cc own) {z i len : Int} (ho : am_isA n z 20 len) (h0 : 0 ≤ i) (hl : i < len) (hd : decode cc pc = .ok (.iaload, 1)) (hn : pc + 1 = nx) (k : am_Z F nx ((0, m z i) :: st) loc m n) : am_Z F pc ((0, i) :: (2, z) :: st) loc m n := by
  subst hn
  obtain ⟨p, l, e, R, s, mm, args, below, meth, c, Q, E, n0, cnt, d⟩ := F
  obtain ⟨hx, hb, hown, hts, hK, hX, hsz, hc1, hc2, hc3, hc4⟩ := G
  intro h1 h2 h3 h4 hn0 H ls locs h5 h6 h8
  have ri := (am_hd h1).1 rfl
  have hg := am_get_i (by decide) (by decide) (h := ho) (E := E) (m := m)
  have hr : am_R (0, m z i) := by
    have := h3 z.toNat ho.2.1 i.toNat (by rw [am_shape ho.2.2.1 ho.2.2.2]; show i.toNat < len.toNat; omega)
    rwa [am_shape ho.2.2.1 ho.2.2.2, am_ctA (by decide), am_toNat ho.1, am_toNat h0] at this
  have hkk := k (am_mk hr (am_tl (am_tl h1))) h2 h3 h4 hn0 H ls locs h5 h6 h8
  rw [List.map_cons, List.map_cons, am_rv2 ho.1]
  refine va_iald hx hb hK h6 _ 0 hg rfl (am_in ri h0 (by omega)) hd ?_
  rw [am_clamp ri, am_toNat h0]
  exact hkk
theorem z_bald (G : am_G F cc own) {z i len : Int} (ho : am_isA n z 21 len) (h0 : 0 ≤ i) (hl : i < len) (hd : decode cc pc = .ok (.baload, 1)) (hn : pc + 1 = nx) (k : am_Z F nx ((0, m z i) :: st) loc m n) : am_Z F pc ((0, i) :: (2, z) :: st) loc m n := by
  subst hn
  obtain ⟨p, l, e, R, s, mm, args, below, meth, c, Q, E, n0, cnt, d⟩ := F
  obtain ⟨hx, hb, hown, hts, hK, hX, hsz, hc1, hc2, hc3, hc4⟩ := G
  intro h1 h2 h3 h4 hn0 H ls locs h5 h6 h8
  have ri := (am_hd h1).1 rfl
  have hg := am_get_i (by decide) (by decide) (h := ho) (E := E) (m := m)
  have hr : am_R (0, m z i) := by
    have := h3 z.toNat ho.2.1 i.toNat (by rw [am_shape ho.2.2.1 ho.2.2.2]; show i.toNat < len.toNat; omega)
    rwa [am_shape ho.2.2.1 ho.2.2.2, am_ctA (by decide), am_toNat ho.1, am_toNat h0] at this
  have hkk := k (am_mk hr (am_tl (am_tl h1))) h2 h3 h4 hn0 H ls locs h5 h6 h8
  rw [List.map_cons, List.map_cons, am_rv2 ho.1]
  refine va_bald hx hb hK h6 _ 1 hg rfl (am_in ri h0 (by omega)) hd ?_
  rw [am_clamp ri, am_toNat h0]
  exact hkk
theorem z_zald (G : am_G F cc own) {z i len : Int} (ho : am_isA n z 22 len) (h0 : 0 ≤ i) (hl : i < len) (hd : decode cc pc = .ok (.baload, 1)) (hn : pc + 1 = nx) (k : am_Z F nx ((0, m z i) :: st) loc m n) : am_Z F pc ((0, i) :: (2, z) :: st) loc m n := by
  subst hn
  obtain ⟨p, l, e, R, s, mm, args, below, meth, c, Q, E, n0, cnt, d⟩ := F
  obtain ⟨hx, hb, hown, hts, hK, hX, hsz, hc1, hc2, hc3, hc4⟩ := G
  intro h1 h2 h3 h4 hn0 H ls locs h5 h6 h8
  have ri := (am_hd h1).1 rfl
  have hg := am_get_i (by decide) (by decide) (h := ho) (E := E) (m := m)
  have hr : am_R (0, m z i) := by
    have := h3 z.toNat ho.2.1 i.toNat (by rw [am_shape ho.2.2.1 ho.2.2.2]; show i.toNat < len.toNat; omega)
    rwa [am_shape ho.2.2.1 ho.2.2.2, am_ctA (by decide), am_toNat ho.1, am_toNat h0] at this
  have hkk := k (am_mk hr (am_tl (am_tl h1))) h2 h3 h4 hn0 H ls locs h5 h6 h8
  rw [List.map_cons, List.map_cons, am_rv2 ho.1]
  refine va_zald hx hb hK h6 _ 2 hg rfl (am_in ri h0 (by omega)) hd ?_
  rw [am_clamp ri, am_toNat h0]
  exact hkk
theorem z_lald (G : am_G F cc own) {z i len : Int} (ho : am_isA n z 23 len) (h0 : 0 ≤ i) (hl : i < len) (hd : decode cc pc = .ok (.laload, 1)) (hn : pc + 1 = nx) (k : am_Z F nx ((1, m z i) :: st) loc m n) : am_Z F pc ((0, i) :: (2, z) :: st) loc m n := by
  subst hn
  obtain ⟨p, l, e, R, s, mm, args, below, meth, c, Q, E, n0, cnt, d⟩ := F
  obtain ⟨hx, hb, hown, hts, hK, hX, hsz, hc1, hc2, hc3, hc4⟩ := G
  intro h1 h2 h3 h4 hn0 H ls locs h5 h6 h8
  have ri := (am_hd h1).1 rfl
  have hg := am_get_l (h := ho) (E := E) (m := m)
  have hr : am_R (1, m z i) := by
    have := h3 z.toNat ho.2.1 i.toNat (by rw [am_shape ho.2.2.1 ho.2.2.2]; show i.toNat < len.toNat; omega)
    rwa [am_shape ho.2.2.1 ho.2.2.2, am_ctA (by decide), am_toNat ho.1, am_toNat h0] at this
  have hkk := k (am_mk hr (am_tl (am_tl h1))) h2 h3 h4 hn0 H ls locs h5 h6 h8
  rw [List.map_cons, List.map_cons, am_rv2 ho.1]
  refine va_lald hx hb hK h6 _ 3 hg rfl (am_in ri h0 (by omega)) hd ?_
  rw [am_clamp ri, am_toNat h0]
  exact hkk
theorem z_aald (G : am_G F cc own) {z i len : Int} {kd : Nat} (hkd : kd = 24 ∨ kd = 25) (ho : am_isA n z kd len) (h0 : 0 ≤ i) (hl : i < len) (hd : decode cc pc = .ok (.aaload, 1)) (hn : pc + 1 = nx) (k : am_Z F nx ((2, m z i) :: st) loc m n) : am_Z F pc ((0, i) :: (2, z) :: st) loc m n := by
  subst hn
  obtain ⟨p, l, e, R, s, mm, args, below, meth, c, Q, E, n0, cnt, d⟩ := F
  obtain ⟨hx, hb, hown, hts, hK, hX, hsz, hc1, hc2, hc3, hc4⟩ := G
  intro h1 h2 h3 h4 hn0 H ls locs h5 h6 h8
  have ri := (am_hd h1).1 rfl
  have hkk := k (am_mk (am_R2 _) (am_tl (am_tl h1))) h2 h3 h4 hn0 H ls locs h5 h6 h8
  rw [List.map_cons, List.map_cons, am_rv2 ho.1]
  rcases hkd with rfl | rfl
  · refine va_aldq hx hb hK h6 _ 4 (am_get_a (E := E) (m := m) (by decide) ho) rfl (am_in ri h0 (by omega)) hd ?_
    rw [am_clamp ri, am_toNat h0]
    exact hkk
  · refine va_aldq hx hb hK h6 _ 5 (am_get_a (E := E) (m := m) (by decide) ho) rfl (am_in ri h0 (by omega)) hd ?_
    rw [am_clamp ri, am_toNat h0]
    exact hkk
theorem z_iast (G : am_G F cc own) {z i x len : Int} (ho : am_isA n z 20 len) (h0 : 0 ≤ i) (hl : i < len) (hd : decode cc pc = .ok (.iastore, 1)) (hn : pc + 1 = nx) (k : am_Z F nx st loc (am_st m z i x) n) : am_Z F pc ((0, x) :: (0, i) :: (2, z) :: st) loc m n := by
  subst hn
  obtain ⟨p, l, e, R, s, mm, args, below, meth, c, Q, E, n0, cnt, d⟩ := F
  obtain ⟨hx, hb, hown, hts, hK, hX, hsz, hc1, hc2, hc3, hc4⟩ := G
  intro h1 h2 h3 h4 hn0 H ls locs h5 h6 h8
  have ri := (am_hd (am_tl h1)).1 rfl
  have rx := am_hd h1
  have hg := am_get_i (by decide) (by decide) (h := ho) (E := E) (m := m)
  have hR : am_Rng (am_st m z i x) n := am_RngZ h3 ho.1 h0 (by rw [am_shape ho.2.2.1 ho.2.2.2, am_ctA (by decide)]; exact rx)
  have hs : (am_ws E m n).set z.toNat (E.1 + z.toNat, .inl (E.2.2.2.2 20, (len.toNat, .inl (upd (fun j : Nat => Int32.ofInt (m z j)) (Int32.ofInt i).toNatClampNeg (Int32.ofInt x))))) = am_ws E (am_st m z i x) n := am_setZ ho.1 ho.2.1 (by rw [am_shape ho.2.2.1 ho.2.2.2, am_ent_i (by decide) (by decide), am_updI h0 ri])
  rw [List.map_cons, List.map_cons, List.map_cons, am_rv2 ho.1]
  refine va_iast hx hb hK h6 am_ws_D h8 _ 0 hg rfl (am_in ri h0 (by omega)) hd (fun H1 locs1 g1 _ g3 => ?_)
  exact k (am_tl (am_tl (am_tl h1))) h2 hR h4 hn0 H1 ls locs1 h5 (hs ▸ g1) g3
theorem z_bast (G : am_G F cc own) {z i x len : Int} (hv : -128 ≤ x ∧ x ≤ 127) (ho : am_isA n z 21 len) (h0 : 0 ≤ i) (hl : i < len) (hd : decode cc pc = .ok (.bastore, 1)) (hn : pc + 1 = nx) (k : am_Z F nx st loc (am_st m z i x) n) : am_Z F pc ((0, x) :: (0, i) :: (2, z) :: st) loc m n := by
  subst hn
  obtain ⟨p, l, e, R, s, mm, args, below, meth, c, Q, E, n0, cnt, d⟩ := F
  obtain ⟨hx, hb, hown, hts, hK, hX, hsz, hc1, hc2, hc3, hc4⟩ := G
  intro h1 h2 h3 h4 hn0 H ls locs h5 h6 h8
  have ri := (am_hd (am_tl h1)).1 rfl
  have rx := am_hd h1
  have hg := am_get_i (by decide) (by decide) (h := ho) (E := E) (m := m)
  have hR : am_Rng (am_st m z i x) n := am_RngZ h3 ho.1 h0 (by rw [am_shape ho.2.2.1 ho.2.2.2, am_ctA (by decide)]; exact rx)
  have hs : (am_ws E m n).set z.toNat (E.1 + z.toNat, .inl (E.2.2.2.2 21, (len.toNat, .inl (upd (fun j : Nat => Int32.ofInt (m z j)) (Int32.ofInt i).toNatClampNeg (Int32.ofInt x))))) = am_ws E (am_st m z i x) n := am_setZ ho.1 ho.2.1 (by rw [am_shape ho.2.2.1 ho.2.2.2, am_ent_i (by decide) (by decide), am_updI h0 ri])
  rw [List.map_cons, List.map_cons, List.map_cons, am_rv2 ho.1]
  refine va_bast hx hb hK h6 am_ws_D h8 _ 1 hg rfl (am_in ri h0 (by omega)) hd (fun H1 locs1 g1 _ g3 => ?_)
  rw [am_nar8 hv] at g1
  exact k (am_tl (am_tl (am_tl h1))) h2 hR h4 hn0 H1 ls locs1 h5 (hs ▸ g1) g3
theorem z_zast (G : am_G F cc own) {z i x len : Int} (hv : x = 0 ∨ x = 1) (ho : am_isA n z 22 len) (h0 : 0 ≤ i) (hl : i < len) (hd : decode cc pc = .ok (.bastore, 1)) (hn : pc + 1 = nx) (k : am_Z F nx st loc (am_st m z i x) n) : am_Z F pc ((0, x) :: (0, i) :: (2, z) :: st) loc m n := by
  subst hn
  obtain ⟨p, l, e, R, s, mm, args, below, meth, c, Q, E, n0, cnt, d⟩ := F
  obtain ⟨hx, hb, hown, hts, hK, hX, hsz, hc1, hc2, hc3, hc4⟩ := G
  intro h1 h2 h3 h4 hn0 H ls locs h5 h6 h8
  have ri := (am_hd (am_tl h1)).1 rfl
  have rx := am_hd h1
  have hg := am_get_i (by decide) (by decide) (h := ho) (E := E) (m := m)
  have hR : am_Rng (am_st m z i x) n := am_RngZ h3 ho.1 h0 (by rw [am_shape ho.2.2.1 ho.2.2.2, am_ctA (by decide)]; exact rx)
  have hs : (am_ws E m n).set z.toNat (E.1 + z.toNat, .inl (E.2.2.2.2 22, (len.toNat, .inl (upd (fun j : Nat => Int32.ofInt (m z j)) (Int32.ofInt i).toNatClampNeg (Int32.ofInt x))))) = am_ws E (am_st m z i x) n := am_setZ ho.1 ho.2.1 (by rw [am_shape ho.2.2.1 ho.2.2.2, am_ent_i (by decide) (by decide), am_updI h0 ri])
  rw [List.map_cons, List.map_cons, List.map_cons, am_rv2 ho.1]
  refine va_zast hx hb hK h6 am_ws_D h8 _ 2 hg rfl (am_in ri h0 (by omega)) hd (fun H1 locs1 g1 _ g3 => ?_)
  rw [am_nar1 hv] at g1
  exact k (am_tl (am_tl (am_tl h1))) h2 hR h4 hn0 H1 ls locs1 h5 (hs ▸ g1) g3
theorem z_last (G : am_G F cc own) {z i x len : Int} (ho : am_isA n z 23 len) (h0 : 0 ≤ i) (hl : i < len) (hd : decode cc pc = .ok (.lastore, 1)) (hn : pc + 1 = nx) (k : am_Z F nx st loc (am_st m z i x) n) : am_Z F pc ((1, x) :: (0, i) :: (2, z) :: st) loc m n := by
  subst hn
  obtain ⟨p, l, e, R, s, mm, args, below, meth, c, Q, E, n0, cnt, d⟩ := F
  obtain ⟨hx, hb, hown, hts, hK, hX, hsz, hc1, hc2, hc3, hc4⟩ := G
  intro h1 h2 h3 h4 hn0 H ls locs h5 h6 h8
  have ri := (am_hd (am_tl h1)).1 rfl
  have rx := am_hd h1
  have hg := am_get_l (h := ho) (E := E) (m := m)
  have hR : am_Rng (am_st m z i x) n := am_RngZ h3 ho.1 h0 (by rw [am_shape ho.2.2.1 ho.2.2.2, am_ctA (by decide)]; exact rx)
  have hs : (am_ws E m n).set z.toNat (E.1 + z.toNat, .inl (E.2.2.2.2 23, (len.toNat, .inr (.inl (vp_updL (fun j : Nat => Int64.ofInt (m z j)) (Int32.ofInt i).toNatClampNeg (Int64.ofInt x)))))) = am_ws E (am_st m z i x) n := am_setZ ho.1 ho.2.1 (by rw [am_shape ho.2.2.1 ho.2.2.2, am_ent_l, am_updL h0 ri])
  rw [List.map_cons, List.map_cons, List.map_cons, am_rv2 ho.1]
  refine va_last hx hb hK h6 am_ws_D h8 _ 3 hg rfl (am_in ri h0 (by omega)) hd (fun H1 locs1 g1 _ g3 => ?_)
  exact k (am_tl (am_tl (am_tl h1))) h2 hR h4 hn0 H1 ls locs1 h5 (hs ▸ g1) g3
theorem z_aast (G : am_G F cc own) {z i x len : Int} {kd ci : Nat} (hkd : (kd = 24 ∧ ci = 0) ∨ (kd = 25 ∧ ci = 4)) (ho : am_isA n z kd len) (hv : am_is n x ci) (h0 : 0 ≤ i) (hl : i < len) (hd : decode cc pc = .ok (.aastore, 1)) (hn : pc + 1 = nx) (k : am_Z F nx st loc (am_st m z i x) n) : am_Z F pc ((2, x) :: (0, i) :: (2, z) :: st) loc m n := by
  subst hn
  obtain ⟨p, l, e, R, s, mm, args, below, meth, c, Q, E, n0, cnt, d⟩ := F
  obtain ⟨hx, hb, hown, hts, hK, hX, hsz, hc1, hc2, hc3, hc4⟩ := G
  intro h1 h2 h3 h4 hn0 H ls locs h5 h6 h8
  have ri := (am_hd (am_tl h1)).1 rfl
  have hkd2 : 24 ≤ kd := by omega
  have hci : ci < 13 := by omega
  have hg := am_get_a (E := E) (m := m) hkd2 ho
  have hR : am_Rng (am_st m z i x) n := am_RngZ h3 ho.1 h0 (by rw [am_shape ho.2.2.1 ho.2.2.2, am_ctA (by omega), if_neg (by omega), if_neg (by omega)]; exact am_R2 _)
  have hs : (am_ws E m n).set z.toNat (E.1 + z.toNat, .inl (E.2.2.2.2 kd, (len.toNat, .inr (.inr (.inr (.inr (va_up (fun j : Nat => am_rf E.1 (m z j)) (Int32.ofInt i).toNatClampNeg (some (E.1 + x.toNat))))))))) = am_ws E (am_st m z i x) n := am_setZ ho.1 ho.2.1 (by rw [am_shape ho.2.2.1 ho.2.2.2, am_ent_a hkd2, am_updA h0 ri hv.1])
  rw [List.map_cons, List.map_cons, List.map_cons, am_rv2 ho.1, am_rv2 hv.1]
  rcases hkd with ⟨rfl, rfl⟩ | ⟨rfl, rfl⟩
  · exact va_astq hx hb hK h6 am_ws_D h8 _ 4 _ 0 hg rfl (am_get_o (E := E) (m := m) hci hv) (am_cl 0 hci) (am_in ri h0 (by omega)) hd (fun H1 locs1 g1 _ g3 => k (am_tl (am_tl (am_tl h1))) h2 hR h4 hn0 H1 ls locs1 h5 (hs ▸ g1) g3)
  · exact va_astq hx hb hK h6 am_ws_D h8 _ 5 _ 4 hg rfl (am_get_o (E := E) (m := m) hci hv) (am_cl 4 hci) (am_in ri h0 (by omega)) hd (fun H1 locs1 g1 _ g3 => k (am_tl (am_tl (am_tl h1))) h2 hR h4 hn0 H1 ls locs1 h5 (hs ▸ g1) g3)
theorem z_alen (G : am_G F cc own) {z len : Int} {kd : Nat} (hk : 20 ≤ kd) (hk2 : kd ≤ 25) (ho : am_isA n z kd len) (hr : R32 len) (hd : decode cc pc = .ok (.arraylength, 1)) (hn : pc + 1 = nx) (k : am_Z F nx ((0, len) :: st) loc m n) : am_Z F pc ((2, z) :: st) loc m n := by
  subst hn
  obtain ⟨p, l, e, R, s, mm, args, below, meth, c, Q, E, n0, cnt, d⟩ := F
  obtain ⟨hx, hb, hown, hts, hK, hX, hsz, hc1, hc2, hc3, hc4⟩ := G
  intro h1 h2 h3 h4 h0 H ls locs h5 h6 h8
  have hkk := k (am_mk (am_R0 hr) (am_tl h1)) h2 h3 h4 h0 H ls locs h5 h6 h8
  rw [List.map_cons, am_rv2 ho.1]
  have hlen : 0 ≤ len := by rw [ho.2.2.2]; exact Int.natCast_nonneg _
  have ev : Int32.ofNat len.toNat = Int32.ofInt len := by
    show Int32.ofInt (len.toNat : Int) = _
    rw [am_toNat hlen]
  rcases (show kd = 20 ∨ kd = 21 ∨ kd = 22 ∨ kd = 23 ∨ kd = 24 ∨ kd = 25 by omega) with rfl | rfl | rfl | rfl | rfl | rfl
  · exact va_alen hx hb hK h6 _ 0 (am_get_i (E := E) (m := m) (by decide) (by decide) ho) rfl ev hd hkk
  · exact va_alen hx hb hK h6 _ 1 (am_get_i (E := E) (m := m) (by decide) (by decide) ho) rfl ev hd hkk
  · exact va_alen hx hb hK h6 _ 2 (am_get_i (E := E) (m := m) (by decide) (by decide) ho) rfl ev hd hkk
  · exact va_alen hx hb hK h6 _ 3 (am_get_l (E := E) (m := m) ho) rfl ev hd hkk
  · exact va_alen hx hb hK h6 _ 4 (am_get_a (E := E) (m := m) (by decide) ho) rfl ev hd hkk
  · exact va_alen hx hb hK h6 _ 5 (am_get_a (E := E) (m := m) (by decide) ho) rfl ev hd hkk
end AMH
