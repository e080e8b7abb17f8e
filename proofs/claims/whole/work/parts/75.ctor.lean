/-! THE CONSTRUCTORS: forms in which the number of objects grows, and that the machine does what they say. -/
theorem am_is_mono {a b : Nat} {z : Int} {ci : Nat} (h : am_is a z ci) (hab : a ≤ b) : am_is b z ci := ⟨h.1, Nat.lt_of_lt_of_le h.2.1 hab, h.2.2⟩
theorem am_is_new {n ci : Nat} (h : am_sh n = (ci, am_N ci)) : am_is (n + 1) (n : Int) ci := ⟨Int.natCast_nonneg n, by rw [Int.toNat_natCast]; exact Nat.lt_succ_self n, by rw [Int.toNat_natCast]; exact h⟩
theorem am_isA_mono {a b : Nat} {z l : Int} {kd : Nat} (h : am_isA a z kd l) (hab : a ≤ b) : am_isA b z kd l := ⟨h.1, Nat.lt_of_lt_of_le h.2.1 hab, h.2.2⟩
theorem am_isA_new {n kd : Nat} {l : Int} (h0 : 0 ≤ l) (h : am_sh n = (kd, l.toNat)) : am_isA (n + 1) (n : Int) kd l := ⟨Int.natCast_nonneg n, by rw [Int.toNat_natCast]; exact Nat.lt_succ_self n, by rw [Int.toNat_natCast, h], by rw [Int.toNat_natCast, h]; exact (am_toNat h0).symm⟩
section AMCT
variable {F : am_F} {cc : ByteArray} {own : String} {pc nx : Nat} {st loc : List am_V} {m : am_M} {n : Nat}
theorem c_put (G : am_G F cc own) {z x : Int} {t idx ci k0 : Nat} (hw : am_Fld own idx ci k0) (hci : ci < 13) (hk0 : k0 < am_N ci) (hfin : (am_T ci k0).2.2.2 = false) (hfit : am_fitV (am_ty ci k0) (t, x)) (ho : am_is n z ci) (hd : decode cc pc = .ok (.putfield idx, 3)) (hn : pc + 3 = nx) (k : ∀ m1, m1 = am_st m z k0 x → am_Z F nx st loc m1 n) : am_Z F pc ((t, x) :: (2, z) :: st) loc m n := z_putf G hw hci hk0 hfin hfit ho hd hn (k _ rfl)
theorem c_putF (G : am_G F cc own) {z x : Int} {t idx ci k0 : Nat} (hw : am_Fld own idx ci k0) (hci : ci < 13) (hk0 : k0 < am_N ci) (hfin : (am_T ci k0).2.2.2 = true) (hI : am_isInit F) (hC : am_C ci = own) (hw2 : Cond.fieldLink own idx (am_C ci) (am_T ci k0).2.1 (am_T ci k0).2.2.1 ∈ am_TB) (hfit : am_fitV (am_ty ci k0) (t, x)) (ho : am_is n z ci) (hd : decode cc pc = .ok (.putfield idx, 3)) (hn : pc + 3 = nx) (k : ∀ m1, m1 = am_st m z k0 x → am_Z F nx st loc m1 n) : am_Z F pc ((t, x) :: (2, z) :: st) loc m n := z_putF G hw hci hk0 hfin hI hC hw2 hfit ho hd hn (k _ rfl)
theorem c_get (G : am_G F cc own) {z : Int} {idx ci k0 t : Nat} (hw : am_Fld own idx ci k0) (hci : ci < 13) (hk0 : k0 < am_N ci) (hft : am_ft ci k0 = t) (ho : am_is n z ci) (hd : decode cc pc = .ok (.getfield idx, 3)) (hn : pc + 3 = nx) (k : am_Z F nx ((t, m z k0) :: st) loc m n) : am_Z F pc ((2, z) :: st) loc m n := z_getf G hw hci hk0 ho hd hn (hft ▸ k)
theorem c_new (G : am_G F cc own) {idx ci : Nat} (hci : ci < 13) (hcl : Cond.classLink own idx (am_C ci) ∈ am_TB) (hinst : Cond.instantiable (am_C ci) (am_N ci) ∈ am_TB) (hini : Cond.initialized (am_C ci) ∈ am_TB) (hsh : am_sh n = (ci, am_N ci)) (hlim : am_lim F (n + 1)) (hd : decode cc pc = .ok (.new idx, 3)) (hn : pc + 3 = nx) (k : ∀ m1, m1 = am_fr m n → am_Z F nx ((2, (n : Int)) :: st) loc m1 (n + 1)) : am_Z F pc st loc m n := z_new G hci hcl hinst hini hsh hlim hd hn (k _ rfl)
theorem c_iast (G : am_G F cc own) {z i x len : Int} (ho : am_isA n z 20 len) (h0 : 0 ≤ i) (hl : i < len) (hd : decode cc pc = .ok (.iastore, 1)) (hn : pc + 1 = nx) (k : ∀ m1, m1 = am_st m z i x → am_Z F nx st loc m1 n) : am_Z F pc ((0, x) :: (0, i) :: (2, z) :: st) loc m n := z_iast G ho h0 hl hd hn (k _ rfl)
theorem c_bast (G : am_G F cc own) {z i x len : Int} (hv : -128 ≤ x ∧ x ≤ 127) (ho : am_isA n z 21 len) (h0 : 0 ≤ i) (hl : i < len) (hd : decode cc pc = .ok (.bastore, 1)) (hn : pc + 1 = nx) (k : ∀ m1, m1 = am_st m z i x → am_Z F nx st loc m1 n) : am_Z F pc ((0, x) :: (0, i) :: (2, z) :: st) loc m n := z_bast G hv ho h0 hl hd hn (k _ rfl)
theorem c_aast (G : am_G F cc own) {z i x len : Int} {kd ci : Nat} (hkd : (kd = 24 ∧ ci = 0) ∨ (kd = 25 ∧ ci = 4)) (ho : am_isA n z kd len) (hv : am_is n x ci) (h0 : 0 ≤ i) (hl : i < len) (hd : decode cc pc = .ok (.aastore, 1)) (hn : pc + 1 = nx) (k : ∀ m1, m1 = am_st m z i x → am_Z F nx st loc m1 n) : am_Z F pc ((2, x) :: (0, i) :: (2, z) :: st) loc m n := z_aast G hkd ho hv h0 hl hd hn (k _ rfl)
theorem c_newi (G : am_G F cc own) {z : Int} (hw : Cond.arrayClass .int ∈ am_TB) (hc : 0 ≤ z ∧ z ≤ 100000 ∧ am_sh n = (20, z.toNat)) (hlim : am_lim F (n + 1)) (hd : decode cc pc = .ok (.newarray .int, 2)) (hn : pc + 2 = nx) (k : ∀ m1, m1 = am_fr m n → am_Z F nx ((2, (n : Int)) :: st) loc m1 (n + 1)) : am_Z F pc ((0, z) :: st) loc m n := z_newi G hw hc.1 hc.2.1 hc.2.2 hlim hd hn (k _ rfl)
theorem c_newb (G : am_G F cc own) {z : Int} (hw : Cond.arrayClass .byte ∈ am_TB) (hc : 0 ≤ z ∧ z ≤ 100000 ∧ am_sh n = (21, z.toNat)) (hlim : am_lim F (n + 1)) (hd : decode cc pc = .ok (.newarray .byte, 2)) (hn : pc + 2 = nx) (k : ∀ m1, m1 = am_fr m n → am_Z F nx ((2, (n : Int)) :: st) loc m1 (n + 1)) : am_Z F pc ((0, z) :: st) loc m n := z_newb G hw hc.1 hc.2.1 hc.2.2 hlim hd hn (k _ rfl)
theorem c_newz (G : am_G F cc own) {z : Int} (hw : Cond.arrayClass .boolean ∈ am_TB) (hc : 0 ≤ z ∧ z ≤ 100000 ∧ am_sh n = (22, z.toNat)) (hlim : am_lim F (n + 1)) (hd : decode cc pc = .ok (.newarray .boolean, 2)) (hn : pc + 2 = nx) (k : ∀ m1, m1 = am_fr m n → am_Z F nx ((2, (n : Int)) :: st) loc m1 (n + 1)) : am_Z F pc ((0, z) :: st) loc m n := z_newz G hw hc.1 hc.2.1 hc.2.2 hlim hd hn (k _ rfl)
theorem c_newl (G : am_G F cc own) {z : Int} (hw : Cond.arrayClass .long ∈ am_TB) (hc : 0 ≤ z ∧ z ≤ 100000 ∧ am_sh n = (23, z.toNat)) (hlim : am_lim F (n + 1)) (hd : decode cc pc = .ok (.newarray .long, 2)) (hn : pc + 2 = nx) (k : ∀ m1, m1 = am_fr m n → am_Z F nx ((2, (n : Int)) :: st) loc m1 (n + 1)) : am_Z F pc ((0, z) :: st) loc m n := z_newl G hw hc.1 hc.2.1 hc.2.2 hlim hd hn (k _ rfl)
theorem c_newB (G : am_G F cc own) {z : Int} {idx : Nat} (hw : Cond.classLink own idx RX0 ∈ am_TB) (hc : 0 ≤ z ∧ z ≤ 100000 ∧ am_sh n = (24, z.toNat)) (hlim : am_lim F (n + 1)) (hd : decode cc pc = .ok (.anewarray idx, 3)) (hn : pc + 3 = nx) (k : ∀ m1, m1 = am_fr m n → am_Z F nx ((2, (n : Int)) :: st) loc m1 (n + 1)) : am_Z F pc ((0, z) :: st) loc m n := z_newB G hw hc.1 hc.2.1 hc.2.2 hlim hd hn (k _ rfl)
theorem c_newP (G : am_G F cc own) {z : Int} {idx : Nat} (hw : Cond.classLink own idx RX4 ∈ am_TB) (hc : 0 ≤ z ∧ z ≤ 100000 ∧ am_sh n = (25, z.toNat)) (hlim : am_lim F (n + 1)) (hd : decode cc pc = .ok (.anewarray idx, 3)) (hn : pc + 3 = nx) (k : ∀ m1, m1 = am_fr m n → am_Z F nx ((2, (n : Int)) :: st) loc m1 (n + 1)) : am_Z F pc ((0, z) :: st) loc m n := z_newP G hw hc.1 hc.2.1 hc.2.2 hlim hd hn (k _ rfl)
end AMCT
theorem fw_RX7_15 : Cond.fieldLink RX7 15 (am_C 7) (am_T 7 1).2.1 (am_T 7 1).2.2.1 ∈ am_TB := am_TB_mem (tb_1 (List.mem_of_getElem? (i := 45) rfl)) rfl
theorem fw_RX7_21 : Cond.fieldLink RX7 21 (am_C 7) (am_T 7 0).2.1 (am_T 7 0).2.2.1 ∈ am_TB := am_TB_mem (tb_1 (List.mem_of_getElem? (i := 44) rfl)) rfl
set_option maxRecDepth 20000 in
def C_X7_init (v0 : Int) (v1 : Int) (v2 : Int) (K : am_M → Prop) (m : am_M) (n : Nat) : Prop :=
  ∀ m_1 : am_M, m_1 = am_st m v0 1 (am_max v2 1) →
  ((0 : Int) ≤ (w32 ((am_max v1 0) * (m_1 v0 1))) ∧ (w32 ((am_max v1 0) * (m_1 v0 1))) ≤ (100000 : Int) ∧ am_sh n = (20, Int.toNat (w32 ((am_max v1 0) * (m_1 v0 1))))) ∧
  ∀ m_3 : am_M, m_3 = am_fr m_1 n →
  ∀ m_4 : am_M, m_4 = am_st m_3 v0 0 ((n : Nat) : Int) →
  K m_4
set_option maxRecDepth 20000 in
def CT_X7_init : am_T3 := fun as post m n => ∃ v0 v1 v2 : Int, as = [(2, v0), (0, v1), (0, v2)] ∧ am_is n v0 7 ∧ C_X7_init v0 v1 v2 (fun m' => post none m' (n + 1)) m n
theorem qp_X7_init : (parseMethodDescriptor yX7_init.desc).map (fun d => d.parameters.length) = some 2 := by decide +kernel
set_option maxRecDepth 20000 in
theorem C_X7_init_mono {v0 v1 v2 : Int} {K K' : am_M → Prop} {m : am_M} {n : Nat} (h : C_X7_init v0 v1 v2 K m n) (hK : ∀ x, K x → K' x) : C_X7_init v0 v1 v2 K' m n := by
  unfold C_X7_init at h ⊢
  intro m_1 e_m_1
  have h := h m_1 e_m_1
  obtain ⟨q_5, h⟩ := h
  refine ⟨q_5, ?_⟩
  intro m_3 e_m_3
  have h := h m_3 e_m_3
  intro m_4 e_m_4
  have h := h m_4 e_m_4
  exact hK _ h
set_option maxRecDepth 20000 in
theorem CC_X7_init {v0 v1 v2 : Int} {K1 : am_M → Prop} {m : am_M} {n : Nat} (hob : am_is n v0 7) (h : C_X7_init v0 v1 v2 K1 m n) : CT_X7_init [(2, v0), (0, v1), (0, v2)] (fun r m' n' => r = none ∧ K1 m') m n := ⟨v0, v1, v2, rfl, hob, C_X7_init_mono h (fun x hx => ⟨rfl, hx⟩)⟩
set_option maxRecDepth 20000 in
set_option maxHeartbeats 4000000 in
theorem SC_X7_init : am_Snd yX7_init cX7_init 3 none 1 0 CT_X7_init := by
  refine am_SndOf (by decide +kernel) ?_ ?_
  · rintro as post m n ⟨v0, v1, v2, rfl, -⟩
    exact Nat.le_of_ble_eq_true rfl
  · rintro F post as m n G hP - hdd hl he hI ⟨v0, v1, v2, rfl, hob, h⟩
    have hI := hI rfl
    have G : am_G F cX7_init RX7 := G
    change am_Z F 0 [] [(2, v0), (0, v1), (0, v2)] m n
    unfold C_X7_init at h
    refine z_aload_n (nx := 1) (a := 0) G rfl (Or.inl rfl) dX7_init_0 rfl ?_
    refine z_objInit (nx := 4) G hob.1 ml_RX7_3 (Nat.le_of_ble_eq_true rfl) dX7_init_1 rfl ?_
    refine z_aload_n (nx := 5) (a := 0) G rfl (Or.inl rfl) dX7_init_4 rfl ?_
    refine z_iload_n (nx := 6) (a := 2) G rfl dX7_init_5 rfl ?_
    refine z_iconst (nx := 7) (z := 1) G (R32c rfl) dX7_init_6 rfl ?_
    refine z_mmax (nx := 10) G ml_RX7_9 (Nat.le_of_ble_eq_true rfl) dX7_init_7 rfl ?_ ((hl _).mpr (by omega))
    change am_Z F 10 ((0, am_max v2 1) :: _) _ _ _
    refine c_putF (nx := 13) (k0 := 1) (t := 0) G fl_RX7_15 (Nat.le_of_ble_eq_true rfl) (Nat.le_of_ble_eq_true rfl) rfl hI rfl fw_RX7_15 rfl (am_is_mono hob (by omega)) dX7_init_10 rfl (fun m_1 e_m_1 => ?_)
    have h := h m_1 e_m_1
    refine z_aload_n (nx := 14) (a := 0) G rfl (Or.inl rfl) dX7_init_13 rfl ?_
    refine z_iload_n (nx := 15) (a := 1) G rfl dX7_init_14 rfl ?_
    refine z_iconst (nx := 16) (z := 0) G (R32c rfl) dX7_init_15 rfl ?_
    refine z_mmax (nx := 19) G ml_RX7_9 (Nat.le_of_ble_eq_true rfl) dX7_init_16 rfl ?_ ((hl _).mpr (by omega))
    change am_Z F 19 ((0, am_max v1 0) :: _) _ _ _
    refine z_aload_n (nx := 20) (a := 0) G rfl (Or.inl rfl) dX7_init_19 rfl ?_
    refine c_get (nx := 23) (k0 := 1) (t := 0) G fl_RX7_15 (Nat.le_of_ble_eq_true rfl) (Nat.le_of_ble_eq_true rfl) rfl (am_is_mono hob (by omega)) dX7_init_20 rfl ?_
    refine z_imul (nx := 24) G dX7_init_23 rfl ?_
    obtain ⟨hs_2, h⟩ := h
    refine c_newi (nx := 26) G aw_int hs_2 ((hl _).mpr (by omega)) dX7_init_24 rfl (fun m_3 e_m_3 => ?_)
    have h := h m_3 e_m_3
    refine c_putF (nx := 29) (k0 := 0) (t := 2) G fl_RX7_21 (Nat.le_of_ble_eq_true rfl) (Nat.le_of_ble_eq_true rfl) rfl hI rfl fw_RX7_21 rfl (am_is_mono hob (by omega)) dX7_init_26 rfl (fun m_4 e_m_4 => ?_)
    have h := h m_4 e_m_4
    have ecur : n + 1 = n + 1 := by omega
    exact z_return G hP ((he _).mpr ecur) dX7_init_29 ⟨ecur, ecur.symm ▸ h⟩
theorem fw_RX9_16 : Cond.fieldLink RX9 16 (am_C 9) (am_T 9 0).2.1 (am_T 9 0).2.2.1 ∈ am_TB := am_TB_mem (tb_1 (List.mem_of_getElem? (i := 73) rfl)) rfl
set_option maxRecDepth 20000 in
def C_X9_init (v0 : Int) (K : am_M → Prop) (m : am_M) (n : Nat) : Prop :=
  am_sh n = (7, am_N 7) ∧
  ∀ m_2 : am_M, m_2 = am_fr m n →
  C_X7_init ((n : Nat) : Int) 24 7 (fun m_3 =>
  ∀ m_5 : am_M, m_5 = am_st m_3 v0 0 ((n : Nat) : Int) →
  K m_5) m_2 (n + 1)
set_option maxRecDepth 20000 in
def CT_X9_init : am_T3 := fun as post m n => ∃ v0 : Int, as = [(2, v0)] ∧ am_is n v0 9 ∧ C_X9_init v0 (fun m' => post none m' (n + 2)) m n
theorem qp_X9_init : (parseMethodDescriptor yX9_init.desc).map (fun d => d.parameters.length) = some 0 := by decide +kernel
set_option maxRecDepth 20000 in
theorem C_X9_init_mono {v0 : Int} {K K' : am_M → Prop} {m : am_M} {n : Nat} (h : C_X9_init v0 K m n) (hK : ∀ x, K x → K' x) : C_X9_init v0 K' m n := by
  unfold C_X9_init at h ⊢
  obtain ⟨q_6, h⟩ := h
  refine ⟨q_6, ?_⟩
  intro m_2 e_m_2
  have h := h m_2 e_m_2
  refine C_X7_init_mono h (fun m_3 h => ?_)
  intro m_5 e_m_5
  have h := h m_5 e_m_5
  exact hK _ h
set_option maxRecDepth 20000 in
theorem CC_X9_init {v0 : Int} {K1 : am_M → Prop} {m : am_M} {n : Nat} (hob : am_is n v0 9) (h : C_X9_init v0 K1 m n) : CT_X9_init [(2, v0)] (fun r m' n' => r = none ∧ K1 m') m n := ⟨v0, rfl, hob, C_X9_init_mono h (fun x hx => ⟨rfl, hx⟩)⟩
set_option maxRecDepth 20000 in
set_option maxHeartbeats 4000000 in
theorem SC_X9_init : am_Snd yX9_init cX9_init 1 none 2 1 CT_X9_init := by
  refine am_SndOf (by decide +kernel) ?_ ?_
  · rintro as post m n ⟨v0, rfl, -⟩
    exact Nat.le_of_ble_eq_true rfl
  · rintro F post as m n G hP - hdd hl he hI ⟨v0, rfl, hob, h⟩
    have hI := hI rfl
    have G : am_G F cX9_init RX9 := G
    change am_Z F 0 [] [(2, v0)] m n
    unfold C_X9_init at h
    refine z_aload_n (nx := 1) (a := 0) G rfl (Or.inl rfl) dX9_init_0 rfl ?_
    refine z_objInit (nx := 4) G hob.1 ml_RX9_3 (Nat.le_of_ble_eq_true rfl) dX9_init_1 rfl ?_
    refine z_aload_n (nx := 5) (a := 0) G rfl (Or.inl rfl) dX9_init_4 rfl ?_
    obtain ⟨hs_1, h⟩ := h
    refine c_new (nx := 8) (ci := 7) G (Nat.le_of_ble_eq_true rfl) xw_RX9_9 tw_RX7 nw_RX7 hs_1 ((hl _).mpr (by omega)) dX9_init_5 rfl (fun m_2 e_m_2 => ?_)
    have h := h m_2 e_m_2
    refine z_dup (nx := 9) G (fun h => nomatch h) dX9_init_8 rfl ?_
    refine z_bipush (nx := 11) (z := 24) G (R32c rfl) rfl dX9_init_9 rfl ?_
    refine z_bipush (nx := 13) (z := 7) G (R32c rfl) rfl dX9_init_11 rfl ?_
    refine z_callI (nx := 16) (as := [(0, 24), (0, 7)]) G ((am_is_new hs_1)).1 SC_X7_init (by rw [hdd]; exact Nat.le_of_ble_eq_true rfl) (Nat.le_of_ble_eq_true rfl) ((hl _).mpr (by omega)) ml_RX9_13 iw_X7_init rfl rfl (am_plainC 7 (by decide)) cw_X7_init nw_RX7 qp_X7_init (Nat.le_of_ble_eq_true rfl) dX9_init_13 rfl (CC_X7_init (am_is_mono (am_is_new hs_1) (by omega)) h) ?_
    rintro r m_3 ⟨rfl, h⟩
    refine c_putF (nx := 19) (k0 := 0) (t := 2) G fl_RX9_16 (Nat.le_of_ble_eq_true rfl) (Nat.le_of_ble_eq_true rfl) rfl hI rfl fw_RX9_16 rfl (am_is_mono hob (by omega)) dX9_init_16 rfl (fun m_5 e_m_5 => ?_)
    have h := h m_5 e_m_5
    have ecur : n + 1 + 1 = n + 2 := by omega
    exact z_return G hP ((he _).mpr ecur) dX9_init_19 ⟨ecur, ecur.symm ▸ h⟩
theorem fw_RX4_9 : Cond.fieldLink RX4 9 (am_C 4) (am_T 4 0).2.1 (am_T 4 0).2.2.1 ∈ am_TB := am_TB_mem (tb_1 (List.mem_of_getElem? (i := 96) rfl)) rfl
theorem fw_RX4_20 : Cond.fieldLink RX4 20 (am_C 4) (am_T 4 2).2.1 (am_T 4 2).2.2.1 ∈ am_TB := am_TB_mem (tb_1 (List.mem_of_getElem? (i := 101) rfl)) rfl
set_option maxRecDepth 20000 in
def C_X4_init (v0 : Int) (K : am_M → Prop) (m : am_M) (n : Nat) : Prop :=
  ((0 : Int) ≤ 400 ∧ 400 ≤ (100000 : Int) ∧ am_sh n = (20, Int.toNat 400)) ∧
  ∀ m_2 : am_M, m_2 = am_fr m n →
  ∀ m_3 : am_M, m_3 = am_st m_2 v0 0 ((n : Nat) : Int) →
  am_sh (n + 1) = (7, am_N 7) ∧
  ∀ m_5 : am_M, m_5 = am_fr m_3 (n + 1) →
  C_X7_init ((n + 1 : Nat) : Int) 12 7 (fun m_6 =>
  ∀ m_8 : am_M, m_8 = am_st m_6 v0 2 ((n + 1 : Nat) : Int) →
  K m_8) m_5 (n + 1 + 1)
set_option maxRecDepth 20000 in
def CT_X4_init : am_T3 := fun as post m n => ∃ v0 : Int, as = [(2, v0)] ∧ am_is n v0 4 ∧ C_X4_init v0 (fun m' => post none m' (n + 3)) m n
theorem qp_X4_init : (parseMethodDescriptor yX4_init.desc).map (fun d => d.parameters.length) = some 0 := by decide +kernel
set_option maxRecDepth 20000 in
theorem C_X4_init_mono {v0 : Int} {K K' : am_M → Prop} {m : am_M} {n : Nat} (h : C_X4_init v0 K m n) (hK : ∀ x, K x → K' x) : C_X4_init v0 K' m n := by
  unfold C_X4_init at h ⊢
  obtain ⟨q_9, h⟩ := h
  refine ⟨q_9, ?_⟩
  intro m_2 e_m_2
  have h := h m_2 e_m_2
  intro m_3 e_m_3
  have h := h m_3 e_m_3
  obtain ⟨q_10, h⟩ := h
  refine ⟨q_10, ?_⟩
  intro m_5 e_m_5
  have h := h m_5 e_m_5
  refine C_X7_init_mono h (fun m_6 h => ?_)
  intro m_8 e_m_8
  have h := h m_8 e_m_8
  exact hK _ h
set_option maxRecDepth 20000 in
theorem CC_X4_init {v0 : Int} {K1 : am_M → Prop} {m : am_M} {n : Nat} (hob : am_is n v0 4) (h : C_X4_init v0 K1 m n) : CT_X4_init [(2, v0)] (fun r m' n' => r = none ∧ K1 m') m n := ⟨v0, rfl, hob, C_X4_init_mono h (fun x hx => ⟨rfl, hx⟩)⟩
set_option maxRecDepth 20000 in
set_option maxHeartbeats 4000000 in
theorem SC_X4_init : am_Snd yX4_init cX4_init 1 none 3 1 CT_X4_init := by
  refine am_SndOf (by decide +kernel) ?_ ?_
  · rintro as post m n ⟨v0, rfl, -⟩
    exact Nat.le_of_ble_eq_true rfl
  · rintro F post as m n G hP - hdd hl he hI ⟨v0, rfl, hob, h⟩
    have hI := hI rfl
    have G : am_G F cX4_init RX4 := G
    change am_Z F 0 [] [(2, v0)] m n
    unfold C_X4_init at h
    refine z_aload_n (nx := 1) (a := 0) G rfl (Or.inl rfl) dX4_init_0 rfl ?_
    refine z_objInit (nx := 4) G hob.1 ml_RX4_3 (Nat.le_of_ble_eq_true rfl) dX4_init_1 rfl ?_
    refine z_aload_n (nx := 5) (a := 0) G rfl (Or.inl rfl) dX4_init_4 rfl ?_
    refine z_sipush (nx := 8) (z := 400) G (R32c rfl) rfl dX4_init_5 rfl ?_
    obtain ⟨hs_1, h⟩ := h
    refine c_newi (nx := 10) G aw_int hs_1 ((hl _).mpr (by omega)) dX4_init_8 rfl (fun m_2 e_m_2 => ?_)
    have h := h m_2 e_m_2
    refine c_putF (nx := 13) (k0 := 0) (t := 2) G fl_RX4_9 (Nat.le_of_ble_eq_true rfl) (Nat.le_of_ble_eq_true rfl) rfl hI rfl fw_RX4_9 rfl (am_is_mono hob (by omega)) dX4_init_10 rfl (fun m_3 e_m_3 => ?_)
    have h := h m_3 e_m_3
    refine z_aload_n (nx := 14) (a := 0) G rfl (Or.inl rfl) dX4_init_13 rfl ?_
    obtain ⟨hs_4, h⟩ := h
    refine c_new (nx := 17) (ci := 7) G (Nat.le_of_ble_eq_true rfl) xw_RX4_15 tw_RX7 nw_RX7 hs_4 ((hl _).mpr (by omega)) dX4_init_14 rfl (fun m_5 e_m_5 => ?_)
    have h := h m_5 e_m_5
    refine z_dup (nx := 18) G (fun h => nomatch h) dX4_init_17 rfl ?_
    refine z_bipush (nx := 20) (z := 12) G (R32c rfl) rfl dX4_init_18 rfl ?_
    refine z_bipush (nx := 22) (z := 7) G (R32c rfl) rfl dX4_init_20 rfl ?_
    refine z_callI (nx := 25) (as := [(0, 12), (0, 7)]) G ((am_is_new hs_4)).1 SC_X7_init (by rw [hdd]; exact Nat.le_of_ble_eq_true rfl) (Nat.le_of_ble_eq_true rfl) ((hl _).mpr (by omega)) ml_RX4_17 iw_X7_init rfl rfl (am_plainC 7 (by decide)) cw_X7_init nw_RX7 qp_X7_init (Nat.le_of_ble_eq_true rfl) dX4_init_22 rfl (CC_X7_init (am_is_mono (am_is_new hs_4) (by omega)) h) ?_
    rintro r m_6 ⟨rfl, h⟩
    refine c_putF (nx := 28) (k0 := 2) (t := 2) G fl_RX4_20 (Nat.le_of_ble_eq_true rfl) (Nat.le_of_ble_eq_true rfl) rfl hI rfl fw_RX4_20 rfl (am_is_mono hob (by omega)) dX4_init_25 rfl (fun m_8 e_m_8 => ?_)
    have h := h m_8 e_m_8
    have ecur : n + 1 + 1 + 1 = n + 3 := by omega
    exact z_return G hP ((he _).mpr ecur) dX4_init_28 ⟨ecur, ecur.symm ▸ h⟩
theorem fw_RX6_9 : Cond.fieldLink RX6 9 (am_C 6) (am_T 6 0).2.1 (am_T 6 0).2.2.1 ∈ am_TB := am_TB_mem (tb_1 (List.mem_of_getElem? (i := 212) rfl)) rfl
set_option maxRecDepth 20000 in
def C_X6_init (v0 : Int) (K : am_M → Prop) (m : am_M) (n : Nat) : Prop :=
  ((0 : Int) ≤ 64 ∧ 64 ≤ (100000 : Int) ∧ am_sh n = (20, Int.toNat 64)) ∧
  ∀ m_2 : am_M, m_2 = am_fr m n →
  ∀ m_3 : am_M, m_3 = am_st m_2 v0 0 ((n : Nat) : Int) →
  K m_3
set_option maxRecDepth 20000 in
def CT_X6_init : am_T3 := fun as post m n => ∃ v0 : Int, as = [(2, v0)] ∧ am_is n v0 6 ∧ C_X6_init v0 (fun m' => post none m' (n + 1)) m n
theorem qp_X6_init : (parseMethodDescriptor yX6_init.desc).map (fun d => d.parameters.length) = some 0 := by decide +kernel
set_option maxRecDepth 20000 in
theorem C_X6_init_mono {v0 : Int} {K K' : am_M → Prop} {m : am_M} {n : Nat} (h : C_X6_init v0 K m n) (hK : ∀ x, K x → K' x) : C_X6_init v0 K' m n := by
  unfold C_X6_init at h ⊢
  obtain ⟨q_4, h⟩ := h
  refine ⟨q_4, ?_⟩
  intro m_2 e_m_2
  have h := h m_2 e_m_2
  intro m_3 e_m_3
  have h := h m_3 e_m_3
  exact hK _ h
set_option maxRecDepth 20000 in
theorem CC_X6_init {v0 : Int} {K1 : am_M → Prop} {m : am_M} {n : Nat} (hob : am_is n v0 6) (h : C_X6_init v0 K1 m n) : CT_X6_init [(2, v0)] (fun r m' n' => r = none ∧ K1 m') m n := ⟨v0, rfl, hob, C_X6_init_mono h (fun x hx => ⟨rfl, hx⟩)⟩
set_option maxRecDepth 20000 in
set_option maxHeartbeats 4000000 in
theorem SC_X6_init : am_Snd yX6_init cX6_init 1 none 1 0 CT_X6_init := by
  refine am_SndOf (by decide +kernel) ?_ ?_
  · rintro as post m n ⟨v0, rfl, -⟩
    exact Nat.le_of_ble_eq_true rfl
  · rintro F post as m n G hP - hdd hl he hI ⟨v0, rfl, hob, h⟩
    have hI := hI rfl
    have G : am_G F cX6_init RX6 := G
    change am_Z F 0 [] [(2, v0)] m n
    unfold C_X6_init at h
    refine z_aload_n (nx := 1) (a := 0) G rfl (Or.inl rfl) dX6_init_0 rfl ?_
    refine z_objInit (nx := 4) G hob.1 ml_RX6_3 (Nat.le_of_ble_eq_true rfl) dX6_init_1 rfl ?_
    refine z_aload_n (nx := 5) (a := 0) G rfl (Or.inl rfl) dX6_init_4 rfl ?_
    refine z_bipush (nx := 7) (z := 64) G (R32c rfl) rfl dX6_init_5 rfl ?_
    obtain ⟨hs_1, h⟩ := h
    refine c_newi (nx := 9) G aw_int hs_1 ((hl _).mpr (by omega)) dX6_init_7 rfl (fun m_2 e_m_2 => ?_)
    have h := h m_2 e_m_2
    refine c_putF (nx := 12) (k0 := 0) (t := 2) G fl_RX6_9 (Nat.le_of_ble_eq_true rfl) (Nat.le_of_ble_eq_true rfl) rfl hI rfl fw_RX6_9 rfl (am_is_mono hob (by omega)) dX6_init_9 rfl (fun m_3 e_m_3 => ?_)
    have h := h m_3 e_m_3
    have ecur : n + 1 = n + 1 := by omega
    exact z_return G hP ((he _).mpr ecur) dX6_init_12 ⟨ecur, ecur.symm ▸ h⟩
theorem fw_RX3_9 : Cond.fieldLink RX3 9 (am_C 3) (am_T 3 0).2.1 (am_T 3 0).2.2.1 ∈ am_TB := am_TB_mem (tb_1 (List.mem_of_getElem? (i := 216) rfl)) rfl
theorem fw_RX3_18 : Cond.fieldLink RX3 18 (am_C 3) (am_T 3 1).2.1 (am_T 3 1).2.2.1 ∈ am_TB := am_TB_mem (tb_1 (List.mem_of_getElem? (i := 217) rfl)) rfl
set_option maxRecDepth 20000 in
def C_X3_init (v0 : Int) (K : am_M → Prop) (m : am_M) (n : Nat) : Prop :=
  ((0 : Int) ≤ 8 ∧ 8 ≤ (100000 : Int) ∧ am_sh n = (20, Int.toNat 8)) ∧
  ∀ m_2 : am_M, m_2 = am_fr m n →
  ∀ m_3 : am_M, m_3 = am_st m_2 v0 0 ((n : Nat) : Int) →
  am_sh (n + 1) = (6, am_N 6) ∧
  ∀ m_5 : am_M, m_5 = am_fr m_3 (n + 1) →
  C_X6_init ((n + 1 : Nat) : Int) (fun m_6 =>
  ∀ m_8 : am_M, m_8 = am_st m_6 v0 1 ((n + 1 : Nat) : Int) →
  K m_8) m_5 (n + 1 + 1)
set_option maxRecDepth 20000 in
def CT_X3_init : am_T3 := fun as post m n => ∃ v0 : Int, as = [(2, v0)] ∧ am_is n v0 3 ∧ C_X3_init v0 (fun m' => post none m' (n + 3)) m n
theorem qp_X3_init : (parseMethodDescriptor yX3_init.desc).map (fun d => d.parameters.length) = some 0 := by decide +kernel
set_option maxRecDepth 20000 in
theorem C_X3_init_mono {v0 : Int} {K K' : am_M → Prop} {m : am_M} {n : Nat} (h : C_X3_init v0 K m n) (hK : ∀ x, K x → K' x) : C_X3_init v0 K' m n := by
  unfold C_X3_init at h ⊢
  obtain ⟨q_9, h⟩ := h
  refine ⟨q_9, ?_⟩
  intro m_2 e_m_2
  have h := h m_2 e_m_2
  intro m_3 e_m_3
  have h := h m_3 e_m_3
  obtain ⟨q_10, h⟩ := h
  refine ⟨q_10, ?_⟩
  intro m_5 e_m_5
  have h := h m_5 e_m_5
  refine C_X6_init_mono h (fun m_6 h => ?_)
  intro m_8 e_m_8
  have h := h m_8 e_m_8
  exact hK _ h
set_option maxRecDepth 20000 in
theorem CC_X3_init {v0 : Int} {K1 : am_M → Prop} {m : am_M} {n : Nat} (hob : am_is n v0 3) (h : C_X3_init v0 K1 m n) : CT_X3_init [(2, v0)] (fun r m' n' => r = none ∧ K1 m') m n := ⟨v0, rfl, hob, C_X3_init_mono h (fun x hx => ⟨rfl, hx⟩)⟩
set_option maxRecDepth 20000 in
set_option maxHeartbeats 4000000 in
theorem SC_X3_init : am_Snd yX3_init cX3_init 1 none 3 1 CT_X3_init := by
  refine am_SndOf (by decide +kernel) ?_ ?_
  · rintro as post m n ⟨v0, rfl, -⟩
    exact Nat.le_of_ble_eq_true rfl
  · rintro F post as m n G hP - hdd hl he hI ⟨v0, rfl, hob, h⟩
    have hI := hI rfl
    have G : am_G F cX3_init RX3 := G
    change am_Z F 0 [] [(2, v0)] m n
    unfold C_X3_init at h
    refine z_aload_n (nx := 1) (a := 0) G rfl (Or.inl rfl) dX3_init_0 rfl ?_
    refine z_objInit (nx := 4) G hob.1 ml_RX3_3 (Nat.le_of_ble_eq_true rfl) dX3_init_1 rfl ?_
    refine z_aload_n (nx := 5) (a := 0) G rfl (Or.inl rfl) dX3_init_4 rfl ?_
    refine z_bipush (nx := 7) (z := 8) G (R32c rfl) rfl dX3_init_5 rfl ?_
    obtain ⟨hs_1, h⟩ := h
    refine c_newi (nx := 9) G aw_int hs_1 ((hl _).mpr (by omega)) dX3_init_7 rfl (fun m_2 e_m_2 => ?_)
    have h := h m_2 e_m_2
    refine c_putF (nx := 12) (k0 := 0) (t := 2) G fl_RX3_9 (Nat.le_of_ble_eq_true rfl) (Nat.le_of_ble_eq_true rfl) rfl hI rfl fw_RX3_9 rfl (am_is_mono hob (by omega)) dX3_init_9 rfl (fun m_3 e_m_3 => ?_)
    have h := h m_3 e_m_3
    refine z_aload_n (nx := 13) (a := 0) G rfl (Or.inl rfl) dX3_init_12 rfl ?_
    obtain ⟨hs_4, h⟩ := h
    refine c_new (nx := 16) (ci := 6) G (Nat.le_of_ble_eq_true rfl) xw_RX3_15 tw_RX6 nw_RX6 hs_4 ((hl _).mpr (by omega)) dX3_init_13 rfl (fun m_5 e_m_5 => ?_)
    have h := h m_5 e_m_5
    refine z_dup (nx := 17) G (fun h => nomatch h) dX3_init_16 rfl ?_
    refine z_callIN (nx := 20) (as := []) G ((am_is_new hs_4)).1 SC_X6_init (by rw [hdd]; exact Nat.le_of_ble_eq_true rfl) (Nat.le_of_ble_eq_true rfl) ((hl _).mpr (by omega)) mn_RX3_17 iw_X6_init rfl rfl (am_plainC 6 (by decide)) cw_X6_init nw_RX6 qp_X6_init (Nat.le_of_ble_eq_true rfl) dX3_init_17 rfl (CC_X6_init (am_is_mono (am_is_new hs_4) (by omega)) h) ?_
    rintro r m_6 ⟨rfl, h⟩
    refine c_putF (nx := 23) (k0 := 1) (t := 2) G fl_RX3_18 (Nat.le_of_ble_eq_true rfl) (Nat.le_of_ble_eq_true rfl) rfl hI rfl fw_RX3_18 rfl (am_is_mono hob (by omega)) dX3_init_20 rfl (fun m_8 e_m_8 => ?_)
    have h := h m_8 e_m_8
    have ecur : n + 1 + 1 + 1 = n + 3 := by omega
    exact z_return G hP ((he _).mpr ecur) dX3_init_23 ⟨ecur, ecur.symm ▸ h⟩
theorem fw_RX10_9 : Cond.fieldLink RX10 9 (am_C 10) (am_T 10 0).2.1 (am_T 10 0).2.2.1 ∈ am_TB := am_TB_mem (tb_2 (List.mem_of_getElem? (i := 13) rfl)) rfl
theorem fw_RX10_15 : Cond.fieldLink RX10 15 (am_C 10) (am_T 10 1).2.1 (am_T 10 1).2.2.1 ∈ am_TB := am_TB_mem (tb_2 (List.mem_of_getElem? (i := 14) rfl)) rfl
theorem fw_RX10_19 : Cond.fieldLink RX10 19 (am_C 10) (am_T 10 2).2.1 (am_T 10 2).2.2.1 ∈ am_TB := am_TB_mem (tb_2 (List.mem_of_getElem? (i := 15) rfl)) rfl
set_option maxRecDepth 20000 in
def C_X10_init (v0 : Int) (K : am_M → Prop) (m : am_M) (n : Nat) : Prop :=
  ((0 : Int) ≤ 8 ∧ 8 ≤ (100000 : Int) ∧ am_sh n = (23, Int.toNat 8)) ∧
  ∀ m_2 : am_M, m_2 = am_fr m n →
  ∀ m_3 : am_M, m_3 = am_st m_2 v0 0 ((n : Nat) : Int) →
  ((0 : Int) ≤ 8 ∧ 8 ≤ (100000 : Int) ∧ am_sh (n + 1) = (20, Int.toNat 8)) ∧
  ∀ m_5 : am_M, m_5 = am_fr m_3 (n + 1) →
  ∀ m_6 : am_M, m_6 = am_st m_5 v0 1 ((n + 1 : Nat) : Int) →
  ((0 : Int) ≤ 8 ∧ 8 ≤ (100000 : Int) ∧ am_sh (n + 1 + 1) = (20, Int.toNat 8)) ∧
  ∀ m_8 : am_M, m_8 = am_fr m_6 (n + 1 + 1) →
  ∀ m_9 : am_M, m_9 = am_st m_8 v0 2 ((n + 1 + 1 : Nat) : Int) →
  K m_9
set_option maxRecDepth 20000 in
def CT_X10_init : am_T3 := fun as post m n => ∃ v0 : Int, as = [(2, v0)] ∧ am_is n v0 10 ∧ C_X10_init v0 (fun m' => post none m' (n + 3)) m n
theorem qp_X10_init : (parseMethodDescriptor yX10_init.desc).map (fun d => d.parameters.length) = some 0 := by decide +kernel
set_option maxRecDepth 20000 in
theorem C_X10_init_mono {v0 : Int} {K K' : am_M → Prop} {m : am_M} {n : Nat} (h : C_X10_init v0 K m n) (hK : ∀ x, K x → K' x) : C_X10_init v0 K' m n := by
  unfold C_X10_init at h ⊢
  obtain ⟨q_10, h⟩ := h
  refine ⟨q_10, ?_⟩
  intro m_2 e_m_2
  have h := h m_2 e_m_2
  intro m_3 e_m_3
  have h := h m_3 e_m_3
  obtain ⟨q_11, h⟩ := h
  refine ⟨q_11, ?_⟩
  intro m_5 e_m_5
  have h := h m_5 e_m_5
  intro m_6 e_m_6
  have h := h m_6 e_m_6
  obtain ⟨q_12, h⟩ := h
  refine ⟨q_12, ?_⟩
  intro m_8 e_m_8
  have h := h m_8 e_m_8
  intro m_9 e_m_9
  have h := h m_9 e_m_9
  exact hK _ h
set_option maxRecDepth 20000 in
theorem CC_X10_init {v0 : Int} {K1 : am_M → Prop} {m : am_M} {n : Nat} (hob : am_is n v0 10) (h : C_X10_init v0 K1 m n) : CT_X10_init [(2, v0)] (fun r m' n' => r = none ∧ K1 m') m n := ⟨v0, rfl, hob, C_X10_init_mono h (fun x hx => ⟨rfl, hx⟩)⟩
set_option maxRecDepth 20000 in
set_option maxHeartbeats 4000000 in
theorem SC_X10_init : am_Snd yX10_init cX10_init 1 none 3 0 CT_X10_init := by
  refine am_SndOf (by decide +kernel) ?_ ?_
  · rintro as post m n ⟨v0, rfl, -⟩
    exact Nat.le_of_ble_eq_true rfl
  · rintro F post as m n G hP - hdd hl he hI ⟨v0, rfl, hob, h⟩
    have hI := hI rfl
    have G : am_G F cX10_init RX10 := G
    change am_Z F 0 [] [(2, v0)] m n
    unfold C_X10_init at h
    refine z_aload_n (nx := 1) (a := 0) G rfl (Or.inl rfl) dX10_init_0 rfl ?_
    refine z_objInit (nx := 4) G hob.1 ml_RX10_3 (Nat.le_of_ble_eq_true rfl) dX10_init_1 rfl ?_
    refine z_aload_n (nx := 5) (a := 0) G rfl (Or.inl rfl) dX10_init_4 rfl ?_
    refine z_bipush (nx := 7) (z := 8) G (R32c rfl) rfl dX10_init_5 rfl ?_
    obtain ⟨hs_1, h⟩ := h
    refine c_newl (nx := 9) G aw_long hs_1 ((hl _).mpr (by omega)) dX10_init_7 rfl (fun m_2 e_m_2 => ?_)
    have h := h m_2 e_m_2
    refine c_putF (nx := 12) (k0 := 0) (t := 2) G fl_RX10_9 (Nat.le_of_ble_eq_true rfl) (Nat.le_of_ble_eq_true rfl) rfl hI rfl fw_RX10_9 rfl (am_is_mono hob (by omega)) dX10_init_9 rfl (fun m_3 e_m_3 => ?_)
    have h := h m_3 e_m_3
    refine z_aload_n (nx := 13) (a := 0) G rfl (Or.inl rfl) dX10_init_12 rfl ?_
    refine z_bipush (nx := 15) (z := 8) G (R32c rfl) rfl dX10_init_13 rfl ?_
    obtain ⟨hs_4, h⟩ := h
    refine c_newi (nx := 17) G aw_int hs_4 ((hl _).mpr (by omega)) dX10_init_15 rfl (fun m_5 e_m_5 => ?_)
    have h := h m_5 e_m_5
    refine c_putF (nx := 20) (k0 := 1) (t := 2) G fl_RX10_15 (Nat.le_of_ble_eq_true rfl) (Nat.le_of_ble_eq_true rfl) rfl hI rfl fw_RX10_15 rfl (am_is_mono hob (by omega)) dX10_init_17 rfl (fun m_6 e_m_6 => ?_)
    have h := h m_6 e_m_6
    refine z_aload_n (nx := 21) (a := 0) G rfl (Or.inl rfl) dX10_init_20 rfl ?_
    refine z_bipush (nx := 23) (z := 8) G (R32c rfl) rfl dX10_init_21 rfl ?_
    obtain ⟨hs_7, h⟩ := h
    refine c_newi (nx := 25) G aw_int hs_7 ((hl _).mpr (by omega)) dX10_init_23 rfl (fun m_8 e_m_8 => ?_)
    have h := h m_8 e_m_8
    refine c_putF (nx := 28) (k0 := 2) (t := 2) G fl_RX10_19 (Nat.le_of_ble_eq_true rfl) (Nat.le_of_ble_eq_true rfl) rfl hI rfl fw_RX10_19 rfl (am_is_mono hob (by omega)) dX10_init_25 rfl (fun m_9 e_m_9 => ?_)
    have h := h m_9 e_m_9
    have ecur : n + 1 + 1 + 1 = n + 3 := by omega
    exact z_return G hP ((he _).mpr ecur) dX10_init_28 ⟨ecur, ecur.symm ▸ h⟩
theorem fw_RX1_11 : Cond.fieldLink RX1 11 (am_C 1) (am_T 1 0).2.1 (am_T 1 0).2.2.1 ∈ am_TB := am_TB_mem (tb_2 (List.mem_of_getElem? (i := 30) rfl)) rfl
theorem fw_RX1_15 : Cond.fieldLink RX1 15 (am_C 1) (am_T 1 2).2.1 (am_T 1 2).2.2.1 ∈ am_TB := am_TB_mem (tb_2 (List.mem_of_getElem? (i := 32) rfl)) rfl
theorem fw_RX1_18 : Cond.fieldLink RX1 18 (am_C 1) (am_T 1 4).2.1 (am_T 1 4).2.2.1 ∈ am_TB := am_TB_mem (tb_2 (List.mem_of_getElem? (i := 34) rfl)) rfl
theorem fw_RX1_21 : Cond.fieldLink RX1 21 (am_C 1) (am_T 1 5).2.1 (am_T 1 5).2.2.1 ∈ am_TB := am_TB_mem (tb_2 (List.mem_of_getElem? (i := 35) rfl)) rfl
theorem fw_RX1_24 : Cond.fieldLink RX1 24 (am_C 1) (am_T 1 6).2.1 (am_T 1 6).2.2.1 ∈ am_TB := am_TB_mem (tb_2 (List.mem_of_getElem? (i := 36) rfl)) rfl
theorem fw_RX1_27 : Cond.fieldLink RX1 27 (am_C 1) (am_T 1 7).2.1 (am_T 1 7).2.2.1 ∈ am_TB := am_TB_mem (tb_2 (List.mem_of_getElem? (i := 37) rfl)) rfl
set_option maxRecDepth 20000 in
def C_X1_init (v0 : Int) (K : am_M → Prop) (m : am_M) (n : Nat) : Prop :=
  ((0 : Int) ≤ 6 ∧ 6 ≤ (100000 : Int) ∧ am_sh n = (20, Int.toNat 6)) ∧
  ∀ m_2 : am_M, m_2 = am_fr m n →
  ∀ m_3 : am_M, m_3 = am_st m_2 v0 0 ((n : Nat) : Int) →
  ((0 : Int) ≤ 3 ∧ 3 ≤ (100000 : Int) ∧ am_sh (n + 1) = (20, Int.toNat 3)) ∧
  ∀ m_5 : am_M, m_5 = am_fr m_3 (n + 1) →
  ∀ m_6 : am_M, m_6 = am_st m_5 v0 2 ((n + 1 : Nat) : Int) →
  ((0 : Int) ≤ 64 ∧ 64 ≤ (100000 : Int) ∧ am_sh (n + 1 + 1) = (20, Int.toNat 64)) ∧
  ∀ m_8 : am_M, m_8 = am_fr m_6 (n + 1 + 1) →
  ∀ m_9 : am_M, m_9 = am_st m_8 v0 4 ((n + 1 + 1 : Nat) : Int) →
  ((0 : Int) ≤ 64 ∧ 64 ≤ (100000 : Int) ∧ am_sh (n + 1 + 1 + 1) = (20, Int.toNat 64)) ∧
  ∀ m_11 : am_M, m_11 = am_fr m_9 (n + 1 + 1 + 1) →
  ∀ m_12 : am_M, m_12 = am_st m_11 v0 5 ((n + 1 + 1 + 1 : Nat) : Int) →
  ((0 : Int) ≤ 384 ∧ 384 ≤ (100000 : Int) ∧ am_sh (n + 1 + 1 + 1 + 1) = (20, Int.toNat 384)) ∧
  ∀ m_14 : am_M, m_14 = am_fr m_12 (n + 1 + 1 + 1 + 1) →
  ∀ m_15 : am_M, m_15 = am_st m_14 v0 6 ((n + 1 + 1 + 1 + 1 : Nat) : Int) →
  ((0 : Int) ≤ 6 ∧ 6 ≤ (100000 : Int) ∧ am_sh (n + 1 + 1 + 1 + 1 + 1) = (20, Int.toNat 6)) ∧
  ∀ m_17 : am_M, m_17 = am_fr m_15 (n + 1 + 1 + 1 + 1 + 1) →
  ∀ m_18 : am_M, m_18 = am_st m_17 v0 7 ((n + 1 + 1 + 1 + 1 + 1 : Nat) : Int) →
  K m_18
set_option maxRecDepth 20000 in
def CT_X1_init : am_T3 := fun as post m n => ∃ v0 : Int, as = [(2, v0)] ∧ am_is n v0 1 ∧ C_X1_init v0 (fun m' => post none m' (n + 6)) m n
theorem qp_X1_init : (parseMethodDescriptor yX1_init.desc).map (fun d => d.parameters.length) = some 0 := by decide +kernel
set_option maxRecDepth 20000 in
theorem C_X1_init_mono {v0 : Int} {K K' : am_M → Prop} {m : am_M} {n : Nat} (h : C_X1_init v0 K m n) (hK : ∀ x, K x → K' x) : C_X1_init v0 K' m n := by
  unfold C_X1_init at h ⊢
  obtain ⟨q_19, h⟩ := h
  refine ⟨q_19, ?_⟩
  intro m_2 e_m_2
  have h := h m_2 e_m_2
  intro m_3 e_m_3
  have h := h m_3 e_m_3
  obtain ⟨q_20, h⟩ := h
  refine ⟨q_20, ?_⟩
  intro m_5 e_m_5
  have h := h m_5 e_m_5
  intro m_6 e_m_6
  have h := h m_6 e_m_6
  obtain ⟨q_21, h⟩ := h
  refine ⟨q_21, ?_⟩
  intro m_8 e_m_8
  have h := h m_8 e_m_8
  intro m_9 e_m_9
  have h := h m_9 e_m_9
  obtain ⟨q_22, h⟩ := h
  refine ⟨q_22, ?_⟩
  intro m_11 e_m_11
  have h := h m_11 e_m_11
  intro m_12 e_m_12
  have h := h m_12 e_m_12
  obtain ⟨q_23, h⟩ := h
  refine ⟨q_23, ?_⟩
  intro m_14 e_m_14
  have h := h m_14 e_m_14
  intro m_15 e_m_15
  have h := h m_15 e_m_15
  obtain ⟨q_24, h⟩ := h
  refine ⟨q_24, ?_⟩
  intro m_17 e_m_17
  have h := h m_17 e_m_17
  intro m_18 e_m_18
  have h := h m_18 e_m_18
  exact hK _ h
set_option maxRecDepth 20000 in
theorem CC_X1_init {v0 : Int} {K1 : am_M → Prop} {m : am_M} {n : Nat} (hob : am_is n v0 1) (h : C_X1_init v0 K1 m n) : CT_X1_init [(2, v0)] (fun r m' n' => r = none ∧ K1 m') m n := ⟨v0, rfl, hob, C_X1_init_mono h (fun x hx => ⟨rfl, hx⟩)⟩
set_option maxRecDepth 20000 in
set_option maxHeartbeats 4000000 in
theorem SC_X1_init : am_Snd yX1_init cX1_init 1 none 6 0 CT_X1_init := by
  refine am_SndOf (by decide +kernel) ?_ ?_
  · rintro as post m n ⟨v0, rfl, -⟩
    exact Nat.le_of_ble_eq_true rfl
  · rintro F post as m n G hP - hdd hl he hI ⟨v0, rfl, hob, h⟩
    have hI := hI rfl
    have G : am_G F cX1_init RX1 := G
    change am_Z F 0 [] [(2, v0)] m n
    unfold C_X1_init at h
    refine z_aload_n (nx := 1) (a := 0) G rfl (Or.inl rfl) dX1_init_0 rfl ?_
    refine z_objInit (nx := 4) G hob.1 ml_RX1_5 (Nat.le_of_ble_eq_true rfl) dX1_init_1 rfl ?_
    refine z_aload_n (nx := 5) (a := 0) G rfl (Or.inl rfl) dX1_init_4 rfl ?_
    refine z_bipush (nx := 7) (z := 6) G (R32c rfl) rfl dX1_init_5 rfl ?_
    obtain ⟨hs_1, h⟩ := h
    refine c_newi (nx := 9) G aw_int hs_1 ((hl _).mpr (by omega)) dX1_init_7 rfl (fun m_2 e_m_2 => ?_)
    have h := h m_2 e_m_2
    refine c_putF (nx := 12) (k0 := 0) (t := 2) G fl_RX1_11 (Nat.le_of_ble_eq_true rfl) (Nat.le_of_ble_eq_true rfl) rfl hI rfl fw_RX1_11 rfl (am_is_mono hob (by omega)) dX1_init_9 rfl (fun m_3 e_m_3 => ?_)
    have h := h m_3 e_m_3
    refine z_aload_n (nx := 13) (a := 0) G rfl (Or.inl rfl) dX1_init_12 rfl ?_
    refine z_iconst (nx := 14) (z := 3) G (R32c rfl) dX1_init_13 rfl ?_
    obtain ⟨hs_4, h⟩ := h
    refine c_newi (nx := 16) G aw_int hs_4 ((hl _).mpr (by omega)) dX1_init_14 rfl (fun m_5 e_m_5 => ?_)
    have h := h m_5 e_m_5
    refine c_putF (nx := 19) (k0 := 2) (t := 2) G fl_RX1_15 (Nat.le_of_ble_eq_true rfl) (Nat.le_of_ble_eq_true rfl) rfl hI rfl fw_RX1_15 rfl (am_is_mono hob (by omega)) dX1_init_16 rfl (fun m_6 e_m_6 => ?_)
    have h := h m_6 e_m_6
    refine z_aload_n (nx := 20) (a := 0) G rfl (Or.inl rfl) dX1_init_19 rfl ?_
    refine z_bipush (nx := 22) (z := 64) G (R32c rfl) rfl dX1_init_20 rfl ?_
    obtain ⟨hs_7, h⟩ := h
    refine c_newi (nx := 24) G aw_int hs_7 ((hl _).mpr (by omega)) dX1_init_22 rfl (fun m_8 e_m_8 => ?_)
    have h := h m_8 e_m_8
    refine c_putF (nx := 27) (k0 := 4) (t := 2) G fl_RX1_18 (Nat.le_of_ble_eq_true rfl) (Nat.le_of_ble_eq_true rfl) rfl hI rfl fw_RX1_18 rfl (am_is_mono hob (by omega)) dX1_init_24 rfl (fun m_9 e_m_9 => ?_)
    have h := h m_9 e_m_9
    refine z_aload_n (nx := 28) (a := 0) G rfl (Or.inl rfl) dX1_init_27 rfl ?_
    refine z_bipush (nx := 30) (z := 64) G (R32c rfl) rfl dX1_init_28 rfl ?_
    obtain ⟨hs_10, h⟩ := h
    refine c_newi (nx := 32) G aw_int hs_10 ((hl _).mpr (by omega)) dX1_init_30 rfl (fun m_11 e_m_11 => ?_)
    have h := h m_11 e_m_11
    refine c_putF (nx := 35) (k0 := 5) (t := 2) G fl_RX1_21 (Nat.le_of_ble_eq_true rfl) (Nat.le_of_ble_eq_true rfl) rfl hI rfl fw_RX1_21 rfl (am_is_mono hob (by omega)) dX1_init_32 rfl (fun m_12 e_m_12 => ?_)
    have h := h m_12 e_m_12
    refine z_aload_n (nx := 36) (a := 0) G rfl (Or.inl rfl) dX1_init_35 rfl ?_
    refine z_sipush (nx := 39) (z := 384) G (R32c rfl) rfl dX1_init_36 rfl ?_
    obtain ⟨hs_13, h⟩ := h
    refine c_newi (nx := 41) G aw_int hs_13 ((hl _).mpr (by omega)) dX1_init_39 rfl (fun m_14 e_m_14 => ?_)
    have h := h m_14 e_m_14
    refine c_putF (nx := 44) (k0 := 6) (t := 2) G fl_RX1_24 (Nat.le_of_ble_eq_true rfl) (Nat.le_of_ble_eq_true rfl) rfl hI rfl fw_RX1_24 rfl (am_is_mono hob (by omega)) dX1_init_41 rfl (fun m_15 e_m_15 => ?_)
    have h := h m_15 e_m_15
    refine z_aload_n (nx := 45) (a := 0) G rfl (Or.inl rfl) dX1_init_44 rfl ?_
    refine z_bipush (nx := 47) (z := 6) G (R32c rfl) rfl dX1_init_45 rfl ?_
    obtain ⟨hs_16, h⟩ := h
    refine c_newi (nx := 49) G aw_int hs_16 ((hl _).mpr (by omega)) dX1_init_47 rfl (fun m_17 e_m_17 => ?_)
    have h := h m_17 e_m_17
    refine c_putF (nx := 52) (k0 := 7) (t := 2) G fl_RX1_27 (Nat.le_of_ble_eq_true rfl) (Nat.le_of_ble_eq_true rfl) rfl hI rfl fw_RX1_27 rfl (am_is_mono hob (by omega)) dX1_init_49 rfl (fun m_18 e_m_18 => ?_)
    have h := h m_18 e_m_18
    have ecur : n + 1 + 1 + 1 + 1 + 1 + 1 = n + 6 := by omega
    exact z_return G hP ((he _).mpr ecur) dX1_init_52 ⟨ecur, ecur.symm ▸ h⟩
theorem fw_RX8_14 : Cond.fieldLink RX8 14 (am_C 8) (am_T 8 0).2.1 (am_T 8 0).2.2.1 ∈ am_TB := am_TB_mem (tb_2 (List.mem_of_getElem? (i := 63) rfl)) rfl
set_option maxRecDepth 20000 in
def C_X8_init (v0 : Int) (K : am_M → Prop) (m : am_M) (n : Nat) : Prop :=
  am_sh n = (7, am_N 7) ∧
  ∀ m_2 : am_M, m_2 = am_fr m n →
  C_X7_init ((n : Nat) : Int) 6 4 (fun m_3 =>
  ∀ m_5 : am_M, m_5 = am_st m_3 v0 0 ((n : Nat) : Int) →
  K m_5) m_2 (n + 1)
set_option maxRecDepth 20000 in
def CT_X8_init : am_T3 := fun as post m n => ∃ v0 : Int, as = [(2, v0)] ∧ am_is n v0 8 ∧ C_X8_init v0 (fun m' => post none m' (n + 2)) m n
theorem qp_X8_init : (parseMethodDescriptor yX8_init.desc).map (fun d => d.parameters.length) = some 0 := by decide +kernel
set_option maxRecDepth 20000 in
theorem C_X8_init_mono {v0 : Int} {K K' : am_M → Prop} {m : am_M} {n : Nat} (h : C_X8_init v0 K m n) (hK : ∀ x, K x → K' x) : C_X8_init v0 K' m n := by
  unfold C_X8_init at h ⊢
  obtain ⟨q_6, h⟩ := h
  refine ⟨q_6, ?_⟩
  intro m_2 e_m_2
  have h := h m_2 e_m_2
  refine C_X7_init_mono h (fun m_3 h => ?_)
  intro m_5 e_m_5
  have h := h m_5 e_m_5
  exact hK _ h
set_option maxRecDepth 20000 in
theorem CC_X8_init {v0 : Int} {K1 : am_M → Prop} {m : am_M} {n : Nat} (hob : am_is n v0 8) (h : C_X8_init v0 K1 m n) : CT_X8_init [(2, v0)] (fun r m' n' => r = none ∧ K1 m') m n := ⟨v0, rfl, hob, C_X8_init_mono h (fun x hx => ⟨rfl, hx⟩)⟩
set_option maxRecDepth 20000 in
set_option maxHeartbeats 4000000 in
theorem SC_X8_init : am_Snd yX8_init cX8_init 1 none 2 1 CT_X8_init := by
  refine am_SndOf (by decide +kernel) ?_ ?_
  · rintro as post m n ⟨v0, rfl, -⟩
    exact Nat.le_of_ble_eq_true rfl
  · rintro F post as m n G hP - hdd hl he hI ⟨v0, rfl, hob, h⟩
    have hI := hI rfl
    have G : am_G F cX8_init RX8 := G
    change am_Z F 0 [] [(2, v0)] m n
    unfold C_X8_init at h
    refine z_aload_n (nx := 1) (a := 0) G rfl (Or.inl rfl) dX8_init_0 rfl ?_
    refine z_objInit (nx := 4) G hob.1 ml_RX8_3 (Nat.le_of_ble_eq_true rfl) dX8_init_1 rfl ?_
    refine z_aload_n (nx := 5) (a := 0) G rfl (Or.inl rfl) dX8_init_4 rfl ?_
    obtain ⟨hs_1, h⟩ := h
    refine c_new (nx := 8) (ci := 7) G (Nat.le_of_ble_eq_true rfl) xw_RX8_9 tw_RX7 nw_RX7 hs_1 ((hl _).mpr (by omega)) dX8_init_5 rfl (fun m_2 e_m_2 => ?_)
    have h := h m_2 e_m_2
    refine z_dup (nx := 9) G (fun h => nomatch h) dX8_init_8 rfl ?_
    refine z_bipush (nx := 11) (z := 6) G (R32c rfl) rfl dX8_init_9 rfl ?_
    refine z_iconst (nx := 12) (z := 4) G (R32c rfl) dX8_init_11 rfl ?_
    refine z_callI (nx := 15) (as := [(0, 6), (0, 4)]) G ((am_is_new hs_1)).1 SC_X7_init (by rw [hdd]; exact Nat.le_of_ble_eq_true rfl) (Nat.le_of_ble_eq_true rfl) ((hl _).mpr (by omega)) ml_RX8_11 iw_X7_init rfl rfl (am_plainC 7 (by decide)) cw_X7_init nw_RX7 qp_X7_init (Nat.le_of_ble_eq_true rfl) dX8_init_12 rfl (CC_X7_init (am_is_mono (am_is_new hs_1) (by omega)) h) ?_
    rintro r m_3 ⟨rfl, h⟩
    refine c_putF (nx := 18) (k0 := 0) (t := 2) G fl_RX8_14 (Nat.le_of_ble_eq_true rfl) (Nat.le_of_ble_eq_true rfl) rfl hI rfl fw_RX8_14 rfl (am_is_mono hob (by omega)) dX8_init_15 rfl (fun m_5 e_m_5 => ?_)
    have h := h m_5 e_m_5
    have ecur : n + 1 + 1 = n + 2 := by omega
    exact z_return G hP ((he _).mpr ecur) dX8_init_18 ⟨ecur, ecur.symm ▸ h⟩
theorem fw_RX0_14 : Cond.fieldLink RX0 14 (am_C 0) (am_T 0 0).2.1 (am_T 0 0).2.2.1 ∈ am_TB := am_TB_mem (tb_1 (List.mem_of_getElem? (i := 113) rfl)) rfl
theorem fw_RX0_20 : Cond.fieldLink RX0 20 (am_C 0) (am_T 0 1).2.1 (am_T 0 1).2.2.1 ∈ am_TB := am_TB_mem (tb_1 (List.mem_of_getElem? (i := 117) rfl)) rfl
theorem fw_RX0_23 : Cond.fieldLink RX0 23 (am_C 0) (am_T 0 2).2.1 (am_T 0 2).2.2.1 ∈ am_TB := am_TB_mem (tb_1 (List.mem_of_getElem? (i := 120) rfl)) rfl
theorem fw_RX0_26 : Cond.fieldLink RX0 26 (am_C 0) (am_T 0 3).2.1 (am_T 0 3).2.2.1 ∈ am_TB := am_TB_mem (tb_1 (List.mem_of_getElem? (i := 123) rfl)) rfl
theorem fw_RX0_29 : Cond.fieldLink RX0 29 (am_C 0) (am_T 0 4).2.1 (am_T 0 4).2.2.1 ∈ am_TB := am_TB_mem (tb_1 (List.mem_of_getElem? (i := 125) rfl)) rfl
theorem fw_RX0_35 : Cond.fieldLink RX0 35 (am_C 0) (am_T 0 5).2.1 (am_T 0 5).2.2.1 ∈ am_TB := am_TB_mem (tb_1 (List.mem_of_getElem? (i := 127) rfl)) rfl
theorem fw_RX0_39 : Cond.fieldLink RX0 39 (am_C 0) (am_T 0 6).2.1 (am_T 0 6).2.2.1 ∈ am_TB := am_TB_mem (tb_1 (List.mem_of_getElem? (i := 129) rfl)) rfl
theorem fw_RX0_43 : Cond.fieldLink RX0 43 (am_C 0) (am_T 0 7).2.1 (am_T 0 7).2.2.1 ∈ am_TB := am_TB_mem (tb_1 (List.mem_of_getElem? (i := 130) rfl)) rfl
theorem fw_RX0_46 : Cond.fieldLink RX0 46 (am_C 0) (am_T 0 8).2.1 (am_T 0 8).2.2.1 ∈ am_TB := am_TB_mem (tb_1 (List.mem_of_getElem? (i := 133) rfl)) rfl
theorem fw_RX0_52 : Cond.fieldLink RX0 52 (am_C 0) (am_T 0 9).2.1 (am_T 0 9).2.2.1 ∈ am_TB := am_TB_mem (tb_1 (List.mem_of_getElem? (i := 134) rfl)) rfl
set_option maxRecDepth 20000 in
def C_X0_init (v0 : Int) (K : am_M → Prop) (m : am_M) (n : Nat) : Prop :=
  am_sh n = (7, am_N 7) ∧
  ∀ m_2 : am_M, m_2 = am_fr m n →
  C_X7_init ((n : Nat) : Int) 10 1 (fun m_3 =>
  ∀ m_5 : am_M, m_5 = am_st m_3 v0 0 ((n : Nat) : Int) →
  am_sh (n + 1 + 1) = (7, am_N 7) ∧
  ∀ m_7 : am_M, m_7 = am_fr m_5 (n + 1 + 1) →
  C_X7_init ((n + 1 + 1 : Nat) : Int) 16 4 (fun m_8 =>
  ∀ m_10 : am_M, m_10 = am_st m_8 v0 1 ((n + 1 + 1 : Nat) : Int) →
  am_sh (n + 1 + 1 + 1 + 1) = (7, am_N 7) ∧
  ∀ m_12 : am_M, m_12 = am_fr m_10 (n + 1 + 1 + 1 + 1) →
  C_X7_init ((n + 1 + 1 + 1 + 1 : Nat) : Int) 6 1 (fun m_13 =>
  ∀ m_15 : am_M, m_15 = am_st m_13 v0 2 ((n + 1 + 1 + 1 + 1 : Nat) : Int) →
  am_sh (n + 1 + 1 + 1 + 1 + 1 + 1) = (7, am_N 7) ∧
  ∀ m_17 : am_M, m_17 = am_fr m_15 (n + 1 + 1 + 1 + 1 + 1 + 1) →
  C_X7_init ((n + 1 + 1 + 1 + 1 + 1 + 1 : Nat) : Int) 10 2 (fun m_18 =>
  ∀ m_20 : am_M, m_20 = am_st m_18 v0 3 ((n + 1 + 1 + 1 + 1 + 1 + 1 : Nat) : Int) →
  am_sh (n + 1 + 1 + 1 + 1 + 1 + 1 + 1 + 1) = (7, am_N 7) ∧
  ∀ m_22 : am_M, m_22 = am_fr m_20 (n + 1 + 1 + 1 + 1 + 1 + 1 + 1 + 1) →
  C_X7_init ((n + 1 + 1 + 1 + 1 + 1 + 1 + 1 + 1 : Nat) : Int) 6 3 (fun m_23 =>
  ∀ m_25 : am_M, m_25 = am_st m_23 v0 4 ((n + 1 + 1 + 1 + 1 + 1 + 1 + 1 + 1 : Nat) : Int) →
  am_sh (n + 1 + 1 + 1 + 1 + 1 + 1 + 1 + 1 + 1 + 1) = (9, am_N 9) ∧
  ∀ m_27 : am_M, m_27 = am_fr m_25 (n + 1 + 1 + 1 + 1 + 1 + 1 + 1 + 1 + 1 + 1) →
  C_X9_init ((n + 1 + 1 + 1 + 1 + 1 + 1 + 1 + 1 + 1 + 1 : Nat) : Int) (fun m_28 =>
  ∀ m_30 : am_M, m_30 = am_st m_28 v0 5 ((n + 1 + 1 + 1 + 1 + 1 + 1 + 1 + 1 + 1 + 1 : Nat) : Int) →
  ((0 : Int) ≤ 8 ∧ 8 ≤ (100000 : Int) ∧ am_sh (n + 1 + 1 + 1 + 1 + 1 + 1 + 1 + 1 + 1 + 1 + 1 + 2) = (20, Int.toNat 8)) ∧
  ∀ m_32 : am_M, m_32 = am_fr m_30 (n + 1 + 1 + 1 + 1 + 1 + 1 + 1 + 1 + 1 + 1 + 1 + 2) →
  ∀ m_33 : am_M, m_33 = am_st m_32 v0 6 ((n + 1 + 1 + 1 + 1 + 1 + 1 + 1 + 1 + 1 + 1 + 1 + 2 : Nat) : Int) →
  ((0 : Int) ≤ 8 ∧ 8 ≤ (100000 : Int) ∧ am_sh (n + 1 + 1 + 1 + 1 + 1 + 1 + 1 + 1 + 1 + 1 + 1 + 2 + 1) = (20, Int.toNat 8)) ∧
  ∀ m_35 : am_M, m_35 = am_fr m_33 (n + 1 + 1 + 1 + 1 + 1 + 1 + 1 + 1 + 1 + 1 + 1 + 2 + 1) →
  ∀ m_36 : am_M, m_36 = am_st m_35 v0 7 ((n + 1 + 1 + 1 + 1 + 1 + 1 + 1 + 1 + 1 + 1 + 1 + 2 + 1 : Nat) : Int) →
  ((0 : Int) ≤ 4 ∧ 4 ≤ (100000 : Int) ∧ am_sh (n + 1 + 1 + 1 + 1 + 1 + 1 + 1 + 1 + 1 + 1 + 1 + 2 + 1 + 1) = (20, Int.toNat 4)) ∧
  ∀ m_38 : am_M, m_38 = am_fr m_36 (n + 1 + 1 + 1 + 1 + 1 + 1 + 1 + 1 + 1 + 1 + 1 + 2 + 1 + 1) →
  ∀ m_39 : am_M, m_39 = am_st m_38 ((n + 1 + 1 + 1 + 1 + 1 + 1 + 1 + 1 + 1 + 1 + 1 + 2 + 1 + 1 : Nat) : Int) 0 0 →
  ∀ m_40 : am_M, m_40 = am_st m_39 ((n + 1 + 1 + 1 + 1 + 1 + 1 + 1 + 1 + 1 + 1 + 1 + 2 + 1 + 1 : Nat) : Int) 1 1 →
  ∀ m_41 : am_M, m_41 = am_st m_40 ((n + 1 + 1 + 1 + 1 + 1 + 1 + 1 + 1 + 1 + 1 + 1 + 2 + 1 + 1 : Nat) : Int) 2 3 →
  ∀ m_42 : am_M, m_42 = am_st m_41 ((n + 1 + 1 + 1 + 1 + 1 + 1 + 1 + 1 + 1 + 1 + 1 + 2 + 1 + 1 : Nat) : Int) 3 0 →
  ∀ m_43 : am_M, m_43 = am_st m_42 v0 8 ((n + 1 + 1 + 1 + 1 + 1 + 1 + 1 + 1 + 1 + 1 + 1 + 2 + 1 + 1 : Nat) : Int) →
  ((0 : Int) ≤ 6 ∧ 6 ≤ (100000 : Int) ∧ am_sh (n + 1 + 1 + 1 + 1 + 1 + 1 + 1 + 1 + 1 + 1 + 1 + 2 + 1 + 1 + 1) = (25, Int.toNat 6)) ∧
  ∀ m_45 : am_M, m_45 = am_fr m_43 (n + 1 + 1 + 1 + 1 + 1 + 1 + 1 + 1 + 1 + 1 + 1 + 2 + 1 + 1 + 1) →
  am_sh (n + 1 + 1 + 1 + 1 + 1 + 1 + 1 + 1 + 1 + 1 + 1 + 2 + 1 + 1 + 1 + 1) = (4, am_N 4) ∧
  ∀ m_47 : am_M, m_47 = am_fr m_45 (n + 1 + 1 + 1 + 1 + 1 + 1 + 1 + 1 + 1 + 1 + 1 + 2 + 1 + 1 + 1 + 1) →
  C_X4_init ((n + 1 + 1 + 1 + 1 + 1 + 1 + 1 + 1 + 1 + 1 + 1 + 2 + 1 + 1 + 1 + 1 : Nat) : Int) (fun m_48 =>
  ∀ m_50 : am_M, m_50 = am_st m_48 ((n + 1 + 1 + 1 + 1 + 1 + 1 + 1 + 1 + 1 + 1 + 1 + 2 + 1 + 1 + 1 : Nat) : Int) 0 ((n + 1 + 1 + 1 + 1 + 1 + 1 + 1 + 1 + 1 + 1 + 1 + 2 + 1 + 1 + 1 + 1 : Nat) : Int) →
  am_sh (n + 1 + 1 + 1 + 1 + 1 + 1 + 1 + 1 + 1 + 1 + 1 + 2 + 1 + 1 + 1 + 1 + 1 + 3) = (4, am_N 4) ∧
  ∀ m_52 : am_M, m_52 = am_fr m_50 (n + 1 + 1 + 1 + 1 + 1 + 1 + 1 + 1 + 1 + 1 + 1 + 2 + 1 + 1 + 1 + 1 + 1 + 3) →
  C_X4_init ((n + 1 + 1 + 1 + 1 + 1 + 1 + 1 + 1 + 1 + 1 + 1 + 2 + 1 + 1 + 1 + 1 + 1 + 3 : Nat) : Int) (fun m_53 =>
  ∀ m_55 : am_M, m_55 = am_st m_53 ((n + 1 + 1 + 1 + 1 + 1 + 1 + 1 + 1 + 1 + 1 + 1 + 2 + 1 + 1 + 1 : Nat) : Int) 1 ((n + 1 + 1 + 1 + 1 + 1 + 1 + 1 + 1 + 1 + 1 + 1 + 2 + 1 + 1 + 1 + 1 + 1 + 3 : Nat) : Int) →
  am_sh (n + 1 + 1 + 1 + 1 + 1 + 1 + 1 + 1 + 1 + 1 + 1 + 2 + 1 + 1 + 1 + 1 + 1 + 3 + 1 + 3) = (4, am_N 4) ∧
  ∀ m_57 : am_M, m_57 = am_fr m_55 (n + 1 + 1 + 1 + 1 + 1 + 1 + 1 + 1 + 1 + 1 + 1 + 2 + 1 + 1 + 1 + 1 + 1 + 3 + 1 + 3) →
  C_X4_init ((n + 1 + 1 + 1 + 1 + 1 + 1 + 1 + 1 + 1 + 1 + 1 + 2 + 1 + 1 + 1 + 1 + 1 + 3 + 1 + 3 : Nat) : Int) (fun m_58 =>
  ∀ m_60 : am_M, m_60 = am_st m_58 ((n + 1 + 1 + 1 + 1 + 1 + 1 + 1 + 1 + 1 + 1 + 1 + 2 + 1 + 1 + 1 : Nat) : Int) 2 ((n + 1 + 1 + 1 + 1 + 1 + 1 + 1 + 1 + 1 + 1 + 1 + 2 + 1 + 1 + 1 + 1 + 1 + 3 + 1 + 3 : Nat) : Int) →
  am_sh (n + 1 + 1 + 1 + 1 + 1 + 1 + 1 + 1 + 1 + 1 + 1 + 2 + 1 + 1 + 1 + 1 + 1 + 3 + 1 + 3 + 1 + 3) = (4, am_N 4) ∧
  ∀ m_62 : am_M, m_62 = am_fr m_60 (n + 1 + 1 + 1 + 1 + 1 + 1 + 1 + 1 + 1 + 1 + 1 + 2 + 1 + 1 + 1 + 1 + 1 + 3 + 1 + 3 + 1 + 3) →
  C_X4_init ((n + 1 + 1 + 1 + 1 + 1 + 1 + 1 + 1 + 1 + 1 + 1 + 2 + 1 + 1 + 1 + 1 + 1 + 3 + 1 + 3 + 1 + 3 : Nat) : Int) (fun m_63 =>
  ∀ m_65 : am_M, m_65 = am_st m_63 ((n + 1 + 1 + 1 + 1 + 1 + 1 + 1 + 1 + 1 + 1 + 1 + 2 + 1 + 1 + 1 : Nat) : Int) 3 ((n + 1 + 1 + 1 + 1 + 1 + 1 + 1 + 1 + 1 + 1 + 1 + 2 + 1 + 1 + 1 + 1 + 1 + 3 + 1 + 3 + 1 + 3 : Nat) : Int) →
  am_sh (n + 1 + 1 + 1 + 1 + 1 + 1 + 1 + 1 + 1 + 1 + 1 + 2 + 1 + 1 + 1 + 1 + 1 + 3 + 1 + 3 + 1 + 3 + 1 + 3) = (4, am_N 4) ∧
  ∀ m_67 : am_M, m_67 = am_fr m_65 (n + 1 + 1 + 1 + 1 + 1 + 1 + 1 + 1 + 1 + 1 + 1 + 2 + 1 + 1 + 1 + 1 + 1 + 3 + 1 + 3 + 1 + 3 + 1 + 3) →
  C_X4_init ((n + 1 + 1 + 1 + 1 + 1 + 1 + 1 + 1 + 1 + 1 + 1 + 2 + 1 + 1 + 1 + 1 + 1 + 3 + 1 + 3 + 1 + 3 + 1 + 3 : Nat) : Int) (fun m_68 =>
  ∀ m_70 : am_M, m_70 = am_st m_68 ((n + 1 + 1 + 1 + 1 + 1 + 1 + 1 + 1 + 1 + 1 + 1 + 2 + 1 + 1 + 1 : Nat) : Int) 4 ((n + 1 + 1 + 1 + 1 + 1 + 1 + 1 + 1 + 1 + 1 + 1 + 2 + 1 + 1 + 1 + 1 + 1 + 3 + 1 + 3 + 1 + 3 + 1 + 3 : Nat) : Int) →
  am_sh (n + 1 + 1 + 1 + 1 + 1 + 1 + 1 + 1 + 1 + 1 + 1 + 2 + 1 + 1 + 1 + 1 + 1 + 3 + 1 + 3 + 1 + 3 + 1 + 3 + 1 + 3) = (4, am_N 4) ∧
  ∀ m_72 : am_M, m_72 = am_fr m_70 (n + 1 + 1 + 1 + 1 + 1 + 1 + 1 + 1 + 1 + 1 + 1 + 2 + 1 + 1 + 1 + 1 + 1 + 3 + 1 + 3 + 1 + 3 + 1 + 3 + 1 + 3) →
  C_X4_init ((n + 1 + 1 + 1 + 1 + 1 + 1 + 1 + 1 + 1 + 1 + 1 + 2 + 1 + 1 + 1 + 1 + 1 + 3 + 1 + 3 + 1 + 3 + 1 + 3 + 1 + 3 : Nat) : Int) (fun m_73 =>
  ∀ m_75 : am_M, m_75 = am_st m_73 ((n + 1 + 1 + 1 + 1 + 1 + 1 + 1 + 1 + 1 + 1 + 1 + 2 + 1 + 1 + 1 : Nat) : Int) 5 ((n + 1 + 1 + 1 + 1 + 1 + 1 + 1 + 1 + 1 + 1 + 1 + 2 + 1 + 1 + 1 + 1 + 1 + 3 + 1 + 3 + 1 + 3 + 1 + 3 + 1 + 3 : Nat) : Int) →
  ∀ m_76 : am_M, m_76 = am_st m_75 v0 9 ((n + 1 + 1 + 1 + 1 + 1 + 1 + 1 + 1 + 1 + 1 + 1 + 2 + 1 + 1 + 1 : Nat) : Int) →
  ∀ m_77 : am_M, m_77 = am_st m_76 v0 11 (-1) →
  K m_77) m_72 (n + 1 + 1 + 1 + 1 + 1 + 1 + 1 + 1 + 1 + 1 + 1 + 2 + 1 + 1 + 1 + 1 + 1 + 3 + 1 + 3 + 1 + 3 + 1 + 3 + 1 + 3 + 1)) m_67 (n + 1 + 1 + 1 + 1 + 1 + 1 + 1 + 1 + 1 + 1 + 1 + 2 + 1 + 1 + 1 + 1 + 1 + 3 + 1 + 3 + 1 + 3 + 1 + 3 + 1)) m_62 (n + 1 + 1 + 1 + 1 + 1 + 1 + 1 + 1 + 1 + 1 + 1 + 2 + 1 + 1 + 1 + 1 + 1 + 3 + 1 + 3 + 1 + 3 + 1)) m_57 (n + 1 + 1 + 1 + 1 + 1 + 1 + 1 + 1 + 1 + 1 + 1 + 2 + 1 + 1 + 1 + 1 + 1 + 3 + 1 + 3 + 1)) m_52 (n + 1 + 1 + 1 + 1 + 1 + 1 + 1 + 1 + 1 + 1 + 1 + 2 + 1 + 1 + 1 + 1 + 1 + 3 + 1)) m_47 (n + 1 + 1 + 1 + 1 + 1 + 1 + 1 + 1 + 1 + 1 + 1 + 2 + 1 + 1 + 1 + 1 + 1)) m_27 (n + 1 + 1 + 1 + 1 + 1 + 1 + 1 + 1 + 1 + 1 + 1)) m_22 (n + 1 + 1 + 1 + 1 + 1 + 1 + 1 + 1 + 1)) m_17 (n + 1 + 1 + 1 + 1 + 1 + 1 + 1)) m_12 (n + 1 + 1 + 1 + 1 + 1)) m_7 (n + 1 + 1 + 1)) m_2 (n + 1)
set_option maxRecDepth 20000 in
def CT_X0_init : am_T3 := fun as post m n => ∃ v0 : Int, as = [(2, v0)] ∧ am_is n v0 0 ∧ C_X0_init v0 (fun m' => post none m' (n + 41)) m n
theorem qp_X0_init : (parseMethodDescriptor yX0_init.desc).map (fun d => d.parameters.length) = some 0 := by decide +kernel
set_option maxRecDepth 20000 in
theorem C_X0_init_mono {v0 : Int} {K K' : am_M → Prop} {m : am_M} {n : Nat} (h : C_X0_init v0 K m n) (hK : ∀ x, K x → K' x) : C_X0_init v0 K' m n := by
  unfold C_X0_init at h ⊢
  obtain ⟨q_78, h⟩ := h
  refine ⟨q_78, ?_⟩
  intro m_2 e_m_2
  have h := h m_2 e_m_2
  refine C_X7_init_mono h (fun m_3 h => ?_)
  intro m_5 e_m_5
  have h := h m_5 e_m_5
  obtain ⟨q_79, h⟩ := h
  refine ⟨q_79, ?_⟩
  intro m_7 e_m_7
  have h := h m_7 e_m_7
  refine C_X7_init_mono h (fun m_8 h => ?_)
  intro m_10 e_m_10
  have h := h m_10 e_m_10
  obtain ⟨q_80, h⟩ := h
  refine ⟨q_80, ?_⟩
  intro m_12 e_m_12
  have h := h m_12 e_m_12
  refine C_X7_init_mono h (fun m_13 h => ?_)
  intro m_15 e_m_15
  have h := h m_15 e_m_15
  obtain ⟨q_81, h⟩ := h
  refine ⟨q_81, ?_⟩
  intro m_17 e_m_17
  have h := h m_17 e_m_17
  refine C_X7_init_mono h (fun m_18 h => ?_)
  intro m_20 e_m_20
  have h := h m_20 e_m_20
  obtain ⟨q_82, h⟩ := h
  refine ⟨q_82, ?_⟩
  intro m_22 e_m_22
  have h := h m_22 e_m_22
  refine C_X7_init_mono h (fun m_23 h => ?_)
  intro m_25 e_m_25
  have h := h m_25 e_m_25
  obtain ⟨q_83, h⟩ := h
  refine ⟨q_83, ?_⟩
  intro m_27 e_m_27
  have h := h m_27 e_m_27
  refine C_X9_init_mono h (fun m_28 h => ?_)
  intro m_30 e_m_30
  have h := h m_30 e_m_30
  obtain ⟨q_84, h⟩ := h
  refine ⟨q_84, ?_⟩
  intro m_32 e_m_32
  have h := h m_32 e_m_32
  intro m_33 e_m_33
  have h := h m_33 e_m_33
  obtain ⟨q_85, h⟩ := h
  refine ⟨q_85, ?_⟩
  intro m_35 e_m_35
  have h := h m_35 e_m_35
  intro m_36 e_m_36
  have h := h m_36 e_m_36
  obtain ⟨q_86, h⟩ := h
  refine ⟨q_86, ?_⟩
  intro m_38 e_m_38
  have h := h m_38 e_m_38
  intro m_39 e_m_39
  have h := h m_39 e_m_39
  intro m_40 e_m_40
  have h := h m_40 e_m_40
  intro m_41 e_m_41
  have h := h m_41 e_m_41
  intro m_42 e_m_42
  have h := h m_42 e_m_42
  intro m_43 e_m_43
  have h := h m_43 e_m_43
  obtain ⟨q_87, h⟩ := h
  refine ⟨q_87, ?_⟩
  intro m_45 e_m_45
  have h := h m_45 e_m_45
  obtain ⟨q_88, h⟩ := h
  refine ⟨q_88, ?_⟩
  intro m_47 e_m_47
  have h := h m_47 e_m_47
  refine C_X4_init_mono h (fun m_48 h => ?_)
  intro m_50 e_m_50
  have h := h m_50 e_m_50
  obtain ⟨q_89, h⟩ := h
  refine ⟨q_89, ?_⟩
  intro m_52 e_m_52
  have h := h m_52 e_m_52
  refine C_X4_init_mono h (fun m_53 h => ?_)
  intro m_55 e_m_55
  have h := h m_55 e_m_55
  obtain ⟨q_90, h⟩ := h
  refine ⟨q_90, ?_⟩
  intro m_57 e_m_57
  have h := h m_57 e_m_57
  refine C_X4_init_mono h (fun m_58 h => ?_)
  intro m_60 e_m_60
  have h := h m_60 e_m_60
  obtain ⟨q_91, h⟩ := h
  refine ⟨q_91, ?_⟩
  intro m_62 e_m_62
  have h := h m_62 e_m_62
  refine C_X4_init_mono h (fun m_63 h => ?_)
  intro m_65 e_m_65
  have h := h m_65 e_m_65
  obtain ⟨q_92, h⟩ := h
  refine ⟨q_92, ?_⟩
  intro m_67 e_m_67
  have h := h m_67 e_m_67
  refine C_X4_init_mono h (fun m_68 h => ?_)
  intro m_70 e_m_70
  have h := h m_70 e_m_70
  obtain ⟨q_93, h⟩ := h
  refine ⟨q_93, ?_⟩
  intro m_72 e_m_72
  have h := h m_72 e_m_72
  refine C_X4_init_mono h (fun m_73 h => ?_)
  intro m_75 e_m_75
  have h := h m_75 e_m_75
  intro m_76 e_m_76
  have h := h m_76 e_m_76
  intro m_77 e_m_77
  have h := h m_77 e_m_77
  exact hK _ h
set_option maxRecDepth 20000 in
theorem CC_X0_init {v0 : Int} {K1 : am_M → Prop} {m : am_M} {n : Nat} (hob : am_is n v0 0) (h : C_X0_init v0 K1 m n) : CT_X0_init [(2, v0)] (fun r m' n' => r = none ∧ K1 m') m n := ⟨v0, rfl, hob, C_X0_init_mono h (fun x hx => ⟨rfl, hx⟩)⟩
set_option maxRecDepth 20000 in
set_option maxHeartbeats 4000000 in
theorem SC_X0_init : am_Snd yX0_init cX0_init 1 none 41 2 CT_X0_init := by
  refine am_SndOf (by decide +kernel) ?_ ?_
  · rintro as post m n ⟨v0, rfl, -⟩
    exact Nat.le_of_ble_eq_true rfl
  · rintro F post as m n G hP - hdd hl he hI ⟨v0, rfl, hob, h⟩
    have hI := hI rfl
    have G : am_G F cX0_init RX0 := G
    change am_Z F 0 [] [(2, v0)] m n
    unfold C_X0_init at h
    refine z_aload_n (nx := 1) (a := 0) G rfl (Or.inl rfl) dX0_init_0 rfl ?_
    refine z_objInit (nx := 4) G hob.1 ml_RX0_3 (Nat.le_of_ble_eq_true rfl) dX0_init_1 rfl ?_
    refine z_aload_n (nx := 5) (a := 0) G rfl (Or.inl rfl) dX0_init_4 rfl ?_
    obtain ⟨hs_1, h⟩ := h
    refine c_new (nx := 8) (ci := 7) G (Nat.le_of_ble_eq_true rfl) xw_RX0_9 tw_RX7 nw_RX7 hs_1 ((hl _).mpr (by omega)) dX0_init_5 rfl (fun m_2 e_m_2 => ?_)
    have h := h m_2 e_m_2
    refine z_dup (nx := 9) G (fun h => nomatch h) dX0_init_8 rfl ?_
    refine z_bipush (nx := 11) (z := 10) G (R32c rfl) rfl dX0_init_9 rfl ?_
    refine z_iconst (nx := 12) (z := 1) G (R32c rfl) dX0_init_11 rfl ?_
    refine z_callI (nx := 15) (as := [(0, 10), (0, 1)]) G ((am_is_new hs_1)).1 SC_X7_init (by rw [hdd]; exact Nat.le_of_ble_eq_true rfl) (Nat.le_of_ble_eq_true rfl) ((hl _).mpr (by omega)) ml_RX0_11 iw_X7_init rfl rfl (am_plainC 7 (by decide)) cw_X7_init nw_RX7 qp_X7_init (Nat.le_of_ble_eq_true rfl) dX0_init_12 rfl (CC_X7_init (am_is_mono (am_is_new hs_1) (by omega)) h) ?_
    rintro r m_3 ⟨rfl, h⟩
    refine c_putF (nx := 18) (k0 := 0) (t := 2) G fl_RX0_14 (Nat.le_of_ble_eq_true rfl) (Nat.le_of_ble_eq_true rfl) rfl hI rfl fw_RX0_14 rfl (am_is_mono hob (by omega)) dX0_init_15 rfl (fun m_5 e_m_5 => ?_)
    have h := h m_5 e_m_5
    refine z_aload_n (nx := 19) (a := 0) G rfl (Or.inl rfl) dX0_init_18 rfl ?_
    obtain ⟨hs_6, h⟩ := h
    refine c_new (nx := 22) (ci := 7) G (Nat.le_of_ble_eq_true rfl) xw_RX0_9 tw_RX7 nw_RX7 hs_6 ((hl _).mpr (by omega)) dX0_init_19 rfl (fun m_7 e_m_7 => ?_)
    have h := h m_7 e_m_7
    refine z_dup (nx := 23) G (fun h => nomatch h) dX0_init_22 rfl ?_
    refine z_bipush (nx := 25) (z := 16) G (R32c rfl) rfl dX0_init_23 rfl ?_
    refine z_iconst (nx := 26) (z := 4) G (R32c rfl) dX0_init_25 rfl ?_
    refine z_callI (nx := 29) (as := [(0, 16), (0, 4)]) G ((am_is_new hs_6)).1 SC_X7_init (by rw [hdd]; exact Nat.le_of_ble_eq_true rfl) (Nat.le_of_ble_eq_true rfl) ((hl _).mpr (by omega)) ml_RX0_11 iw_X7_init rfl rfl (am_plainC 7 (by decide)) cw_X7_init nw_RX7 qp_X7_init (Nat.le_of_ble_eq_true rfl) dX0_init_26 rfl (CC_X7_init (am_is_mono (am_is_new hs_6) (by omega)) h) ?_
    rintro r m_8 ⟨rfl, h⟩
    refine c_putF (nx := 32) (k0 := 1) (t := 2) G fl_RX0_20 (Nat.le_of_ble_eq_true rfl) (Nat.le_of_ble_eq_true rfl) rfl hI rfl fw_RX0_20 rfl (am_is_mono hob (by omega)) dX0_init_29 rfl (fun m_10 e_m_10 => ?_)
    have h := h m_10 e_m_10
    refine z_aload_n (nx := 33) (a := 0) G rfl (Or.inl rfl) dX0_init_32 rfl ?_
    obtain ⟨hs_11, h⟩ := h
    refine c_new (nx := 36) (ci := 7) G (Nat.le_of_ble_eq_true rfl) xw_RX0_9 tw_RX7 nw_RX7 hs_11 ((hl _).mpr (by omega)) dX0_init_33 rfl (fun m_12 e_m_12 => ?_)
    have h := h m_12 e_m_12
    refine z_dup (nx := 37) G (fun h => nomatch h) dX0_init_36 rfl ?_
    refine z_bipush (nx := 39) (z := 6) G (R32c rfl) rfl dX0_init_37 rfl ?_
    refine z_iconst (nx := 40) (z := 1) G (R32c rfl) dX0_init_39 rfl ?_
    refine z_callI (nx := 43) (as := [(0, 6), (0, 1)]) G ((am_is_new hs_11)).1 SC_X7_init (by rw [hdd]; exact Nat.le_of_ble_eq_true rfl) (Nat.le_of_ble_eq_true rfl) ((hl _).mpr (by omega)) ml_RX0_11 iw_X7_init rfl rfl (am_plainC 7 (by decide)) cw_X7_init nw_RX7 qp_X7_init (Nat.le_of_ble_eq_true rfl) dX0_init_40 rfl (CC_X7_init (am_is_mono (am_is_new hs_11) (by omega)) h) ?_
    rintro r m_13 ⟨rfl, h⟩
    refine c_putF (nx := 46) (k0 := 2) (t := 2) G fl_RX0_23 (Nat.le_of_ble_eq_true rfl) (Nat.le_of_ble_eq_true rfl) rfl hI rfl fw_RX0_23 rfl (am_is_mono hob (by omega)) dX0_init_43 rfl (fun m_15 e_m_15 => ?_)
    have h := h m_15 e_m_15
    refine z_aload_n (nx := 47) (a := 0) G rfl (Or.inl rfl) dX0_init_46 rfl ?_
    obtain ⟨hs_16, h⟩ := h
    refine c_new (nx := 50) (ci := 7) G (Nat.le_of_ble_eq_true rfl) xw_RX0_9 tw_RX7 nw_RX7 hs_16 ((hl _).mpr (by omega)) dX0_init_47 rfl (fun m_17 e_m_17 => ?_)
    have h := h m_17 e_m_17
    refine z_dup (nx := 51) G (fun h => nomatch h) dX0_init_50 rfl ?_
    refine z_bipush (nx := 53) (z := 10) G (R32c rfl) rfl dX0_init_51 rfl ?_
    refine z_iconst (nx := 54) (z := 2) G (R32c rfl) dX0_init_53 rfl ?_
    refine z_callI (nx := 57) (as := [(0, 10), (0, 2)]) G ((am_is_new hs_16)).1 SC_X7_init (by rw [hdd]; exact Nat.le_of_ble_eq_true rfl) (Nat.le_of_ble_eq_true rfl) ((hl _).mpr (by omega)) ml_RX0_11 iw_X7_init rfl rfl (am_plainC 7 (by decide)) cw_X7_init nw_RX7 qp_X7_init (Nat.le_of_ble_eq_true rfl) dX0_init_54 rfl (CC_X7_init (am_is_mono (am_is_new hs_16) (by omega)) h) ?_
    rintro r m_18 ⟨rfl, h⟩
    refine c_putF (nx := 60) (k0 := 3) (t := 2) G fl_RX0_26 (Nat.le_of_ble_eq_true rfl) (Nat.le_of_ble_eq_true rfl) rfl hI rfl fw_RX0_26 rfl (am_is_mono hob (by omega)) dX0_init_57 rfl (fun m_20 e_m_20 => ?_)
    have h := h m_20 e_m_20
    refine z_aload_n (nx := 61) (a := 0) G rfl (Or.inl rfl) dX0_init_60 rfl ?_
    obtain ⟨hs_21, h⟩ := h
    refine c_new (nx := 64) (ci := 7) G (Nat.le_of_ble_eq_true rfl) xw_RX0_9 tw_RX7 nw_RX7 hs_21 ((hl _).mpr (by omega)) dX0_init_61 rfl (fun m_22 e_m_22 => ?_)
    have h := h m_22 e_m_22
    refine z_dup (nx := 65) G (fun h => nomatch h) dX0_init_64 rfl ?_
    refine z_bipush (nx := 67) (z := 6) G (R32c rfl) rfl dX0_init_65 rfl ?_
    refine z_iconst (nx := 68) (z := 3) G (R32c rfl) dX0_init_67 rfl ?_
    refine z_callI (nx := 71) (as := [(0, 6), (0, 3)]) G ((am_is_new hs_21)).1 SC_X7_init (by rw [hdd]; exact Nat.le_of_ble_eq_true rfl) (Nat.le_of_ble_eq_true rfl) ((hl _).mpr (by omega)) ml_RX0_11 iw_X7_init rfl rfl (am_plainC 7 (by decide)) cw_X7_init nw_RX7 qp_X7_init (Nat.le_of_ble_eq_true rfl) dX0_init_68 rfl (CC_X7_init (am_is_mono (am_is_new hs_21) (by omega)) h) ?_
    rintro r m_23 ⟨rfl, h⟩
    refine c_putF (nx := 74) (k0 := 4) (t := 2) G fl_RX0_29 (Nat.le_of_ble_eq_true rfl) (Nat.le_of_ble_eq_true rfl) rfl hI rfl fw_RX0_29 rfl (am_is_mono hob (by omega)) dX0_init_71 rfl (fun m_25 e_m_25 => ?_)
    have h := h m_25 e_m_25
    refine z_aload_n (nx := 75) (a := 0) G rfl (Or.inl rfl) dX0_init_74 rfl ?_
    obtain ⟨hs_26, h⟩ := h
    refine c_new (nx := 78) (ci := 9) G (Nat.le_of_ble_eq_true rfl) xw_RX0_32 tw_RX9 nw_RX9 hs_26 ((hl _).mpr (by omega)) dX0_init_75 rfl (fun m_27 e_m_27 => ?_)
    have h := h m_27 e_m_27
    refine z_dup (nx := 79) G (fun h => nomatch h) dX0_init_78 rfl ?_
    refine z_callIN (nx := 82) (as := []) G ((am_is_new hs_26)).1 SC_X9_init (by rw [hdd]; exact Nat.le_of_ble_eq_true rfl) (Nat.le_of_ble_eq_true rfl) ((hl _).mpr (by omega)) mn_RX0_34 iw_X9_init rfl rfl (am_plainC 9 (by decide)) cw_X9_init nw_RX9 qp_X9_init (Nat.le_of_ble_eq_true rfl) dX0_init_79 rfl (CC_X9_init (am_is_mono (am_is_new hs_26) (by omega)) h) ?_
    rintro r m_28 ⟨rfl, h⟩
    refine c_putF (nx := 85) (k0 := 5) (t := 2) G fl_RX0_35 (Nat.le_of_ble_eq_true rfl) (Nat.le_of_ble_eq_true rfl) rfl hI rfl fw_RX0_35 rfl (am_is_mono hob (by omega)) dX0_init_82 rfl (fun m_30 e_m_30 => ?_)
    have h := h m_30 e_m_30
    refine z_aload_n (nx := 86) (a := 0) G rfl (Or.inl rfl) dX0_init_85 rfl ?_
    refine z_bipush (nx := 88) (z := 8) G (R32c rfl) rfl dX0_init_86 rfl ?_
    obtain ⟨hs_31, h⟩ := h
    refine c_newi (nx := 90) G aw_int hs_31 ((hl _).mpr (by omega)) dX0_init_88 rfl (fun m_32 e_m_32 => ?_)
    have h := h m_32 e_m_32
    refine c_putF (nx := 93) (k0 := 6) (t := 2) G fl_RX0_39 (Nat.le_of_ble_eq_true rfl) (Nat.le_of_ble_eq_true rfl) rfl hI rfl fw_RX0_39 rfl (am_is_mono hob (by omega)) dX0_init_90 rfl (fun m_33 e_m_33 => ?_)
    have h := h m_33 e_m_33
    refine z_aload_n (nx := 94) (a := 0) G rfl (Or.inl rfl) dX0_init_93 rfl ?_
    refine z_bipush (nx := 96) (z := 8) G (R32c rfl) rfl dX0_init_94 rfl ?_
    obtain ⟨hs_34, h⟩ := h
    refine c_newi (nx := 98) G aw_int hs_34 ((hl _).mpr (by omega)) dX0_init_96 rfl (fun m_35 e_m_35 => ?_)
    have h := h m_35 e_m_35
    refine c_putF (nx := 101) (k0 := 7) (t := 2) G fl_RX0_43 (Nat.le_of_ble_eq_true rfl) (Nat.le_of_ble_eq_true rfl) rfl hI rfl fw_RX0_43 rfl (am_is_mono hob (by omega)) dX0_init_98 rfl (fun m_36 e_m_36 => ?_)
    have h := h m_36 e_m_36
    refine z_aload_n (nx := 102) (a := 0) G rfl (Or.inl rfl) dX0_init_101 rfl ?_
    refine z_iconst (nx := 103) (z := 4) G (R32c rfl) dX0_init_102 rfl ?_
    obtain ⟨hs_37, h⟩ := h
    refine c_newi (nx := 105) G aw_int hs_37 ((hl _).mpr (by omega)) dX0_init_103 rfl (fun m_38 e_m_38 => ?_)
    have h := h m_38 e_m_38
    refine z_dup (nx := 106) G (fun h => nomatch h) dX0_init_105 rfl ?_
    refine z_iconst (nx := 107) (z := 0) G (R32c rfl) dX0_init_106 rfl ?_
    refine z_iconst (nx := 108) (z := 0) G (R32c rfl) dX0_init_107 rfl ?_
    refine c_iast (nx := 109) G (am_isA_mono (am_isA_new hs_37.1 hs_37.2.2) (by omega)) (by decide) (by decide) dX0_init_108 rfl (fun m_39 e_m_39 => ?_)
    have h := h m_39 e_m_39
    refine z_dup (nx := 110) G (fun h => nomatch h) dX0_init_109 rfl ?_
    refine z_iconst (nx := 111) (z := 1) G (R32c rfl) dX0_init_110 rfl ?_
    refine z_iconst (nx := 112) (z := 1) G (R32c rfl) dX0_init_111 rfl ?_
    refine c_iast (nx := 113) G (am_isA_mono (am_isA_new hs_37.1 hs_37.2.2) (by omega)) (by decide) (by decide) dX0_init_112 rfl (fun m_40 e_m_40 => ?_)
    have h := h m_40 e_m_40
    refine z_dup (nx := 114) G (fun h => nomatch h) dX0_init_113 rfl ?_
    refine z_iconst (nx := 115) (z := 2) G (R32c rfl) dX0_init_114 rfl ?_
    refine z_iconst (nx := 116) (z := 3) G (R32c rfl) dX0_init_115 rfl ?_
    refine c_iast (nx := 117) G (am_isA_mono (am_isA_new hs_37.1 hs_37.2.2) (by omega)) (by decide) (by decide) dX0_init_116 rfl (fun m_41 e_m_41 => ?_)
    have h := h m_41 e_m_41
    refine z_dup (nx := 118) G (fun h => nomatch h) dX0_init_117 rfl ?_
    refine z_iconst (nx := 119) (z := 3) G (R32c rfl) dX0_init_118 rfl ?_
    refine z_iconst (nx := 120) (z := 0) G (R32c rfl) dX0_init_119 rfl ?_
    refine c_iast (nx := 121) G (am_isA_mono (am_isA_new hs_37.1 hs_37.2.2) (by omega)) (by decide) (by decide) dX0_init_120 rfl (fun m_42 e_m_42 => ?_)
    have h := h m_42 e_m_42
    refine c_putF (nx := 124) (k0 := 8) (t := 2) G fl_RX0_46 (Nat.le_of_ble_eq_true rfl) (Nat.le_of_ble_eq_true rfl) rfl hI rfl fw_RX0_46 rfl (am_is_mono hob (by omega)) dX0_init_121 rfl (fun m_43 e_m_43 => ?_)
    have h := h m_43 e_m_43
    refine z_aload_n (nx := 125) (a := 0) G rfl (Or.inl rfl) dX0_init_124 rfl ?_
    refine z_bipush (nx := 127) (z := 6) G (R32c rfl) rfl dX0_init_125 rfl ?_
    obtain ⟨hs_44, h⟩ := h
    refine c_newP (nx := 130) G xw_RX0_49 hs_44 ((hl _).mpr (by omega)) dX0_init_127 rfl (fun m_45 e_m_45 => ?_)
    have h := h m_45 e_m_45
    refine z_dup (nx := 131) G (fun h => nomatch h) dX0_init_130 rfl ?_
    refine z_iconst (nx := 132) (z := 0) G (R32c rfl) dX0_init_131 rfl ?_
    obtain ⟨hs_46, h⟩ := h
    refine c_new (nx := 135) (ci := 4) G (Nat.le_of_ble_eq_true rfl) xw_RX0_49 tw_RX4 nw_RX4 hs_46 ((hl _).mpr (by omega)) dX0_init_132 rfl (fun m_47 e_m_47 => ?_)
    have h := h m_47 e_m_47
    refine z_dup (nx := 136) G (fun h => nomatch h) dX0_init_135 rfl ?_
    refine z_callIN (nx := 139) (as := []) G ((am_is_new hs_46)).1 SC_X4_init (by rw [hdd]; exact Nat.le_of_ble_eq_true rfl) (Nat.le_of_ble_eq_true rfl) ((hl _).mpr (by omega)) mn_RX0_51 iw_X4_init rfl rfl (am_plainC 4 (by decide)) cw_X4_init nw_RX4 qp_X4_init (Nat.le_of_ble_eq_true rfl) dX0_init_136 rfl (CC_X4_init (am_is_mono (am_is_new hs_46) (by omega)) h) ?_
    rintro r m_48 ⟨rfl, h⟩
    refine c_aast (nx := 140) G (Or.inr ⟨rfl, rfl⟩) (am_isA_mono (am_isA_new hs_44.1 hs_44.2.2) (by omega)) (am_is_mono (am_is_new hs_46) (by omega)) (by decide) (by decide) dX0_init_139 rfl (fun m_50 e_m_50 => ?_)
    have h := h m_50 e_m_50
    refine z_dup (nx := 141) G (fun h => nomatch h) dX0_init_140 rfl ?_
    refine z_iconst (nx := 142) (z := 1) G (R32c rfl) dX0_init_141 rfl ?_
    obtain ⟨hs_51, h⟩ := h
    refine c_new (nx := 145) (ci := 4) G (Nat.le_of_ble_eq_true rfl) xw_RX0_49 tw_RX4 nw_RX4 hs_51 ((hl _).mpr (by omega)) dX0_init_142 rfl (fun m_52 e_m_52 => ?_)
    have h := h m_52 e_m_52
    refine z_dup (nx := 146) G (fun h => nomatch h) dX0_init_145 rfl ?_
    refine z_callIN (nx := 149) (as := []) G ((am_is_new hs_51)).1 SC_X4_init (by rw [hdd]; exact Nat.le_of_ble_eq_true rfl) (Nat.le_of_ble_eq_true rfl) ((hl _).mpr (by omega)) mn_RX0_51 iw_X4_init rfl rfl (am_plainC 4 (by decide)) cw_X4_init nw_RX4 qp_X4_init (Nat.le_of_ble_eq_true rfl) dX0_init_146 rfl (CC_X4_init (am_is_mono (am_is_new hs_51) (by omega)) h) ?_
    rintro r m_53 ⟨rfl, h⟩
    refine c_aast (nx := 150) G (Or.inr ⟨rfl, rfl⟩) (am_isA_mono (am_isA_new hs_44.1 hs_44.2.2) (by omega)) (am_is_mono (am_is_new hs_51) (by omega)) (by decide) (by decide) dX0_init_149 rfl (fun m_55 e_m_55 => ?_)
    have h := h m_55 e_m_55
    refine z_dup (nx := 151) G (fun h => nomatch h) dX0_init_150 rfl ?_
    refine z_iconst (nx := 152) (z := 2) G (R32c rfl) dX0_init_151 rfl ?_
    obtain ⟨hs_56, h⟩ := h
    refine c_new (nx := 155) (ci := 4) G (Nat.le_of_ble_eq_true rfl) xw_RX0_49 tw_RX4 nw_RX4 hs_56 ((hl _).mpr (by omega)) dX0_init_152 rfl (fun m_57 e_m_57 => ?_)
    have h := h m_57 e_m_57
    refine z_dup (nx := 156) G (fun h => nomatch h) dX0_init_155 rfl ?_
    refine z_callIN (nx := 159) (as := []) G ((am_is_new hs_56)).1 SC_X4_init (by rw [hdd]; exact Nat.le_of_ble_eq_true rfl) (Nat.le_of_ble_eq_true rfl) ((hl _).mpr (by omega)) mn_RX0_51 iw_X4_init rfl rfl (am_plainC 4 (by decide)) cw_X4_init nw_RX4 qp_X4_init (Nat.le_of_ble_eq_true rfl) dX0_init_156 rfl (CC_X4_init (am_is_mono (am_is_new hs_56) (by omega)) h) ?_
    rintro r m_58 ⟨rfl, h⟩
    refine c_aast (nx := 160) G (Or.inr ⟨rfl, rfl⟩) (am_isA_mono (am_isA_new hs_44.1 hs_44.2.2) (by omega)) (am_is_mono (am_is_new hs_56) (by omega)) (by decide) (by decide) dX0_init_159 rfl (fun m_60 e_m_60 => ?_)
    have h := h m_60 e_m_60
    refine z_dup (nx := 161) G (fun h => nomatch h) dX0_init_160 rfl ?_
    refine z_iconst (nx := 162) (z := 3) G (R32c rfl) dX0_init_161 rfl ?_
    obtain ⟨hs_61, h⟩ := h
    refine c_new (nx := 165) (ci := 4) G (Nat.le_of_ble_eq_true rfl) xw_RX0_49 tw_RX4 nw_RX4 hs_61 ((hl _).mpr (by omega)) dX0_init_162 rfl (fun m_62 e_m_62 => ?_)
    have h := h m_62 e_m_62
    refine z_dup (nx := 166) G (fun h => nomatch h) dX0_init_165 rfl ?_
    refine z_callIN (nx := 169) (as := []) G ((am_is_new hs_61)).1 SC_X4_init (by rw [hdd]; exact Nat.le_of_ble_eq_true rfl) (Nat.le_of_ble_eq_true rfl) ((hl _).mpr (by omega)) mn_RX0_51 iw_X4_init rfl rfl (am_plainC 4 (by decide)) cw_X4_init nw_RX4 qp_X4_init (Nat.le_of_ble_eq_true rfl) dX0_init_166 rfl (CC_X4_init (am_is_mono (am_is_new hs_61) (by omega)) h) ?_
    rintro r m_63 ⟨rfl, h⟩
    refine c_aast (nx := 170) G (Or.inr ⟨rfl, rfl⟩) (am_isA_mono (am_isA_new hs_44.1 hs_44.2.2) (by omega)) (am_is_mono (am_is_new hs_61) (by omega)) (by decide) (by decide) dX0_init_169 rfl (fun m_65 e_m_65 => ?_)
    have h := h m_65 e_m_65
    refine z_dup (nx := 171) G (fun h => nomatch h) dX0_init_170 rfl ?_
    refine z_iconst (nx := 172) (z := 4) G (R32c rfl) dX0_init_171 rfl ?_
    obtain ⟨hs_66, h⟩ := h
    refine c_new (nx := 175) (ci := 4) G (Nat.le_of_ble_eq_true rfl) xw_RX0_49 tw_RX4 nw_RX4 hs_66 ((hl _).mpr (by omega)) dX0_init_172 rfl (fun m_67 e_m_67 => ?_)
    have h := h m_67 e_m_67
    refine z_dup (nx := 176) G (fun h => nomatch h) dX0_init_175 rfl ?_
    refine z_callIN (nx := 179) (as := []) G ((am_is_new hs_66)).1 SC_X4_init (by rw [hdd]; exact Nat.le_of_ble_eq_true rfl) (Nat.le_of_ble_eq_true rfl) ((hl _).mpr (by omega)) mn_RX0_51 iw_X4_init rfl rfl (am_plainC 4 (by decide)) cw_X4_init nw_RX4 qp_X4_init (Nat.le_of_ble_eq_true rfl) dX0_init_176 rfl (CC_X4_init (am_is_mono (am_is_new hs_66) (by omega)) h) ?_
    rintro r m_68 ⟨rfl, h⟩
    refine c_aast (nx := 180) G (Or.inr ⟨rfl, rfl⟩) (am_isA_mono (am_isA_new hs_44.1 hs_44.2.2) (by omega)) (am_is_mono (am_is_new hs_66) (by omega)) (by decide) (by decide) dX0_init_179 rfl (fun m_70 e_m_70 => ?_)
    have h := h m_70 e_m_70
    refine z_dup (nx := 181) G (fun h => nomatch h) dX0_init_180 rfl ?_
    refine z_iconst (nx := 182) (z := 5) G (R32c rfl) dX0_init_181 rfl ?_
    obtain ⟨hs_71, h⟩ := h
    refine c_new (nx := 185) (ci := 4) G (Nat.le_of_ble_eq_true rfl) xw_RX0_49 tw_RX4 nw_RX4 hs_71 ((hl _).mpr (by omega)) dX0_init_182 rfl (fun m_72 e_m_72 => ?_)
    have h := h m_72 e_m_72
    refine z_dup (nx := 186) G (fun h => nomatch h) dX0_init_185 rfl ?_
    refine z_callIN (nx := 189) (as := []) G ((am_is_new hs_71)).1 SC_X4_init (by rw [hdd]; exact Nat.le_of_ble_eq_true rfl) (Nat.le_of_ble_eq_true rfl) ((hl _).mpr (by omega)) mn_RX0_51 iw_X4_init rfl rfl (am_plainC 4 (by decide)) cw_X4_init nw_RX4 qp_X4_init (Nat.le_of_ble_eq_true rfl) dX0_init_186 rfl (CC_X4_init (am_is_mono (am_is_new hs_71) (by omega)) h) ?_
    rintro r m_73 ⟨rfl, h⟩
    refine c_aast (nx := 190) G (Or.inr ⟨rfl, rfl⟩) (am_isA_mono (am_isA_new hs_44.1 hs_44.2.2) (by omega)) (am_is_mono (am_is_new hs_71) (by omega)) (by decide) (by decide) dX0_init_189 rfl (fun m_75 e_m_75 => ?_)
    have h := h m_75 e_m_75
    refine c_putF (nx := 193) (k0 := 9) (t := 2) G fl_RX0_52 (Nat.le_of_ble_eq_true rfl) (Nat.le_of_ble_eq_true rfl) rfl hI rfl fw_RX0_52 rfl (am_is_mono hob (by omega)) dX0_init_190 rfl (fun m_76 e_m_76 => ?_)
    have h := h m_76 e_m_76
    refine z_aload_n (nx := 194) (a := 0) G rfl (Or.inl rfl) dX0_init_193 rfl ?_
    refine z_iconst (nx := 195) (z := (-1)) G (R32c rfl) dX0_init_194 rfl ?_
    refine c_put (nx := 198) (k0 := 11) (t := 0) G fl_RX0_56 (Nat.le_of_ble_eq_true rfl) (Nat.le_of_ble_eq_true rfl) rfl rfl (am_is_mono hob (by omega)) dX0_init_195 rfl (fun m_77 e_m_77 => ?_)
    have h := h m_77 e_m_77
    have ecur : n + 1 + 1 + 1 + 1 + 1 + 1 + 1 + 1 + 1 + 1 + 1 + 2 + 1 + 1 + 1 + 1 + 1 + 3 + 1 + 3 + 1 + 3 + 1 + 3 + 1 + 3 + 1 + 3 = n + 41 := by omega
    exact z_return G hP ((he _).mpr ecur) dX0_init_198 ⟨ecur, ecur.symm ▸ h⟩
theorem fw_RX2_13 : Cond.fieldLink RX2 13 (am_C 2) (am_T 2 0).2.1 (am_T 2 0).2.2.1 ∈ am_TB := am_TB_mem (tb_1 (List.mem_of_getElem? (i := 230) rfl)) rfl
theorem fw_RX2_17 : Cond.fieldLink RX2 17 (am_C 2) (am_T 2 1).2.1 (am_T 2 1).2.2.1 ∈ am_TB := am_TB_mem (tb_1 (List.mem_of_getElem? (i := 231) rfl)) rfl
set_option maxRecDepth 20000 in
def C_X2_init (v0 : Int) (v1 : Int) (K : am_M → Prop) (m : am_M) (n : Nat) : Prop :=
  ((0 : Int) ≤ 504 ∧ 504 ≤ (100000 : Int) ∧ am_sh n = (20, Int.toNat 504)) ∧
  ∀ m_2 : am_M, m_2 = am_fr m n →
  ∀ m_3 : am_M, m_3 = am_st m_2 v0 0 ((n : Nat) : Int) →
  ∀ m_4 : am_M, m_4 = am_st m_3 v0 1 v1 →
  K m_4
set_option maxRecDepth 20000 in
def CT_X2_init : am_T3 := fun as post m n => ∃ v0 v1 : Int, as = [(2, v0), (2, v1)] ∧ am_is n v0 2 ∧ C_X2_init v0 v1 (fun m' => post none m' (n + 1)) m n
theorem qp_X2_init : (parseMethodDescriptor yX2_init.desc).map (fun d => d.parameters.length) = some 1 := by decide +kernel
set_option maxRecDepth 20000 in
theorem C_X2_init_mono {v0 v1 : Int} {K K' : am_M → Prop} {m : am_M} {n : Nat} (h : C_X2_init v0 v1 K m n) (hK : ∀ x, K x → K' x) : C_X2_init v0 v1 K' m n := by
  unfold C_X2_init at h ⊢
  obtain ⟨q_5, h⟩ := h
  refine ⟨q_5, ?_⟩
  intro m_2 e_m_2
  have h := h m_2 e_m_2
  intro m_3 e_m_3
  have h := h m_3 e_m_3
  intro m_4 e_m_4
  have h := h m_4 e_m_4
  exact hK _ h
set_option maxRecDepth 20000 in
theorem CC_X2_init {v0 v1 : Int} {K1 : am_M → Prop} {m : am_M} {n : Nat} (hob : am_is n v0 2) (h : C_X2_init v0 v1 K1 m n) : CT_X2_init [(2, v0), (2, v1)] (fun r m' n' => r = none ∧ K1 m') m n := ⟨v0, v1, rfl, hob, C_X2_init_mono h (fun x hx => ⟨rfl, hx⟩)⟩
set_option maxRecDepth 20000 in
set_option maxHeartbeats 4000000 in
theorem SC_X2_init : am_Snd yX2_init cX2_init 2 none 1 0 CT_X2_init := by
  refine am_SndOf (by decide +kernel) ?_ ?_
  · rintro as post m n ⟨v0, v1, rfl, -⟩
    exact Nat.le_of_ble_eq_true rfl
  · rintro F post as m n G hP - hdd hl he hI ⟨v0, v1, rfl, hob, h⟩
    have hI := hI rfl
    have G : am_G F cX2_init RX2 := G
    change am_Z F 0 [] [(2, v0), (2, v1)] m n
    unfold C_X2_init at h
    refine z_aload_n (nx := 1) (a := 0) G rfl (Or.inl rfl) dX2_init_0 rfl ?_
    refine z_objInit (nx := 4) G hob.1 ml_RX2_3 (Nat.le_of_ble_eq_true rfl) dX2_init_1 rfl ?_
    refine z_aload_n (nx := 5) (a := 0) G rfl (Or.inl rfl) dX2_init_4 rfl ?_
    refine z_sipush (nx := 8) (z := 504) G (R32c rfl) rfl dX2_init_5 rfl ?_
    obtain ⟨hs_1, h⟩ := h
    refine c_newi (nx := 10) G aw_int hs_1 ((hl _).mpr (by omega)) dX2_init_8 rfl (fun m_2 e_m_2 => ?_)
    have h := h m_2 e_m_2
    refine c_putF (nx := 13) (k0 := 0) (t := 2) G fl_RX2_13 (Nat.le_of_ble_eq_true rfl) (Nat.le_of_ble_eq_true rfl) rfl hI rfl fw_RX2_13 rfl (am_is_mono hob (by omega)) dX2_init_10 rfl (fun m_3 e_m_3 => ?_)
    have h := h m_3 e_m_3
    refine z_aload_n (nx := 14) (a := 0) G rfl (Or.inl rfl) dX2_init_13 rfl ?_
    refine z_aload_n (nx := 15) (a := 1) G rfl (Or.inl rfl) dX2_init_14 rfl ?_
    refine c_putF (nx := 18) (k0 := 1) (t := 2) G fl_RX2_17 (Nat.le_of_ble_eq_true rfl) (Nat.le_of_ble_eq_true rfl) rfl hI rfl fw_RX2_17 rfl (am_is_mono hob (by omega)) dX2_init_15 rfl (fun m_4 e_m_4 => ?_)
    have h := h m_4 e_m_4
    have ecur : n + 1 = n + 1 := by omega
    exact z_return G hP ((he _).mpr ecur) dX2_init_18 ⟨ecur, ecur.symm ▸ h⟩
theorem fw_RX5_15 : Cond.fieldLink RX5 15 (am_C 5) (am_T 5 0).2.1 (am_T 5 0).2.2.1 ∈ am_TB := am_TB_mem (tb_1 (List.mem_of_getElem? (i := 176) rfl)) rfl
theorem fw_RX5_19 : Cond.fieldLink RX5 19 (am_C 5) (am_T 5 1).2.1 (am_T 5 1).2.2.1 ∈ am_TB := am_TB_mem (tb_1 (List.mem_of_getElem? (i := 177) rfl)) rfl
set_option maxRecDepth 20000 in
def C_X5_init (v0 : Int) (v1 : Int) (v2 : Int) (K : am_M → Prop) (m : am_M) (n : Nat) : Prop :=
  ∀ m_1 : am_M, m_1 = am_st m v0 6 (-1) →
  ∀ m_2 : am_M, m_2 = am_st m_1 v0 0 v1 →
  ∀ m_3 : am_M, m_3 = am_st m_2 v0 1 v2 →
  K m_3
set_option maxRecDepth 20000 in
def CT_X5_init : am_T3 := fun as post m n => ∃ v0 v1 v2 : Int, as = [(2, v0), (2, v1), (2, v2)] ∧ am_is n v0 5 ∧ C_X5_init v0 v1 v2 (fun m' => post none m' (n + 0)) m n
theorem qp_X5_init : (parseMethodDescriptor yX5_init.desc).map (fun d => d.parameters.length) = some 2 := by decide +kernel
set_option maxRecDepth 20000 in
theorem C_X5_init_mono {v0 v1 v2 : Int} {K K' : am_M → Prop} {m : am_M} {n : Nat} (h : C_X5_init v0 v1 v2 K m n) (hK : ∀ x, K x → K' x) : C_X5_init v0 v1 v2 K' m n := by
  unfold C_X5_init at h ⊢
  intro m_1 e_m_1
  have h := h m_1 e_m_1
  intro m_2 e_m_2
  have h := h m_2 e_m_2
  intro m_3 e_m_3
  have h := h m_3 e_m_3
  exact hK _ h
set_option maxRecDepth 20000 in
theorem CC_X5_init {v0 v1 v2 : Int} {K1 : am_M → Prop} {m : am_M} {n : Nat} (hob : am_is n v0 5) (h : C_X5_init v0 v1 v2 K1 m n) : CT_X5_init [(2, v0), (2, v1), (2, v2)] (fun r m' n' => r = none ∧ K1 m') m n := ⟨v0, v1, v2, rfl, hob, C_X5_init_mono h (fun x hx => ⟨rfl, hx⟩)⟩
set_option maxRecDepth 20000 in
set_option maxHeartbeats 4000000 in
theorem SC_X5_init : am_Snd yX5_init cX5_init 3 none 0 0 CT_X5_init := by
  refine am_SndOf (by decide +kernel) ?_ ?_
  · rintro as post m n ⟨v0, v1, v2, rfl, -⟩
    exact Nat.le_of_ble_eq_true rfl
  · rintro F post as m n G hP - hdd hl he hI ⟨v0, v1, v2, rfl, hob, h⟩
    have hI := hI rfl
    have G : am_G F cX5_init RX5 := G
    change am_Z F 0 [] [(2, v0), (2, v1), (2, v2)] m n
    unfold C_X5_init at h
    refine z_aload_n (nx := 1) (a := 0) G rfl (Or.inl rfl) dX5_init_0 rfl ?_
    refine z_objInit (nx := 4) G hob.1 ml_RX5_3 (Nat.le_of_ble_eq_true rfl) dX5_init_1 rfl ?_
    refine z_aload_n (nx := 5) (a := 0) G rfl (Or.inl rfl) dX5_init_4 rfl ?_
    refine z_iconst (nx := 6) (z := (-1)) G (R32c rfl) dX5_init_5 rfl ?_
    refine c_put (nx := 9) (k0 := 6) (t := 0) G fl_RX5_9 (Nat.le_of_ble_eq_true rfl) (Nat.le_of_ble_eq_true rfl) rfl rfl (am_is_mono hob (by omega)) dX5_init_6 rfl (fun m_1 e_m_1 => ?_)
    have h := h m_1 e_m_1
    refine z_aload_n (nx := 10) (a := 0) G rfl (Or.inl rfl) dX5_init_9 rfl ?_
    refine z_aload_n (nx := 11) (a := 1) G rfl (Or.inl rfl) dX5_init_10 rfl ?_
    refine c_putF (nx := 14) (k0 := 0) (t := 2) G fl_RX5_15 (Nat.le_of_ble_eq_true rfl) (Nat.le_of_ble_eq_true rfl) rfl hI rfl fw_RX5_15 rfl (am_is_mono hob (by omega)) dX5_init_11 rfl (fun m_2 e_m_2 => ?_)
    have h := h m_2 e_m_2
    refine z_aload_n (nx := 15) (a := 0) G rfl (Or.inl rfl) dX5_init_14 rfl ?_
    refine z_aload_n (nx := 16) (a := 2) G rfl (Or.inl rfl) dX5_init_15 rfl ?_
    refine c_putF (nx := 19) (k0 := 1) (t := 2) G fl_RX5_19 (Nat.le_of_ble_eq_true rfl) (Nat.le_of_ble_eq_true rfl) rfl hI rfl fw_RX5_19 rfl (am_is_mono hob (by omega)) dX5_init_16 rfl (fun m_3 e_m_3 => ?_)
    have h := h m_3 e_m_3
    have ecur : n = n + 0 := by omega
    exact z_return G hP ((he _).mpr ecur) dX5_init_19 ⟨ecur, ecur.symm ▸ h⟩
theorem fw_RX11_10 : Cond.fieldLink RX11 10 (am_C 11) (am_T 11 0).2.1 (am_T 11 0).2.2.1 ∈ am_TB := am_TB_mem (tb_2 (List.mem_of_getElem? (i := 70) rfl)) rfl
theorem fw_RX11_16 : Cond.fieldLink RX11 16 (am_C 11) (am_T 11 1).2.1 (am_T 11 1).2.2.1 ∈ am_TB := am_TB_mem (tb_2 (List.mem_of_getElem? (i := 71) rfl)) rfl
theorem fw_RX11_20 : Cond.fieldLink RX11 20 (am_C 11) (am_T 11 2).2.1 (am_T 11 2).2.2.1 ∈ am_TB := am_TB_mem (tb_2 (List.mem_of_getElem? (i := 72) rfl)) rfl
theorem fw_RX11_29 : Cond.fieldLink RX11 29 (am_C 11) (am_T 11 3).2.1 (am_T 11 3).2.2.1 ∈ am_TB := am_TB_mem (tb_2 (List.mem_of_getElem? (i := 73) rfl)) rfl
theorem fw_RX11_36 : Cond.fieldLink RX11 36 (am_C 11) (am_T 11 4).2.1 (am_T 11 4).2.2.1 ∈ am_TB := am_TB_mem (tb_2 (List.mem_of_getElem? (i := 74) rfl)) rfl
theorem fw_RX11_45 : Cond.fieldLink RX11 45 (am_C 11) (am_T 11 5).2.1 (am_T 11 5).2.2.1 ∈ am_TB := am_TB_mem (tb_2 (List.mem_of_getElem? (i := 75) rfl)) rfl
theorem fw_RX11_52 : Cond.fieldLink RX11 52 (am_C 11) (am_T 11 6).2.1 (am_T 11 6).2.2.1 ∈ am_TB := am_TB_mem (tb_2 (List.mem_of_getElem? (i := 76) rfl)) rfl
theorem fw_RX11_61 : Cond.fieldLink RX11 61 (am_C 11) (am_T 11 7).2.1 (am_T 11 7).2.2.1 ∈ am_TB := am_TB_mem (tb_2 (List.mem_of_getElem? (i := 77) rfl)) rfl
theorem fw_RX11_68 : Cond.fieldLink RX11 68 (am_C 11) (am_T 11 8).2.1 (am_T 11 8).2.2.1 ∈ am_TB := am_TB_mem (tb_2 (List.mem_of_getElem? (i := 78) rfl)) rfl
theorem fw_RX11_72 : Cond.fieldLink RX11 72 (am_C 11) (am_T 11 9).2.1 (am_T 11 9).2.2.1 ∈ am_TB := am_TB_mem (tb_2 (List.mem_of_getElem? (i := 79) rfl)) rfl
theorem fw_RX11_75 : Cond.fieldLink RX11 75 (am_C 11) (am_T 11 10).2.1 (am_T 11 10).2.2.1 ∈ am_TB := am_TB_mem (tb_2 (List.mem_of_getElem? (i := 80) rfl)) rfl
theorem fw_RX11_78 : Cond.fieldLink RX11 78 (am_C 11) (am_T 11 11).2.1 (am_T 11 11).2.2.1 ∈ am_TB := am_TB_mem (tb_2 (List.mem_of_getElem? (i := 81) rfl)) rfl
theorem fw_RX11_84 : Cond.fieldLink RX11 84 (am_C 11) (am_T 11 12).2.1 (am_T 11 12).2.2.1 ∈ am_TB := am_TB_mem (tb_2 (List.mem_of_getElem? (i := 82) rfl)) rfl
theorem fw_RX11_91 : Cond.fieldLink RX11 91 (am_C 11) (am_T 11 13).2.1 (am_T 11 13).2.2.1 ∈ am_TB := am_TB_mem (tb_2 (List.mem_of_getElem? (i := 83) rfl)) rfl
theorem fw_RX11_98 : Cond.fieldLink RX11 98 (am_C 11) (am_T 11 14).2.1 (am_T 11 14).2.2.1 ∈ am_TB := am_TB_mem (tb_2 (List.mem_of_getElem? (i := 84) rfl)) rfl
theorem fw_RX11_102 : Cond.fieldLink RX11 102 (am_C 11) (am_T 11 15).2.1 (am_T 11 15).2.2.1 ∈ am_TB := am_TB_mem (tb_2 (List.mem_of_getElem? (i := 85) rfl)) rfl
theorem fw_RX11_106 : Cond.fieldLink RX11 106 (am_C 11) (am_T 11 16).2.1 (am_T 11 16).2.2.1 ∈ am_TB := am_TB_mem (tb_2 (List.mem_of_getElem? (i := 86) rfl)) rfl
set_option maxRecDepth 20000 in
def C_X11_init (v0 : Int) (K : am_M → Prop) (m : am_M) (n : Nat) : Prop :=
  am_sh n = (0, am_N 0) ∧
  ∀ m_2 : am_M, m_2 = am_fr m n →
  C_X0_init ((n : Nat) : Int) (fun m_3 =>
  ∀ m_5 : am_M, m_5 = am_st m_3 v0 0 ((n : Nat) : Int) →
  ((0 : Int) ≤ 2 ∧ 2 ≤ (100000 : Int) ∧ am_sh (n + 1 + 41) = (24, Int.toNat 2)) ∧
  ∀ m_7 : am_M, m_7 = am_fr m_5 (n + 1 + 41) →
  am_sh (n + 1 + 41 + 1) = (0, am_N 0) ∧
  ∀ m_9 : am_M, m_9 = am_fr m_7 (n + 1 + 41 + 1) →
  C_X0_init ((n + 1 + 41 + 1 : Nat) : Int) (fun m_10 =>
  ∀ m_12 : am_M, m_12 = am_st m_10 ((n + 1 + 41 : Nat) : Int) 0 ((n + 1 + 41 + 1 : Nat) : Int) →
  am_sh (n + 1 + 41 + 1 + 1 + 41) = (0, am_N 0) ∧
  ∀ m_14 : am_M, m_14 = am_fr m_12 (n + 1 + 41 + 1 + 1 + 41) →
  C_X0_init ((n + 1 + 41 + 1 + 1 + 41 : Nat) : Int) (fun m_15 =>
  ∀ m_17 : am_M, m_17 = am_st m_15 ((n + 1 + 41 : Nat) : Int) 1 ((n + 1 + 41 + 1 + 1 + 41 : Nat) : Int) →
  ∀ m_18 : am_M, m_18 = am_st m_17 v0 1 ((n + 1 + 41 : Nat) : Int) →
  ((0 : Int) ≤ 2 ∧ 2 ≤ (100000 : Int) ∧ am_sh (n + 1 + 41 + 1 + 1 + 41 + 1 + 41) = (22, Int.toNat 2)) ∧
  ∀ m_20 : am_M, m_20 = am_fr m_18 (n + 1 + 41 + 1 + 1 + 41 + 1 + 41) →
  ∀ m_21 : am_M, m_21 = am_st m_20 v0 2 ((n + 1 + 41 + 1 + 1 + 41 + 1 + 41 : Nat) : Int) →
  am_sh (n + 1 + 41 + 1 + 1 + 41 + 1 + 41 + 1) = (7, am_N 7) ∧
  ∀ m_23 : am_M, m_23 = am_fr m_21 (n + 1 + 41 + 1 + 1 + 41 + 1 + 41 + 1) →
  C_X7_init ((n + 1 + 41 + 1 + 1 + 41 + 1 + 41 + 1 : Nat) : Int) 400 1 (fun m_24 =>
  ∀ m_26 : am_M, m_26 = am_st m_24 v0 3 ((n + 1 + 41 + 1 + 1 + 41 + 1 + 41 + 1 : Nat) : Int) →
  am_sh (n + 1 + 41 + 1 + 1 + 41 + 1 + 41 + 1 + 1 + 1) = (4, am_N 4) ∧
  ∀ m_28 : am_M, m_28 = am_fr m_26 (n + 1 + 41 + 1 + 1 + 41 + 1 + 41 + 1 + 1 + 1) →
  C_X4_init ((n + 1 + 41 + 1 + 1 + 41 + 1 + 41 + 1 + 1 + 1 : Nat) : Int) (fun m_29 =>
  ∀ m_31 : am_M, m_31 = am_st m_29 v0 4 ((n + 1 + 41 + 1 + 1 + 41 + 1 + 41 + 1 + 1 + 1 : Nat) : Int) →
  am_sh (n + 1 + 41 + 1 + 1 + 41 + 1 + 41 + 1 + 1 + 1 + 1 + 3) = (5, am_N 5) ∧
  ∀ m_33 : am_M, m_33 = am_fr m_31 (n + 1 + 41 + 1 + 1 + 41 + 1 + 41 + 1 + 1 + 1 + 1 + 3) →
  C_X5_init ((n + 1 + 41 + 1 + 1 + 41 + 1 + 41 + 1 + 1 + 1 + 1 + 3 : Nat) : Int) (m_33 v0 3) (m_33 v0 4) (fun m_34 =>
  ∀ m_36 : am_M, m_36 = am_st m_34 v0 5 ((n + 1 + 41 + 1 + 1 + 41 + 1 + 41 + 1 + 1 + 1 + 1 + 3 : Nat) : Int) →
  am_sh (n + 1 + 41 + 1 + 1 + 41 + 1 + 41 + 1 + 1 + 1 + 1 + 3 + 1) = (3, am_N 3) ∧
  ∀ m_38 : am_M, m_38 = am_fr m_36 (n + 1 + 41 + 1 + 1 + 41 + 1 + 41 + 1 + 1 + 1 + 1 + 3 + 1) →
  C_X3_init ((n + 1 + 41 + 1 + 1 + 41 + 1 + 41 + 1 + 1 + 1 + 1 + 3 + 1 : Nat) : Int) (fun m_39 =>
  ∀ m_41 : am_M, m_41 = am_st m_39 v0 6 ((n + 1 + 41 + 1 + 1 + 41 + 1 + 41 + 1 + 1 + 1 + 1 + 3 + 1 : Nat) : Int) →
  am_sh (n + 1 + 41 + 1 + 1 + 41 + 1 + 41 + 1 + 1 + 1 + 1 + 3 + 1 + 1 + 3) = (2, am_N 2) ∧
  ∀ m_43 : am_M, m_43 = am_fr m_41 (n + 1 + 41 + 1 + 1 + 41 + 1 + 41 + 1 + 1 + 1 + 1 + 3 + 1 + 1 + 3) →
  C_X2_init ((n + 1 + 41 + 1 + 1 + 41 + 1 + 41 + 1 + 1 + 1 + 1 + 3 + 1 + 1 + 3 : Nat) : Int) (m_43 v0 6) (fun m_44 =>
  ∀ m_46 : am_M, m_46 = am_st m_44 v0 7 ((n + 1 + 41 + 1 + 1 + 41 + 1 + 41 + 1 + 1 + 1 + 1 + 3 + 1 + 1 + 3 : Nat) : Int) →
  am_sh (n + 1 + 41 + 1 + 1 + 41 + 1 + 41 + 1 + 1 + 1 + 1 + 3 + 1 + 1 + 3 + 1 + 1) = (9, am_N 9) ∧
  ∀ m_48 : am_M, m_48 = am_fr m_46 (n + 1 + 41 + 1 + 1 + 41 + 1 + 41 + 1 + 1 + 1 + 1 + 3 + 1 + 1 + 3 + 1 + 1) →
  C_X9_init ((n + 1 + 41 + 1 + 1 + 41 + 1 + 41 + 1 + 1 + 1 + 1 + 3 + 1 + 1 + 3 + 1 + 1 : Nat) : Int) (fun m_49 =>
  ∀ m_51 : am_M, m_51 = am_st m_49 v0 8 ((n + 1 + 41 + 1 + 1 + 41 + 1 + 41 + 1 + 1 + 1 + 1 + 3 + 1 + 1 + 3 + 1 + 1 : Nat) : Int) →
  am_sh (n + 1 + 41 + 1 + 1 + 41 + 1 + 41 + 1 + 1 + 1 + 1 + 3 + 1 + 1 + 3 + 1 + 1 + 1 + 2) = (9, am_N 9) ∧
  ∀ m_53 : am_M, m_53 = am_fr m_51 (n + 1 + 41 + 1 + 1 + 41 + 1 + 41 + 1 + 1 + 1 + 1 + 3 + 1 + 1 + 3 + 1 + 1 + 1 + 2) →
  C_X9_init ((n + 1 + 41 + 1 + 1 + 41 + 1 + 41 + 1 + 1 + 1 + 1 + 3 + 1 + 1 + 3 + 1 + 1 + 1 + 2 : Nat) : Int) (fun m_54 =>
  ∀ m_56 : am_M, m_56 = am_st m_54 v0 9 ((n + 1 + 41 + 1 + 1 + 41 + 1 + 41 + 1 + 1 + 1 + 1 + 3 + 1 + 1 + 3 + 1 + 1 + 1 + 2 : Nat) : Int) →
  am_sh (n + 1 + 41 + 1 + 1 + 41 + 1 + 41 + 1 + 1 + 1 + 1 + 3 + 1 + 1 + 3 + 1 + 1 + 1 + 2 + 1 + 2) = (7, am_N 7) ∧
  ∀ m_58 : am_M, m_58 = am_fr m_56 (n + 1 + 41 + 1 + 1 + 41 + 1 + 41 + 1 + 1 + 1 + 1 + 3 + 1 + 1 + 3 + 1 + 1 + 1 + 2 + 1 + 2) →
  C_X7_init ((n + 1 + 41 + 1 + 1 + 41 + 1 + 41 + 1 + 1 + 1 + 1 + 3 + 1 + 1 + 3 + 1 + 1 + 1 + 2 + 1 + 2 : Nat) : Int) 16 1 (fun m_59 =>
  ∀ m_61 : am_M, m_61 = am_st m_59 v0 10 ((n + 1 + 41 + 1 + 1 + 41 + 1 + 41 + 1 + 1 + 1 + 1 + 3 + 1 + 1 + 3 + 1 + 1 + 1 + 2 + 1 + 2 : Nat) : Int) →
  am_sh (n + 1 + 41 + 1 + 1 + 41 + 1 + 41 + 1 + 1 + 1 + 1 + 3 + 1 + 1 + 3 + 1 + 1 + 1 + 2 + 1 + 2 + 1 + 1) = (7, am_N 7) ∧
  ∀ m_63 : am_M, m_63 = am_fr m_61 (n + 1 + 41 + 1 + 1 + 41 + 1 + 41 + 1 + 1 + 1 + 1 + 3 + 1 + 1 + 3 + 1 + 1 + 1 + 2 + 1 + 2 + 1 + 1) →
  C_X7_init ((n + 1 + 41 + 1 + 1 + 41 + 1 + 41 + 1 + 1 + 1 + 1 + 3 + 1 + 1 + 3 + 1 + 1 + 1 + 2 + 1 + 2 + 1 + 1 : Nat) : Int) 16 1 (fun m_64 =>
  ∀ m_66 : am_M, m_66 = am_st m_64 v0 11 ((n + 1 + 41 + 1 + 1 + 41 + 1 + 41 + 1 + 1 + 1 + 1 + 3 + 1 + 1 + 3 + 1 + 1 + 1 + 2 + 1 + 2 + 1 + 1 : Nat) : Int) →
  am_sh (n + 1 + 41 + 1 + 1 + 41 + 1 + 41 + 1 + 1 + 1 + 1 + 3 + 1 + 1 + 3 + 1 + 1 + 1 + 2 + 1 + 2 + 1 + 1 + 1 + 1) = (10, am_N 10) ∧
  ∀ m_68 : am_M, m_68 = am_fr m_66 (n + 1 + 41 + 1 + 1 + 41 + 1 + 41 + 1 + 1 + 1 + 1 + 3 + 1 + 1 + 3 + 1 + 1 + 1 + 2 + 1 + 2 + 1 + 1 + 1 + 1) →
  C_X10_init ((n + 1 + 41 + 1 + 1 + 41 + 1 + 41 + 1 + 1 + 1 + 1 + 3 + 1 + 1 + 3 + 1 + 1 + 1 + 2 + 1 + 2 + 1 + 1 + 1 + 1 : Nat) : Int) (fun m_69 =>
  ∀ m_71 : am_M, m_71 = am_st m_69 v0 12 ((n + 1 + 41 + 1 + 1 + 41 + 1 + 41 + 1 + 1 + 1 + 1 + 3 + 1 + 1 + 3 + 1 + 1 + 1 + 2 + 1 + 2 + 1 + 1 + 1 + 1 : Nat) : Int) →
  am_sh (n + 1 + 41 + 1 + 1 + 41 + 1 + 41 + 1 + 1 + 1 + 1 + 3 + 1 + 1 + 3 + 1 + 1 + 1 + 2 + 1 + 2 + 1 + 1 + 1 + 1 + 1 + 3) = (1, am_N 1) ∧
  ∀ m_73 : am_M, m_73 = am_fr m_71 (n + 1 + 41 + 1 + 1 + 41 + 1 + 41 + 1 + 1 + 1 + 1 + 3 + 1 + 1 + 3 + 1 + 1 + 1 + 2 + 1 + 2 + 1 + 1 + 1 + 1 + 1 + 3) →
  C_X1_init ((n + 1 + 41 + 1 + 1 + 41 + 1 + 41 + 1 + 1 + 1 + 1 + 3 + 1 + 1 + 3 + 1 + 1 + 1 + 2 + 1 + 2 + 1 + 1 + 1 + 1 + 1 + 3 : Nat) : Int) (fun m_74 =>
  ∀ m_76 : am_M, m_76 = am_st m_74 v0 13 ((n + 1 + 41 + 1 + 1 + 41 + 1 + 41 + 1 + 1 + 1 + 1 + 3 + 1 + 1 + 3 + 1 + 1 + 1 + 2 + 1 + 2 + 1 + 1 + 1 + 1 + 1 + 3 : Nat) : Int) →
  am_sh (n + 1 + 41 + 1 + 1 + 41 + 1 + 41 + 1 + 1 + 1 + 1 + 3 + 1 + 1 + 3 + 1 + 1 + 1 + 2 + 1 + 2 + 1 + 1 + 1 + 1 + 1 + 3 + 1 + 6) = (8, am_N 8) ∧
  ∀ m_78 : am_M, m_78 = am_fr m_76 (n + 1 + 41 + 1 + 1 + 41 + 1 + 41 + 1 + 1 + 1 + 1 + 3 + 1 + 1 + 3 + 1 + 1 + 1 + 2 + 1 + 2 + 1 + 1 + 1 + 1 + 1 + 3 + 1 + 6) →
  C_X8_init ((n + 1 + 41 + 1 + 1 + 41 + 1 + 41 + 1 + 1 + 1 + 1 + 3 + 1 + 1 + 3 + 1 + 1 + 1 + 2 + 1 + 2 + 1 + 1 + 1 + 1 + 1 + 3 + 1 + 6 : Nat) : Int) (fun m_79 =>
  ∀ m_81 : am_M, m_81 = am_st m_79 v0 14 ((n + 1 + 41 + 1 + 1 + 41 + 1 + 41 + 1 + 1 + 1 + 1 + 3 + 1 + 1 + 3 + 1 + 1 + 1 + 2 + 1 + 2 + 1 + 1 + 1 + 1 + 1 + 3 + 1 + 6 : Nat) : Int) →
  ((0 : Int) ≤ 24 ∧ 24 ≤ (100000 : Int) ∧ am_sh (n + 1 + 41 + 1 + 1 + 41 + 1 + 41 + 1 + 1 + 1 + 1 + 3 + 1 + 1 + 3 + 1 + 1 + 1 + 2 + 1 + 2 + 1 + 1 + 1 + 1 + 1 + 3 + 1 + 6 + 1 + 2) = (20, Int.toNat 24)) ∧
  ∀ m_83 : am_M, m_83 = am_fr m_81 (n + 1 + 41 + 1 + 1 + 41 + 1 + 41 + 1 + 1 + 1 + 1 + 3 + 1 + 1 + 3 + 1 + 1 + 1 + 2 + 1 + 2 + 1 + 1 + 1 + 1 + 1 + 3 + 1 + 6 + 1 + 2) →
  ∀ m_84 : am_M, m_84 = am_st m_83 v0 15 ((n + 1 + 41 + 1 + 1 + 41 + 1 + 41 + 1 + 1 + 1 + 1 + 3 + 1 + 1 + 3 + 1 + 1 + 1 + 2 + 1 + 2 + 1 + 1 + 1 + 1 + 1 + 3 + 1 + 6 + 1 + 2 : Nat) : Int) →
  ((0 : Int) ≤ 7 ∧ 7 ≤ (100000 : Int) ∧ am_sh (n + 1 + 41 + 1 + 1 + 41 + 1 + 41 + 1 + 1 + 1 + 1 + 3 + 1 + 1 + 3 + 1 + 1 + 1 + 2 + 1 + 2 + 1 + 1 + 1 + 1 + 1 + 3 + 1 + 6 + 1 + 2 + 1) = (20, Int.toNat 7)) ∧
  ∀ m_86 : am_M, m_86 = am_fr m_84 (n + 1 + 41 + 1 + 1 + 41 + 1 + 41 + 1 + 1 + 1 + 1 + 3 + 1 + 1 + 3 + 1 + 1 + 1 + 2 + 1 + 2 + 1 + 1 + 1 + 1 + 1 + 3 + 1 + 6 + 1 + 2 + 1) →
  ∀ m_87 : am_M, m_87 = am_st m_86 v0 16 ((n + 1 + 41 + 1 + 1 + 41 + 1 + 41 + 1 + 1 + 1 + 1 + 3 + 1 + 1 + 3 + 1 + 1 + 1 + 2 + 1 + 2 + 1 + 1 + 1 + 1 + 1 + 3 + 1 + 6 + 1 + 2 + 1 : Nat) : Int) →
  ∀ m_88 : am_M, m_88 = am_st m_87 v0 19 (-1) →
  K m_88) m_78 (n + 1 + 41 + 1 + 1 + 41 + 1 + 41 + 1 + 1 + 1 + 1 + 3 + 1 + 1 + 3 + 1 + 1 + 1 + 2 + 1 + 2 + 1 + 1 + 1 + 1 + 1 + 3 + 1 + 6 + 1)) m_73 (n + 1 + 41 + 1 + 1 + 41 + 1 + 41 + 1 + 1 + 1 + 1 + 3 + 1 + 1 + 3 + 1 + 1 + 1 + 2 + 1 + 2 + 1 + 1 + 1 + 1 + 1 + 3 + 1)) m_68 (n + 1 + 41 + 1 + 1 + 41 + 1 + 41 + 1 + 1 + 1 + 1 + 3 + 1 + 1 + 3 + 1 + 1 + 1 + 2 + 1 + 2 + 1 + 1 + 1 + 1 + 1)) m_63 (n + 1 + 41 + 1 + 1 + 41 + 1 + 41 + 1 + 1 + 1 + 1 + 3 + 1 + 1 + 3 + 1 + 1 + 1 + 2 + 1 + 2 + 1 + 1 + 1)) m_58 (n + 1 + 41 + 1 + 1 + 41 + 1 + 41 + 1 + 1 + 1 + 1 + 3 + 1 + 1 + 3 + 1 + 1 + 1 + 2 + 1 + 2 + 1)) m_53 (n + 1 + 41 + 1 + 1 + 41 + 1 + 41 + 1 + 1 + 1 + 1 + 3 + 1 + 1 + 3 + 1 + 1 + 1 + 2 + 1)) m_48 (n + 1 + 41 + 1 + 1 + 41 + 1 + 41 + 1 + 1 + 1 + 1 + 3 + 1 + 1 + 3 + 1 + 1 + 1)) m_43 (n + 1 + 41 + 1 + 1 + 41 + 1 + 41 + 1 + 1 + 1 + 1 + 3 + 1 + 1 + 3 + 1)) m_38 (n + 1 + 41 + 1 + 1 + 41 + 1 + 41 + 1 + 1 + 1 + 1 + 3 + 1 + 1)) m_33 (n + 1 + 41 + 1 + 1 + 41 + 1 + 41 + 1 + 1 + 1 + 1 + 3 + 1)) m_28 (n + 1 + 41 + 1 + 1 + 41 + 1 + 41 + 1 + 1 + 1 + 1)) m_23 (n + 1 + 41 + 1 + 1 + 41 + 1 + 41 + 1 + 1)) m_14 (n + 1 + 41 + 1 + 1 + 41 + 1)) m_9 (n + 1 + 41 + 1 + 1)) m_2 (n + 1)
set_option maxRecDepth 20000 in
def CT_X11_init : am_T3 := fun as post m n => ∃ v0 : Int, as = [(2, v0)] ∧ am_is n v0 11 ∧ C_X11_init v0 (fun m' => post none m' (n + 167)) m n
theorem qp_X11_init : (parseMethodDescriptor yX11_init.desc).map (fun d => d.parameters.length) = some 0 := by decide +kernel
set_option maxRecDepth 20000 in
theorem C_X11_init_mono {v0 : Int} {K K' : am_M → Prop} {m : am_M} {n : Nat} (h : C_X11_init v0 K m n) (hK : ∀ x, K x → K' x) : C_X11_init v0 K' m n := by
  unfold C_X11_init at h ⊢
  obtain ⟨q_89, h⟩ := h
  refine ⟨q_89, ?_⟩
  intro m_2 e_m_2
  have h := h m_2 e_m_2
  refine C_X0_init_mono h (fun m_3 h => ?_)
  intro m_5 e_m_5
  have h := h m_5 e_m_5
  obtain ⟨q_90, h⟩ := h
  refine ⟨q_90, ?_⟩
  intro m_7 e_m_7
  have h := h m_7 e_m_7
  obtain ⟨q_91, h⟩ := h
  refine ⟨q_91, ?_⟩
  intro m_9 e_m_9
  have h := h m_9 e_m_9
  refine C_X0_init_mono h (fun m_10 h => ?_)
  intro m_12 e_m_12
  have h := h m_12 e_m_12
  obtain ⟨q_92, h⟩ := h
  refine ⟨q_92, ?_⟩
  intro m_14 e_m_14
  have h := h m_14 e_m_14
  refine C_X0_init_mono h (fun m_15 h => ?_)
  intro m_17 e_m_17
  have h := h m_17 e_m_17
  intro m_18 e_m_18
  have h := h m_18 e_m_18
  obtain ⟨q_93, h⟩ := h
  refine ⟨q_93, ?_⟩
  intro m_20 e_m_20
  have h := h m_20 e_m_20
  intro m_21 e_m_21
  have h := h m_21 e_m_21
  obtain ⟨q_94, h⟩ := h
  refine ⟨q_94, ?_⟩
  intro m_23 e_m_23
  have h := h m_23 e_m_23
  refine C_X7_init_mono h (fun m_24 h => ?_)
  intro m_26 e_m_26
  have h := h m_26 e_m_26
  obtain ⟨q_95, h⟩ := h
  refine ⟨q_95, ?_⟩
  intro m_28 e_m_28
  have h := h m_28 e_m_28
  refine C_X4_init_mono h (fun m_29 h => ?_)
  intro m_31 e_m_31
  have h := h m_31 e_m_31
  obtain ⟨q_96, h⟩ := h
  refine ⟨q_96, ?_⟩
  intro m_33 e_m_33
  have h := h m_33 e_m_33
  refine C_X5_init_mono h (fun m_34 h => ?_)
  intro m_36 e_m_36
  have h := h m_36 e_m_36
  obtain ⟨q_97, h⟩ := h
  refine ⟨q_97, ?_⟩
  intro m_38 e_m_38
  have h := h m_38 e_m_38
  refine C_X3_init_mono h (fun m_39 h => ?_)
  intro m_41 e_m_41
  have h := h m_41 e_m_41
  obtain ⟨q_98, h⟩ := h
  refine ⟨q_98, ?_⟩
  intro m_43 e_m_43
  have h := h m_43 e_m_43
  refine C_X2_init_mono h (fun m_44 h => ?_)
  intro m_46 e_m_46
  have h := h m_46 e_m_46
  obtain ⟨q_99, h⟩ := h
  refine ⟨q_99, ?_⟩
  intro m_48 e_m_48
  have h := h m_48 e_m_48
  refine C_X9_init_mono h (fun m_49 h => ?_)
  intro m_51 e_m_51
  have h := h m_51 e_m_51
  obtain ⟨q_100, h⟩ := h
  refine ⟨q_100, ?_⟩
  intro m_53 e_m_53
  have h := h m_53 e_m_53
  refine C_X9_init_mono h (fun m_54 h => ?_)
  intro m_56 e_m_56
  have h := h m_56 e_m_56
  obtain ⟨q_101, h⟩ := h
  refine ⟨q_101, ?_⟩
  intro m_58 e_m_58
  have h := h m_58 e_m_58
  refine C_X7_init_mono h (fun m_59 h => ?_)
  intro m_61 e_m_61
  have h := h m_61 e_m_61
  obtain ⟨q_102, h⟩ := h
  refine ⟨q_102, ?_⟩
  intro m_63 e_m_63
  have h := h m_63 e_m_63
  refine C_X7_init_mono h (fun m_64 h => ?_)
  intro m_66 e_m_66
  have h := h m_66 e_m_66
  obtain ⟨q_103, h⟩ := h
  refine ⟨q_103, ?_⟩
  intro m_68 e_m_68
  have h := h m_68 e_m_68
  refine C_X10_init_mono h (fun m_69 h => ?_)
  intro m_71 e_m_71
  have h := h m_71 e_m_71
  obtain ⟨q_104, h⟩ := h
  refine ⟨q_104, ?_⟩
  intro m_73 e_m_73
  have h := h m_73 e_m_73
  refine C_X1_init_mono h (fun m_74 h => ?_)
  intro m_76 e_m_76
  have h := h m_76 e_m_76
  obtain ⟨q_105, h⟩ := h
  refine ⟨q_105, ?_⟩
  intro m_78 e_m_78
  have h := h m_78 e_m_78
  refine C_X8_init_mono h (fun m_79 h => ?_)
  intro m_81 e_m_81
  have h := h m_81 e_m_81
  obtain ⟨q_106, h⟩ := h
  refine ⟨q_106, ?_⟩
  intro m_83 e_m_83
  have h := h m_83 e_m_83
  intro m_84 e_m_84
  have h := h m_84 e_m_84
  obtain ⟨q_107, h⟩ := h
  refine ⟨q_107, ?_⟩
  intro m_86 e_m_86
  have h := h m_86 e_m_86
  intro m_87 e_m_87
  have h := h m_87 e_m_87
  intro m_88 e_m_88
  have h := h m_88 e_m_88
  exact hK _ h
set_option maxRecDepth 20000 in
theorem CC_X11_init {v0 : Int} {K1 : am_M → Prop} {m : am_M} {n : Nat} (hob : am_is n v0 11) (h : C_X11_init v0 K1 m n) : CT_X11_init [(2, v0)] (fun r m' n' => r = none ∧ K1 m') m n := ⟨v0, rfl, hob, C_X11_init_mono h (fun x hx => ⟨rfl, hx⟩)⟩
set_option maxRecDepth 20000 in
set_option maxHeartbeats 4000000 in
theorem SC_X11_init : am_Snd yX11_init cX11_init 1 none 167 3 CT_X11_init := by
  refine am_SndOf (by decide +kernel) ?_ ?_
  · rintro as post m n ⟨v0, rfl, -⟩
    exact Nat.le_of_ble_eq_true rfl
  · rintro F post as m n G hP - hdd hl he hI ⟨v0, rfl, hob, h⟩
    have hI := hI rfl
    have G : am_G F cX11_init RX11 := G
    change am_Z F 0 [] [(2, v0)] m n
    unfold C_X11_init at h
    refine z_aload_n (nx := 1) (a := 0) G rfl (Or.inl rfl) dX11_init_0 rfl ?_
    refine z_objInit (nx := 4) G hob.1 ml_RX11_1 (Nat.le_of_ble_eq_true rfl) dX11_init_1 rfl ?_
    refine z_aload_n (nx := 5) (a := 0) G rfl (Or.inl rfl) dX11_init_4 rfl ?_
    obtain ⟨hs_1, h⟩ := h
    refine c_new (nx := 8) (ci := 0) G (Nat.le_of_ble_eq_true rfl) xw_RX11_7 tw_RX0 nw_RX0 hs_1 ((hl _).mpr (by omega)) dX11_init_5 rfl (fun m_2 e_m_2 => ?_)
    have h := h m_2 e_m_2
    refine z_dup (nx := 9) G (fun h => nomatch h) dX11_init_8 rfl ?_
    refine z_callIN (nx := 12) (as := []) G ((am_is_new hs_1)).1 SC_X0_init (by rw [hdd]; exact Nat.le_of_ble_eq_true rfl) (Nat.le_of_ble_eq_true rfl) ((hl _).mpr (by omega)) mn_RX11_9 iw_X0_init rfl rfl (am_plainC 0 (by decide)) cw_X0_init nw_RX0 qp_X0_init (Nat.le_of_ble_eq_true rfl) dX11_init_9 rfl (CC_X0_init (am_is_mono (am_is_new hs_1) (by omega)) h) ?_
    rintro r m_3 ⟨rfl, h⟩
    refine c_putF (nx := 15) (k0 := 0) (t := 2) G fl_RX11_10 (Nat.le_of_ble_eq_true rfl) (Nat.le_of_ble_eq_true rfl) rfl hI rfl fw_RX11_10 rfl (am_is_mono hob (by omega)) dX11_init_12 rfl (fun m_5 e_m_5 => ?_)
    have h := h m_5 e_m_5
    refine z_aload_n (nx := 16) (a := 0) G rfl (Or.inl rfl) dX11_init_15 rfl ?_
    refine z_iconst (nx := 17) (z := 2) G (R32c rfl) dX11_init_16 rfl ?_
    obtain ⟨hs_6, h⟩ := h
    refine c_newB (nx := 20) G xw_RX11_7 hs_6 ((hl _).mpr (by omega)) dX11_init_17 rfl (fun m_7 e_m_7 => ?_)
    have h := h m_7 e_m_7
    refine z_dup (nx := 21) G (fun h => nomatch h) dX11_init_20 rfl ?_
    refine z_iconst (nx := 22) (z := 0) G (R32c rfl) dX11_init_21 rfl ?_
    obtain ⟨hs_8, h⟩ := h
    refine c_new (nx := 25) (ci := 0) G (Nat.le_of_ble_eq_true rfl) xw_RX11_7 tw_RX0 nw_RX0 hs_8 ((hl _).mpr (by omega)) dX11_init_22 rfl (fun m_9 e_m_9 => ?_)
    have h := h m_9 e_m_9
    refine z_dup (nx := 26) G (fun h => nomatch h) dX11_init_25 rfl ?_
    refine z_callIN (nx := 29) (as := []) G ((am_is_new hs_8)).1 SC_X0_init (by rw [hdd]; exact Nat.le_of_ble_eq_true rfl) (Nat.le_of_ble_eq_true rfl) ((hl _).mpr (by omega)) mn_RX11_9 iw_X0_init rfl rfl (am_plainC 0 (by decide)) cw_X0_init nw_RX0 qp_X0_init (Nat.le_of_ble_eq_true rfl) dX11_init_26 rfl (CC_X0_init (am_is_mono (am_is_new hs_8) (by omega)) h) ?_
    rintro r m_10 ⟨rfl, h⟩
    refine c_aast (nx := 30) G (Or.inl ⟨rfl, rfl⟩) (am_isA_mono (am_isA_new hs_6.1 hs_6.2.2) (by omega)) (am_is_mono (am_is_new hs_8) (by omega)) (by decide) (by decide) dX11_init_29 rfl (fun m_12 e_m_12 => ?_)
    have h := h m_12 e_m_12
    refine z_dup (nx := 31) G (fun h => nomatch h) dX11_init_30 rfl ?_
    refine z_iconst (nx := 32) (z := 1) G (R32c rfl) dX11_init_31 rfl ?_
    obtain ⟨hs_13, h⟩ := h
    refine c_new (nx := 35) (ci := 0) G (Nat.le_of_ble_eq_true rfl) xw_RX11_7 tw_RX0 nw_RX0 hs_13 ((hl _).mpr (by omega)) dX11_init_32 rfl (fun m_14 e_m_14 => ?_)
    have h := h m_14 e_m_14
    refine z_dup (nx := 36) G (fun h => nomatch h) dX11_init_35 rfl ?_
    refine z_callIN (nx := 39) (as := []) G ((am_is_new hs_13)).1 SC_X0_init (by rw [hdd]; exact Nat.le_of_ble_eq_true rfl) (Nat.le_of_ble_eq_true rfl) ((hl _).mpr (by omega)) mn_RX11_9 iw_X0_init rfl rfl (am_plainC 0 (by decide)) cw_X0_init nw_RX0 qp_X0_init (Nat.le_of_ble_eq_true rfl) dX11_init_36 rfl (CC_X0_init (am_is_mono (am_is_new hs_13) (by omega)) h) ?_
    rintro r m_15 ⟨rfl, h⟩
    refine c_aast (nx := 40) G (Or.inl ⟨rfl, rfl⟩) (am_isA_mono (am_isA_new hs_6.1 hs_6.2.2) (by omega)) (am_is_mono (am_is_new hs_13) (by omega)) (by decide) (by decide) dX11_init_39 rfl (fun m_17 e_m_17 => ?_)
    have h := h m_17 e_m_17
    refine c_putF (nx := 43) (k0 := 1) (t := 2) G fl_RX11_16 (Nat.le_of_ble_eq_true rfl) (Nat.le_of_ble_eq_true rfl) rfl hI rfl fw_RX11_16 rfl (am_is_mono hob (by omega)) dX11_init_40 rfl (fun m_18 e_m_18 => ?_)
    have h := h m_18 e_m_18
    refine z_aload_n (nx := 44) (a := 0) G rfl (Or.inl rfl) dX11_init_43 rfl ?_
    refine z_iconst (nx := 45) (z := 2) G (R32c rfl) dX11_init_44 rfl ?_
    obtain ⟨hs_19, h⟩ := h
    refine c_newz (nx := 47) G aw_boolean hs_19 ((hl _).mpr (by omega)) dX11_init_45 rfl (fun m_20 e_m_20 => ?_)
    have h := h m_20 e_m_20
    refine c_putF (nx := 50) (k0 := 2) (t := 2) G fl_RX11_20 (Nat.le_of_ble_eq_true rfl) (Nat.le_of_ble_eq_true rfl) rfl hI rfl fw_RX11_20 rfl (am_is_mono hob (by omega)) dX11_init_47 rfl (fun m_21 e_m_21 => ?_)
    have h := h m_21 e_m_21
    refine z_aload_n (nx := 51) (a := 0) G rfl (Or.inl rfl) dX11_init_50 rfl ?_
    obtain ⟨hs_22, h⟩ := h
    refine c_new (nx := 54) (ci := 7) G (Nat.le_of_ble_eq_true rfl) xw_RX11_24 tw_RX7 nw_RX7 hs_22 ((hl _).mpr (by omega)) dX11_init_51 rfl (fun m_23 e_m_23 => ?_)
    have h := h m_23 e_m_23
    refine z_dup (nx := 55) G (fun h => nomatch h) dX11_init_54 rfl ?_
    refine z_sipush (nx := 58) (z := 400) G (R32c rfl) rfl dX11_init_55 rfl ?_
    refine z_iconst (nx := 59) (z := 1) G (R32c rfl) dX11_init_58 rfl ?_
    refine z_callI (nx := 62) (as := [(0, 400), (0, 1)]) G ((am_is_new hs_22)).1 SC_X7_init (by rw [hdd]; exact Nat.le_of_ble_eq_true rfl) (Nat.le_of_ble_eq_true rfl) ((hl _).mpr (by omega)) ml_RX11_26 iw_X7_init rfl rfl (am_plainC 7 (by decide)) cw_X7_init nw_RX7 qp_X7_init (Nat.le_of_ble_eq_true rfl) dX11_init_59 rfl (CC_X7_init (am_is_mono (am_is_new hs_22) (by omega)) h) ?_
    rintro r m_24 ⟨rfl, h⟩
    refine c_putF (nx := 65) (k0 := 3) (t := 2) G fl_RX11_29 (Nat.le_of_ble_eq_true rfl) (Nat.le_of_ble_eq_true rfl) rfl hI rfl fw_RX11_29 rfl (am_is_mono hob (by omega)) dX11_init_62 rfl (fun m_26 e_m_26 => ?_)
    have h := h m_26 e_m_26
    refine z_aload_n (nx := 66) (a := 0) G rfl (Or.inl rfl) dX11_init_65 rfl ?_
    obtain ⟨hs_27, h⟩ := h
    refine c_new (nx := 69) (ci := 4) G (Nat.le_of_ble_eq_true rfl) xw_RX11_33 tw_RX4 nw_RX4 hs_27 ((hl _).mpr (by omega)) dX11_init_66 rfl (fun m_28 e_m_28 => ?_)
    have h := h m_28 e_m_28
    refine z_dup (nx := 70) G (fun h => nomatch h) dX11_init_69 rfl ?_
    refine z_callIN (nx := 73) (as := []) G ((am_is_new hs_27)).1 SC_X4_init (by rw [hdd]; exact Nat.le_of_ble_eq_true rfl) (Nat.le_of_ble_eq_true rfl) ((hl _).mpr (by omega)) mn_RX11_35 iw_X4_init rfl rfl (am_plainC 4 (by decide)) cw_X4_init nw_RX4 qp_X4_init (Nat.le_of_ble_eq_true rfl) dX11_init_70 rfl (CC_X4_init (am_is_mono (am_is_new hs_27) (by omega)) h) ?_
    rintro r m_29 ⟨rfl, h⟩
    refine c_putF (nx := 76) (k0 := 4) (t := 2) G fl_RX11_36 (Nat.le_of_ble_eq_true rfl) (Nat.le_of_ble_eq_true rfl) rfl hI rfl fw_RX11_36 rfl (am_is_mono hob (by omega)) dX11_init_73 rfl (fun m_31 e_m_31 => ?_)
    have h := h m_31 e_m_31
    refine z_aload_n (nx := 77) (a := 0) G rfl (Or.inl rfl) dX11_init_76 rfl ?_
    obtain ⟨hs_32, h⟩ := h
    refine c_new (nx := 80) (ci := 5) G (Nat.le_of_ble_eq_true rfl) xw_RX11_40 tw_RX5 nw_RX5 hs_32 ((hl _).mpr (by omega)) dX11_init_77 rfl (fun m_33 e_m_33 => ?_)
    have h := h m_33 e_m_33
    refine z_dup (nx := 81) G (fun h => nomatch h) dX11_init_80 rfl ?_
    refine z_aload_n (nx := 82) (a := 0) G rfl (Or.inl rfl) dX11_init_81 rfl ?_
    refine c_get (nx := 85) (k0 := 3) (t := 2) G fl_RX11_29 (Nat.le_of_ble_eq_true rfl) (Nat.le_of_ble_eq_true rfl) rfl (am_is_mono hob (by omega)) dX11_init_82 rfl ?_
    refine z_aload_n (nx := 86) (a := 0) G rfl (Or.inl rfl) dX11_init_85 rfl ?_
    refine c_get (nx := 89) (k0 := 4) (t := 2) G fl_RX11_36 (Nat.le_of_ble_eq_true rfl) (Nat.le_of_ble_eq_true rfl) rfl (am_is_mono hob (by omega)) dX11_init_86 rfl ?_
    refine z_callI (nx := 92) (as := [(2, m_33 v0 3), (2, m_33 v0 4)]) G ((am_is_new hs_32)).1 SC_X5_init (by rw [hdd]; exact Nat.le_of_ble_eq_true rfl) (Nat.le_of_ble_eq_true rfl) ((hl _).mpr (by omega)) ml_RX11_42 iw_X5_init rfl rfl (am_plainC 5 (by decide)) cw_X5_init nw_RX5 qp_X5_init (Nat.le_of_ble_eq_true rfl) dX11_init_89 rfl (CC_X5_init (am_is_mono (am_is_new hs_32) (by omega)) h) ?_
    rintro r m_34 ⟨rfl, h⟩
    refine c_putF (nx := 95) (k0 := 5) (t := 2) G fl_RX11_45 (Nat.le_of_ble_eq_true rfl) (Nat.le_of_ble_eq_true rfl) rfl hI rfl fw_RX11_45 rfl (am_is_mono hob (by omega)) dX11_init_92 rfl (fun m_36 e_m_36 => ?_)
    have h := h m_36 e_m_36
    refine z_aload_n (nx := 96) (a := 0) G rfl (Or.inl rfl) dX11_init_95 rfl ?_
    obtain ⟨hs_37, h⟩ := h
    refine c_new (nx := 99) (ci := 3) G (Nat.le_of_ble_eq_true rfl) xw_RX11_49 tw_RX3 nw_RX3 hs_37 ((hl _).mpr (by omega)) dX11_init_96 rfl (fun m_38 e_m_38 => ?_)
    have h := h m_38 e_m_38
    refine z_dup (nx := 100) G (fun h => nomatch h) dX11_init_99 rfl ?_
    refine z_callIN (nx := 103) (as := []) G ((am_is_new hs_37)).1 SC_X3_init (by rw [hdd]; exact Nat.le_of_ble_eq_true rfl) (Nat.le_of_ble_eq_true rfl) ((hl _).mpr (by omega)) mn_RX11_51 iw_X3_init rfl rfl (am_plainC 3 (by decide)) cw_X3_init nw_RX3 qp_X3_init (Nat.le_of_ble_eq_true rfl) dX11_init_100 rfl (CC_X3_init (am_is_mono (am_is_new hs_37) (by omega)) h) ?_
    rintro r m_39 ⟨rfl, h⟩
    refine c_putF (nx := 106) (k0 := 6) (t := 2) G fl_RX11_52 (Nat.le_of_ble_eq_true rfl) (Nat.le_of_ble_eq_true rfl) rfl hI rfl fw_RX11_52 rfl (am_is_mono hob (by omega)) dX11_init_103 rfl (fun m_41 e_m_41 => ?_)
    have h := h m_41 e_m_41
    refine z_aload_n (nx := 107) (a := 0) G rfl (Or.inl rfl) dX11_init_106 rfl ?_
    obtain ⟨hs_42, h⟩ := h
    refine c_new (nx := 110) (ci := 2) G (Nat.le_of_ble_eq_true rfl) xw_RX11_56 tw_RX2 nw_RX2 hs_42 ((hl _).mpr (by omega)) dX11_init_107 rfl (fun m_43 e_m_43 => ?_)
    have h := h m_43 e_m_43
    refine z_dup (nx := 111) G (fun h => nomatch h) dX11_init_110 rfl ?_
    refine z_aload_n (nx := 112) (a := 0) G rfl (Or.inl rfl) dX11_init_111 rfl ?_
    refine c_get (nx := 115) (k0 := 6) (t := 2) G fl_RX11_52 (Nat.le_of_ble_eq_true rfl) (Nat.le_of_ble_eq_true rfl) rfl (am_is_mono hob (by omega)) dX11_init_112 rfl ?_
    refine z_callI (nx := 118) (as := [(2, m_43 v0 6)]) G ((am_is_new hs_42)).1 SC_X2_init (by rw [hdd]; exact Nat.le_of_ble_eq_true rfl) (Nat.le_of_ble_eq_true rfl) ((hl _).mpr (by omega)) ml_RX11_58 iw_X2_init rfl rfl (am_plainC 2 (by decide)) cw_X2_init nw_RX2 qp_X2_init (Nat.le_of_ble_eq_true rfl) dX11_init_115 rfl (CC_X2_init (am_is_mono (am_is_new hs_42) (by omega)) h) ?_
    rintro r m_44 ⟨rfl, h⟩
    refine c_putF (nx := 121) (k0 := 7) (t := 2) G fl_RX11_61 (Nat.le_of_ble_eq_true rfl) (Nat.le_of_ble_eq_true rfl) rfl hI rfl fw_RX11_61 rfl (am_is_mono hob (by omega)) dX11_init_118 rfl (fun m_46 e_m_46 => ?_)
    have h := h m_46 e_m_46
    refine z_aload_n (nx := 122) (a := 0) G rfl (Or.inl rfl) dX11_init_121 rfl ?_
    obtain ⟨hs_47, h⟩ := h
    refine c_new (nx := 125) (ci := 9) G (Nat.le_of_ble_eq_true rfl) xw_RX11_65 tw_RX9 nw_RX9 hs_47 ((hl _).mpr (by omega)) dX11_init_122 rfl (fun m_48 e_m_48 => ?_)
    have h := h m_48 e_m_48
    refine z_dup (nx := 126) G (fun h => nomatch h) dX11_init_125 rfl ?_
    refine z_callIN (nx := 129) (as := []) G ((am_is_new hs_47)).1 SC_X9_init (by rw [hdd]; exact Nat.le_of_ble_eq_true rfl) (Nat.le_of_ble_eq_true rfl) ((hl _).mpr (by omega)) mn_RX11_67 iw_X9_init rfl rfl (am_plainC 9 (by decide)) cw_X9_init nw_RX9 qp_X9_init (Nat.le_of_ble_eq_true rfl) dX11_init_126 rfl (CC_X9_init (am_is_mono (am_is_new hs_47) (by omega)) h) ?_
    rintro r m_49 ⟨rfl, h⟩
    refine c_putF (nx := 132) (k0 := 8) (t := 2) G fl_RX11_68 (Nat.le_of_ble_eq_true rfl) (Nat.le_of_ble_eq_true rfl) rfl hI rfl fw_RX11_68 rfl (am_is_mono hob (by omega)) dX11_init_129 rfl (fun m_51 e_m_51 => ?_)
    have h := h m_51 e_m_51
    refine z_aload_n (nx := 133) (a := 0) G rfl (Or.inl rfl) dX11_init_132 rfl ?_
    obtain ⟨hs_52, h⟩ := h
    refine c_new (nx := 136) (ci := 9) G (Nat.le_of_ble_eq_true rfl) xw_RX11_65 tw_RX9 nw_RX9 hs_52 ((hl _).mpr (by omega)) dX11_init_133 rfl (fun m_53 e_m_53 => ?_)
    have h := h m_53 e_m_53
    refine z_dup (nx := 137) G (fun h => nomatch h) dX11_init_136 rfl ?_
    refine z_callIN (nx := 140) (as := []) G ((am_is_new hs_52)).1 SC_X9_init (by rw [hdd]; exact Nat.le_of_ble_eq_true rfl) (Nat.le_of_ble_eq_true rfl) ((hl _).mpr (by omega)) mn_RX11_67 iw_X9_init rfl rfl (am_plainC 9 (by decide)) cw_X9_init nw_RX9 qp_X9_init (Nat.le_of_ble_eq_true rfl) dX11_init_137 rfl (CC_X9_init (am_is_mono (am_is_new hs_52) (by omega)) h) ?_
    rintro r m_54 ⟨rfl, h⟩
    refine c_putF (nx := 143) (k0 := 9) (t := 2) G fl_RX11_72 (Nat.le_of_ble_eq_true rfl) (Nat.le_of_ble_eq_true rfl) rfl hI rfl fw_RX11_72 rfl (am_is_mono hob (by omega)) dX11_init_140 rfl (fun m_56 e_m_56 => ?_)
    have h := h m_56 e_m_56
    refine z_aload_n (nx := 144) (a := 0) G rfl (Or.inl rfl) dX11_init_143 rfl ?_
    obtain ⟨hs_57, h⟩ := h
    refine c_new (nx := 147) (ci := 7) G (Nat.le_of_ble_eq_true rfl) xw_RX11_24 tw_RX7 nw_RX7 hs_57 ((hl _).mpr (by omega)) dX11_init_144 rfl (fun m_58 e_m_58 => ?_)
    have h := h m_58 e_m_58
    refine z_dup (nx := 148) G (fun h => nomatch h) dX11_init_147 rfl ?_
    refine z_bipush (nx := 150) (z := 16) G (R32c rfl) rfl dX11_init_148 rfl ?_
    refine z_iconst (nx := 151) (z := 1) G (R32c rfl) dX11_init_150 rfl ?_
    refine z_callI (nx := 154) (as := [(0, 16), (0, 1)]) G ((am_is_new hs_57)).1 SC_X7_init (by rw [hdd]; exact Nat.le_of_ble_eq_true rfl) (Nat.le_of_ble_eq_true rfl) ((hl _).mpr (by omega)) ml_RX11_26 iw_X7_init rfl rfl (am_plainC 7 (by decide)) cw_X7_init nw_RX7 qp_X7_init (Nat.le_of_ble_eq_true rfl) dX11_init_151 rfl (CC_X7_init (am_is_mono (am_is_new hs_57) (by omega)) h) ?_
    rintro r m_59 ⟨rfl, h⟩
    refine c_putF (nx := 157) (k0 := 10) (t := 2) G fl_RX11_75 (Nat.le_of_ble_eq_true rfl) (Nat.le_of_ble_eq_true rfl) rfl hI rfl fw_RX11_75 rfl (am_is_mono hob (by omega)) dX11_init_154 rfl (fun m_61 e_m_61 => ?_)
    have h := h m_61 e_m_61
    refine z_aload_n (nx := 158) (a := 0) G rfl (Or.inl rfl) dX11_init_157 rfl ?_
    obtain ⟨hs_62, h⟩ := h
    refine c_new (nx := 161) (ci := 7) G (Nat.le_of_ble_eq_true rfl) xw_RX11_24 tw_RX7 nw_RX7 hs_62 ((hl _).mpr (by omega)) dX11_init_158 rfl (fun m_63 e_m_63 => ?_)
    have h := h m_63 e_m_63
    refine z_dup (nx := 162) G (fun h => nomatch h) dX11_init_161 rfl ?_
    refine z_bipush (nx := 164) (z := 16) G (R32c rfl) rfl dX11_init_162 rfl ?_
    refine z_iconst (nx := 165) (z := 1) G (R32c rfl) dX11_init_164 rfl ?_
    refine z_callI (nx := 168) (as := [(0, 16), (0, 1)]) G ((am_is_new hs_62)).1 SC_X7_init (by rw [hdd]; exact Nat.le_of_ble_eq_true rfl) (Nat.le_of_ble_eq_true rfl) ((hl _).mpr (by omega)) ml_RX11_26 iw_X7_init rfl rfl (am_plainC 7 (by decide)) cw_X7_init nw_RX7 qp_X7_init (Nat.le_of_ble_eq_true rfl) dX11_init_165 rfl (CC_X7_init (am_is_mono (am_is_new hs_62) (by omega)) h) ?_
    rintro r m_64 ⟨rfl, h⟩
    refine c_putF (nx := 171) (k0 := 11) (t := 2) G fl_RX11_78 (Nat.le_of_ble_eq_true rfl) (Nat.le_of_ble_eq_true rfl) rfl hI rfl fw_RX11_78 rfl (am_is_mono hob (by omega)) dX11_init_168 rfl (fun m_66 e_m_66 => ?_)
    have h := h m_66 e_m_66
    refine z_aload_n (nx := 172) (a := 0) G rfl (Or.inl rfl) dX11_init_171 rfl ?_
    obtain ⟨hs_67, h⟩ := h
    refine c_new (nx := 175) (ci := 10) G (Nat.le_of_ble_eq_true rfl) xw_RX11_81 tw_RX10 nw_RX10 hs_67 ((hl _).mpr (by omega)) dX11_init_172 rfl (fun m_68 e_m_68 => ?_)
    have h := h m_68 e_m_68
    refine z_dup (nx := 176) G (fun h => nomatch h) dX11_init_175 rfl ?_
    refine z_callIN (nx := 179) (as := []) G ((am_is_new hs_67)).1 SC_X10_init (by rw [hdd]; exact Nat.le_of_ble_eq_true rfl) (Nat.le_of_ble_eq_true rfl) ((hl _).mpr (by omega)) mn_RX11_83 iw_X10_init rfl rfl (am_plainC 10 (by decide)) cw_X10_init nw_RX10 qp_X10_init (Nat.le_of_ble_eq_true rfl) dX11_init_176 rfl (CC_X10_init (am_is_mono (am_is_new hs_67) (by omega)) h) ?_
    rintro r m_69 ⟨rfl, h⟩
    refine c_putF (nx := 182) (k0 := 12) (t := 2) G fl_RX11_84 (Nat.le_of_ble_eq_true rfl) (Nat.le_of_ble_eq_true rfl) rfl hI rfl fw_RX11_84 rfl (am_is_mono hob (by omega)) dX11_init_179 rfl (fun m_71 e_m_71 => ?_)
    have h := h m_71 e_m_71
    refine z_aload_n (nx := 183) (a := 0) G rfl (Or.inl rfl) dX11_init_182 rfl ?_
    obtain ⟨hs_72, h⟩ := h
    refine c_new (nx := 186) (ci := 1) G (Nat.le_of_ble_eq_true rfl) xw_RX11_88 tw_RX1 nw_RX1 hs_72 ((hl _).mpr (by omega)) dX11_init_183 rfl (fun m_73 e_m_73 => ?_)
    have h := h m_73 e_m_73
    refine z_dup (nx := 187) G (fun h => nomatch h) dX11_init_186 rfl ?_
    refine z_callIN (nx := 190) (as := []) G ((am_is_new hs_72)).1 SC_X1_init (by rw [hdd]; exact Nat.le_of_ble_eq_true rfl) (Nat.le_of_ble_eq_true rfl) ((hl _).mpr (by omega)) mn_RX11_90 iw_X1_init rfl rfl (am_plainC 1 (by decide)) cw_X1_init nw_RX1 qp_X1_init (Nat.le_of_ble_eq_true rfl) dX11_init_187 rfl (CC_X1_init (am_is_mono (am_is_new hs_72) (by omega)) h) ?_
    rintro r m_74 ⟨rfl, h⟩
    refine c_putF (nx := 193) (k0 := 13) (t := 2) G fl_RX11_91 (Nat.le_of_ble_eq_true rfl) (Nat.le_of_ble_eq_true rfl) rfl hI rfl fw_RX11_91 rfl (am_is_mono hob (by omega)) dX11_init_190 rfl (fun m_76 e_m_76 => ?_)
    have h := h m_76 e_m_76
    refine z_aload_n (nx := 194) (a := 0) G rfl (Or.inl rfl) dX11_init_193 rfl ?_
    obtain ⟨hs_77, h⟩ := h
    refine c_new (nx := 197) (ci := 8) G (Nat.le_of_ble_eq_true rfl) xw_RX11_95 tw_RX8 nw_RX8 hs_77 ((hl _).mpr (by omega)) dX11_init_194 rfl (fun m_78 e_m_78 => ?_)
    have h := h m_78 e_m_78
    refine z_dup (nx := 198) G (fun h => nomatch h) dX11_init_197 rfl ?_
    refine z_callIN (nx := 201) (as := []) G ((am_is_new hs_77)).1 SC_X8_init (by rw [hdd]; exact Nat.le_of_ble_eq_true rfl) (Nat.le_of_ble_eq_true rfl) ((hl _).mpr (by omega)) mn_RX11_97 iw_X8_init rfl rfl (am_plainC 8 (by decide)) cw_X8_init nw_RX8 qp_X8_init (Nat.le_of_ble_eq_true rfl) dX11_init_198 rfl (CC_X8_init (am_is_mono (am_is_new hs_77) (by omega)) h) ?_
    rintro r m_79 ⟨rfl, h⟩
    refine c_putF (nx := 204) (k0 := 14) (t := 2) G fl_RX11_98 (Nat.le_of_ble_eq_true rfl) (Nat.le_of_ble_eq_true rfl) rfl hI rfl fw_RX11_98 rfl (am_is_mono hob (by omega)) dX11_init_201 rfl (fun m_81 e_m_81 => ?_)
    have h := h m_81 e_m_81
    refine z_aload_n (nx := 205) (a := 0) G rfl (Or.inl rfl) dX11_init_204 rfl ?_
    refine z_bipush (nx := 207) (z := 24) G (R32c rfl) rfl dX11_init_205 rfl ?_
    obtain ⟨hs_82, h⟩ := h
    refine c_newi (nx := 209) G aw_int hs_82 ((hl _).mpr (by omega)) dX11_init_207 rfl (fun m_83 e_m_83 => ?_)
    have h := h m_83 e_m_83
    refine c_putF (nx := 212) (k0 := 15) (t := 2) G fl_RX11_102 (Nat.le_of_ble_eq_true rfl) (Nat.le_of_ble_eq_true rfl) rfl hI rfl fw_RX11_102 rfl (am_is_mono hob (by omega)) dX11_init_209 rfl (fun m_84 e_m_84 => ?_)
    have h := h m_84 e_m_84
    refine z_aload_n (nx := 213) (a := 0) G rfl (Or.inl rfl) dX11_init_212 rfl ?_
    refine z_bipush (nx := 215) (z := 7) G (R32c rfl) rfl dX11_init_213 rfl ?_
    obtain ⟨hs_85, h⟩ := h
    refine c_newi (nx := 217) G aw_int hs_85 ((hl _).mpr (by omega)) dX11_init_215 rfl (fun m_86 e_m_86 => ?_)
    have h := h m_86 e_m_86
    refine c_putF (nx := 220) (k0 := 16) (t := 2) G fl_RX11_106 (Nat.le_of_ble_eq_true rfl) (Nat.le_of_ble_eq_true rfl) rfl hI rfl fw_RX11_106 rfl (am_is_mono hob (by omega)) dX11_init_217 rfl (fun m_87 e_m_87 => ?_)
    have h := h m_87 e_m_87
    refine z_aload_n (nx := 221) (a := 0) G rfl (Or.inl rfl) dX11_init_220 rfl ?_
    refine z_iconst (nx := 222) (z := (-1)) G (R32c rfl) dX11_init_221 rfl ?_
    refine c_put (nx := 225) (k0 := 19) (t := 0) G fl_RX11_109 (Nat.le_of_ble_eq_true rfl) (Nat.le_of_ble_eq_true rfl) rfl rfl (am_is_mono hob (by omega)) dX11_init_222 rfl (fun m_88 e_m_88 => ?_)
    have h := h m_88 e_m_88
    have ecur : n + 1 + 41 + 1 + 1 + 41 + 1 + 41 + 1 + 1 + 1 + 1 + 3 + 1 + 1 + 3 + 1 + 1 + 1 + 2 + 1 + 2 + 1 + 1 + 1 + 1 + 1 + 3 + 1 + 6 + 1 + 2 + 1 + 1 = n + 167 := by omega
    exact z_return G hP ((he _).mpr ecur) dX11_init_225 ⟨ecur, ecur.symm ▸ h⟩
theorem fw_RX12_7 : Cond.fieldLink RX12 7 (am_C 12) (am_T 12 1).2.1 (am_T 12 1).2.2.1 ∈ am_TB := am_TB_mem (tb_5 (List.mem_of_getElem? (i := 156) rfl)) rfl
theorem fw_RX12_24 : Cond.fieldLink RX12 24 (am_C 12) (am_T 12 2).2.1 (am_T 12 2).2.2.1 ∈ am_TB := am_TB_mem (tb_5 (List.mem_of_getElem? (i := 157) rfl)) rfl
theorem fw_RX12_27 : Cond.fieldLink RX12 27 (am_C 12) (am_T 12 3).2.1 (am_T 12 3).2.2.1 ∈ am_TB := am_TB_mem (tb_5 (List.mem_of_getElem? (i := 158) rfl)) rfl
theorem fw_RX12_30 : Cond.fieldLink RX12 30 (am_C 12) (am_T 12 4).2.1 (am_T 12 4).2.2.1 ∈ am_TB := am_TB_mem (tb_5 (List.mem_of_getElem? (i := 159) rfl)) rfl
theorem fw_RX12_34 : Cond.fieldLink RX12 34 (am_C 12) (am_T 12 5).2.1 (am_T 12 5).2.2.1 ∈ am_TB := am_TB_mem (tb_5 (List.mem_of_getElem? (i := 160) rfl)) rfl
theorem fw_RX12_37 : Cond.fieldLink RX12 37 (am_C 12) (am_T 12 7).2.1 (am_T 12 7).2.2.1 ∈ am_TB := am_TB_mem (tb_5 (List.mem_of_getElem? (i := 162) rfl)) rfl
theorem fw_RX12_41 : Cond.fieldLink RX12 41 (am_C 12) (am_T 12 11).2.1 (am_T 12 11).2.2.1 ∈ am_TB := am_TB_mem (tb_5 (List.mem_of_getElem? (i := 166) rfl)) rfl
theorem fw_RX12_44 : Cond.fieldLink RX12 44 (am_C 12) (am_T 12 12).2.1 (am_T 12 12).2.2.1 ∈ am_TB := am_TB_mem (tb_5 (List.mem_of_getElem? (i := 167) rfl)) rfl
theorem fw_RX12_50 : Cond.fieldLink RX12 50 (am_C 12) (am_T 12 15).2.1 (am_T 12 15).2.2.1 ∈ am_TB := am_TB_mem (tb_5 (List.mem_of_getElem? (i := 170) rfl)) rfl
theorem fw_RX12_53 : Cond.fieldLink RX12 53 (am_C 12) (am_T 12 16).2.1 (am_T 12 16).2.2.1 ∈ am_TB := am_TB_mem (tb_5 (List.mem_of_getElem? (i := 171) rfl)) rfl
theorem fw_RX12_56 : Cond.fieldLink RX12 56 (am_C 12) (am_T 12 17).2.1 (am_T 12 17).2.2.1 ∈ am_TB := am_TB_mem (tb_5 (List.mem_of_getElem? (i := 172) rfl)) rfl
theorem fw_RX12_59 : Cond.fieldLink RX12 59 (am_C 12) (am_T 12 25).2.1 (am_T 12 25).2.2.1 ∈ am_TB := am_TB_mem (tb_5 (List.mem_of_getElem? (i := 180) rfl)) rfl
theorem fw_RX12_62 : Cond.fieldLink RX12 62 (am_C 12) (am_T 12 26).2.1 (am_T 12 26).2.2.1 ∈ am_TB := am_TB_mem (tb_5 (List.mem_of_getElem? (i := 181) rfl)) rfl
theorem fw_RX12_65 : Cond.fieldLink RX12 65 (am_C 12) (am_T 12 27).2.1 (am_T 12 27).2.2.1 ∈ am_TB := am_TB_mem (tb_5 (List.mem_of_getElem? (i := 182) rfl)) rfl
theorem fw_RX12_68 : Cond.fieldLink RX12 68 (am_C 12) (am_T 12 28).2.1 (am_T 12 28).2.2.1 ∈ am_TB := am_TB_mem (tb_5 (List.mem_of_getElem? (i := 183) rfl)) rfl
theorem fw_RX12_71 : Cond.fieldLink RX12 71 (am_C 12) (am_T 12 29).2.1 (am_T 12 29).2.2.1 ∈ am_TB := am_TB_mem (tb_5 (List.mem_of_getElem? (i := 184) rfl)) rfl
theorem fw_RX12_74 : Cond.fieldLink RX12 74 (am_C 12) (am_T 12 30).2.1 (am_T 12 30).2.2.1 ∈ am_TB := am_TB_mem (tb_5 (List.mem_of_getElem? (i := 185) rfl)) rfl
theorem fw_RX12_77 : Cond.fieldLink RX12 77 (am_C 12) (am_T 12 31).2.1 (am_T 12 31).2.2.1 ∈ am_TB := am_TB_mem (tb_5 (List.mem_of_getElem? (i := 186) rfl)) rfl
theorem fw_RX12_80 : Cond.fieldLink RX12 80 (am_C 12) (am_T 12 32).2.1 (am_T 12 32).2.2.1 ∈ am_TB := am_TB_mem (tb_5 (List.mem_of_getElem? (i := 187) rfl)) rfl
theorem fw_RX12_83 : Cond.fieldLink RX12 83 (am_C 12) (am_T 12 33).2.1 (am_T 12 33).2.2.1 ∈ am_TB := am_TB_mem (tb_5 (List.mem_of_getElem? (i := 188) rfl)) rfl
theorem fw_RX12_86 : Cond.fieldLink RX12 86 (am_C 12) (am_T 12 36).2.1 (am_T 12 36).2.2.1 ∈ am_TB := am_TB_mem (tb_5 (List.mem_of_getElem? (i := 191) rfl)) rfl
theorem fw_RX12_89 : Cond.fieldLink RX12 89 (am_C 12) (am_T 12 37).2.1 (am_T 12 37).2.2.1 ∈ am_TB := am_TB_mem (tb_5 (List.mem_of_getElem? (i := 192) rfl)) rfl
theorem fw_RX12_92 : Cond.fieldLink RX12 92 (am_C 12) (am_T 12 39).2.1 (am_T 12 39).2.2.1 ∈ am_TB := am_TB_mem (tb_5 (List.mem_of_getElem? (i := 194) rfl)) rfl
theorem fw_RX12_95 : Cond.fieldLink RX12 95 (am_C 12) (am_T 12 40).2.1 (am_T 12 40).2.2.1 ∈ am_TB := am_TB_mem (tb_5 (List.mem_of_getElem? (i := 195) rfl)) rfl
theorem fw_RX12_98 : Cond.fieldLink RX12 98 (am_C 12) (am_T 12 41).2.1 (am_T 12 41).2.2.1 ∈ am_TB := am_TB_mem (tb_5 (List.mem_of_getElem? (i := 196) rfl)) rfl
theorem fw_RX12_101 : Cond.fieldLink RX12 101 (am_C 12) (am_T 12 42).2.1 (am_T 12 42).2.2.1 ∈ am_TB := am_TB_mem (tb_5 (List.mem_of_getElem? (i := 197) rfl)) rfl
theorem fw_RX12_104 : Cond.fieldLink RX12 104 (am_C 12) (am_T 12 43).2.1 (am_T 12 43).2.2.1 ∈ am_TB := am_TB_mem (tb_5 (List.mem_of_getElem? (i := 198) rfl)) rfl
theorem fw_RX12_107 : Cond.fieldLink RX12 107 (am_C 12) (am_T 12 44).2.1 (am_T 12 44).2.2.1 ∈ am_TB := am_TB_mem (tb_5 (List.mem_of_getElem? (i := 199) rfl)) rfl
theorem fw_RX12_113 : Cond.fieldLink RX12 113 (am_C 12) (am_T 12 55).2.1 (am_T 12 55).2.2.1 ∈ am_TB := am_TB_mem (tb_5 (List.mem_of_getElem? (i := 210) rfl)) rfl
theorem fw_RX12_117 : Cond.fieldLink RX12 117 (am_C 12) (am_T 12 56).2.1 (am_T 12 56).2.2.1 ∈ am_TB := am_TB_mem (tb_5 (List.mem_of_getElem? (i := 211) rfl)) rfl
theorem fw_RX12_120 : Cond.fieldLink RX12 120 (am_C 12) (am_T 12 57).2.1 (am_T 12 57).2.2.1 ∈ am_TB := am_TB_mem (tb_5 (List.mem_of_getElem? (i := 212) rfl)) rfl
set_option maxRecDepth 20000 in
def C_X12_init (v0 : Int) (K : am_M → Prop) (m : am_M) (n : Nat) : Prop :=
  ((0 : Int) ≤ 7 ∧ 7 ≤ (100000 : Int) ∧ am_sh n = (20, Int.toNat 7)) ∧
  ∀ m_2 : am_M, m_2 = am_fr m n →
  ∀ m_3 : am_M, m_3 = am_st m_2 v0 1 ((n : Nat) : Int) →
  ((0 : Int) ≤ 5977 ∧ 5977 ≤ (100000 : Int) ∧ am_sh (n + 1) = (20, Int.toNat 5977)) ∧
  ∀ m_5 : am_M, m_5 = am_fr m_3 (n + 1) →
  ∀ m_6 : am_M, m_6 = am_st m_5 v0 2 ((n + 1 : Nat) : Int) →
  ((0 : Int) ≤ 11954 ∧ 11954 ≤ (100000 : Int) ∧ am_sh (n + 1 + 1) = (20, Int.toNat 11954)) ∧
  ∀ m_8 : am_M, m_8 = am_fr m_6 (n + 1 + 1) →
  ∀ m_9 : am_M, m_9 = am_st m_8 v0 3 ((n + 1 + 1 : Nat) : Int) →
  ((0 : Int) ≤ 2 ∧ 2 ≤ (100000 : Int) ∧ am_sh (n + 1 + 1 + 1) = (22, Int.toNat 2)) ∧
  ∀ m_11 : am_M, m_11 = am_fr m_9 (n + 1 + 1 + 1) →
  ∀ m_12 : am_M, m_12 = am_st m_11 v0 4 ((n + 1 + 1 + 1 : Nat) : Int) →
  ((0 : Int) ≤ 340 ∧ 340 ≤ (100000 : Int) ∧ am_sh (n + 1 + 1 + 1 + 1) = (20, Int.toNat 340)) ∧
  ∀ m_14 : am_M, m_14 = am_fr m_12 (n + 1 + 1 + 1 + 1) →
  ∀ m_15 : am_M, m_15 = am_st m_14 v0 5 ((n + 1 + 1 + 1 + 1 : Nat) : Int) →
  ((0 : Int) ≤ 133 ∧ 133 ≤ (100000 : Int) ∧ am_sh (n + 1 + 1 + 1 + 1 + 1) = (21, Int.toNat 133)) ∧
  ∀ m_17 : am_M, m_17 = am_fr m_15 (n + 1 + 1 + 1 + 1 + 1) →
  ∀ m_18 : am_M, m_18 = am_st m_17 ((n + 1 + 1 + 1 + 1 + 1 : Nat) : Int) 0 114 →
  ∀ m_19 : am_M, m_19 = am_st m_18 ((n + 1 + 1 + 1 + 1 + 1 : Nat) : Int) 1 97 →
  ∀ m_20 : am_M, m_20 = am_st m_19 ((n + 1 + 1 + 1 + 1 + 1 : Nat) : Int) 2 110 →
  ∀ m_21 : am_M, m_21 = am_st m_20 ((n + 1 + 1 + 1 + 1 + 1 : Nat) : Int) 3 107 →
  ∀ m_22 : am_M, m_22 = am_st m_21 ((n + 1 + 1 + 1 + 1 + 1 : Nat) : Int) 4 32 →
  ∀ m_23 : am_M, m_23 = am_st m_22 ((n + 1 + 1 + 1 + 1 + 1 : Nat) : Int) 5 98 →
  ∀ m_24 : am_M, m_24 = am_st m_23 ((n + 1 + 1 + 1 + 1 + 1 : Nat) : Int) 6 114 →
  ∀ m_25 : am_M, m_25 = am_st m_24 ((n + 1 + 1 + 1 + 1 + 1 : Nat) : Int) 7 101 →
  ∀ m_26 : am_M, m_26 = am_st m_25 ((n + 1 + 1 + 1 + 1 + 1 : Nat) : Int) 8 97 →
  ∀ m_27 : am_M, m_27 = am_st m_26 ((n + 1 + 1 + 1 + 1 + 1 : Nat) : Int) 9 116 →
  ∀ m_28 : am_M, m_28 = am_st m_27 ((n + 1 + 1 + 1 + 1 + 1 : Nat) : Int) 10 104 →
  ∀ m_29 : am_M, m_29 = am_st m_28 ((n + 1 + 1 + 1 + 1 + 1 : Nat) : Int) 11 32 →
  ∀ m_30 : am_M, m_30 = am_st m_29 ((n + 1 + 1 + 1 + 1 + 1 : Nat) : Int) 12 98 →
  ∀ m_31 : am_M, m_31 = am_st m_30 ((n + 1 + 1 + 1 + 1 + 1 : Nat) : Int) 13 97 →
  ∀ m_32 : am_M, m_32 = am_st m_31 ((n + 1 + 1 + 1 + 1 + 1 : Nat) : Int) 14 114 →
  ∀ m_33 : am_M, m_33 = am_st m_32 ((n + 1 + 1 + 1 + 1 + 1 : Nat) : Int) 15 115 →
  ∀ m_34 : am_M, m_34 = am_st m_33 ((n + 1 + 1 + 1 + 1 + 1 : Nat) : Int) 16 32 →
  ∀ m_35 : am_M, m_35 = am_st m_34 ((n + 1 + 1 + 1 + 1 + 1 : Nat) : Int) 17 105 →
  ∀ m_36 : am_M, m_36 = am_st m_35 ((n + 1 + 1 + 1 + 1 + 1 : Nat) : Int) 18 102 →
  ∀ m_37 : am_M, m_37 = am_st m_36 ((n + 1 + 1 + 1 + 1 + 1 : Nat) : Int) 19 32 →
  ∀ m_38 : am_M, m_38 = am_st m_37 ((n + 1 + 1 + 1 + 1 + 1 : Nat) : Int) 20 111 →
  ∀ m_39 : am_M, m_39 = am_st m_38 ((n + 1 + 1 + 1 + 1 + 1 : Nat) : Int) 21 114 →
  ∀ m_40 : am_M, m_40 = am_st m_39 ((n + 1 + 1 + 1 + 1 + 1 : Nat) : Int) 22 32 →
  ∀ m_41 : am_M, m_41 = am_st m_40 ((n + 1 + 1 + 1 + 1 + 1 : Nat) : Int) 23 97 →
  ∀ m_42 : am_M, m_42 = am_st m_41 ((n + 1 + 1 + 1 + 1 + 1 : Nat) : Int) 24 110 →
  ∀ m_43 : am_M, m_43 = am_st m_42 ((n + 1 + 1 + 1 + 1 + 1 : Nat) : Int) 25 100 →
  ∀ m_44 : am_M, m_44 = am_st m_43 ((n + 1 + 1 + 1 + 1 + 1 : Nat) : Int) 26 32 →
  ∀ m_45 : am_M, m_45 = am_st m_44 ((n + 1 + 1 + 1 + 1 + 1 : Nat) : Int) 27 110 →
  ∀ m_46 : am_M, m_46 = am_st m_45 ((n + 1 + 1 + 1 + 1 + 1 : Nat) : Int) 28 111 →
  ∀ m_47 : am_M, m_47 = am_st m_46 ((n + 1 + 1 + 1 + 1 + 1 : Nat) : Int) 29 116 →
  ∀ m_48 : am_M, m_48 = am_st m_47 ((n + 1 + 1 + 1 + 1 + 1 : Nat) : Int) 30 32 →
  ∀ m_49 : am_M, m_49 = am_st m_48 ((n + 1 + 1 + 1 + 1 + 1 : Nat) : Int) 31 108 →
  ∀ m_50 : am_M, m_50 = am_st m_49 ((n + 1 + 1 + 1 + 1 + 1 : Nat) : Int) 32 101 →
  ∀ m_51 : am_M, m_51 = am_st m_50 ((n + 1 + 1 + 1 + 1 + 1 : Nat) : Int) 33 110 →
  ∀ m_52 : am_M, m_52 = am_st m_51 ((n + 1 + 1 + 1 + 1 + 1 : Nat) : Int) 34 103 →
  ∀ m_53 : am_M, m_53 = am_st m_52 ((n + 1 + 1 + 1 + 1 + 1 : Nat) : Int) 35 116 →
  ∀ m_54 : am_M, m_54 = am_st m_53 ((n + 1 + 1 + 1 + 1 + 1 : Nat) : Int) 36 104 →
  ∀ m_55 : am_M, m_55 = am_st m_54 ((n + 1 + 1 + 1 + 1 + 1 : Nat) : Int) 37 32 →
  ∀ m_56 : am_M, m_56 = am_st m_55 ((n + 1 + 1 + 1 + 1 + 1 : Nat) : Int) 38 118 →
  ∀ m_57 : am_M, m_57 = am_st m_56 ((n + 1 + 1 + 1 + 1 + 1 : Nat) : Int) 39 111 →
  ∀ m_58 : am_M, m_58 = am_st m_57 ((n + 1 + 1 + 1 + 1 + 1 : Nat) : Int) 40 105 →
  ∀ m_59 : am_M, m_59 = am_st m_58 ((n + 1 + 1 + 1 + 1 + 1 : Nat) : Int) 41 99 →
  ∀ m_60 : am_M, m_60 = am_st m_59 ((n + 1 + 1 + 1 + 1 + 1 : Nat) : Int) 42 101 →
  ∀ m_61 : am_M, m_61 = am_st m_60 ((n + 1 + 1 + 1 + 1 + 1 : Nat) : Int) 43 115 →
  ∀ m_62 : am_M, m_62 = am_st m_61 ((n + 1 + 1 + 1 + 1 + 1 : Nat) : Int) 44 32 →
  ∀ m_63 : am_M, m_63 = am_st m_62 ((n + 1 + 1 + 1 + 1 + 1 : Nat) : Int) 45 97 →
  ∀ m_64 : am_M, m_64 = am_st m_63 ((n + 1 + 1 + 1 + 1 + 1 : Nat) : Int) 46 115 →
  ∀ m_65 : am_M, m_65 = am_st m_64 ((n + 1 + 1 + 1 + 1 + 1 : Nat) : Int) 47 107 →
  ∀ m_66 : am_M, m_66 = am_st m_65 ((n + 1 + 1 + 1 + 1 + 1 : Nat) : Int) 48 101 →
  ∀ m_67 : am_M, m_67 = am_st m_66 ((n + 1 + 1 + 1 + 1 + 1 : Nat) : Int) 49 114 →
  ∀ m_68 : am_M, m_68 = am_st m_67 ((n + 1 + 1 + 1 + 1 + 1 : Nat) : Int) 50 32 →
  ∀ m_69 : am_M, m_69 = am_st m_68 ((n + 1 + 1 + 1 + 1 + 1 : Nat) : Int) 51 97 →
  ∀ m_70 : am_M, m_70 = am_st m_69 ((n + 1 + 1 + 1 + 1 + 1 : Nat) : Int) 52 103 →
  ∀ m_71 : am_M, m_71 = am_st m_70 ((n + 1 + 1 + 1 + 1 + 1 : Nat) : Int) 53 101 →
  ∀ m_72 : am_M, m_72 = am_st m_71 ((n + 1 + 1 + 1 + 1 + 1 : Nat) : Int) 54 32 →
  ∀ m_73 : am_M, m_73 = am_st m_72 ((n + 1 + 1 + 1 + 1 + 1 : Nat) : Int) 55 116 →
  ∀ m_74 : am_M, m_74 = am_st m_73 ((n + 1 + 1 + 1 + 1 + 1 : Nat) : Int) 56 104 →
  ∀ m_75 : am_M, m_75 = am_st m_74 ((n + 1 + 1 + 1 + 1 + 1 : Nat) : Int) 57 105 →
  ∀ m_76 : am_M, m_76 = am_st m_75 ((n + 1 + 1 + 1 + 1 + 1 : Nat) : Int) 58 110 →
  ∀ m_77 : am_M, m_77 = am_st m_76 ((n + 1 + 1 + 1 + 1 + 1 : Nat) : Int) 59 103 →
  ∀ m_78 : am_M, m_78 = am_st m_77 ((n + 1 + 1 + 1 + 1 + 1 : Nat) : Int) 60 32 →
  ∀ m_79 : am_M, m_79 = am_st m_78 ((n + 1 + 1 + 1 + 1 + 1 : Nat) : Int) 61 119 →
  ∀ m_80 : am_M, m_80 = am_st m_79 ((n + 1 + 1 + 1 + 1 + 1 : Nat) : Int) 62 97 →
  ∀ m_81 : am_M, m_81 = am_st m_80 ((n + 1 + 1 + 1 + 1 + 1 : Nat) : Int) 63 105 →
  ∀ m_82 : am_M, m_82 = am_st m_81 ((n + 1 + 1 + 1 + 1 + 1 : Nat) : Int) 64 116 →
  ∀ m_83 : am_M, m_83 = am_st m_82 ((n + 1 + 1 + 1 + 1 + 1 : Nat) : Int) 65 115 →
  ∀ m_84 : am_M, m_84 = am_st m_83 ((n + 1 + 1 + 1 + 1 + 1 : Nat) : Int) 66 32 →
  ∀ m_85 : am_M, m_85 = am_st m_84 ((n + 1 + 1 + 1 + 1 + 1 : Nat) : Int) 67 109 →
  ∀ m_86 : am_M, m_86 = am_st m_85 ((n + 1 + 1 + 1 + 1 + 1 : Nat) : Int) 68 111 →
  ∀ m_87 : am_M, m_87 = am_st m_86 ((n + 1 + 1 + 1 + 1 + 1 : Nat) : Int) 69 111 →
  ∀ m_88 : am_M, m_88 = am_st m_87 ((n + 1 + 1 + 1 + 1 + 1 : Nat) : Int) 70 100 →
  ∀ m_89 : am_M, m_89 = am_st m_88 ((n + 1 + 1 + 1 + 1 + 1 : Nat) : Int) 71 32 →
  ∀ m_90 : am_M, m_90 = am_st m_89 ((n + 1 + 1 + 1 + 1 + 1 : Nat) : Int) 72 100 →
  ∀ m_91 : am_M, m_91 = am_st m_90 ((n + 1 + 1 + 1 + 1 + 1 : Nat) : Int) 73 97 →
  ∀ m_92 : am_M, m_92 = am_st m_91 ((n + 1 + 1 + 1 + 1 + 1 : Nat) : Int) 74 121 →
  ∀ m_93 : am_M, m_93 = am_st m_92 ((n + 1 + 1 + 1 + 1 + 1 : Nat) : Int) 75 32 →
  ∀ m_94 : am_M, m_94 = am_st m_93 ((n + 1 + 1 + 1 + 1 + 1 : Nat) : Int) 76 112 →
  ∀ m_95 : am_M, m_95 = am_st m_94 ((n + 1 + 1 + 1 + 1 + 1 : Nat) : Int) 77 114 →
  ∀ m_96 : am_M, m_96 = am_st m_95 ((n + 1 + 1 + 1 + 1 + 1 : Nat) : Int) 78 97 →
  ∀ m_97 : am_M, m_97 = am_st m_96 ((n + 1 + 1 + 1 + 1 + 1 : Nat) : Int) 79 121 →
  ∀ m_98 : am_M, m_98 = am_st m_97 ((n + 1 + 1 + 1 + 1 + 1 : Nat) : Int) 80 101 →
  ∀ m_99 : am_M, m_99 = am_st m_98 ((n + 1 + 1 + 1 + 1 + 1 : Nat) : Int) 81 114 →
  ∀ m_100 : am_M, m_100 = am_st m_99 ((n + 1 + 1 + 1 + 1 + 1 : Nat) : Int) 82 115 →
  ∀ m_101 : am_M, m_101 = am_st m_100 ((n + 1 + 1 + 1 + 1 + 1 : Nat) : Int) 83 32 →
  ∀ m_102 : am_M, m_102 = am_st m_101 ((n + 1 + 1 + 1 + 1 + 1 : Nat) : Int) 84 119 →
  ∀ m_103 : am_M, m_103 = am_st m_102 ((n + 1 + 1 + 1 + 1 + 1 : Nat) : Int) 85 97 →
  ∀ m_104 : am_M, m_104 = am_st m_103 ((n + 1 + 1 + 1 + 1 + 1 : Nat) : Int) 86 105 →
  ∀ m_105 : am_M, m_105 = am_st m_104 ((n + 1 + 1 + 1 + 1 + 1 : Nat) : Int) 87 116 →
  ∀ m_106 : am_M, m_106 = am_st m_105 ((n + 1 + 1 + 1 + 1 + 1 : Nat) : Int) 88 105 →
  ∀ m_107 : am_M, m_107 = am_st m_106 ((n + 1 + 1 + 1 + 1 + 1 : Nat) : Int) 89 110 →
  ∀ m_108 : am_M, m_108 = am_st m_107 ((n + 1 + 1 + 1 + 1 + 1 : Nat) : Int) 90 103 →
  ∀ m_109 : am_M, m_109 = am_st m_108 ((n + 1 + 1 + 1 + 1 + 1 : Nat) : Int) 91 32 →
  ∀ m_110 : am_M, m_110 = am_st m_109 ((n + 1 + 1 + 1 + 1 + 1 : Nat) : Int) 92 100 →
  ∀ m_111 : am_M, m_111 = am_st m_110 ((n + 1 + 1 + 1 + 1 + 1 : Nat) : Int) 93 111 →
  ∀ m_112 : am_M, m_112 = am_st m_111 ((n + 1 + 1 + 1 + 1 + 1 : Nat) : Int) 94 110 →
  ∀ m_113 : am_M, m_113 = am_st m_112 ((n + 1 + 1 + 1 + 1 + 1 : Nat) : Int) 95 101 →
  ∀ m_114 : am_M, m_114 = am_st m_113 ((n + 1 + 1 + 1 + 1 + 1 : Nat) : Int) 96 32 →
  ∀ m_115 : am_M, m_115 = am_st m_114 ((n + 1 + 1 + 1 + 1 + 1 : Nat) : Int) 97 115 →
  ∀ m_116 : am_M, m_116 = am_st m_115 ((n + 1 + 1 + 1 + 1 + 1 : Nat) : Int) 98 97 →
  ∀ m_117 : am_M, m_117 = am_st m_116 ((n + 1 + 1 + 1 + 1 + 1 : Nat) : Int) 99 105 →
  ∀ m_118 : am_M, m_118 = am_st m_117 ((n + 1 + 1 + 1 + 1 + 1 : Nat) : Int) 100 100 →
  ∀ m_119 : am_M, m_119 = am_st m_118 ((n + 1 + 1 + 1 + 1 + 1 : Nat) : Int) 101 32 →
  ∀ m_120 : am_M, m_120 = am_st m_119 ((n + 1 + 1 + 1 + 1 + 1 : Nat) : Int) 102 103 →
  ∀ m_121 : am_M, m_121 = am_st m_120 ((n + 1 + 1 + 1 + 1 + 1 : Nat) : Int) 103 114 →
  ∀ m_122 : am_M, m_122 = am_st m_121 ((n + 1 + 1 + 1 + 1 + 1 : Nat) : Int) 104 97 →
  ∀ m_123 : am_M, m_123 = am_st m_122 ((n + 1 + 1 + 1 + 1 + 1 : Nat) : Int) 105 110 →
  ∀ m_124 : am_M, m_124 = am_st m_123 ((n + 1 + 1 + 1 + 1 + 1 : Nat) : Int) 106 116 →
  ∀ m_125 : am_M, m_125 = am_st m_124 ((n + 1 + 1 + 1 + 1 + 1 : Nat) : Int) 107 101 →
  ∀ m_126 : am_M, m_126 = am_st m_125 ((n + 1 + 1 + 1 + 1 + 1 : Nat) : Int) 108 100 →
  ∀ m_127 : am_M, m_127 = am_st m_126 ((n + 1 + 1 + 1 + 1 + 1 : Nat) : Int) 109 32 →
  ∀ m_128 : am_M, m_128 = am_st m_127 ((n + 1 + 1 + 1 + 1 + 1 : Nat) : Int) 110 112 →
  ∀ m_129 : am_M, m_129 = am_st m_128 ((n + 1 + 1 + 1 + 1 + 1 : Nat) : Int) 111 114 →
  ∀ m_130 : am_M, m_130 = am_st m_129 ((n + 1 + 1 + 1 + 1 + 1 : Nat) : Int) 112 97 →
  ∀ m_131 : am_M, m_131 = am_st m_130 ((n + 1 + 1 + 1 + 1 + 1 : Nat) : Int) 113 121 →
  ∀ m_132 : am_M, m_132 = am_st m_131 ((n + 1 + 1 + 1 + 1 + 1 : Nat) : Int) 114 32 →
  ∀ m_133 : am_M, m_133 = am_st m_132 ((n + 1 + 1 + 1 + 1 + 1 : Nat) : Int) 115 102 →
  ∀ m_134 : am_M, m_134 = am_st m_133 ((n + 1 + 1 + 1 + 1 + 1 : Nat) : Int) 116 111 →
  ∀ m_135 : am_M, m_135 = am_st m_134 ((n + 1 + 1 + 1 + 1 + 1 : Nat) : Int) 117 114 →
  ∀ m_136 : am_M, m_136 = am_st m_135 ((n + 1 + 1 + 1 + 1 + 1 : Nat) : Int) 118 32 →
  ∀ m_137 : am_M, m_137 = am_st m_136 ((n + 1 + 1 + 1 + 1 + 1 : Nat) : Int) 119 111 →
  ∀ m_138 : am_M, m_138 = am_st m_137 ((n + 1 + 1 + 1 + 1 + 1 : Nat) : Int) 120 102 →
  ∀ m_139 : am_M, m_139 = am_st m_138 ((n + 1 + 1 + 1 + 1 + 1 : Nat) : Int) 121 32 →
  ∀ m_140 : am_M, m_140 = am_st m_139 ((n + 1 + 1 + 1 + 1 + 1 : Nat) : Int) 122 100 →
  ∀ m_141 : am_M, m_141 = am_st m_140 ((n + 1 + 1 + 1 + 1 + 1 : Nat) : Int) 123 97 →
  ∀ m_142 : am_M, m_142 = am_st m_141 ((n + 1 + 1 + 1 + 1 + 1 : Nat) : Int) 124 119 →
  ∀ m_143 : am_M, m_143 = am_st m_142 ((n + 1 + 1 + 1 + 1 + 1 : Nat) : Int) 125 110 →
  ∀ m_144 : am_M, m_144 = am_st m_143 ((n + 1 + 1 + 1 + 1 + 1 : Nat) : Int) 126 32 →
  ∀ m_145 : am_M, m_145 = am_st m_144 ((n + 1 + 1 + 1 + 1 + 1 : Nat) : Int) 127 116 →
  ∀ m_146 : am_M, m_146 = am_st m_145 ((n + 1 + 1 + 1 + 1 + 1 : Nat) : Int) 128 105 →
  ∀ m_147 : am_M, m_147 = am_st m_146 ((n + 1 + 1 + 1 + 1 + 1 : Nat) : Int) 129 109 →
  ∀ m_148 : am_M, m_148 = am_st m_147 ((n + 1 + 1 + 1 + 1 + 1 : Nat) : Int) 130 101 →
  ∀ m_149 : am_M, m_149 = am_st m_148 ((n + 1 + 1 + 1 + 1 + 1 : Nat) : Int) 131 115 →
  ∀ m_150 : am_M, m_150 = am_st m_149 ((n + 1 + 1 + 1 + 1 + 1 : Nat) : Int) 132 32 →
  ∀ m_151 : am_M, m_151 = am_st m_150 v0 7 ((n + 1 + 1 + 1 + 1 + 1 : Nat) : Int) →
  ((0 : Int) ≤ 400 ∧ 400 ≤ (100000 : Int) ∧ am_sh (n + 1 + 1 + 1 + 1 + 1 + 1) = (21, Int.toNat 400)) ∧
  ∀ m_153 : am_M, m_153 = am_fr m_151 (n + 1 + 1 + 1 + 1 + 1 + 1) →
  ∀ m_154 : am_M, m_154 = am_st m_153 v0 11 ((n + 1 + 1 + 1 + 1 + 1 + 1 : Nat) : Int) →
  ((0 : Int) ≤ 5 ∧ 5 ≤ (100000 : Int) ∧ am_sh (n + 1 + 1 + 1 + 1 + 1 + 1 + 1) = (20, Int.toNat 5)) ∧
  ∀ m_156 : am_M, m_156 = am_fr m_154 (n + 1 + 1 + 1 + 1 + 1 + 1 + 1) →
  ∀ m_157 : am_M, m_157 = am_st m_156 v0 12 ((n + 1 + 1 + 1 + 1 + 1 + 1 + 1 : Nat) : Int) →
  ∀ m_158 : am_M, m_158 = am_st m_157 v0 14 (-1) →
  ((0 : Int) ≤ 401 ∧ 401 ≤ (100000 : Int) ∧ am_sh (n + 1 + 1 + 1 + 1 + 1 + 1 + 1 + 1) = (20, Int.toNat 401)) ∧
  ∀ m_160 : am_M, m_160 = am_fr m_158 (n + 1 + 1 + 1 + 1 + 1 + 1 + 1 + 1) →
  ∀ m_161 : am_M, m_161 = am_st m_160 v0 15 ((n + 1 + 1 + 1 + 1 + 1 + 1 + 1 + 1 : Nat) : Int) →
  ((0 : Int) ≤ 401 ∧ 401 ≤ (100000 : Int) ∧ am_sh (n + 1 + 1 + 1 + 1 + 1 + 1 + 1 + 1 + 1) = (20, Int.toNat 401)) ∧
  ∀ m_163 : am_M, m_163 = am_fr m_161 (n + 1 + 1 + 1 + 1 + 1 + 1 + 1 + 1 + 1) →
  ∀ m_164 : am_M, m_164 = am_st m_163 v0 16 ((n + 1 + 1 + 1 + 1 + 1 + 1 + 1 + 1 + 1 : Nat) : Int) →
  ((0 : Int) ≤ 401 ∧ 401 ≤ (100000 : Int) ∧ am_sh (n + 1 + 1 + 1 + 1 + 1 + 1 + 1 + 1 + 1 + 1) = (20, Int.toNat 401)) ∧
  ∀ m_166 : am_M, m_166 = am_fr m_164 (n + 1 + 1 + 1 + 1 + 1 + 1 + 1 + 1 + 1 + 1) →
  ∀ m_167 : am_M, m_167 = am_st m_166 v0 17 ((n + 1 + 1 + 1 + 1 + 1 + 1 + 1 + 1 + 1 + 1 : Nat) : Int) →
  ((0 : Int) ≤ 8 ∧ 8 ≤ (100000 : Int) ∧ am_sh (n + 1 + 1 + 1 + 1 + 1 + 1 + 1 + 1 + 1 + 1 + 1) = (20, Int.toNat 8)) ∧
  ∀ m_169 : am_M, m_169 = am_fr m_167 (n + 1 + 1 + 1 + 1 + 1 + 1 + 1 + 1 + 1 + 1 + 1) →
  ∀ m_170 : am_M, m_170 = am_st m_169 v0 25 ((n + 1 + 1 + 1 + 1 + 1 + 1 + 1 + 1 + 1 + 1 + 1 : Nat) : Int) →
  ((0 : Int) ≤ 8 ∧ 8 ≤ (100000 : Int) ∧ am_sh (n + 1 + 1 + 1 + 1 + 1 + 1 + 1 + 1 + 1 + 1 + 1 + 1) = (20, Int.toNat 8)) ∧
  ∀ m_172 : am_M, m_172 = am_fr m_170 (n + 1 + 1 + 1 + 1 + 1 + 1 + 1 + 1 + 1 + 1 + 1 + 1) →
  ∀ m_173 : am_M, m_173 = am_st m_172 v0 26 ((n + 1 + 1 + 1 + 1 + 1 + 1 + 1 + 1 + 1 + 1 + 1 + 1 : Nat) : Int) →
  ((0 : Int) ≤ 8 ∧ 8 ≤ (100000 : Int) ∧ am_sh (n + 1 + 1 + 1 + 1 + 1 + 1 + 1 + 1 + 1 + 1 + 1 + 1 + 1) = (20, Int.toNat 8)) ∧
  ∀ m_175 : am_M, m_175 = am_fr m_173 (n + 1 + 1 + 1 + 1 + 1 + 1 + 1 + 1 + 1 + 1 + 1 + 1 + 1) →
  ∀ m_176 : am_M, m_176 = am_st m_175 v0 27 ((n + 1 + 1 + 1 + 1 + 1 + 1 + 1 + 1 + 1 + 1 + 1 + 1 + 1 : Nat) : Int) →
  ((0 : Int) ≤ 8 ∧ 8 ≤ (100000 : Int) ∧ am_sh (n + 1 + 1 + 1 + 1 + 1 + 1 + 1 + 1 + 1 + 1 + 1 + 1 + 1 + 1) = (20, Int.toNat 8)) ∧
  ∀ m_178 : am_M, m_178 = am_fr m_176 (n + 1 + 1 + 1 + 1 + 1 + 1 + 1 + 1 + 1 + 1 + 1 + 1 + 1 + 1) →
  ∀ m_179 : am_M, m_179 = am_st m_178 v0 28 ((n + 1 + 1 + 1 + 1 + 1 + 1 + 1 + 1 + 1 + 1 + 1 + 1 + 1 + 1 : Nat) : Int) →
  ((0 : Int) ≤ 8 ∧ 8 ≤ (100000 : Int) ∧ am_sh (n + 1 + 1 + 1 + 1 + 1 + 1 + 1 + 1 + 1 + 1 + 1 + 1 + 1 + 1 + 1) = (20, Int.toNat 8)) ∧
  ∀ m_181 : am_M, m_181 = am_fr m_179 (n + 1 + 1 + 1 + 1 + 1 + 1 + 1 + 1 + 1 + 1 + 1 + 1 + 1 + 1 + 1) →
  ∀ m_182 : am_M, m_182 = am_st m_181 v0 29 ((n + 1 + 1 + 1 + 1 + 1 + 1 + 1 + 1 + 1 + 1 + 1 + 1 + 1 + 1 + 1 : Nat) : Int) →
  ((0 : Int) ≤ 8 ∧ 8 ≤ (100000 : Int) ∧ am_sh (n + 1 + 1 + 1 + 1 + 1 + 1 + 1 + 1 + 1 + 1 + 1 + 1 + 1 + 1 + 1 + 1) = (20, Int.toNat 8)) ∧
  ∀ m_184 : am_M, m_184 = am_fr m_182 (n + 1 + 1 + 1 + 1 + 1 + 1 + 1 + 1 + 1 + 1 + 1 + 1 + 1 + 1 + 1 + 1) →
  ∀ m_185 : am_M, m_185 = am_st m_184 v0 30 ((n + 1 + 1 + 1 + 1 + 1 + 1 + 1 + 1 + 1 + 1 + 1 + 1 + 1 + 1 + 1 + 1 : Nat) : Int) →
  ((0 : Int) ≤ 8 ∧ 8 ≤ (100000 : Int) ∧ am_sh (n + 1 + 1 + 1 + 1 + 1 + 1 + 1 + 1 + 1 + 1 + 1 + 1 + 1 + 1 + 1 + 1 + 1) = (20, Int.toNat 8)) ∧
  ∀ m_187 : am_M, m_187 = am_fr m_185 (n + 1 + 1 + 1 + 1 + 1 + 1 + 1 + 1 + 1 + 1 + 1 + 1 + 1 + 1 + 1 + 1 + 1) →
  ∀ m_188 : am_M, m_188 = am_st m_187 v0 31 ((n + 1 + 1 + 1 + 1 + 1 + 1 + 1 + 1 + 1 + 1 + 1 + 1 + 1 + 1 + 1 + 1 + 1 : Nat) : Int) →
  ((0 : Int) ≤ 24 ∧ 24 ≤ (100000 : Int) ∧ am_sh (n + 1 + 1 + 1 + 1 + 1 + 1 + 1 + 1 + 1 + 1 + 1 + 1 + 1 + 1 + 1 + 1 + 1 + 1) = (20, Int.toNat 24)) ∧
  ∀ m_190 : am_M, m_190 = am_fr m_188 (n + 1 + 1 + 1 + 1 + 1 + 1 + 1 + 1 + 1 + 1 + 1 + 1 + 1 + 1 + 1 + 1 + 1 + 1) →
  ∀ m_191 : am_M, m_191 = am_st m_190 v0 32 ((n + 1 + 1 + 1 + 1 + 1 + 1 + 1 + 1 + 1 + 1 + 1 + 1 + 1 + 1 + 1 + 1 + 1 + 1 : Nat) : Int) →
  ((0 : Int) ≤ 24 ∧ 24 ≤ (100000 : Int) ∧ am_sh (n + 1 + 1 + 1 + 1 + 1 + 1 + 1 + 1 + 1 + 1 + 1 + 1 + 1 + 1 + 1 + 1 + 1 + 1 + 1) = (20, Int.toNat 24)) ∧
  ∀ m_193 : am_M, m_193 = am_fr m_191 (n + 1 + 1 + 1 + 1 + 1 + 1 + 1 + 1 + 1 + 1 + 1 + 1 + 1 + 1 + 1 + 1 + 1 + 1 + 1) →
  ∀ m_194 : am_M, m_194 = am_st m_193 v0 33 ((n + 1 + 1 + 1 + 1 + 1 + 1 + 1 + 1 + 1 + 1 + 1 + 1 + 1 + 1 + 1 + 1 + 1 + 1 + 1 : Nat) : Int) →
  ((0 : Int) ≤ 2736 ∧ 2736 ≤ (100000 : Int) ∧ am_sh (n + 1 + 1 + 1 + 1 + 1 + 1 + 1 + 1 + 1 + 1 + 1 + 1 + 1 + 1 + 1 + 1 + 1 + 1 + 1 + 1) = (20, Int.toNat 2736)) ∧
  ∀ m_196 : am_M, m_196 = am_fr m_194 (n + 1 + 1 + 1 + 1 + 1 + 1 + 1 + 1 + 1 + 1 + 1 + 1 + 1 + 1 + 1 + 1 + 1 + 1 + 1 + 1) →
  ∀ m_197 : am_M, m_197 = am_st m_196 v0 36 ((n + 1 + 1 + 1 + 1 + 1 + 1 + 1 + 1 + 1 + 1 + 1 + 1 + 1 + 1 + 1 + 1 + 1 + 1 + 1 + 1 : Nat) : Int) →
  ((0 : Int) ≤ 2736 ∧ 2736 ≤ (100000 : Int) ∧ am_sh (n + 1 + 1 + 1 + 1 + 1 + 1 + 1 + 1 + 1 + 1 + 1 + 1 + 1 + 1 + 1 + 1 + 1 + 1 + 1 + 1 + 1) = (20, Int.toNat 2736)) ∧
  ∀ m_199 : am_M, m_199 = am_fr m_197 (n + 1 + 1 + 1 + 1 + 1 + 1 + 1 + 1 + 1 + 1 + 1 + 1 + 1 + 1 + 1 + 1 + 1 + 1 + 1 + 1 + 1) →
  ∀ m_200 : am_M, m_200 = am_st m_199 v0 37 ((n + 1 + 1 + 1 + 1 + 1 + 1 + 1 + 1 + 1 + 1 + 1 + 1 + 1 + 1 + 1 + 1 + 1 + 1 + 1 + 1 + 1 : Nat) : Int) →
  ((0 : Int) ≤ 3 ∧ 3 ≤ (100000 : Int) ∧ am_sh (n + 1 + 1 + 1 + 1 + 1 + 1 + 1 + 1 + 1 + 1 + 1 + 1 + 1 + 1 + 1 + 1 + 1 + 1 + 1 + 1 + 1 + 1) = (20, Int.toNat 3)) ∧
  ∀ m_202 : am_M, m_202 = am_fr m_200 (n + 1 + 1 + 1 + 1 + 1 + 1 + 1 + 1 + 1 + 1 + 1 + 1 + 1 + 1 + 1 + 1 + 1 + 1 + 1 + 1 + 1 + 1) →
  ∀ m_203 : am_M, m_203 = am_st m_202 v0 39 ((n + 1 + 1 + 1 + 1 + 1 + 1 + 1 + 1 + 1 + 1 + 1 + 1 + 1 + 1 + 1 + 1 + 1 + 1 + 1 + 1 + 1 + 1 : Nat) : Int) →
  ((0 : Int) ≤ 8 ∧ 8 ≤ (100000 : Int) ∧ am_sh (n + 1 + 1 + 1 + 1 + 1 + 1 + 1 + 1 + 1 + 1 + 1 + 1 + 1 + 1 + 1 + 1 + 1 + 1 + 1 + 1 + 1 + 1 + 1) = (20, Int.toNat 8)) ∧
  ∀ m_205 : am_M, m_205 = am_fr m_203 (n + 1 + 1 + 1 + 1 + 1 + 1 + 1 + 1 + 1 + 1 + 1 + 1 + 1 + 1 + 1 + 1 + 1 + 1 + 1 + 1 + 1 + 1 + 1) →
  ∀ m_206 : am_M, m_206 = am_st m_205 v0 40 ((n + 1 + 1 + 1 + 1 + 1 + 1 + 1 + 1 + 1 + 1 + 1 + 1 + 1 + 1 + 1 + 1 + 1 + 1 + 1 + 1 + 1 + 1 + 1 : Nat) : Int) →
  ((0 : Int) ≤ 36 ∧ 36 ≤ (100000 : Int) ∧ am_sh (n + 1 + 1 + 1 + 1 + 1 + 1 + 1 + 1 + 1 + 1 + 1 + 1 + 1 + 1 + 1 + 1 + 1 + 1 + 1 + 1 + 1 + 1 + 1 + 1) = (20, Int.toNat 36)) ∧
  ∀ m_208 : am_M, m_208 = am_fr m_206 (n + 1 + 1 + 1 + 1 + 1 + 1 + 1 + 1 + 1 + 1 + 1 + 1 + 1 + 1 + 1 + 1 + 1 + 1 + 1 + 1 + 1 + 1 + 1 + 1) →
  ∀ m_209 : am_M, m_209 = am_st m_208 v0 41 ((n + 1 + 1 + 1 + 1 + 1 + 1 + 1 + 1 + 1 + 1 + 1 + 1 + 1 + 1 + 1 + 1 + 1 + 1 + 1 + 1 + 1 + 1 + 1 + 1 : Nat) : Int) →
  ((0 : Int) ≤ 6 ∧ 6 ≤ (100000 : Int) ∧ am_sh (n + 1 + 1 + 1 + 1 + 1 + 1 + 1 + 1 + 1 + 1 + 1 + 1 + 1 + 1 + 1 + 1 + 1 + 1 + 1 + 1 + 1 + 1 + 1 + 1 + 1) = (20, Int.toNat 6)) ∧
  ∀ m_211 : am_M, m_211 = am_fr m_209 (n + 1 + 1 + 1 + 1 + 1 + 1 + 1 + 1 + 1 + 1 + 1 + 1 + 1 + 1 + 1 + 1 + 1 + 1 + 1 + 1 + 1 + 1 + 1 + 1 + 1) →
  ∀ m_212 : am_M, m_212 = am_st m_211 v0 42 ((n + 1 + 1 + 1 + 1 + 1 + 1 + 1 + 1 + 1 + 1 + 1 + 1 + 1 + 1 + 1 + 1 + 1 + 1 + 1 + 1 + 1 + 1 + 1 + 1 + 1 : Nat) : Int) →
  ((0 : Int) ≤ 6 ∧ 6 ≤ (100000 : Int) ∧ am_sh (n + 1 + 1 + 1 + 1 + 1 + 1 + 1 + 1 + 1 + 1 + 1 + 1 + 1 + 1 + 1 + 1 + 1 + 1 + 1 + 1 + 1 + 1 + 1 + 1 + 1 + 1) = (20, Int.toNat 6)) ∧
  ∀ m_214 : am_M, m_214 = am_fr m_212 (n + 1 + 1 + 1 + 1 + 1 + 1 + 1 + 1 + 1 + 1 + 1 + 1 + 1 + 1 + 1 + 1 + 1 + 1 + 1 + 1 + 1 + 1 + 1 + 1 + 1 + 1) →
  ∀ m_215 : am_M, m_215 = am_st m_214 v0 43 ((n + 1 + 1 + 1 + 1 + 1 + 1 + 1 + 1 + 1 + 1 + 1 + 1 + 1 + 1 + 1 + 1 + 1 + 1 + 1 + 1 + 1 + 1 + 1 + 1 + 1 + 1 : Nat) : Int) →
  ((0 : Int) ≤ 6 ∧ 6 ≤ (100000 : Int) ∧ am_sh (n + 1 + 1 + 1 + 1 + 1 + 1 + 1 + 1 + 1 + 1 + 1 + 1 + 1 + 1 + 1 + 1 + 1 + 1 + 1 + 1 + 1 + 1 + 1 + 1 + 1 + 1 + 1) = (20, Int.toNat 6)) ∧
  ∀ m_217 : am_M, m_217 = am_fr m_215 (n + 1 + 1 + 1 + 1 + 1 + 1 + 1 + 1 + 1 + 1 + 1 + 1 + 1 + 1 + 1 + 1 + 1 + 1 + 1 + 1 + 1 + 1 + 1 + 1 + 1 + 1 + 1) →
  ∀ m_218 : am_M, m_218 = am_st m_217 v0 44 ((n + 1 + 1 + 1 + 1 + 1 + 1 + 1 + 1 + 1 + 1 + 1 + 1 + 1 + 1 + 1 + 1 + 1 + 1 + 1 + 1 + 1 + 1 + 1 + 1 + 1 + 1 + 1 : Nat) : Int) →
  ∀ m_219 : am_M, m_219 = am_st m_218 v0 48 (-1) →
  ((0 : Int) ≤ 3 ∧ 3 ≤ (100000 : Int) ∧ am_sh (n + 1 + 1 + 1 + 1 + 1 + 1 + 1 + 1 + 1 + 1 + 1 + 1 + 1 + 1 + 1 + 1 + 1 + 1 + 1 + 1 + 1 + 1 + 1 + 1 + 1 + 1 + 1 + 1) = (23, Int.toNat 3)) ∧
  ∀ m_221 : am_M, m_221 = am_fr m_219 (n + 1 + 1 + 1 + 1 + 1 + 1 + 1 + 1 + 1 + 1 + 1 + 1 + 1 + 1 + 1 + 1 + 1 + 1 + 1 + 1 + 1 + 1 + 1 + 1 + 1 + 1 + 1 + 1) →
  ∀ m_222 : am_M, m_222 = am_st m_221 v0 55 ((n + 1 + 1 + 1 + 1 + 1 + 1 + 1 + 1 + 1 + 1 + 1 + 1 + 1 + 1 + 1 + 1 + 1 + 1 + 1 + 1 + 1 + 1 + 1 + 1 + 1 + 1 + 1 + 1 : Nat) : Int) →
  ((0 : Int) ≤ 6 ∧ 6 ≤ (100000 : Int) ∧ am_sh (n + 1 + 1 + 1 + 1 + 1 + 1 + 1 + 1 + 1 + 1 + 1 + 1 + 1 + 1 + 1 + 1 + 1 + 1 + 1 + 1 + 1 + 1 + 1 + 1 + 1 + 1 + 1 + 1 + 1) = (20, Int.toNat 6)) ∧
  ∀ m_224 : am_M, m_224 = am_fr m_222 (n + 1 + 1 + 1 + 1 + 1 + 1 + 1 + 1 + 1 + 1 + 1 + 1 + 1 + 1 + 1 + 1 + 1 + 1 + 1 + 1 + 1 + 1 + 1 + 1 + 1 + 1 + 1 + 1 + 1) →
  ∀ m_225 : am_M, m_225 = am_st m_224 v0 56 ((n + 1 + 1 + 1 + 1 + 1 + 1 + 1 + 1 + 1 + 1 + 1 + 1 + 1 + 1 + 1 + 1 + 1 + 1 + 1 + 1 + 1 + 1 + 1 + 1 + 1 + 1 + 1 + 1 + 1 : Nat) : Int) →
  ((0 : Int) ≤ 18 ∧ 18 ≤ (100000 : Int) ∧ am_sh (n + 1 + 1 + 1 + 1 + 1 + 1 + 1 + 1 + 1 + 1 + 1 + 1 + 1 + 1 + 1 + 1 + 1 + 1 + 1 + 1 + 1 + 1 + 1 + 1 + 1 + 1 + 1 + 1 + 1 + 1) = (20, Int.toNat 18)) ∧
  ∀ m_227 : am_M, m_227 = am_fr m_225 (n + 1 + 1 + 1 + 1 + 1 + 1 + 1 + 1 + 1 + 1 + 1 + 1 + 1 + 1 + 1 + 1 + 1 + 1 + 1 + 1 + 1 + 1 + 1 + 1 + 1 + 1 + 1 + 1 + 1 + 1) →
  ∀ m_228 : am_M, m_228 = am_st m_227 v0 57 ((n + 1 + 1 + 1 + 1 + 1 + 1 + 1 + 1 + 1 + 1 + 1 + 1 + 1 + 1 + 1 + 1 + 1 + 1 + 1 + 1 + 1 + 1 + 1 + 1 + 1 + 1 + 1 + 1 + 1 + 1 : Nat) : Int) →
  (am_isA (n + 1 + 1 + 1 + 1 + 1 + 1 + 1 + 1 + 1 + 1 + 1 + 1 + 1 + 1 + 1 + 1 + 1 + 1 + 1 + 1 + 1 + 1 + 1 + 1 + 1 + 1 + 1 + 1 + 1 + 1 + 1) (m_228 v0 2) 20 (am_len (m_228 v0 2)) ∧ 360 < am_len (m_228 v0 2)) ∧
  ∀ m_229 : am_M, m_229 = am_st m_228 (m_228 v0 2) 360 1 →
  (am_isA (n + 1 + 1 + 1 + 1 + 1 + 1 + 1 + 1 + 1 + 1 + 1 + 1 + 1 + 1 + 1 + 1 + 1 + 1 + 1 + 1 + 1 + 1 + 1 + 1 + 1 + 1 + 1 + 1 + 1 + 1 + 1) (m_229 v0 2) 20 (am_len (m_229 v0 2)) ∧ 361 < am_len (m_229 v0 2)) ∧
  ∀ m_231 : am_M, m_231 = am_st m_229 (m_229 v0 2) 361 3 →
  (am_isA (n + 1 + 1 + 1 + 1 + 1 + 1 + 1 + 1 + 1 + 1 + 1 + 1 + 1 + 1 + 1 + 1 + 1 + 1 + 1 + 1 + 1 + 1 + 1 + 1 + 1 + 1 + 1 + 1 + 1 + 1 + 1) (m_231 v0 2) 20 (am_len (m_231 v0 2)) ∧ 369 < am_len (m_231 v0 2)) ∧
  ∀ m_233 : am_M, m_233 = am_st m_231 (m_231 v0 2) 369 (-1) →
  K m_233
set_option maxRecDepth 20000 in
def CT_X12_init : am_T3 := fun as post m n => ∃ v0 : Int, as = [(2, v0)] ∧ am_is n v0 12 ∧ C_X12_init v0 (fun m' => post none m' (n + 31)) m n
theorem qp_X12_init : (parseMethodDescriptor yX12_init.desc).map (fun d => d.parameters.length) = some 0 := by decide +kernel
set_option maxRecDepth 20000 in
theorem C_X12_init_mono {v0 : Int} {K K' : am_M → Prop} {m : am_M} {n : Nat} (h : C_X12_init v0 K m n) (hK : ∀ x, K x → K' x) : C_X12_init v0 K' m n := by
  unfold C_X12_init at h ⊢
  obtain ⟨q_235, h⟩ := h
  refine ⟨q_235, ?_⟩
  intro m_2 e_m_2
  have h := h m_2 e_m_2
  intro m_3 e_m_3
  have h := h m_3 e_m_3
  obtain ⟨q_236, h⟩ := h
  refine ⟨q_236, ?_⟩
  intro m_5 e_m_5
  have h := h m_5 e_m_5
  intro m_6 e_m_6
  have h := h m_6 e_m_6
  obtain ⟨q_237, h⟩ := h
  refine ⟨q_237, ?_⟩
  intro m_8 e_m_8
  have h := h m_8 e_m_8
  intro m_9 e_m_9
  have h := h m_9 e_m_9
  obtain ⟨q_238, h⟩ := h
  refine ⟨q_238, ?_⟩
  intro m_11 e_m_11
  have h := h m_11 e_m_11
  intro m_12 e_m_12
  have h := h m_12 e_m_12
  obtain ⟨q_239, h⟩ := h
  refine ⟨q_239, ?_⟩
  intro m_14 e_m_14
  have h := h m_14 e_m_14
  intro m_15 e_m_15
  have h := h m_15 e_m_15
  obtain ⟨q_240, h⟩ := h
  refine ⟨q_240, ?_⟩
  intro m_17 e_m_17
  have h := h m_17 e_m_17
  intro m_18 e_m_18
  have h := h m_18 e_m_18
  intro m_19 e_m_19
  have h := h m_19 e_m_19
  intro m_20 e_m_20
  have h := h m_20 e_m_20
  intro m_21 e_m_21
  have h := h m_21 e_m_21
  intro m_22 e_m_22
  have h := h m_22 e_m_22
  intro m_23 e_m_23
  have h := h m_23 e_m_23
  intro m_24 e_m_24
  have h := h m_24 e_m_24
  intro m_25 e_m_25
  have h := h m_25 e_m_25
  intro m_26 e_m_26
  have h := h m_26 e_m_26
  intro m_27 e_m_27
  have h := h m_27 e_m_27
  intro m_28 e_m_28
  have h := h m_28 e_m_28
  intro m_29 e_m_29
  have h := h m_29 e_m_29
  intro m_30 e_m_30
  have h := h m_30 e_m_30
  intro m_31 e_m_31
  have h := h m_31 e_m_31
  intro m_32 e_m_32
  have h := h m_32 e_m_32
  intro m_33 e_m_33
  have h := h m_33 e_m_33
  intro m_34 e_m_34
  have h := h m_34 e_m_34
  intro m_35 e_m_35
  have h := h m_35 e_m_35
  intro m_36 e_m_36
  have h := h m_36 e_m_36
  intro m_37 e_m_37
  have h := h m_37 e_m_37
  intro m_38 e_m_38
  have h := h m_38 e_m_38
  intro m_39 e_m_39
  have h := h m_39 e_m_39
  intro m_40 e_m_40
  have h := h m_40 e_m_40
  intro m_41 e_m_41
  have h := h m_41 e_m_41
  intro m_42 e_m_42
  have h := h m_42 e_m_42
  intro m_43 e_m_43
  have h := h m_43 e_m_43
  intro m_44 e_m_44
  have h := h m_44 e_m_44
  intro m_45 e_m_45
  have h := h m_45 e_m_45
  intro m_46 e_m_46
  have h := h m_46 e_m_46
  intro m_47 e_m_47
  have h := h m_47 e_m_47
  intro m_48 e_m_48
  have h := h m_48 e_m_48
  intro m_49 e_m_49
  have h := h m_49 e_m_49
  intro m_50 e_m_50
  have h := h m_50 e_m_50
  intro m_51 e_m_51
  have h := h m_51 e_m_51
  intro m_52 e_m_52
  have h := h m_52 e_m_52
  intro m_53 e_m_53
  have h := h m_53 e_m_53
  intro m_54 e_m_54
  have h := h m_54 e_m_54
  intro m_55 e_m_55
  have h := h m_55 e_m_55
  intro m_56 e_m_56
  have h := h m_56 e_m_56
  intro m_57 e_m_57
  have h := h m_57 e_m_57
  intro m_58 e_m_58
  have h := h m_58 e_m_58
  intro m_59 e_m_59
  have h := h m_59 e_m_59
  intro m_60 e_m_60
  have h := h m_60 e_m_60
  intro m_61 e_m_61
  have h := h m_61 e_m_61
  intro m_62 e_m_62
  have h := h m_62 e_m_62
  intro m_63 e_m_63
  have h := h m_63 e_m_63
  intro m_64 e_m_64
  have h := h m_64 e_m_64
  intro m_65 e_m_65
  have h := h m_65 e_m_65
  intro m_66 e_m_66
  have h := h m_66 e_m_66
  intro m_67 e_m_67
  have h := h m_67 e_m_67
  intro m_68 e_m_68
  have h := h m_68 e_m_68
  intro m_69 e_m_69
  have h := h m_69 e_m_69
  intro m_70 e_m_70
  have h := h m_70 e_m_70
  intro m_71 e_m_71
  have h := h m_71 e_m_71
  intro m_72 e_m_72
  have h := h m_72 e_m_72
  intro m_73 e_m_73
  have h := h m_73 e_m_73
  intro m_74 e_m_74
  have h := h m_74 e_m_74
  intro m_75 e_m_75
  have h := h m_75 e_m_75
  intro m_76 e_m_76
  have h := h m_76 e_m_76
  intro m_77 e_m_77
  have h := h m_77 e_m_77
  intro m_78 e_m_78
  have h := h m_78 e_m_78
  intro m_79 e_m_79
  have h := h m_79 e_m_79
  intro m_80 e_m_80
  have h := h m_80 e_m_80
  intro m_81 e_m_81
  have h := h m_81 e_m_81
  intro m_82 e_m_82
  have h := h m_82 e_m_82
  intro m_83 e_m_83
  have h := h m_83 e_m_83
  intro m_84 e_m_84
  have h := h m_84 e_m_84
  intro m_85 e_m_85
  have h := h m_85 e_m_85
  intro m_86 e_m_86
  have h := h m_86 e_m_86
  intro m_87 e_m_87
  have h := h m_87 e_m_87
  intro m_88 e_m_88
  have h := h m_88 e_m_88
  intro m_89 e_m_89
  have h := h m_89 e_m_89
  intro m_90 e_m_90
  have h := h m_90 e_m_90
  intro m_91 e_m_91
  have h := h m_91 e_m_91
  intro m_92 e_m_92
  have h := h m_92 e_m_92
  intro m_93 e_m_93
  have h := h m_93 e_m_93
  intro m_94 e_m_94
  have h := h m_94 e_m_94
  intro m_95 e_m_95
  have h := h m_95 e_m_95
  intro m_96 e_m_96
  have h := h m_96 e_m_96
  intro m_97 e_m_97
  have h := h m_97 e_m_97
  intro m_98 e_m_98
  have h := h m_98 e_m_98
  intro m_99 e_m_99
  have h := h m_99 e_m_99
  intro m_100 e_m_100
  have h := h m_100 e_m_100
  intro m_101 e_m_101
  have h := h m_101 e_m_101
  intro m_102 e_m_102
  have h := h m_102 e_m_102
  intro m_103 e_m_103
  have h := h m_103 e_m_103
  intro m_104 e_m_104
  have h := h m_104 e_m_104
  intro m_105 e_m_105
  have h := h m_105 e_m_105
  intro m_106 e_m_106
  have h := h m_106 e_m_106
  intro m_107 e_m_107
  have h := h m_107 e_m_107
  intro m_108 e_m_108
  have h := h m_108 e_m_108
  intro m_109 e_m_109
  have h := h m_109 e_m_109
  intro m_110 e_m_110
  have h := h m_110 e_m_110
  intro m_111 e_m_111
  have h := h m_111 e_m_111
  intro m_112 e_m_112
  have h := h m_112 e_m_112
  intro m_113 e_m_113
  have h := h m_113 e_m_113
  intro m_114 e_m_114
  have h := h m_114 e_m_114
  intro m_115 e_m_115
  have h := h m_115 e_m_115
  intro m_116 e_m_116
  have h := h m_116 e_m_116
  intro m_117 e_m_117
  have h := h m_117 e_m_117
  intro m_118 e_m_118
  have h := h m_118 e_m_118
  intro m_119 e_m_119
  have h := h m_119 e_m_119
  intro m_120 e_m_120
  have h := h m_120 e_m_120
  intro m_121 e_m_121
  have h := h m_121 e_m_121
  intro m_122 e_m_122
  have h := h m_122 e_m_122
  intro m_123 e_m_123
  have h := h m_123 e_m_123
  intro m_124 e_m_124
  have h := h m_124 e_m_124
  intro m_125 e_m_125
  have h := h m_125 e_m_125
  intro m_126 e_m_126
  have h := h m_126 e_m_126
  intro m_127 e_m_127
  have h := h m_127 e_m_127
  intro m_128 e_m_128
  have h := h m_128 e_m_128
  intro m_129 e_m_129
  have h := h m_129 e_m_129
  intro m_130 e_m_130
  have h := h m_130 e_m_130
  intro m_131 e_m_131
  have h := h m_131 e_m_131
  intro m_132 e_m_132
  have h := h m_132 e_m_132
  intro m_133 e_m_133
  have h := h m_133 e_m_133
  intro m_134 e_m_134
  have h := h m_134 e_m_134
  intro m_135 e_m_135
  have h := h m_135 e_m_135
  intro m_136 e_m_136
  have h := h m_136 e_m_136
  intro m_137 e_m_137
  have h := h m_137 e_m_137
  intro m_138 e_m_138
  have h := h m_138 e_m_138
  intro m_139 e_m_139
  have h := h m_139 e_m_139
  intro m_140 e_m_140
  have h := h m_140 e_m_140
  intro m_141 e_m_141
  have h := h m_141 e_m_141
  intro m_142 e_m_142
  have h := h m_142 e_m_142
  intro m_143 e_m_143
  have h := h m_143 e_m_143
  intro m_144 e_m_144
  have h := h m_144 e_m_144
  intro m_145 e_m_145
  have h := h m_145 e_m_145
  intro m_146 e_m_146
  have h := h m_146 e_m_146
  intro m_147 e_m_147
  have h := h m_147 e_m_147
  intro m_148 e_m_148
  have h := h m_148 e_m_148
  intro m_149 e_m_149
  have h := h m_149 e_m_149
  intro m_150 e_m_150
  have h := h m_150 e_m_150
  intro m_151 e_m_151
  have h := h m_151 e_m_151
  obtain ⟨q_241, h⟩ := h
  refine ⟨q_241, ?_⟩
  intro m_153 e_m_153
  have h := h m_153 e_m_153
  intro m_154 e_m_154
  have h := h m_154 e_m_154
  obtain ⟨q_242, h⟩ := h
  refine ⟨q_242, ?_⟩
  intro m_156 e_m_156
  have h := h m_156 e_m_156
  intro m_157 e_m_157
  have h := h m_157 e_m_157
  intro m_158 e_m_158
  have h := h m_158 e_m_158
  obtain ⟨q_243, h⟩ := h
  refine ⟨q_243, ?_⟩
  intro m_160 e_m_160
  have h := h m_160 e_m_160
  intro m_161 e_m_161
  have h := h m_161 e_m_161
  obtain ⟨q_244, h⟩ := h
  refine ⟨q_244, ?_⟩
  intro m_163 e_m_163
  have h := h m_163 e_m_163
  intro m_164 e_m_164
  have h := h m_164 e_m_164
  obtain ⟨q_245, h⟩ := h
  refine ⟨q_245, ?_⟩
  intro m_166 e_m_166
  have h := h m_166 e_m_166
  intro m_167 e_m_167
  have h := h m_167 e_m_167
  obtain ⟨q_246, h⟩ := h
  refine ⟨q_246, ?_⟩
  intro m_169 e_m_169
  have h := h m_169 e_m_169
  intro m_170 e_m_170
  have h := h m_170 e_m_170
  obtain ⟨q_247, h⟩ := h
  refine ⟨q_247, ?_⟩
  intro m_172 e_m_172
  have h := h m_172 e_m_172
  intro m_173 e_m_173
  have h := h m_173 e_m_173
  obtain ⟨q_248, h⟩ := h
  refine ⟨q_248, ?_⟩
  intro m_175 e_m_175
  have h := h m_175 e_m_175
  intro m_176 e_m_176
  have h := h m_176 e_m_176
  obtain ⟨q_249, h⟩ := h
  refine ⟨q_249, ?_⟩
  intro m_178 e_m_178
  have h := h m_178 e_m_178
  intro m_179 e_m_179
  have h := h m_179 e_m_179
  obtain ⟨q_250, h⟩ := h
  refine ⟨q_250, ?_⟩
  intro m_181 e_m_181
  have h := h m_181 e_m_181
  intro m_182 e_m_182
  have h := h m_182 e_m_182
  obtain ⟨q_251, h⟩ := h
  refine ⟨q_251, ?_⟩
  intro m_184 e_m_184
  have h := h m_184 e_m_184
  intro m_185 e_m_185
  have h := h m_185 e_m_185
  obtain ⟨q_252, h⟩ := h
  refine ⟨q_252, ?_⟩
  intro m_187 e_m_187
  have h := h m_187 e_m_187
  intro m_188 e_m_188
  have h := h m_188 e_m_188
  obtain ⟨q_253, h⟩ := h
  refine ⟨q_253, ?_⟩
  intro m_190 e_m_190
  have h := h m_190 e_m_190
  intro m_191 e_m_191
  have h := h m_191 e_m_191
  obtain ⟨q_254, h⟩ := h
  refine ⟨q_254, ?_⟩
  intro m_193 e_m_193
  have h := h m_193 e_m_193
  intro m_194 e_m_194
  have h := h m_194 e_m_194
  obtain ⟨q_255, h⟩ := h
  refine ⟨q_255, ?_⟩
  intro m_196 e_m_196
  have h := h m_196 e_m_196
  intro m_197 e_m_197
  have h := h m_197 e_m_197
  obtain ⟨q_256, h⟩ := h
  refine ⟨q_256, ?_⟩
  intro m_199 e_m_199
  have h := h m_199 e_m_199
  intro m_200 e_m_200
  have h := h m_200 e_m_200
  obtain ⟨q_257, h⟩ := h
  refine ⟨q_257, ?_⟩
  intro m_202 e_m_202
  have h := h m_202 e_m_202
  intro m_203 e_m_203
  have h := h m_203 e_m_203
  obtain ⟨q_258, h⟩ := h
  refine ⟨q_258, ?_⟩
  intro m_205 e_m_205
  have h := h m_205 e_m_205
  intro m_206 e_m_206
  have h := h m_206 e_m_206
  obtain ⟨q_259, h⟩ := h
  refine ⟨q_259, ?_⟩
  intro m_208 e_m_208
  have h := h m_208 e_m_208
  intro m_209 e_m_209
  have h := h m_209 e_m_209
  obtain ⟨q_260, h⟩ := h
  refine ⟨q_260, ?_⟩
  intro m_211 e_m_211
  have h := h m_211 e_m_211
  intro m_212 e_m_212
  have h := h m_212 e_m_212
  obtain ⟨q_261, h⟩ := h
  refine ⟨q_261, ?_⟩
  intro m_214 e_m_214
  have h := h m_214 e_m_214
  intro m_215 e_m_215
  have h := h m_215 e_m_215
  obtain ⟨q_262, h⟩ := h
  refine ⟨q_262, ?_⟩
  intro m_217 e_m_217
  have h := h m_217 e_m_217
  intro m_218 e_m_218
  have h := h m_218 e_m_218
  intro m_219 e_m_219
  have h := h m_219 e_m_219
  obtain ⟨q_263, h⟩ := h
  refine ⟨q_263, ?_⟩
  intro m_221 e_m_221
  have h := h m_221 e_m_221
  intro m_222 e_m_222
  have h := h m_222 e_m_222
  obtain ⟨q_264, h⟩ := h
  refine ⟨q_264, ?_⟩
  intro m_224 e_m_224
  have h := h m_224 e_m_224
  intro m_225 e_m_225
  have h := h m_225 e_m_225
  obtain ⟨q_265, h⟩ := h
  refine ⟨q_265, ?_⟩
  intro m_227 e_m_227
  have h := h m_227 e_m_227
  intro m_228 e_m_228
  have h := h m_228 e_m_228
  obtain ⟨q_266, h⟩ := h
  refine ⟨q_266, ?_⟩
  intro m_229 e_m_229
  have h := h m_229 e_m_229
  obtain ⟨q_267, h⟩ := h
  refine ⟨q_267, ?_⟩
  intro m_231 e_m_231
  have h := h m_231 e_m_231
  obtain ⟨q_268, h⟩ := h
  refine ⟨q_268, ?_⟩
  intro m_233 e_m_233
  have h := h m_233 e_m_233
  exact hK _ h
set_option maxRecDepth 20000 in
theorem CC_X12_init {v0 : Int} {K1 : am_M → Prop} {m : am_M} {n : Nat} (hob : am_is n v0 12) (h : C_X12_init v0 K1 m n) : CT_X12_init [(2, v0)] (fun r m' n' => r = none ∧ K1 m') m n := ⟨v0, rfl, hob, C_X12_init_mono h (fun x hx => ⟨rfl, hx⟩)⟩
set_option maxRecDepth 20000 in
set_option maxHeartbeats 4000000 in
theorem SC_X12_init : am_Snd yX12_init cX12_init 1 none 31 0 CT_X12_init := by
  refine am_SndOf (by decide +kernel) ?_ ?_
  · rintro as post m n ⟨v0, rfl, -⟩
    exact Nat.le_of_ble_eq_true rfl
  · rintro F post as m n G hP - hdd hl he hI ⟨v0, rfl, hob, h⟩
    have hI := hI rfl
    have G : am_G F cX12_init RX12 := G
    change am_Z F 0 [] [(2, v0)] m n
    unfold C_X12_init at h
    refine z_aload_n (nx := 1) (a := 0) G rfl (Or.inl rfl) dX12_init_0 rfl ?_
    refine z_objInit (nx := 4) G hob.1 ml_RX12_18 (Nat.le_of_ble_eq_true rfl) dX12_init_1 rfl ?_
    refine z_aload_n (nx := 5) (a := 0) G rfl (Or.inl rfl) dX12_init_4 rfl ?_
    refine z_bipush (nx := 7) (z := 7) G (R32c rfl) rfl dX12_init_5 rfl ?_
    obtain ⟨hs_1, h⟩ := h
    refine c_newi (nx := 9) G aw_int hs_1 ((hl _).mpr (by omega)) dX12_init_7 rfl (fun m_2 e_m_2 => ?_)
    have h := h m_2 e_m_2
    refine c_putF (nx := 12) (k0 := 1) (t := 2) G fl_RX12_7 (Nat.le_of_ble_eq_true rfl) (Nat.le_of_ble_eq_true rfl) rfl hI rfl fw_RX12_7 rfl (am_is_mono hob (by omega)) dX12_init_9 rfl (fun m_3 e_m_3 => ?_)
    have h := h m_3 e_m_3
    refine z_aload_n (nx := 13) (a := 0) G rfl (Or.inl rfl) dX12_init_12 rfl ?_
    refine z_sipush (nx := 16) (z := 5977) G (R32c rfl) rfl dX12_init_13 rfl ?_
    obtain ⟨hs_4, h⟩ := h
    refine c_newi (nx := 18) G aw_int hs_4 ((hl _).mpr (by omega)) dX12_init_16 rfl (fun m_5 e_m_5 => ?_)
    have h := h m_5 e_m_5
    refine c_putF (nx := 21) (k0 := 2) (t := 2) G fl_RX12_24 (Nat.le_of_ble_eq_true rfl) (Nat.le_of_ble_eq_true rfl) rfl hI rfl fw_RX12_24 rfl (am_is_mono hob (by omega)) dX12_init_18 rfl (fun m_6 e_m_6 => ?_)
    have h := h m_6 e_m_6
    refine z_aload_n (nx := 22) (a := 0) G rfl (Or.inl rfl) dX12_init_21 rfl ?_
    refine z_sipush (nx := 25) (z := 11954) G (R32c rfl) rfl dX12_init_22 rfl ?_
    obtain ⟨hs_7, h⟩ := h
    refine c_newi (nx := 27) G aw_int hs_7 ((hl _).mpr (by omega)) dX12_init_25 rfl (fun m_8 e_m_8 => ?_)
    have h := h m_8 e_m_8
    refine c_putF (nx := 30) (k0 := 3) (t := 2) G fl_RX12_27 (Nat.le_of_ble_eq_true rfl) (Nat.le_of_ble_eq_true rfl) rfl hI rfl fw_RX12_27 rfl (am_is_mono hob (by omega)) dX12_init_27 rfl (fun m_9 e_m_9 => ?_)
    have h := h m_9 e_m_9
    refine z_aload_n (nx := 31) (a := 0) G rfl (Or.inl rfl) dX12_init_30 rfl ?_
    refine z_iconst (nx := 32) (z := 2) G (R32c rfl) dX12_init_31 rfl ?_
    obtain ⟨hs_10, h⟩ := h
    refine c_newz (nx := 34) G aw_boolean hs_10 ((hl _).mpr (by omega)) dX12_init_32 rfl (fun m_11 e_m_11 => ?_)
    have h := h m_11 e_m_11
    refine c_putF (nx := 37) (k0 := 4) (t := 2) G fl_RX12_30 (Nat.le_of_ble_eq_true rfl) (Nat.le_of_ble_eq_true rfl) rfl hI rfl fw_RX12_30 rfl (am_is_mono hob (by omega)) dX12_init_34 rfl (fun m_12 e_m_12 => ?_)
    have h := h m_12 e_m_12
    refine z_aload_n (nx := 38) (a := 0) G rfl (Or.inl rfl) dX12_init_37 rfl ?_
    refine z_sipush (nx := 41) (z := 340) G (R32c rfl) rfl dX12_init_38 rfl ?_
    obtain ⟨hs_13, h⟩ := h
    refine c_newi (nx := 43) G aw_int hs_13 ((hl _).mpr (by omega)) dX12_init_41 rfl (fun m_14 e_m_14 => ?_)
    have h := h m_14 e_m_14
    refine c_putF (nx := 46) (k0 := 5) (t := 2) G fl_RX12_34 (Nat.le_of_ble_eq_true rfl) (Nat.le_of_ble_eq_true rfl) rfl hI rfl fw_RX12_34 rfl (am_is_mono hob (by omega)) dX12_init_43 rfl (fun m_15 e_m_15 => ?_)
    have h := h m_15 e_m_15
    refine z_aload_n (nx := 47) (a := 0) G rfl (Or.inl rfl) dX12_init_46 rfl ?_
    refine z_sipush (nx := 50) (z := 133) G (R32c rfl) rfl dX12_init_47 rfl ?_
    obtain ⟨hs_16, h⟩ := h
    refine c_newb (nx := 52) G aw_byte hs_16 ((hl _).mpr (by omega)) dX12_init_50 rfl (fun m_17 e_m_17 => ?_)
    have h := h m_17 e_m_17
    refine z_dup (nx := 53) G (fun h => nomatch h) dX12_init_52 rfl ?_
    refine z_iconst (nx := 54) (z := 0) G (R32c rfl) dX12_init_53 rfl ?_
    refine z_bipush (nx := 56) (z := 114) G (R32c rfl) rfl dX12_init_54 rfl ?_
    refine c_bast (nx := 57) G (by decide) (am_isA_mono (am_isA_new hs_16.1 hs_16.2.2) (by omega)) (by decide) (by decide) dX12_init_56 rfl (fun m_18 e_m_18 => ?_)
    have h := h m_18 e_m_18
    refine z_dup (nx := 58) G (fun h => nomatch h) dX12_init_57 rfl ?_
    refine z_iconst (nx := 59) (z := 1) G (R32c rfl) dX12_init_58 rfl ?_
    refine z_bipush (nx := 61) (z := 97) G (R32c rfl) rfl dX12_init_59 rfl ?_
    refine c_bast (nx := 62) G (by decide) (am_isA_mono (am_isA_new hs_16.1 hs_16.2.2) (by omega)) (by decide) (by decide) dX12_init_61 rfl (fun m_19 e_m_19 => ?_)
    have h := h m_19 e_m_19
    refine z_dup (nx := 63) G (fun h => nomatch h) dX12_init_62 rfl ?_
    refine z_iconst (nx := 64) (z := 2) G (R32c rfl) dX12_init_63 rfl ?_
    refine z_bipush (nx := 66) (z := 110) G (R32c rfl) rfl dX12_init_64 rfl ?_
    refine c_bast (nx := 67) G (by decide) (am_isA_mono (am_isA_new hs_16.1 hs_16.2.2) (by omega)) (by decide) (by decide) dX12_init_66 rfl (fun m_20 e_m_20 => ?_)
    have h := h m_20 e_m_20
    refine z_dup (nx := 68) G (fun h => nomatch h) dX12_init_67 rfl ?_
    refine z_iconst (nx := 69) (z := 3) G (R32c rfl) dX12_init_68 rfl ?_
    refine z_bipush (nx := 71) (z := 107) G (R32c rfl) rfl dX12_init_69 rfl ?_
    refine c_bast (nx := 72) G (by decide) (am_isA_mono (am_isA_new hs_16.1 hs_16.2.2) (by omega)) (by decide) (by decide) dX12_init_71 rfl (fun m_21 e_m_21 => ?_)
    have h := h m_21 e_m_21
    refine z_dup (nx := 73) G (fun h => nomatch h) dX12_init_72 rfl ?_
    refine z_iconst (nx := 74) (z := 4) G (R32c rfl) dX12_init_73 rfl ?_
    refine z_bipush (nx := 76) (z := 32) G (R32c rfl) rfl dX12_init_74 rfl ?_
    refine c_bast (nx := 77) G (by decide) (am_isA_mono (am_isA_new hs_16.1 hs_16.2.2) (by omega)) (by decide) (by decide) dX12_init_76 rfl (fun m_22 e_m_22 => ?_)
    have h := h m_22 e_m_22
    refine z_dup (nx := 78) G (fun h => nomatch h) dX12_init_77 rfl ?_
    refine z_iconst (nx := 79) (z := 5) G (R32c rfl) dX12_init_78 rfl ?_
    refine z_bipush (nx := 81) (z := 98) G (R32c rfl) rfl dX12_init_79 rfl ?_
    refine c_bast (nx := 82) G (by decide) (am_isA_mono (am_isA_new hs_16.1 hs_16.2.2) (by omega)) (by decide) (by decide) dX12_init_81 rfl (fun m_23 e_m_23 => ?_)
    have h := h m_23 e_m_23
    refine z_dup (nx := 83) G (fun h => nomatch h) dX12_init_82 rfl ?_
    refine z_bipush (nx := 85) (z := 6) G (R32c rfl) rfl dX12_init_83 rfl ?_
    refine z_bipush (nx := 87) (z := 114) G (R32c rfl) rfl dX12_init_85 rfl ?_
    refine c_bast (nx := 88) G (by decide) (am_isA_mono (am_isA_new hs_16.1 hs_16.2.2) (by omega)) (by decide) (by decide) dX12_init_87 rfl (fun m_24 e_m_24 => ?_)
    have h := h m_24 e_m_24
    refine z_dup (nx := 89) G (fun h => nomatch h) dX12_init_88 rfl ?_
    refine z_bipush (nx := 91) (z := 7) G (R32c rfl) rfl dX12_init_89 rfl ?_
    refine z_bipush (nx := 93) (z := 101) G (R32c rfl) rfl dX12_init_91 rfl ?_
    refine c_bast (nx := 94) G (by decide) (am_isA_mono (am_isA_new hs_16.1 hs_16.2.2) (by omega)) (by decide) (by decide) dX12_init_93 rfl (fun m_25 e_m_25 => ?_)
    have h := h m_25 e_m_25
    refine z_dup (nx := 95) G (fun h => nomatch h) dX12_init_94 rfl ?_
    refine z_bipush (nx := 97) (z := 8) G (R32c rfl) rfl dX12_init_95 rfl ?_
    refine z_bipush (nx := 99) (z := 97) G (R32c rfl) rfl dX12_init_97 rfl ?_
    refine c_bast (nx := 100) G (by decide) (am_isA_mono (am_isA_new hs_16.1 hs_16.2.2) (by omega)) (by decide) (by decide) dX12_init_99 rfl (fun m_26 e_m_26 => ?_)
    have h := h m_26 e_m_26
    refine z_dup (nx := 101) G (fun h => nomatch h) dX12_init_100 rfl ?_
    refine z_bipush (nx := 103) (z := 9) G (R32c rfl) rfl dX12_init_101 rfl ?_
    refine z_bipush (nx := 105) (z := 116) G (R32c rfl) rfl dX12_init_103 rfl ?_
    refine c_bast (nx := 106) G (by decide) (am_isA_mono (am_isA_new hs_16.1 hs_16.2.2) (by omega)) (by decide) (by decide) dX12_init_105 rfl (fun m_27 e_m_27 => ?_)
    have h := h m_27 e_m_27
    refine z_dup (nx := 107) G (fun h => nomatch h) dX12_init_106 rfl ?_
    refine z_bipush (nx := 109) (z := 10) G (R32c rfl) rfl dX12_init_107 rfl ?_
    refine z_bipush (nx := 111) (z := 104) G (R32c rfl) rfl dX12_init_109 rfl ?_
    refine c_bast (nx := 112) G (by decide) (am_isA_mono (am_isA_new hs_16.1 hs_16.2.2) (by omega)) (by decide) (by decide) dX12_init_111 rfl (fun m_28 e_m_28 => ?_)
    have h := h m_28 e_m_28
    refine z_dup (nx := 113) G (fun h => nomatch h) dX12_init_112 rfl ?_
    refine z_bipush (nx := 115) (z := 11) G (R32c rfl) rfl dX12_init_113 rfl ?_
    refine z_bipush (nx := 117) (z := 32) G (R32c rfl) rfl dX12_init_115 rfl ?_
    refine c_bast (nx := 118) G (by decide) (am_isA_mono (am_isA_new hs_16.1 hs_16.2.2) (by omega)) (by decide) (by decide) dX12_init_117 rfl (fun m_29 e_m_29 => ?_)
    have h := h m_29 e_m_29
    refine z_dup (nx := 119) G (fun h => nomatch h) dX12_init_118 rfl ?_
    refine z_bipush (nx := 121) (z := 12) G (R32c rfl) rfl dX12_init_119 rfl ?_
    refine z_bipush (nx := 123) (z := 98) G (R32c rfl) rfl dX12_init_121 rfl ?_
    refine c_bast (nx := 124) G (by decide) (am_isA_mono (am_isA_new hs_16.1 hs_16.2.2) (by omega)) (by decide) (by decide) dX12_init_123 rfl (fun m_30 e_m_30 => ?_)
    have h := h m_30 e_m_30
    refine z_dup (nx := 125) G (fun h => nomatch h) dX12_init_124 rfl ?_
    refine z_bipush (nx := 127) (z := 13) G (R32c rfl) rfl dX12_init_125 rfl ?_
    refine z_bipush (nx := 129) (z := 97) G (R32c rfl) rfl dX12_init_127 rfl ?_
    refine c_bast (nx := 130) G (by decide) (am_isA_mono (am_isA_new hs_16.1 hs_16.2.2) (by omega)) (by decide) (by decide) dX12_init_129 rfl (fun m_31 e_m_31 => ?_)
    have h := h m_31 e_m_31
    refine z_dup (nx := 131) G (fun h => nomatch h) dX12_init_130 rfl ?_
    refine z_bipush (nx := 133) (z := 14) G (R32c rfl) rfl dX12_init_131 rfl ?_
    refine z_bipush (nx := 135) (z := 114) G (R32c rfl) rfl dX12_init_133 rfl ?_
    refine c_bast (nx := 136) G (by decide) (am_isA_mono (am_isA_new hs_16.1 hs_16.2.2) (by omega)) (by decide) (by decide) dX12_init_135 rfl (fun m_32 e_m_32 => ?_)
    have h := h m_32 e_m_32
    refine z_dup (nx := 137) G (fun h => nomatch h) dX12_init_136 rfl ?_
    refine z_bipush (nx := 139) (z := 15) G (R32c rfl) rfl dX12_init_137 rfl ?_
    refine z_bipush (nx := 141) (z := 115) G (R32c rfl) rfl dX12_init_139 rfl ?_
    refine c_bast (nx := 142) G (by decide) (am_isA_mono (am_isA_new hs_16.1 hs_16.2.2) (by omega)) (by decide) (by decide) dX12_init_141 rfl (fun m_33 e_m_33 => ?_)
    have h := h m_33 e_m_33
    refine z_dup (nx := 143) G (fun h => nomatch h) dX12_init_142 rfl ?_
    refine z_bipush (nx := 145) (z := 16) G (R32c rfl) rfl dX12_init_143 rfl ?_
    refine z_bipush (nx := 147) (z := 32) G (R32c rfl) rfl dX12_init_145 rfl ?_
    refine c_bast (nx := 148) G (by decide) (am_isA_mono (am_isA_new hs_16.1 hs_16.2.2) (by omega)) (by decide) (by decide) dX12_init_147 rfl (fun m_34 e_m_34 => ?_)
    have h := h m_34 e_m_34
    refine z_dup (nx := 149) G (fun h => nomatch h) dX12_init_148 rfl ?_
    refine z_bipush (nx := 151) (z := 17) G (R32c rfl) rfl dX12_init_149 rfl ?_
    refine z_bipush (nx := 153) (z := 105) G (R32c rfl) rfl dX12_init_151 rfl ?_
    refine c_bast (nx := 154) G (by decide) (am_isA_mono (am_isA_new hs_16.1 hs_16.2.2) (by omega)) (by decide) (by decide) dX12_init_153 rfl (fun m_35 e_m_35 => ?_)
    have h := h m_35 e_m_35
    refine z_dup (nx := 155) G (fun h => nomatch h) dX12_init_154 rfl ?_
    refine z_bipush (nx := 157) (z := 18) G (R32c rfl) rfl dX12_init_155 rfl ?_
    refine z_bipush (nx := 159) (z := 102) G (R32c rfl) rfl dX12_init_157 rfl ?_
    refine c_bast (nx := 160) G (by decide) (am_isA_mono (am_isA_new hs_16.1 hs_16.2.2) (by omega)) (by decide) (by decide) dX12_init_159 rfl (fun m_36 e_m_36 => ?_)
    have h := h m_36 e_m_36
    refine z_dup (nx := 161) G (fun h => nomatch h) dX12_init_160 rfl ?_
    refine z_bipush (nx := 163) (z := 19) G (R32c rfl) rfl dX12_init_161 rfl ?_
    refine z_bipush (nx := 165) (z := 32) G (R32c rfl) rfl dX12_init_163 rfl ?_
    refine c_bast (nx := 166) G (by decide) (am_isA_mono (am_isA_new hs_16.1 hs_16.2.2) (by omega)) (by decide) (by decide) dX12_init_165 rfl (fun m_37 e_m_37 => ?_)
    have h := h m_37 e_m_37
    refine z_dup (nx := 167) G (fun h => nomatch h) dX12_init_166 rfl ?_
    refine z_bipush (nx := 169) (z := 20) G (R32c rfl) rfl dX12_init_167 rfl ?_
    refine z_bipush (nx := 171) (z := 111) G (R32c rfl) rfl dX12_init_169 rfl ?_
    refine c_bast (nx := 172) G (by decide) (am_isA_mono (am_isA_new hs_16.1 hs_16.2.2) (by omega)) (by decide) (by decide) dX12_init_171 rfl (fun m_38 e_m_38 => ?_)
    have h := h m_38 e_m_38
    refine z_dup (nx := 173) G (fun h => nomatch h) dX12_init_172 rfl ?_
    refine z_bipush (nx := 175) (z := 21) G (R32c rfl) rfl dX12_init_173 rfl ?_
    refine z_bipush (nx := 177) (z := 114) G (R32c rfl) rfl dX12_init_175 rfl ?_
    refine c_bast (nx := 178) G (by decide) (am_isA_mono (am_isA_new hs_16.1 hs_16.2.2) (by omega)) (by decide) (by decide) dX12_init_177 rfl (fun m_39 e_m_39 => ?_)
    have h := h m_39 e_m_39
    refine z_dup (nx := 179) G (fun h => nomatch h) dX12_init_178 rfl ?_
    refine z_bipush (nx := 181) (z := 22) G (R32c rfl) rfl dX12_init_179 rfl ?_
    refine z_bipush (nx := 183) (z := 32) G (R32c rfl) rfl dX12_init_181 rfl ?_
    refine c_bast (nx := 184) G (by decide) (am_isA_mono (am_isA_new hs_16.1 hs_16.2.2) (by omega)) (by decide) (by decide) dX12_init_183 rfl (fun m_40 e_m_40 => ?_)
    have h := h m_40 e_m_40
    refine z_dup (nx := 185) G (fun h => nomatch h) dX12_init_184 rfl ?_
    refine z_bipush (nx := 187) (z := 23) G (R32c rfl) rfl dX12_init_185 rfl ?_
    refine z_bipush (nx := 189) (z := 97) G (R32c rfl) rfl dX12_init_187 rfl ?_
    refine c_bast (nx := 190) G (by decide) (am_isA_mono (am_isA_new hs_16.1 hs_16.2.2) (by omega)) (by decide) (by decide) dX12_init_189 rfl (fun m_41 e_m_41 => ?_)
    have h := h m_41 e_m_41
    refine z_dup (nx := 191) G (fun h => nomatch h) dX12_init_190 rfl ?_
    refine z_bipush (nx := 193) (z := 24) G (R32c rfl) rfl dX12_init_191 rfl ?_
    refine z_bipush (nx := 195) (z := 110) G (R32c rfl) rfl dX12_init_193 rfl ?_
    refine c_bast (nx := 196) G (by decide) (am_isA_mono (am_isA_new hs_16.1 hs_16.2.2) (by omega)) (by decide) (by decide) dX12_init_195 rfl (fun m_42 e_m_42 => ?_)
    have h := h m_42 e_m_42
    refine z_dup (nx := 197) G (fun h => nomatch h) dX12_init_196 rfl ?_
    refine z_bipush (nx := 199) (z := 25) G (R32c rfl) rfl dX12_init_197 rfl ?_
    refine z_bipush (nx := 201) (z := 100) G (R32c rfl) rfl dX12_init_199 rfl ?_
    refine c_bast (nx := 202) G (by decide) (am_isA_mono (am_isA_new hs_16.1 hs_16.2.2) (by omega)) (by decide) (by decide) dX12_init_201 rfl (fun m_43 e_m_43 => ?_)
    have h := h m_43 e_m_43
    refine z_dup (nx := 203) G (fun h => nomatch h) dX12_init_202 rfl ?_
    refine z_bipush (nx := 205) (z := 26) G (R32c rfl) rfl dX12_init_203 rfl ?_
    refine z_bipush (nx := 207) (z := 32) G (R32c rfl) rfl dX12_init_205 rfl ?_
    refine c_bast (nx := 208) G (by decide) (am_isA_mono (am_isA_new hs_16.1 hs_16.2.2) (by omega)) (by decide) (by decide) dX12_init_207 rfl (fun m_44 e_m_44 => ?_)
    have h := h m_44 e_m_44
    refine z_dup (nx := 209) G (fun h => nomatch h) dX12_init_208 rfl ?_
    refine z_bipush (nx := 211) (z := 27) G (R32c rfl) rfl dX12_init_209 rfl ?_
    refine z_bipush (nx := 213) (z := 110) G (R32c rfl) rfl dX12_init_211 rfl ?_
    refine c_bast (nx := 214) G (by decide) (am_isA_mono (am_isA_new hs_16.1 hs_16.2.2) (by omega)) (by decide) (by decide) dX12_init_213 rfl (fun m_45 e_m_45 => ?_)
    have h := h m_45 e_m_45
    refine z_dup (nx := 215) G (fun h => nomatch h) dX12_init_214 rfl ?_
    refine z_bipush (nx := 217) (z := 28) G (R32c rfl) rfl dX12_init_215 rfl ?_
    refine z_bipush (nx := 219) (z := 111) G (R32c rfl) rfl dX12_init_217 rfl ?_
    refine c_bast (nx := 220) G (by decide) (am_isA_mono (am_isA_new hs_16.1 hs_16.2.2) (by omega)) (by decide) (by decide) dX12_init_219 rfl (fun m_46 e_m_46 => ?_)
    have h := h m_46 e_m_46
    refine z_dup (nx := 221) G (fun h => nomatch h) dX12_init_220 rfl ?_
    refine z_bipush (nx := 223) (z := 29) G (R32c rfl) rfl dX12_init_221 rfl ?_
    refine z_bipush (nx := 225) (z := 116) G (R32c rfl) rfl dX12_init_223 rfl ?_
    refine c_bast (nx := 226) G (by decide) (am_isA_mono (am_isA_new hs_16.1 hs_16.2.2) (by omega)) (by decide) (by decide) dX12_init_225 rfl (fun m_47 e_m_47 => ?_)
    have h := h m_47 e_m_47
    refine z_dup (nx := 227) G (fun h => nomatch h) dX12_init_226 rfl ?_
    refine z_bipush (nx := 229) (z := 30) G (R32c rfl) rfl dX12_init_227 rfl ?_
    refine z_bipush (nx := 231) (z := 32) G (R32c rfl) rfl dX12_init_229 rfl ?_
    refine c_bast (nx := 232) G (by decide) (am_isA_mono (am_isA_new hs_16.1 hs_16.2.2) (by omega)) (by decide) (by decide) dX12_init_231 rfl (fun m_48 e_m_48 => ?_)
    have h := h m_48 e_m_48
    refine z_dup (nx := 233) G (fun h => nomatch h) dX12_init_232 rfl ?_
    refine z_bipush (nx := 235) (z := 31) G (R32c rfl) rfl dX12_init_233 rfl ?_
    refine z_bipush (nx := 237) (z := 108) G (R32c rfl) rfl dX12_init_235 rfl ?_
    refine c_bast (nx := 238) G (by decide) (am_isA_mono (am_isA_new hs_16.1 hs_16.2.2) (by omega)) (by decide) (by decide) dX12_init_237 rfl (fun m_49 e_m_49 => ?_)
    have h := h m_49 e_m_49
    refine z_dup (nx := 239) G (fun h => nomatch h) dX12_init_238 rfl ?_
    refine z_bipush (nx := 241) (z := 32) G (R32c rfl) rfl dX12_init_239 rfl ?_
    refine z_bipush (nx := 243) (z := 101) G (R32c rfl) rfl dX12_init_241 rfl ?_
    refine c_bast (nx := 244) G (by decide) (am_isA_mono (am_isA_new hs_16.1 hs_16.2.2) (by omega)) (by decide) (by decide) dX12_init_243 rfl (fun m_50 e_m_50 => ?_)
    have h := h m_50 e_m_50
    refine z_dup (nx := 245) G (fun h => nomatch h) dX12_init_244 rfl ?_
    refine z_bipush (nx := 247) (z := 33) G (R32c rfl) rfl dX12_init_245 rfl ?_
    refine z_bipush (nx := 249) (z := 110) G (R32c rfl) rfl dX12_init_247 rfl ?_
    refine c_bast (nx := 250) G (by decide) (am_isA_mono (am_isA_new hs_16.1 hs_16.2.2) (by omega)) (by decide) (by decide) dX12_init_249 rfl (fun m_51 e_m_51 => ?_)
    have h := h m_51 e_m_51
    refine z_dup (nx := 251) G (fun h => nomatch h) dX12_init_250 rfl ?_
    refine z_bipush (nx := 253) (z := 34) G (R32c rfl) rfl dX12_init_251 rfl ?_
    refine z_bipush (nx := 255) (z := 103) G (R32c rfl) rfl dX12_init_253 rfl ?_
    refine c_bast (nx := 256) G (by decide) (am_isA_mono (am_isA_new hs_16.1 hs_16.2.2) (by omega)) (by decide) (by decide) dX12_init_255 rfl (fun m_52 e_m_52 => ?_)
    have h := h m_52 e_m_52
    refine z_dup (nx := 257) G (fun h => nomatch h) dX12_init_256 rfl ?_
    refine z_bipush (nx := 259) (z := 35) G (R32c rfl) rfl dX12_init_257 rfl ?_
    refine z_bipush (nx := 261) (z := 116) G (R32c rfl) rfl dX12_init_259 rfl ?_
    refine c_bast (nx := 262) G (by decide) (am_isA_mono (am_isA_new hs_16.1 hs_16.2.2) (by omega)) (by decide) (by decide) dX12_init_261 rfl (fun m_53 e_m_53 => ?_)
    have h := h m_53 e_m_53
    refine z_dup (nx := 263) G (fun h => nomatch h) dX12_init_262 rfl ?_
    refine z_bipush (nx := 265) (z := 36) G (R32c rfl) rfl dX12_init_263 rfl ?_
    refine z_bipush (nx := 267) (z := 104) G (R32c rfl) rfl dX12_init_265 rfl ?_
    refine c_bast (nx := 268) G (by decide) (am_isA_mono (am_isA_new hs_16.1 hs_16.2.2) (by omega)) (by decide) (by decide) dX12_init_267 rfl (fun m_54 e_m_54 => ?_)
    have h := h m_54 e_m_54
    refine z_dup (nx := 269) G (fun h => nomatch h) dX12_init_268 rfl ?_
    refine z_bipush (nx := 271) (z := 37) G (R32c rfl) rfl dX12_init_269 rfl ?_
    refine z_bipush (nx := 273) (z := 32) G (R32c rfl) rfl dX12_init_271 rfl ?_
    refine c_bast (nx := 274) G (by decide) (am_isA_mono (am_isA_new hs_16.1 hs_16.2.2) (by omega)) (by decide) (by decide) dX12_init_273 rfl (fun m_55 e_m_55 => ?_)
    have h := h m_55 e_m_55
    refine z_dup (nx := 275) G (fun h => nomatch h) dX12_init_274 rfl ?_
    refine z_bipush (nx := 277) (z := 38) G (R32c rfl) rfl dX12_init_275 rfl ?_
    refine z_bipush (nx := 279) (z := 118) G (R32c rfl) rfl dX12_init_277 rfl ?_
    refine c_bast (nx := 280) G (by decide) (am_isA_mono (am_isA_new hs_16.1 hs_16.2.2) (by omega)) (by decide) (by decide) dX12_init_279 rfl (fun m_56 e_m_56 => ?_)
    have h := h m_56 e_m_56
    refine z_dup (nx := 281) G (fun h => nomatch h) dX12_init_280 rfl ?_
    refine z_bipush (nx := 283) (z := 39) G (R32c rfl) rfl dX12_init_281 rfl ?_
    refine z_bipush (nx := 285) (z := 111) G (R32c rfl) rfl dX12_init_283 rfl ?_
    refine c_bast (nx := 286) G (by decide) (am_isA_mono (am_isA_new hs_16.1 hs_16.2.2) (by omega)) (by decide) (by decide) dX12_init_285 rfl (fun m_57 e_m_57 => ?_)
    have h := h m_57 e_m_57
    refine z_dup (nx := 287) G (fun h => nomatch h) dX12_init_286 rfl ?_
    refine z_bipush (nx := 289) (z := 40) G (R32c rfl) rfl dX12_init_287 rfl ?_
    refine z_bipush (nx := 291) (z := 105) G (R32c rfl) rfl dX12_init_289 rfl ?_
    refine c_bast (nx := 292) G (by decide) (am_isA_mono (am_isA_new hs_16.1 hs_16.2.2) (by omega)) (by decide) (by decide) dX12_init_291 rfl (fun m_58 e_m_58 => ?_)
    have h := h m_58 e_m_58
    refine z_dup (nx := 293) G (fun h => nomatch h) dX12_init_292 rfl ?_
    refine z_bipush (nx := 295) (z := 41) G (R32c rfl) rfl dX12_init_293 rfl ?_
    refine z_bipush (nx := 297) (z := 99) G (R32c rfl) rfl dX12_init_295 rfl ?_
    refine c_bast (nx := 298) G (by decide) (am_isA_mono (am_isA_new hs_16.1 hs_16.2.2) (by omega)) (by decide) (by decide) dX12_init_297 rfl (fun m_59 e_m_59 => ?_)
    have h := h m_59 e_m_59
    refine z_dup (nx := 299) G (fun h => nomatch h) dX12_init_298 rfl ?_
    refine z_bipush (nx := 301) (z := 42) G (R32c rfl) rfl dX12_init_299 rfl ?_
    refine z_bipush (nx := 303) (z := 101) G (R32c rfl) rfl dX12_init_301 rfl ?_
    refine c_bast (nx := 304) G (by decide) (am_isA_mono (am_isA_new hs_16.1 hs_16.2.2) (by omega)) (by decide) (by decide) dX12_init_303 rfl (fun m_60 e_m_60 => ?_)
    have h := h m_60 e_m_60
    refine z_dup (nx := 305) G (fun h => nomatch h) dX12_init_304 rfl ?_
    refine z_bipush (nx := 307) (z := 43) G (R32c rfl) rfl dX12_init_305 rfl ?_
    refine z_bipush (nx := 309) (z := 115) G (R32c rfl) rfl dX12_init_307 rfl ?_
    refine c_bast (nx := 310) G (by decide) (am_isA_mono (am_isA_new hs_16.1 hs_16.2.2) (by omega)) (by decide) (by decide) dX12_init_309 rfl (fun m_61 e_m_61 => ?_)
    have h := h m_61 e_m_61
    refine z_dup (nx := 311) G (fun h => nomatch h) dX12_init_310 rfl ?_
    refine z_bipush (nx := 313) (z := 44) G (R32c rfl) rfl dX12_init_311 rfl ?_
    refine z_bipush (nx := 315) (z := 32) G (R32c rfl) rfl dX12_init_313 rfl ?_
    refine c_bast (nx := 316) G (by decide) (am_isA_mono (am_isA_new hs_16.1 hs_16.2.2) (by omega)) (by decide) (by decide) dX12_init_315 rfl (fun m_62 e_m_62 => ?_)
    have h := h m_62 e_m_62
    refine z_dup (nx := 317) G (fun h => nomatch h) dX12_init_316 rfl ?_
    refine z_bipush (nx := 319) (z := 45) G (R32c rfl) rfl dX12_init_317 rfl ?_
    refine z_bipush (nx := 321) (z := 97) G (R32c rfl) rfl dX12_init_319 rfl ?_
    refine c_bast (nx := 322) G (by decide) (am_isA_mono (am_isA_new hs_16.1 hs_16.2.2) (by omega)) (by decide) (by decide) dX12_init_321 rfl (fun m_63 e_m_63 => ?_)
    have h := h m_63 e_m_63
    refine z_dup (nx := 323) G (fun h => nomatch h) dX12_init_322 rfl ?_
    refine z_bipush (nx := 325) (z := 46) G (R32c rfl) rfl dX12_init_323 rfl ?_
    refine z_bipush (nx := 327) (z := 115) G (R32c rfl) rfl dX12_init_325 rfl ?_
    refine c_bast (nx := 328) G (by decide) (am_isA_mono (am_isA_new hs_16.1 hs_16.2.2) (by omega)) (by decide) (by decide) dX12_init_327 rfl (fun m_64 e_m_64 => ?_)
    have h := h m_64 e_m_64
    refine z_dup (nx := 329) G (fun h => nomatch h) dX12_init_328 rfl ?_
    refine z_bipush (nx := 331) (z := 47) G (R32c rfl) rfl dX12_init_329 rfl ?_
    refine z_bipush (nx := 333) (z := 107) G (R32c rfl) rfl dX12_init_331 rfl ?_
    refine c_bast (nx := 334) G (by decide) (am_isA_mono (am_isA_new hs_16.1 hs_16.2.2) (by omega)) (by decide) (by decide) dX12_init_333 rfl (fun m_65 e_m_65 => ?_)
    have h := h m_65 e_m_65
    refine z_dup (nx := 335) G (fun h => nomatch h) dX12_init_334 rfl ?_
    refine z_bipush (nx := 337) (z := 48) G (R32c rfl) rfl dX12_init_335 rfl ?_
    refine z_bipush (nx := 339) (z := 101) G (R32c rfl) rfl dX12_init_337 rfl ?_
    refine c_bast (nx := 340) G (by decide) (am_isA_mono (am_isA_new hs_16.1 hs_16.2.2) (by omega)) (by decide) (by decide) dX12_init_339 rfl (fun m_66 e_m_66 => ?_)
    have h := h m_66 e_m_66
    refine z_dup (nx := 341) G (fun h => nomatch h) dX12_init_340 rfl ?_
    refine z_bipush (nx := 343) (z := 49) G (R32c rfl) rfl dX12_init_341 rfl ?_
    refine z_bipush (nx := 345) (z := 114) G (R32c rfl) rfl dX12_init_343 rfl ?_
    refine c_bast (nx := 346) G (by decide) (am_isA_mono (am_isA_new hs_16.1 hs_16.2.2) (by omega)) (by decide) (by decide) dX12_init_345 rfl (fun m_67 e_m_67 => ?_)
    have h := h m_67 e_m_67
    refine z_dup (nx := 347) G (fun h => nomatch h) dX12_init_346 rfl ?_
    refine z_bipush (nx := 349) (z := 50) G (R32c rfl) rfl dX12_init_347 rfl ?_
    refine z_bipush (nx := 351) (z := 32) G (R32c rfl) rfl dX12_init_349 rfl ?_
    refine c_bast (nx := 352) G (by decide) (am_isA_mono (am_isA_new hs_16.1 hs_16.2.2) (by omega)) (by decide) (by decide) dX12_init_351 rfl (fun m_68 e_m_68 => ?_)
    have h := h m_68 e_m_68
    refine z_dup (nx := 353) G (fun h => nomatch h) dX12_init_352 rfl ?_
    refine z_bipush (nx := 355) (z := 51) G (R32c rfl) rfl dX12_init_353 rfl ?_
    refine z_bipush (nx := 357) (z := 97) G (R32c rfl) rfl dX12_init_355 rfl ?_
    refine c_bast (nx := 358) G (by decide) (am_isA_mono (am_isA_new hs_16.1 hs_16.2.2) (by omega)) (by decide) (by decide) dX12_init_357 rfl (fun m_69 e_m_69 => ?_)
    have h := h m_69 e_m_69
    refine z_dup (nx := 359) G (fun h => nomatch h) dX12_init_358 rfl ?_
    refine z_bipush (nx := 361) (z := 52) G (R32c rfl) rfl dX12_init_359 rfl ?_
    refine z_bipush (nx := 363) (z := 103) G (R32c rfl) rfl dX12_init_361 rfl ?_
    refine c_bast (nx := 364) G (by decide) (am_isA_mono (am_isA_new hs_16.1 hs_16.2.2) (by omega)) (by decide) (by decide) dX12_init_363 rfl (fun m_70 e_m_70 => ?_)
    have h := h m_70 e_m_70
    refine z_dup (nx := 365) G (fun h => nomatch h) dX12_init_364 rfl ?_
    refine z_bipush (nx := 367) (z := 53) G (R32c rfl) rfl dX12_init_365 rfl ?_
    refine z_bipush (nx := 369) (z := 101) G (R32c rfl) rfl dX12_init_367 rfl ?_
    refine c_bast (nx := 370) G (by decide) (am_isA_mono (am_isA_new hs_16.1 hs_16.2.2) (by omega)) (by decide) (by decide) dX12_init_369 rfl (fun m_71 e_m_71 => ?_)
    have h := h m_71 e_m_71
    refine z_dup (nx := 371) G (fun h => nomatch h) dX12_init_370 rfl ?_
    refine z_bipush (nx := 373) (z := 54) G (R32c rfl) rfl dX12_init_371 rfl ?_
    refine z_bipush (nx := 375) (z := 32) G (R32c rfl) rfl dX12_init_373 rfl ?_
    refine c_bast (nx := 376) G (by decide) (am_isA_mono (am_isA_new hs_16.1 hs_16.2.2) (by omega)) (by decide) (by decide) dX12_init_375 rfl (fun m_72 e_m_72 => ?_)
    have h := h m_72 e_m_72
    refine z_dup (nx := 377) G (fun h => nomatch h) dX12_init_376 rfl ?_
    refine z_bipush (nx := 379) (z := 55) G (R32c rfl) rfl dX12_init_377 rfl ?_
    refine z_bipush (nx := 381) (z := 116) G (R32c rfl) rfl dX12_init_379 rfl ?_
    refine c_bast (nx := 382) G (by decide) (am_isA_mono (am_isA_new hs_16.1 hs_16.2.2) (by omega)) (by decide) (by decide) dX12_init_381 rfl (fun m_73 e_m_73 => ?_)
    have h := h m_73 e_m_73
    refine z_dup (nx := 383) G (fun h => nomatch h) dX12_init_382 rfl ?_
    refine z_bipush (nx := 385) (z := 56) G (R32c rfl) rfl dX12_init_383 rfl ?_
    refine z_bipush (nx := 387) (z := 104) G (R32c rfl) rfl dX12_init_385 rfl ?_
    refine c_bast (nx := 388) G (by decide) (am_isA_mono (am_isA_new hs_16.1 hs_16.2.2) (by omega)) (by decide) (by decide) dX12_init_387 rfl (fun m_74 e_m_74 => ?_)
    have h := h m_74 e_m_74
    refine z_dup (nx := 389) G (fun h => nomatch h) dX12_init_388 rfl ?_
    refine z_bipush (nx := 391) (z := 57) G (R32c rfl) rfl dX12_init_389 rfl ?_
    refine z_bipush (nx := 393) (z := 105) G (R32c rfl) rfl dX12_init_391 rfl ?_
    refine c_bast (nx := 394) G (by decide) (am_isA_mono (am_isA_new hs_16.1 hs_16.2.2) (by omega)) (by decide) (by decide) dX12_init_393 rfl (fun m_75 e_m_75 => ?_)
    have h := h m_75 e_m_75
    refine z_dup (nx := 395) G (fun h => nomatch h) dX12_init_394 rfl ?_
    refine z_bipush (nx := 397) (z := 58) G (R32c rfl) rfl dX12_init_395 rfl ?_
    refine z_bipush (nx := 399) (z := 110) G (R32c rfl) rfl dX12_init_397 rfl ?_
    refine c_bast (nx := 400) G (by decide) (am_isA_mono (am_isA_new hs_16.1 hs_16.2.2) (by omega)) (by decide) (by decide) dX12_init_399 rfl (fun m_76 e_m_76 => ?_)
    have h := h m_76 e_m_76
    refine z_dup (nx := 401) G (fun h => nomatch h) dX12_init_400 rfl ?_
    refine z_bipush (nx := 403) (z := 59) G (R32c rfl) rfl dX12_init_401 rfl ?_
    refine z_bipush (nx := 405) (z := 103) G (R32c rfl) rfl dX12_init_403 rfl ?_
    refine c_bast (nx := 406) G (by decide) (am_isA_mono (am_isA_new hs_16.1 hs_16.2.2) (by omega)) (by decide) (by decide) dX12_init_405 rfl (fun m_77 e_m_77 => ?_)
    have h := h m_77 e_m_77
    refine z_dup (nx := 407) G (fun h => nomatch h) dX12_init_406 rfl ?_
    refine z_bipush (nx := 409) (z := 60) G (R32c rfl) rfl dX12_init_407 rfl ?_
    refine z_bipush (nx := 411) (z := 32) G (R32c rfl) rfl dX12_init_409 rfl ?_
    refine c_bast (nx := 412) G (by decide) (am_isA_mono (am_isA_new hs_16.1 hs_16.2.2) (by omega)) (by decide) (by decide) dX12_init_411 rfl (fun m_78 e_m_78 => ?_)
    have h := h m_78 e_m_78
    refine z_dup (nx := 413) G (fun h => nomatch h) dX12_init_412 rfl ?_
    refine z_bipush (nx := 415) (z := 61) G (R32c rfl) rfl dX12_init_413 rfl ?_
    refine z_bipush (nx := 417) (z := 119) G (R32c rfl) rfl dX12_init_415 rfl ?_
    refine c_bast (nx := 418) G (by decide) (am_isA_mono (am_isA_new hs_16.1 hs_16.2.2) (by omega)) (by decide) (by decide) dX12_init_417 rfl (fun m_79 e_m_79 => ?_)
    have h := h m_79 e_m_79
    refine z_dup (nx := 419) G (fun h => nomatch h) dX12_init_418 rfl ?_
    refine z_bipush (nx := 421) (z := 62) G (R32c rfl) rfl dX12_init_419 rfl ?_
    refine z_bipush (nx := 423) (z := 97) G (R32c rfl) rfl dX12_init_421 rfl ?_
    refine c_bast (nx := 424) G (by decide) (am_isA_mono (am_isA_new hs_16.1 hs_16.2.2) (by omega)) (by decide) (by decide) dX12_init_423 rfl (fun m_80 e_m_80 => ?_)
    have h := h m_80 e_m_80
    refine z_dup (nx := 425) G (fun h => nomatch h) dX12_init_424 rfl ?_
    refine z_bipush (nx := 427) (z := 63) G (R32c rfl) rfl dX12_init_425 rfl ?_
    refine z_bipush (nx := 429) (z := 105) G (R32c rfl) rfl dX12_init_427 rfl ?_
    refine c_bast (nx := 430) G (by decide) (am_isA_mono (am_isA_new hs_16.1 hs_16.2.2) (by omega)) (by decide) (by decide) dX12_init_429 rfl (fun m_81 e_m_81 => ?_)
    have h := h m_81 e_m_81
    refine z_dup (nx := 431) G (fun h => nomatch h) dX12_init_430 rfl ?_
    refine z_bipush (nx := 433) (z := 64) G (R32c rfl) rfl dX12_init_431 rfl ?_
    refine z_bipush (nx := 435) (z := 116) G (R32c rfl) rfl dX12_init_433 rfl ?_
    refine c_bast (nx := 436) G (by decide) (am_isA_mono (am_isA_new hs_16.1 hs_16.2.2) (by omega)) (by decide) (by decide) dX12_init_435 rfl (fun m_82 e_m_82 => ?_)
    have h := h m_82 e_m_82
    refine z_dup (nx := 437) G (fun h => nomatch h) dX12_init_436 rfl ?_
    refine z_bipush (nx := 439) (z := 65) G (R32c rfl) rfl dX12_init_437 rfl ?_
    refine z_bipush (nx := 441) (z := 115) G (R32c rfl) rfl dX12_init_439 rfl ?_
    refine c_bast (nx := 442) G (by decide) (am_isA_mono (am_isA_new hs_16.1 hs_16.2.2) (by omega)) (by decide) (by decide) dX12_init_441 rfl (fun m_83 e_m_83 => ?_)
    have h := h m_83 e_m_83
    refine z_dup (nx := 443) G (fun h => nomatch h) dX12_init_442 rfl ?_
    refine z_bipush (nx := 445) (z := 66) G (R32c rfl) rfl dX12_init_443 rfl ?_
    refine z_bipush (nx := 447) (z := 32) G (R32c rfl) rfl dX12_init_445 rfl ?_
    refine c_bast (nx := 448) G (by decide) (am_isA_mono (am_isA_new hs_16.1 hs_16.2.2) (by omega)) (by decide) (by decide) dX12_init_447 rfl (fun m_84 e_m_84 => ?_)
    have h := h m_84 e_m_84
    refine z_dup (nx := 449) G (fun h => nomatch h) dX12_init_448 rfl ?_
    refine z_bipush (nx := 451) (z := 67) G (R32c rfl) rfl dX12_init_449 rfl ?_
    refine z_bipush (nx := 453) (z := 109) G (R32c rfl) rfl dX12_init_451 rfl ?_
    refine c_bast (nx := 454) G (by decide) (am_isA_mono (am_isA_new hs_16.1 hs_16.2.2) (by omega)) (by decide) (by decide) dX12_init_453 rfl (fun m_85 e_m_85 => ?_)
    have h := h m_85 e_m_85
    refine z_dup (nx := 455) G (fun h => nomatch h) dX12_init_454 rfl ?_
    refine z_bipush (nx := 457) (z := 68) G (R32c rfl) rfl dX12_init_455 rfl ?_
    refine z_bipush (nx := 459) (z := 111) G (R32c rfl) rfl dX12_init_457 rfl ?_
    refine c_bast (nx := 460) G (by decide) (am_isA_mono (am_isA_new hs_16.1 hs_16.2.2) (by omega)) (by decide) (by decide) dX12_init_459 rfl (fun m_86 e_m_86 => ?_)
    have h := h m_86 e_m_86
    refine z_dup (nx := 461) G (fun h => nomatch h) dX12_init_460 rfl ?_
    refine z_bipush (nx := 463) (z := 69) G (R32c rfl) rfl dX12_init_461 rfl ?_
    refine z_bipush (nx := 465) (z := 111) G (R32c rfl) rfl dX12_init_463 rfl ?_
    refine c_bast (nx := 466) G (by decide) (am_isA_mono (am_isA_new hs_16.1 hs_16.2.2) (by omega)) (by decide) (by decide) dX12_init_465 rfl (fun m_87 e_m_87 => ?_)
    have h := h m_87 e_m_87
    refine z_dup (nx := 467) G (fun h => nomatch h) dX12_init_466 rfl ?_
    refine z_bipush (nx := 469) (z := 70) G (R32c rfl) rfl dX12_init_467 rfl ?_
    refine z_bipush (nx := 471) (z := 100) G (R32c rfl) rfl dX12_init_469 rfl ?_
    refine c_bast (nx := 472) G (by decide) (am_isA_mono (am_isA_new hs_16.1 hs_16.2.2) (by omega)) (by decide) (by decide) dX12_init_471 rfl (fun m_88 e_m_88 => ?_)
    have h := h m_88 e_m_88
    refine z_dup (nx := 473) G (fun h => nomatch h) dX12_init_472 rfl ?_
    refine z_bipush (nx := 475) (z := 71) G (R32c rfl) rfl dX12_init_473 rfl ?_
    refine z_bipush (nx := 477) (z := 32) G (R32c rfl) rfl dX12_init_475 rfl ?_
    refine c_bast (nx := 478) G (by decide) (am_isA_mono (am_isA_new hs_16.1 hs_16.2.2) (by omega)) (by decide) (by decide) dX12_init_477 rfl (fun m_89 e_m_89 => ?_)
    have h := h m_89 e_m_89
    refine z_dup (nx := 479) G (fun h => nomatch h) dX12_init_478 rfl ?_
    refine z_bipush (nx := 481) (z := 72) G (R32c rfl) rfl dX12_init_479 rfl ?_
    refine z_bipush (nx := 483) (z := 100) G (R32c rfl) rfl dX12_init_481 rfl ?_
    refine c_bast (nx := 484) G (by decide) (am_isA_mono (am_isA_new hs_16.1 hs_16.2.2) (by omega)) (by decide) (by decide) dX12_init_483 rfl (fun m_90 e_m_90 => ?_)
    have h := h m_90 e_m_90
    refine z_dup (nx := 485) G (fun h => nomatch h) dX12_init_484 rfl ?_
    refine z_bipush (nx := 487) (z := 73) G (R32c rfl) rfl dX12_init_485 rfl ?_
    refine z_bipush (nx := 489) (z := 97) G (R32c rfl) rfl dX12_init_487 rfl ?_
    refine c_bast (nx := 490) G (by decide) (am_isA_mono (am_isA_new hs_16.1 hs_16.2.2) (by omega)) (by decide) (by decide) dX12_init_489 rfl (fun m_91 e_m_91 => ?_)
    have h := h m_91 e_m_91
    refine z_dup (nx := 491) G (fun h => nomatch h) dX12_init_490 rfl ?_
    refine z_bipush (nx := 493) (z := 74) G (R32c rfl) rfl dX12_init_491 rfl ?_
    refine z_bipush (nx := 495) (z := 121) G (R32c rfl) rfl dX12_init_493 rfl ?_
    refine c_bast (nx := 496) G (by decide) (am_isA_mono (am_isA_new hs_16.1 hs_16.2.2) (by omega)) (by decide) (by decide) dX12_init_495 rfl (fun m_92 e_m_92 => ?_)
    have h := h m_92 e_m_92
    refine z_dup (nx := 497) G (fun h => nomatch h) dX12_init_496 rfl ?_
    refine z_bipush (nx := 499) (z := 75) G (R32c rfl) rfl dX12_init_497 rfl ?_
    refine z_bipush (nx := 501) (z := 32) G (R32c rfl) rfl dX12_init_499 rfl ?_
    refine c_bast (nx := 502) G (by decide) (am_isA_mono (am_isA_new hs_16.1 hs_16.2.2) (by omega)) (by decide) (by decide) dX12_init_501 rfl (fun m_93 e_m_93 => ?_)
    have h := h m_93 e_m_93
    refine z_dup (nx := 503) G (fun h => nomatch h) dX12_init_502 rfl ?_
    refine z_bipush (nx := 505) (z := 76) G (R32c rfl) rfl dX12_init_503 rfl ?_
    refine z_bipush (nx := 507) (z := 112) G (R32c rfl) rfl dX12_init_505 rfl ?_
    refine c_bast (nx := 508) G (by decide) (am_isA_mono (am_isA_new hs_16.1 hs_16.2.2) (by omega)) (by decide) (by decide) dX12_init_507 rfl (fun m_94 e_m_94 => ?_)
    have h := h m_94 e_m_94
    refine z_dup (nx := 509) G (fun h => nomatch h) dX12_init_508 rfl ?_
    refine z_bipush (nx := 511) (z := 77) G (R32c rfl) rfl dX12_init_509 rfl ?_
    refine z_bipush (nx := 513) (z := 114) G (R32c rfl) rfl dX12_init_511 rfl ?_
    refine c_bast (nx := 514) G (by decide) (am_isA_mono (am_isA_new hs_16.1 hs_16.2.2) (by omega)) (by decide) (by decide) dX12_init_513 rfl (fun m_95 e_m_95 => ?_)
    have h := h m_95 e_m_95
    refine z_dup (nx := 515) G (fun h => nomatch h) dX12_init_514 rfl ?_
    refine z_bipush (nx := 517) (z := 78) G (R32c rfl) rfl dX12_init_515 rfl ?_
    refine z_bipush (nx := 519) (z := 97) G (R32c rfl) rfl dX12_init_517 rfl ?_
    refine c_bast (nx := 520) G (by decide) (am_isA_mono (am_isA_new hs_16.1 hs_16.2.2) (by omega)) (by decide) (by decide) dX12_init_519 rfl (fun m_96 e_m_96 => ?_)
    have h := h m_96 e_m_96
    refine z_dup (nx := 521) G (fun h => nomatch h) dX12_init_520 rfl ?_
    refine z_bipush (nx := 523) (z := 79) G (R32c rfl) rfl dX12_init_521 rfl ?_
    refine z_bipush (nx := 525) (z := 121) G (R32c rfl) rfl dX12_init_523 rfl ?_
    refine c_bast (nx := 526) G (by decide) (am_isA_mono (am_isA_new hs_16.1 hs_16.2.2) (by omega)) (by decide) (by decide) dX12_init_525 rfl (fun m_97 e_m_97 => ?_)
    have h := h m_97 e_m_97
    refine z_dup (nx := 527) G (fun h => nomatch h) dX12_init_526 rfl ?_
    refine z_bipush (nx := 529) (z := 80) G (R32c rfl) rfl dX12_init_527 rfl ?_
    refine z_bipush (nx := 531) (z := 101) G (R32c rfl) rfl dX12_init_529 rfl ?_
    refine c_bast (nx := 532) G (by decide) (am_isA_mono (am_isA_new hs_16.1 hs_16.2.2) (by omega)) (by decide) (by decide) dX12_init_531 rfl (fun m_98 e_m_98 => ?_)
    have h := h m_98 e_m_98
    refine z_dup (nx := 533) G (fun h => nomatch h) dX12_init_532 rfl ?_
    refine z_bipush (nx := 535) (z := 81) G (R32c rfl) rfl dX12_init_533 rfl ?_
    refine z_bipush (nx := 537) (z := 114) G (R32c rfl) rfl dX12_init_535 rfl ?_
    refine c_bast (nx := 538) G (by decide) (am_isA_mono (am_isA_new hs_16.1 hs_16.2.2) (by omega)) (by decide) (by decide) dX12_init_537 rfl (fun m_99 e_m_99 => ?_)
    have h := h m_99 e_m_99
    refine z_dup (nx := 539) G (fun h => nomatch h) dX12_init_538 rfl ?_
    refine z_bipush (nx := 541) (z := 82) G (R32c rfl) rfl dX12_init_539 rfl ?_
    refine z_bipush (nx := 543) (z := 115) G (R32c rfl) rfl dX12_init_541 rfl ?_
    refine c_bast (nx := 544) G (by decide) (am_isA_mono (am_isA_new hs_16.1 hs_16.2.2) (by omega)) (by decide) (by decide) dX12_init_543 rfl (fun m_100 e_m_100 => ?_)
    have h := h m_100 e_m_100
    refine z_dup (nx := 545) G (fun h => nomatch h) dX12_init_544 rfl ?_
    refine z_bipush (nx := 547) (z := 83) G (R32c rfl) rfl dX12_init_545 rfl ?_
    refine z_bipush (nx := 549) (z := 32) G (R32c rfl) rfl dX12_init_547 rfl ?_
    refine c_bast (nx := 550) G (by decide) (am_isA_mono (am_isA_new hs_16.1 hs_16.2.2) (by omega)) (by decide) (by decide) dX12_init_549 rfl (fun m_101 e_m_101 => ?_)
    have h := h m_101 e_m_101
    refine z_dup (nx := 551) G (fun h => nomatch h) dX12_init_550 rfl ?_
    refine z_bipush (nx := 553) (z := 84) G (R32c rfl) rfl dX12_init_551 rfl ?_
    refine z_bipush (nx := 555) (z := 119) G (R32c rfl) rfl dX12_init_553 rfl ?_
    refine c_bast (nx := 556) G (by decide) (am_isA_mono (am_isA_new hs_16.1 hs_16.2.2) (by omega)) (by decide) (by decide) dX12_init_555 rfl (fun m_102 e_m_102 => ?_)
    have h := h m_102 e_m_102
    refine z_dup (nx := 557) G (fun h => nomatch h) dX12_init_556 rfl ?_
    refine z_bipush (nx := 559) (z := 85) G (R32c rfl) rfl dX12_init_557 rfl ?_
    refine z_bipush (nx := 561) (z := 97) G (R32c rfl) rfl dX12_init_559 rfl ?_
    refine c_bast (nx := 562) G (by decide) (am_isA_mono (am_isA_new hs_16.1 hs_16.2.2) (by omega)) (by decide) (by decide) dX12_init_561 rfl (fun m_103 e_m_103 => ?_)
    have h := h m_103 e_m_103
    refine z_dup (nx := 563) G (fun h => nomatch h) dX12_init_562 rfl ?_
    refine z_bipush (nx := 565) (z := 86) G (R32c rfl) rfl dX12_init_563 rfl ?_
    refine z_bipush (nx := 567) (z := 105) G (R32c rfl) rfl dX12_init_565 rfl ?_
    refine c_bast (nx := 568) G (by decide) (am_isA_mono (am_isA_new hs_16.1 hs_16.2.2) (by omega)) (by decide) (by decide) dX12_init_567 rfl (fun m_104 e_m_104 => ?_)
    have h := h m_104 e_m_104
    refine z_dup (nx := 569) G (fun h => nomatch h) dX12_init_568 rfl ?_
    refine z_bipush (nx := 571) (z := 87) G (R32c rfl) rfl dX12_init_569 rfl ?_
    refine z_bipush (nx := 573) (z := 116) G (R32c rfl) rfl dX12_init_571 rfl ?_
    refine c_bast (nx := 574) G (by decide) (am_isA_mono (am_isA_new hs_16.1 hs_16.2.2) (by omega)) (by decide) (by decide) dX12_init_573 rfl (fun m_105 e_m_105 => ?_)
    have h := h m_105 e_m_105
    refine z_dup (nx := 575) G (fun h => nomatch h) dX12_init_574 rfl ?_
    refine z_bipush (nx := 577) (z := 88) G (R32c rfl) rfl dX12_init_575 rfl ?_
    refine z_bipush (nx := 579) (z := 105) G (R32c rfl) rfl dX12_init_577 rfl ?_
    refine c_bast (nx := 580) G (by decide) (am_isA_mono (am_isA_new hs_16.1 hs_16.2.2) (by omega)) (by decide) (by decide) dX12_init_579 rfl (fun m_106 e_m_106 => ?_)
    have h := h m_106 e_m_106
    refine z_dup (nx := 581) G (fun h => nomatch h) dX12_init_580 rfl ?_
    refine z_bipush (nx := 583) (z := 89) G (R32c rfl) rfl dX12_init_581 rfl ?_
    refine z_bipush (nx := 585) (z := 110) G (R32c rfl) rfl dX12_init_583 rfl ?_
    refine c_bast (nx := 586) G (by decide) (am_isA_mono (am_isA_new hs_16.1 hs_16.2.2) (by omega)) (by decide) (by decide) dX12_init_585 rfl (fun m_107 e_m_107 => ?_)
    have h := h m_107 e_m_107
    refine z_dup (nx := 587) G (fun h => nomatch h) dX12_init_586 rfl ?_
    refine z_bipush (nx := 589) (z := 90) G (R32c rfl) rfl dX12_init_587 rfl ?_
    refine z_bipush (nx := 591) (z := 103) G (R32c rfl) rfl dX12_init_589 rfl ?_
    refine c_bast (nx := 592) G (by decide) (am_isA_mono (am_isA_new hs_16.1 hs_16.2.2) (by omega)) (by decide) (by decide) dX12_init_591 rfl (fun m_108 e_m_108 => ?_)
    have h := h m_108 e_m_108
    refine z_dup (nx := 593) G (fun h => nomatch h) dX12_init_592 rfl ?_
    refine z_bipush (nx := 595) (z := 91) G (R32c rfl) rfl dX12_init_593 rfl ?_
    refine z_bipush (nx := 597) (z := 32) G (R32c rfl) rfl dX12_init_595 rfl ?_
    refine c_bast (nx := 598) G (by decide) (am_isA_mono (am_isA_new hs_16.1 hs_16.2.2) (by omega)) (by decide) (by decide) dX12_init_597 rfl (fun m_109 e_m_109 => ?_)
    have h := h m_109 e_m_109
    refine z_dup (nx := 599) G (fun h => nomatch h) dX12_init_598 rfl ?_
    refine z_bipush (nx := 601) (z := 92) G (R32c rfl) rfl dX12_init_599 rfl ?_
    refine z_bipush (nx := 603) (z := 100) G (R32c rfl) rfl dX12_init_601 rfl ?_
    refine c_bast (nx := 604) G (by decide) (am_isA_mono (am_isA_new hs_16.1 hs_16.2.2) (by omega)) (by decide) (by decide) dX12_init_603 rfl (fun m_110 e_m_110 => ?_)
    have h := h m_110 e_m_110
    refine z_dup (nx := 605) G (fun h => nomatch h) dX12_init_604 rfl ?_
    refine z_bipush (nx := 607) (z := 93) G (R32c rfl) rfl dX12_init_605 rfl ?_
    refine z_bipush (nx := 609) (z := 111) G (R32c rfl) rfl dX12_init_607 rfl ?_
    refine c_bast (nx := 610) G (by decide) (am_isA_mono (am_isA_new hs_16.1 hs_16.2.2) (by omega)) (by decide) (by decide) dX12_init_609 rfl (fun m_111 e_m_111 => ?_)
    have h := h m_111 e_m_111
    refine z_dup (nx := 611) G (fun h => nomatch h) dX12_init_610 rfl ?_
    refine z_bipush (nx := 613) (z := 94) G (R32c rfl) rfl dX12_init_611 rfl ?_
    refine z_bipush (nx := 615) (z := 110) G (R32c rfl) rfl dX12_init_613 rfl ?_
    refine c_bast (nx := 616) G (by decide) (am_isA_mono (am_isA_new hs_16.1 hs_16.2.2) (by omega)) (by decide) (by decide) dX12_init_615 rfl (fun m_112 e_m_112 => ?_)
    have h := h m_112 e_m_112
    refine z_dup (nx := 617) G (fun h => nomatch h) dX12_init_616 rfl ?_
    refine z_bipush (nx := 619) (z := 95) G (R32c rfl) rfl dX12_init_617 rfl ?_
    refine z_bipush (nx := 621) (z := 101) G (R32c rfl) rfl dX12_init_619 rfl ?_
    refine c_bast (nx := 622) G (by decide) (am_isA_mono (am_isA_new hs_16.1 hs_16.2.2) (by omega)) (by decide) (by decide) dX12_init_621 rfl (fun m_113 e_m_113 => ?_)
    have h := h m_113 e_m_113
    refine z_dup (nx := 623) G (fun h => nomatch h) dX12_init_622 rfl ?_
    refine z_bipush (nx := 625) (z := 96) G (R32c rfl) rfl dX12_init_623 rfl ?_
    refine z_bipush (nx := 627) (z := 32) G (R32c rfl) rfl dX12_init_625 rfl ?_
    refine c_bast (nx := 628) G (by decide) (am_isA_mono (am_isA_new hs_16.1 hs_16.2.2) (by omega)) (by decide) (by decide) dX12_init_627 rfl (fun m_114 e_m_114 => ?_)
    have h := h m_114 e_m_114
    refine z_dup (nx := 629) G (fun h => nomatch h) dX12_init_628 rfl ?_
    refine z_bipush (nx := 631) (z := 97) G (R32c rfl) rfl dX12_init_629 rfl ?_
    refine z_bipush (nx := 633) (z := 115) G (R32c rfl) rfl dX12_init_631 rfl ?_
    refine c_bast (nx := 634) G (by decide) (am_isA_mono (am_isA_new hs_16.1 hs_16.2.2) (by omega)) (by decide) (by decide) dX12_init_633 rfl (fun m_115 e_m_115 => ?_)
    have h := h m_115 e_m_115
    refine z_dup (nx := 635) G (fun h => nomatch h) dX12_init_634 rfl ?_
    refine z_bipush (nx := 637) (z := 98) G (R32c rfl) rfl dX12_init_635 rfl ?_
    refine z_bipush (nx := 639) (z := 97) G (R32c rfl) rfl dX12_init_637 rfl ?_
    refine c_bast (nx := 640) G (by decide) (am_isA_mono (am_isA_new hs_16.1 hs_16.2.2) (by omega)) (by decide) (by decide) dX12_init_639 rfl (fun m_116 e_m_116 => ?_)
    have h := h m_116 e_m_116
    refine z_dup (nx := 641) G (fun h => nomatch h) dX12_init_640 rfl ?_
    refine z_bipush (nx := 643) (z := 99) G (R32c rfl) rfl dX12_init_641 rfl ?_
    refine z_bipush (nx := 645) (z := 105) G (R32c rfl) rfl dX12_init_643 rfl ?_
    refine c_bast (nx := 646) G (by decide) (am_isA_mono (am_isA_new hs_16.1 hs_16.2.2) (by omega)) (by decide) (by decide) dX12_init_645 rfl (fun m_117 e_m_117 => ?_)
    have h := h m_117 e_m_117
    refine z_dup (nx := 647) G (fun h => nomatch h) dX12_init_646 rfl ?_
    refine z_bipush (nx := 649) (z := 100) G (R32c rfl) rfl dX12_init_647 rfl ?_
    refine z_bipush (nx := 651) (z := 100) G (R32c rfl) rfl dX12_init_649 rfl ?_
    refine c_bast (nx := 652) G (by decide) (am_isA_mono (am_isA_new hs_16.1 hs_16.2.2) (by omega)) (by decide) (by decide) dX12_init_651 rfl (fun m_118 e_m_118 => ?_)
    have h := h m_118 e_m_118
    refine z_dup (nx := 653) G (fun h => nomatch h) dX12_init_652 rfl ?_
    refine z_bipush (nx := 655) (z := 101) G (R32c rfl) rfl dX12_init_653 rfl ?_
    refine z_bipush (nx := 657) (z := 32) G (R32c rfl) rfl dX12_init_655 rfl ?_
    refine c_bast (nx := 658) G (by decide) (am_isA_mono (am_isA_new hs_16.1 hs_16.2.2) (by omega)) (by decide) (by decide) dX12_init_657 rfl (fun m_119 e_m_119 => ?_)
    have h := h m_119 e_m_119
    refine z_dup (nx := 659) G (fun h => nomatch h) dX12_init_658 rfl ?_
    refine z_bipush (nx := 661) (z := 102) G (R32c rfl) rfl dX12_init_659 rfl ?_
    refine z_bipush (nx := 663) (z := 103) G (R32c rfl) rfl dX12_init_661 rfl ?_
    refine c_bast (nx := 664) G (by decide) (am_isA_mono (am_isA_new hs_16.1 hs_16.2.2) (by omega)) (by decide) (by decide) dX12_init_663 rfl (fun m_120 e_m_120 => ?_)
    have h := h m_120 e_m_120
    refine z_dup (nx := 665) G (fun h => nomatch h) dX12_init_664 rfl ?_
    refine z_bipush (nx := 667) (z := 103) G (R32c rfl) rfl dX12_init_665 rfl ?_
    refine z_bipush (nx := 669) (z := 114) G (R32c rfl) rfl dX12_init_667 rfl ?_
    refine c_bast (nx := 670) G (by decide) (am_isA_mono (am_isA_new hs_16.1 hs_16.2.2) (by omega)) (by decide) (by decide) dX12_init_669 rfl (fun m_121 e_m_121 => ?_)
    have h := h m_121 e_m_121
    refine z_dup (nx := 671) G (fun h => nomatch h) dX12_init_670 rfl ?_
    refine z_bipush (nx := 673) (z := 104) G (R32c rfl) rfl dX12_init_671 rfl ?_
    refine z_bipush (nx := 675) (z := 97) G (R32c rfl) rfl dX12_init_673 rfl ?_
    refine c_bast (nx := 676) G (by decide) (am_isA_mono (am_isA_new hs_16.1 hs_16.2.2) (by omega)) (by decide) (by decide) dX12_init_675 rfl (fun m_122 e_m_122 => ?_)
    have h := h m_122 e_m_122
    refine z_dup (nx := 677) G (fun h => nomatch h) dX12_init_676 rfl ?_
    refine z_bipush (nx := 679) (z := 105) G (R32c rfl) rfl dX12_init_677 rfl ?_
    refine z_bipush (nx := 681) (z := 110) G (R32c rfl) rfl dX12_init_679 rfl ?_
    refine c_bast (nx := 682) G (by decide) (am_isA_mono (am_isA_new hs_16.1 hs_16.2.2) (by omega)) (by decide) (by decide) dX12_init_681 rfl (fun m_123 e_m_123 => ?_)
    have h := h m_123 e_m_123
    refine z_dup (nx := 683) G (fun h => nomatch h) dX12_init_682 rfl ?_
    refine z_bipush (nx := 685) (z := 106) G (R32c rfl) rfl dX12_init_683 rfl ?_
    refine z_bipush (nx := 687) (z := 116) G (R32c rfl) rfl dX12_init_685 rfl ?_
    refine c_bast (nx := 688) G (by decide) (am_isA_mono (am_isA_new hs_16.1 hs_16.2.2) (by omega)) (by decide) (by decide) dX12_init_687 rfl (fun m_124 e_m_124 => ?_)
    have h := h m_124 e_m_124
    refine z_dup (nx := 689) G (fun h => nomatch h) dX12_init_688 rfl ?_
    refine z_bipush (nx := 691) (z := 107) G (R32c rfl) rfl dX12_init_689 rfl ?_
    refine z_bipush (nx := 693) (z := 101) G (R32c rfl) rfl dX12_init_691 rfl ?_
    refine c_bast (nx := 694) G (by decide) (am_isA_mono (am_isA_new hs_16.1 hs_16.2.2) (by omega)) (by decide) (by decide) dX12_init_693 rfl (fun m_125 e_m_125 => ?_)
    have h := h m_125 e_m_125
    refine z_dup (nx := 695) G (fun h => nomatch h) dX12_init_694 rfl ?_
    refine z_bipush (nx := 697) (z := 108) G (R32c rfl) rfl dX12_init_695 rfl ?_
    refine z_bipush (nx := 699) (z := 100) G (R32c rfl) rfl dX12_init_697 rfl ?_
    refine c_bast (nx := 700) G (by decide) (am_isA_mono (am_isA_new hs_16.1 hs_16.2.2) (by omega)) (by decide) (by decide) dX12_init_699 rfl (fun m_126 e_m_126 => ?_)
    have h := h m_126 e_m_126
    refine z_dup (nx := 701) G (fun h => nomatch h) dX12_init_700 rfl ?_
    refine z_bipush (nx := 703) (z := 109) G (R32c rfl) rfl dX12_init_701 rfl ?_
    refine z_bipush (nx := 705) (z := 32) G (R32c rfl) rfl dX12_init_703 rfl ?_
    refine c_bast (nx := 706) G (by decide) (am_isA_mono (am_isA_new hs_16.1 hs_16.2.2) (by omega)) (by decide) (by decide) dX12_init_705 rfl (fun m_127 e_m_127 => ?_)
    have h := h m_127 e_m_127
    refine z_dup (nx := 707) G (fun h => nomatch h) dX12_init_706 rfl ?_
    refine z_bipush (nx := 709) (z := 110) G (R32c rfl) rfl dX12_init_707 rfl ?_
    refine z_bipush (nx := 711) (z := 112) G (R32c rfl) rfl dX12_init_709 rfl ?_
    refine c_bast (nx := 712) G (by decide) (am_isA_mono (am_isA_new hs_16.1 hs_16.2.2) (by omega)) (by decide) (by decide) dX12_init_711 rfl (fun m_128 e_m_128 => ?_)
    have h := h m_128 e_m_128
    refine z_dup (nx := 713) G (fun h => nomatch h) dX12_init_712 rfl ?_
    refine z_bipush (nx := 715) (z := 111) G (R32c rfl) rfl dX12_init_713 rfl ?_
    refine z_bipush (nx := 717) (z := 114) G (R32c rfl) rfl dX12_init_715 rfl ?_
    refine c_bast (nx := 718) G (by decide) (am_isA_mono (am_isA_new hs_16.1 hs_16.2.2) (by omega)) (by decide) (by decide) dX12_init_717 rfl (fun m_129 e_m_129 => ?_)
    have h := h m_129 e_m_129
    refine z_dup (nx := 719) G (fun h => nomatch h) dX12_init_718 rfl ?_
    refine z_bipush (nx := 721) (z := 112) G (R32c rfl) rfl dX12_init_719 rfl ?_
    refine z_bipush (nx := 723) (z := 97) G (R32c rfl) rfl dX12_init_721 rfl ?_
    refine c_bast (nx := 724) G (by decide) (am_isA_mono (am_isA_new hs_16.1 hs_16.2.2) (by omega)) (by decide) (by decide) dX12_init_723 rfl (fun m_130 e_m_130 => ?_)
    have h := h m_130 e_m_130
    refine z_dup (nx := 725) G (fun h => nomatch h) dX12_init_724 rfl ?_
    refine z_bipush (nx := 727) (z := 113) G (R32c rfl) rfl dX12_init_725 rfl ?_
    refine z_bipush (nx := 729) (z := 121) G (R32c rfl) rfl dX12_init_727 rfl ?_
    refine c_bast (nx := 730) G (by decide) (am_isA_mono (am_isA_new hs_16.1 hs_16.2.2) (by omega)) (by decide) (by decide) dX12_init_729 rfl (fun m_131 e_m_131 => ?_)
    have h := h m_131 e_m_131
    refine z_dup (nx := 731) G (fun h => nomatch h) dX12_init_730 rfl ?_
    refine z_bipush (nx := 733) (z := 114) G (R32c rfl) rfl dX12_init_731 rfl ?_
    refine z_bipush (nx := 735) (z := 32) G (R32c rfl) rfl dX12_init_733 rfl ?_
    refine c_bast (nx := 736) G (by decide) (am_isA_mono (am_isA_new hs_16.1 hs_16.2.2) (by omega)) (by decide) (by decide) dX12_init_735 rfl (fun m_132 e_m_132 => ?_)
    have h := h m_132 e_m_132
    refine z_dup (nx := 737) G (fun h => nomatch h) dX12_init_736 rfl ?_
    refine z_bipush (nx := 739) (z := 115) G (R32c rfl) rfl dX12_init_737 rfl ?_
    refine z_bipush (nx := 741) (z := 102) G (R32c rfl) rfl dX12_init_739 rfl ?_
    refine c_bast (nx := 742) G (by decide) (am_isA_mono (am_isA_new hs_16.1 hs_16.2.2) (by omega)) (by decide) (by decide) dX12_init_741 rfl (fun m_133 e_m_133 => ?_)
    have h := h m_133 e_m_133
    refine z_dup (nx := 743) G (fun h => nomatch h) dX12_init_742 rfl ?_
    refine z_bipush (nx := 745) (z := 116) G (R32c rfl) rfl dX12_init_743 rfl ?_
    refine z_bipush (nx := 747) (z := 111) G (R32c rfl) rfl dX12_init_745 rfl ?_
    refine c_bast (nx := 748) G (by decide) (am_isA_mono (am_isA_new hs_16.1 hs_16.2.2) (by omega)) (by decide) (by decide) dX12_init_747 rfl (fun m_134 e_m_134 => ?_)
    have h := h m_134 e_m_134
    refine z_dup (nx := 749) G (fun h => nomatch h) dX12_init_748 rfl ?_
    refine z_bipush (nx := 751) (z := 117) G (R32c rfl) rfl dX12_init_749 rfl ?_
    refine z_bipush (nx := 753) (z := 114) G (R32c rfl) rfl dX12_init_751 rfl ?_
    refine c_bast (nx := 754) G (by decide) (am_isA_mono (am_isA_new hs_16.1 hs_16.2.2) (by omega)) (by decide) (by decide) dX12_init_753 rfl (fun m_135 e_m_135 => ?_)
    have h := h m_135 e_m_135
    refine z_dup (nx := 755) G (fun h => nomatch h) dX12_init_754 rfl ?_
    refine z_bipush (nx := 757) (z := 118) G (R32c rfl) rfl dX12_init_755 rfl ?_
    refine z_bipush (nx := 759) (z := 32) G (R32c rfl) rfl dX12_init_757 rfl ?_
    refine c_bast (nx := 760) G (by decide) (am_isA_mono (am_isA_new hs_16.1 hs_16.2.2) (by omega)) (by decide) (by decide) dX12_init_759 rfl (fun m_136 e_m_136 => ?_)
    have h := h m_136 e_m_136
    refine z_dup (nx := 761) G (fun h => nomatch h) dX12_init_760 rfl ?_
    refine z_bipush (nx := 763) (z := 119) G (R32c rfl) rfl dX12_init_761 rfl ?_
    refine z_bipush (nx := 765) (z := 111) G (R32c rfl) rfl dX12_init_763 rfl ?_
    refine c_bast (nx := 766) G (by decide) (am_isA_mono (am_isA_new hs_16.1 hs_16.2.2) (by omega)) (by decide) (by decide) dX12_init_765 rfl (fun m_137 e_m_137 => ?_)
    have h := h m_137 e_m_137
    refine z_dup (nx := 767) G (fun h => nomatch h) dX12_init_766 rfl ?_
    refine z_bipush (nx := 769) (z := 120) G (R32c rfl) rfl dX12_init_767 rfl ?_
    refine z_bipush (nx := 771) (z := 102) G (R32c rfl) rfl dX12_init_769 rfl ?_
    refine c_bast (nx := 772) G (by decide) (am_isA_mono (am_isA_new hs_16.1 hs_16.2.2) (by omega)) (by decide) (by decide) dX12_init_771 rfl (fun m_138 e_m_138 => ?_)
    have h := h m_138 e_m_138
    refine z_dup (nx := 773) G (fun h => nomatch h) dX12_init_772 rfl ?_
    refine z_bipush (nx := 775) (z := 121) G (R32c rfl) rfl dX12_init_773 rfl ?_
    refine z_bipush (nx := 777) (z := 32) G (R32c rfl) rfl dX12_init_775 rfl ?_
    refine c_bast (nx := 778) G (by decide) (am_isA_mono (am_isA_new hs_16.1 hs_16.2.2) (by omega)) (by decide) (by decide) dX12_init_777 rfl (fun m_139 e_m_139 => ?_)
    have h := h m_139 e_m_139
    refine z_dup (nx := 779) G (fun h => nomatch h) dX12_init_778 rfl ?_
    refine z_bipush (nx := 781) (z := 122) G (R32c rfl) rfl dX12_init_779 rfl ?_
    refine z_bipush (nx := 783) (z := 100) G (R32c rfl) rfl dX12_init_781 rfl ?_
    refine c_bast (nx := 784) G (by decide) (am_isA_mono (am_isA_new hs_16.1 hs_16.2.2) (by omega)) (by decide) (by decide) dX12_init_783 rfl (fun m_140 e_m_140 => ?_)
    have h := h m_140 e_m_140
    refine z_dup (nx := 785) G (fun h => nomatch h) dX12_init_784 rfl ?_
    refine z_bipush (nx := 787) (z := 123) G (R32c rfl) rfl dX12_init_785 rfl ?_
    refine z_bipush (nx := 789) (z := 97) G (R32c rfl) rfl dX12_init_787 rfl ?_
    refine c_bast (nx := 790) G (by decide) (am_isA_mono (am_isA_new hs_16.1 hs_16.2.2) (by omega)) (by decide) (by decide) dX12_init_789 rfl (fun m_141 e_m_141 => ?_)
    have h := h m_141 e_m_141
    refine z_dup (nx := 791) G (fun h => nomatch h) dX12_init_790 rfl ?_
    refine z_bipush (nx := 793) (z := 124) G (R32c rfl) rfl dX12_init_791 rfl ?_
    refine z_bipush (nx := 795) (z := 119) G (R32c rfl) rfl dX12_init_793 rfl ?_
    refine c_bast (nx := 796) G (by decide) (am_isA_mono (am_isA_new hs_16.1 hs_16.2.2) (by omega)) (by decide) (by decide) dX12_init_795 rfl (fun m_142 e_m_142 => ?_)
    have h := h m_142 e_m_142
    refine z_dup (nx := 797) G (fun h => nomatch h) dX12_init_796 rfl ?_
    refine z_bipush (nx := 799) (z := 125) G (R32c rfl) rfl dX12_init_797 rfl ?_
    refine z_bipush (nx := 801) (z := 110) G (R32c rfl) rfl dX12_init_799 rfl ?_
    refine c_bast (nx := 802) G (by decide) (am_isA_mono (am_isA_new hs_16.1 hs_16.2.2) (by omega)) (by decide) (by decide) dX12_init_801 rfl (fun m_143 e_m_143 => ?_)
    have h := h m_143 e_m_143
    refine z_dup (nx := 803) G (fun h => nomatch h) dX12_init_802 rfl ?_
    refine z_bipush (nx := 805) (z := 126) G (R32c rfl) rfl dX12_init_803 rfl ?_
    refine z_bipush (nx := 807) (z := 32) G (R32c rfl) rfl dX12_init_805 rfl ?_
    refine c_bast (nx := 808) G (by decide) (am_isA_mono (am_isA_new hs_16.1 hs_16.2.2) (by omega)) (by decide) (by decide) dX12_init_807 rfl (fun m_144 e_m_144 => ?_)
    have h := h m_144 e_m_144
    refine z_dup (nx := 809) G (fun h => nomatch h) dX12_init_808 rfl ?_
    refine z_bipush (nx := 811) (z := 127) G (R32c rfl) rfl dX12_init_809 rfl ?_
    refine z_bipush (nx := 813) (z := 116) G (R32c rfl) rfl dX12_init_811 rfl ?_
    refine c_bast (nx := 814) G (by decide) (am_isA_mono (am_isA_new hs_16.1 hs_16.2.2) (by omega)) (by decide) (by decide) dX12_init_813 rfl (fun m_145 e_m_145 => ?_)
    have h := h m_145 e_m_145
    refine z_dup (nx := 815) G (fun h => nomatch h) dX12_init_814 rfl ?_
    refine z_sipush (nx := 818) (z := 128) G (R32c rfl) rfl dX12_init_815 rfl ?_
    refine z_bipush (nx := 820) (z := 105) G (R32c rfl) rfl dX12_init_818 rfl ?_
    refine c_bast (nx := 821) G (by decide) (am_isA_mono (am_isA_new hs_16.1 hs_16.2.2) (by omega)) (by decide) (by decide) dX12_init_820 rfl (fun m_146 e_m_146 => ?_)
    have h := h m_146 e_m_146
    refine z_dup (nx := 822) G (fun h => nomatch h) dX12_init_821 rfl ?_
    refine z_sipush (nx := 825) (z := 129) G (R32c rfl) rfl dX12_init_822 rfl ?_
    refine z_bipush (nx := 827) (z := 109) G (R32c rfl) rfl dX12_init_825 rfl ?_
    refine c_bast (nx := 828) G (by decide) (am_isA_mono (am_isA_new hs_16.1 hs_16.2.2) (by omega)) (by decide) (by decide) dX12_init_827 rfl (fun m_147 e_m_147 => ?_)
    have h := h m_147 e_m_147
    refine z_dup (nx := 829) G (fun h => nomatch h) dX12_init_828 rfl ?_
    refine z_sipush (nx := 832) (z := 130) G (R32c rfl) rfl dX12_init_829 rfl ?_
    refine z_bipush (nx := 834) (z := 101) G (R32c rfl) rfl dX12_init_832 rfl ?_
    refine c_bast (nx := 835) G (by decide) (am_isA_mono (am_isA_new hs_16.1 hs_16.2.2) (by omega)) (by decide) (by decide) dX12_init_834 rfl (fun m_148 e_m_148 => ?_)
    have h := h m_148 e_m_148
    refine z_dup (nx := 836) G (fun h => nomatch h) dX12_init_835 rfl ?_
    refine z_sipush (nx := 839) (z := 131) G (R32c rfl) rfl dX12_init_836 rfl ?_
    refine z_bipush (nx := 841) (z := 115) G (R32c rfl) rfl dX12_init_839 rfl ?_
    refine c_bast (nx := 842) G (by decide) (am_isA_mono (am_isA_new hs_16.1 hs_16.2.2) (by omega)) (by decide) (by decide) dX12_init_841 rfl (fun m_149 e_m_149 => ?_)
    have h := h m_149 e_m_149
    refine z_dup (nx := 843) G (fun h => nomatch h) dX12_init_842 rfl ?_
    refine z_sipush (nx := 846) (z := 132) G (R32c rfl) rfl dX12_init_843 rfl ?_
    refine z_bipush (nx := 848) (z := 32) G (R32c rfl) rfl dX12_init_846 rfl ?_
    refine c_bast (nx := 849) G (by decide) (am_isA_mono (am_isA_new hs_16.1 hs_16.2.2) (by omega)) (by decide) (by decide) dX12_init_848 rfl (fun m_150 e_m_150 => ?_)
    have h := h m_150 e_m_150
    refine c_putF (nx := 852) (k0 := 7) (t := 2) G fl_RX12_37 (Nat.le_of_ble_eq_true rfl) (Nat.le_of_ble_eq_true rfl) rfl hI rfl fw_RX12_37 rfl (am_is_mono hob (by omega)) dX12_init_849 rfl (fun m_151 e_m_151 => ?_)
    have h := h m_151 e_m_151
    refine z_aload_n (nx := 853) (a := 0) G rfl (Or.inl rfl) dX12_init_852 rfl ?_
    refine z_sipush (nx := 856) (z := 400) G (R32c rfl) rfl dX12_init_853 rfl ?_
    obtain ⟨hs_152, h⟩ := h
    refine c_newb (nx := 858) G aw_byte hs_152 ((hl _).mpr (by omega)) dX12_init_856 rfl (fun m_153 e_m_153 => ?_)
    have h := h m_153 e_m_153
    refine c_putF (nx := 861) (k0 := 11) (t := 2) G fl_RX12_41 (Nat.le_of_ble_eq_true rfl) (Nat.le_of_ble_eq_true rfl) rfl hI rfl fw_RX12_41 rfl (am_is_mono hob (by omega)) dX12_init_858 rfl (fun m_154 e_m_154 => ?_)
    have h := h m_154 e_m_154
    refine z_aload_n (nx := 862) (a := 0) G rfl (Or.inl rfl) dX12_init_861 rfl ?_
    refine z_iconst (nx := 863) (z := 5) G (R32c rfl) dX12_init_862 rfl ?_
    obtain ⟨hs_155, h⟩ := h
    refine c_newi (nx := 865) G aw_int hs_155 ((hl _).mpr (by omega)) dX12_init_863 rfl (fun m_156 e_m_156 => ?_)
    have h := h m_156 e_m_156
    refine c_putF (nx := 868) (k0 := 12) (t := 2) G fl_RX12_44 (Nat.le_of_ble_eq_true rfl) (Nat.le_of_ble_eq_true rfl) rfl hI rfl fw_RX12_44 rfl (am_is_mono hob (by omega)) dX12_init_865 rfl (fun m_157 e_m_157 => ?_)
    have h := h m_157 e_m_157
    refine z_aload_n (nx := 869) (a := 0) G rfl (Or.inl rfl) dX12_init_868 rfl ?_
    refine z_iconst (nx := 870) (z := (-1)) G (R32c rfl) dX12_init_869 rfl ?_
    refine c_put (nx := 873) (k0 := 14) (t := 0) G fl_RX12_47 (Nat.le_of_ble_eq_true rfl) (Nat.le_of_ble_eq_true rfl) rfl rfl (am_is_mono hob (by omega)) dX12_init_870 rfl (fun m_158 e_m_158 => ?_)
    have h := h m_158 e_m_158
    refine z_aload_n (nx := 874) (a := 0) G rfl (Or.inl rfl) dX12_init_873 rfl ?_
    refine z_sipush (nx := 877) (z := 401) G (R32c rfl) rfl dX12_init_874 rfl ?_
    obtain ⟨hs_159, h⟩ := h
    refine c_newi (nx := 879) G aw_int hs_159 ((hl _).mpr (by omega)) dX12_init_877 rfl (fun m_160 e_m_160 => ?_)
    have h := h m_160 e_m_160
    refine c_putF (nx := 882) (k0 := 15) (t := 2) G fl_RX12_50 (Nat.le_of_ble_eq_true rfl) (Nat.le_of_ble_eq_true rfl) rfl hI rfl fw_RX12_50 rfl (am_is_mono hob (by omega)) dX12_init_879 rfl (fun m_161 e_m_161 => ?_)
    have h := h m_161 e_m_161
    refine z_aload_n (nx := 883) (a := 0) G rfl (Or.inl rfl) dX12_init_882 rfl ?_
    refine z_sipush (nx := 886) (z := 401) G (R32c rfl) rfl dX12_init_883 rfl ?_
    obtain ⟨hs_162, h⟩ := h
    refine c_newi (nx := 888) G aw_int hs_162 ((hl _).mpr (by omega)) dX12_init_886 rfl (fun m_163 e_m_163 => ?_)
    have h := h m_163 e_m_163
    refine c_putF (nx := 891) (k0 := 16) (t := 2) G fl_RX12_53 (Nat.le_of_ble_eq_true rfl) (Nat.le_of_ble_eq_true rfl) rfl hI rfl fw_RX12_53 rfl (am_is_mono hob (by omega)) dX12_init_888 rfl (fun m_164 e_m_164 => ?_)
    have h := h m_164 e_m_164
    refine z_aload_n (nx := 892) (a := 0) G rfl (Or.inl rfl) dX12_init_891 rfl ?_
    refine z_sipush (nx := 895) (z := 401) G (R32c rfl) rfl dX12_init_892 rfl ?_
    obtain ⟨hs_165, h⟩ := h
    refine c_newi (nx := 897) G aw_int hs_165 ((hl _).mpr (by omega)) dX12_init_895 rfl (fun m_166 e_m_166 => ?_)
    have h := h m_166 e_m_166
    refine c_putF (nx := 900) (k0 := 17) (t := 2) G fl_RX12_56 (Nat.le_of_ble_eq_true rfl) (Nat.le_of_ble_eq_true rfl) rfl hI rfl fw_RX12_56 rfl (am_is_mono hob (by omega)) dX12_init_897 rfl (fun m_167 e_m_167 => ?_)
    have h := h m_167 e_m_167
    refine z_aload_n (nx := 901) (a := 0) G rfl (Or.inl rfl) dX12_init_900 rfl ?_
    refine z_bipush (nx := 903) (z := 8) G (R32c rfl) rfl dX12_init_901 rfl ?_
    obtain ⟨hs_168, h⟩ := h
    refine c_newi (nx := 905) G aw_int hs_168 ((hl _).mpr (by omega)) dX12_init_903 rfl (fun m_169 e_m_169 => ?_)
    have h := h m_169 e_m_169
    refine c_putF (nx := 908) (k0 := 25) (t := 2) G fl_RX12_59 (Nat.le_of_ble_eq_true rfl) (Nat.le_of_ble_eq_true rfl) rfl hI rfl fw_RX12_59 rfl (am_is_mono hob (by omega)) dX12_init_905 rfl (fun m_170 e_m_170 => ?_)
    have h := h m_170 e_m_170
    refine z_aload_n (nx := 909) (a := 0) G rfl (Or.inl rfl) dX12_init_908 rfl ?_
    refine z_bipush (nx := 911) (z := 8) G (R32c rfl) rfl dX12_init_909 rfl ?_
    obtain ⟨hs_171, h⟩ := h
    refine c_newi (nx := 913) G aw_int hs_171 ((hl _).mpr (by omega)) dX12_init_911 rfl (fun m_172 e_m_172 => ?_)
    have h := h m_172 e_m_172
    refine c_putF (nx := 916) (k0 := 26) (t := 2) G fl_RX12_62 (Nat.le_of_ble_eq_true rfl) (Nat.le_of_ble_eq_true rfl) rfl hI rfl fw_RX12_62 rfl (am_is_mono hob (by omega)) dX12_init_913 rfl (fun m_173 e_m_173 => ?_)
    have h := h m_173 e_m_173
    refine z_aload_n (nx := 917) (a := 0) G rfl (Or.inl rfl) dX12_init_916 rfl ?_
    refine z_bipush (nx := 919) (z := 8) G (R32c rfl) rfl dX12_init_917 rfl ?_
    obtain ⟨hs_174, h⟩ := h
    refine c_newi (nx := 921) G aw_int hs_174 ((hl _).mpr (by omega)) dX12_init_919 rfl (fun m_175 e_m_175 => ?_)
    have h := h m_175 e_m_175
    refine c_putF (nx := 924) (k0 := 27) (t := 2) G fl_RX12_65 (Nat.le_of_ble_eq_true rfl) (Nat.le_of_ble_eq_true rfl) rfl hI rfl fw_RX12_65 rfl (am_is_mono hob (by omega)) dX12_init_921 rfl (fun m_176 e_m_176 => ?_)
    have h := h m_176 e_m_176
    refine z_aload_n (nx := 925) (a := 0) G rfl (Or.inl rfl) dX12_init_924 rfl ?_
    refine z_bipush (nx := 927) (z := 8) G (R32c rfl) rfl dX12_init_925 rfl ?_
    obtain ⟨hs_177, h⟩ := h
    refine c_newi (nx := 929) G aw_int hs_177 ((hl _).mpr (by omega)) dX12_init_927 rfl (fun m_178 e_m_178 => ?_)
    have h := h m_178 e_m_178
    refine c_putF (nx := 932) (k0 := 28) (t := 2) G fl_RX12_68 (Nat.le_of_ble_eq_true rfl) (Nat.le_of_ble_eq_true rfl) rfl hI rfl fw_RX12_68 rfl (am_is_mono hob (by omega)) dX12_init_929 rfl (fun m_179 e_m_179 => ?_)
    have h := h m_179 e_m_179
    refine z_aload_n (nx := 933) (a := 0) G rfl (Or.inl rfl) dX12_init_932 rfl ?_
    refine z_bipush (nx := 935) (z := 8) G (R32c rfl) rfl dX12_init_933 rfl ?_
    obtain ⟨hs_180, h⟩ := h
    refine c_newi (nx := 937) G aw_int hs_180 ((hl _).mpr (by omega)) dX12_init_935 rfl (fun m_181 e_m_181 => ?_)
    have h := h m_181 e_m_181
    refine c_putF (nx := 940) (k0 := 29) (t := 2) G fl_RX12_71 (Nat.le_of_ble_eq_true rfl) (Nat.le_of_ble_eq_true rfl) rfl hI rfl fw_RX12_71 rfl (am_is_mono hob (by omega)) dX12_init_937 rfl (fun m_182 e_m_182 => ?_)
    have h := h m_182 e_m_182
    refine z_aload_n (nx := 941) (a := 0) G rfl (Or.inl rfl) dX12_init_940 rfl ?_
    refine z_bipush (nx := 943) (z := 8) G (R32c rfl) rfl dX12_init_941 rfl ?_
    obtain ⟨hs_183, h⟩ := h
    refine c_newi (nx := 945) G aw_int hs_183 ((hl _).mpr (by omega)) dX12_init_943 rfl (fun m_184 e_m_184 => ?_)
    have h := h m_184 e_m_184
    refine c_putF (nx := 948) (k0 := 30) (t := 2) G fl_RX12_74 (Nat.le_of_ble_eq_true rfl) (Nat.le_of_ble_eq_true rfl) rfl hI rfl fw_RX12_74 rfl (am_is_mono hob (by omega)) dX12_init_945 rfl (fun m_185 e_m_185 => ?_)
    have h := h m_185 e_m_185
    refine z_aload_n (nx := 949) (a := 0) G rfl (Or.inl rfl) dX12_init_948 rfl ?_
    refine z_bipush (nx := 951) (z := 8) G (R32c rfl) rfl dX12_init_949 rfl ?_
    obtain ⟨hs_186, h⟩ := h
    refine c_newi (nx := 953) G aw_int hs_186 ((hl _).mpr (by omega)) dX12_init_951 rfl (fun m_187 e_m_187 => ?_)
    have h := h m_187 e_m_187
    refine c_putF (nx := 956) (k0 := 31) (t := 2) G fl_RX12_77 (Nat.le_of_ble_eq_true rfl) (Nat.le_of_ble_eq_true rfl) rfl hI rfl fw_RX12_77 rfl (am_is_mono hob (by omega)) dX12_init_953 rfl (fun m_188 e_m_188 => ?_)
    have h := h m_188 e_m_188
    refine z_aload_n (nx := 957) (a := 0) G rfl (Or.inl rfl) dX12_init_956 rfl ?_
    refine z_bipush (nx := 959) (z := 24) G (R32c rfl) rfl dX12_init_957 rfl ?_
    obtain ⟨hs_189, h⟩ := h
    refine c_newi (nx := 961) G aw_int hs_189 ((hl _).mpr (by omega)) dX12_init_959 rfl (fun m_190 e_m_190 => ?_)
    have h := h m_190 e_m_190
    refine c_putF (nx := 964) (k0 := 32) (t := 2) G fl_RX12_80 (Nat.le_of_ble_eq_true rfl) (Nat.le_of_ble_eq_true rfl) rfl hI rfl fw_RX12_80 rfl (am_is_mono hob (by omega)) dX12_init_961 rfl (fun m_191 e_m_191 => ?_)
    have h := h m_191 e_m_191
    refine z_aload_n (nx := 965) (a := 0) G rfl (Or.inl rfl) dX12_init_964 rfl ?_
    refine z_bipush (nx := 967) (z := 24) G (R32c rfl) rfl dX12_init_965 rfl ?_
    obtain ⟨hs_192, h⟩ := h
    refine c_newi (nx := 969) G aw_int hs_192 ((hl _).mpr (by omega)) dX12_init_967 rfl (fun m_193 e_m_193 => ?_)
    have h := h m_193 e_m_193
    refine c_putF (nx := 972) (k0 := 33) (t := 2) G fl_RX12_83 (Nat.le_of_ble_eq_true rfl) (Nat.le_of_ble_eq_true rfl) rfl hI rfl fw_RX12_83 rfl (am_is_mono hob (by omega)) dX12_init_969 rfl (fun m_194 e_m_194 => ?_)
    have h := h m_194 e_m_194
    refine z_aload_n (nx := 973) (a := 0) G rfl (Or.inl rfl) dX12_init_972 rfl ?_
    refine z_sipush (nx := 976) (z := 2736) G (R32c rfl) rfl dX12_init_973 rfl ?_
    obtain ⟨hs_195, h⟩ := h
    refine c_newi (nx := 978) G aw_int hs_195 ((hl _).mpr (by omega)) dX12_init_976 rfl (fun m_196 e_m_196 => ?_)
    have h := h m_196 e_m_196
    refine c_putF (nx := 981) (k0 := 36) (t := 2) G fl_RX12_86 (Nat.le_of_ble_eq_true rfl) (Nat.le_of_ble_eq_true rfl) rfl hI rfl fw_RX12_86 rfl (am_is_mono hob (by omega)) dX12_init_978 rfl (fun m_197 e_m_197 => ?_)
    have h := h m_197 e_m_197
    refine z_aload_n (nx := 982) (a := 0) G rfl (Or.inl rfl) dX12_init_981 rfl ?_
    refine z_sipush (nx := 985) (z := 2736) G (R32c rfl) rfl dX12_init_982 rfl ?_
    obtain ⟨hs_198, h⟩ := h
    refine c_newi (nx := 987) G aw_int hs_198 ((hl _).mpr (by omega)) dX12_init_985 rfl (fun m_199 e_m_199 => ?_)
    have h := h m_199 e_m_199
    refine c_putF (nx := 990) (k0 := 37) (t := 2) G fl_RX12_89 (Nat.le_of_ble_eq_true rfl) (Nat.le_of_ble_eq_true rfl) rfl hI rfl fw_RX12_89 rfl (am_is_mono hob (by omega)) dX12_init_987 rfl (fun m_200 e_m_200 => ?_)
    have h := h m_200 e_m_200
    refine z_aload_n (nx := 991) (a := 0) G rfl (Or.inl rfl) dX12_init_990 rfl ?_
    refine z_iconst (nx := 992) (z := 3) G (R32c rfl) dX12_init_991 rfl ?_
    obtain ⟨hs_201, h⟩ := h
    refine c_newi (nx := 994) G aw_int hs_201 ((hl _).mpr (by omega)) dX12_init_992 rfl (fun m_202 e_m_202 => ?_)
    have h := h m_202 e_m_202
    refine c_putF (nx := 997) (k0 := 39) (t := 2) G fl_RX12_92 (Nat.le_of_ble_eq_true rfl) (Nat.le_of_ble_eq_true rfl) rfl hI rfl fw_RX12_92 rfl (am_is_mono hob (by omega)) dX12_init_994 rfl (fun m_203 e_m_203 => ?_)
    have h := h m_203 e_m_203
    refine z_aload_n (nx := 998) (a := 0) G rfl (Or.inl rfl) dX12_init_997 rfl ?_
    refine z_bipush (nx := 1000) (z := 8) G (R32c rfl) rfl dX12_init_998 rfl ?_
    obtain ⟨hs_204, h⟩ := h
    refine c_newi (nx := 1002) G aw_int hs_204 ((hl _).mpr (by omega)) dX12_init_1000 rfl (fun m_205 e_m_205 => ?_)
    have h := h m_205 e_m_205
    refine c_putF (nx := 1005) (k0 := 40) (t := 2) G fl_RX12_95 (Nat.le_of_ble_eq_true rfl) (Nat.le_of_ble_eq_true rfl) rfl hI rfl fw_RX12_95 rfl (am_is_mono hob (by omega)) dX12_init_1002 rfl (fun m_206 e_m_206 => ?_)
    have h := h m_206 e_m_206
    refine z_aload_n (nx := 1006) (a := 0) G rfl (Or.inl rfl) dX12_init_1005 rfl ?_
    refine z_bipush (nx := 1008) (z := 36) G (R32c rfl) rfl dX12_init_1006 rfl ?_
    obtain ⟨hs_207, h⟩ := h
    refine c_newi (nx := 1010) G aw_int hs_207 ((hl _).mpr (by omega)) dX12_init_1008 rfl (fun m_208 e_m_208 => ?_)
    have h := h m_208 e_m_208
    refine c_putF (nx := 1013) (k0 := 41) (t := 2) G fl_RX12_98 (Nat.le_of_ble_eq_true rfl) (Nat.le_of_ble_eq_true rfl) rfl hI rfl fw_RX12_98 rfl (am_is_mono hob (by omega)) dX12_init_1010 rfl (fun m_209 e_m_209 => ?_)
    have h := h m_209 e_m_209
    refine z_aload_n (nx := 1014) (a := 0) G rfl (Or.inl rfl) dX12_init_1013 rfl ?_
    refine z_bipush (nx := 1016) (z := 6) G (R32c rfl) rfl dX12_init_1014 rfl ?_
    obtain ⟨hs_210, h⟩ := h
    refine c_newi (nx := 1018) G aw_int hs_210 ((hl _).mpr (by omega)) dX12_init_1016 rfl (fun m_211 e_m_211 => ?_)
    have h := h m_211 e_m_211
    refine c_putF (nx := 1021) (k0 := 42) (t := 2) G fl_RX12_101 (Nat.le_of_ble_eq_true rfl) (Nat.le_of_ble_eq_true rfl) rfl hI rfl fw_RX12_101 rfl (am_is_mono hob (by omega)) dX12_init_1018 rfl (fun m_212 e_m_212 => ?_)
    have h := h m_212 e_m_212
    refine z_aload_n (nx := 1022) (a := 0) G rfl (Or.inl rfl) dX12_init_1021 rfl ?_
    refine z_bipush (nx := 1024) (z := 6) G (R32c rfl) rfl dX12_init_1022 rfl ?_
    obtain ⟨hs_213, h⟩ := h
    refine c_newi (nx := 1026) G aw_int hs_213 ((hl _).mpr (by omega)) dX12_init_1024 rfl (fun m_214 e_m_214 => ?_)
    have h := h m_214 e_m_214
    refine c_putF (nx := 1029) (k0 := 43) (t := 2) G fl_RX12_104 (Nat.le_of_ble_eq_true rfl) (Nat.le_of_ble_eq_true rfl) rfl hI rfl fw_RX12_104 rfl (am_is_mono hob (by omega)) dX12_init_1026 rfl (fun m_215 e_m_215 => ?_)
    have h := h m_215 e_m_215
    refine z_aload_n (nx := 1030) (a := 0) G rfl (Or.inl rfl) dX12_init_1029 rfl ?_
    refine z_bipush (nx := 1032) (z := 6) G (R32c rfl) rfl dX12_init_1030 rfl ?_
    obtain ⟨hs_216, h⟩ := h
    refine c_newi (nx := 1034) G aw_int hs_216 ((hl _).mpr (by omega)) dX12_init_1032 rfl (fun m_217 e_m_217 => ?_)
    have h := h m_217 e_m_217
    refine c_putF (nx := 1037) (k0 := 44) (t := 2) G fl_RX12_107 (Nat.le_of_ble_eq_true rfl) (Nat.le_of_ble_eq_true rfl) rfl hI rfl fw_RX12_107 rfl (am_is_mono hob (by omega)) dX12_init_1034 rfl (fun m_218 e_m_218 => ?_)
    have h := h m_218 e_m_218
    refine z_aload_n (nx := 1038) (a := 0) G rfl (Or.inl rfl) dX12_init_1037 rfl ?_
    refine z_iconst (nx := 1039) (z := (-1)) G (R32c rfl) dX12_init_1038 rfl ?_
    refine c_put (nx := 1042) (k0 := 48) (t := 0) G fl_RX12_110 (Nat.le_of_ble_eq_true rfl) (Nat.le_of_ble_eq_true rfl) rfl rfl (am_is_mono hob (by omega)) dX12_init_1039 rfl (fun m_219 e_m_219 => ?_)
    have h := h m_219 e_m_219
    refine z_aload_n (nx := 1043) (a := 0) G rfl (Or.inl rfl) dX12_init_1042 rfl ?_
    refine z_iconst (nx := 1044) (z := 3) G (R32c rfl) dX12_init_1043 rfl ?_
    obtain ⟨hs_220, h⟩ := h
    refine c_newl (nx := 1046) G aw_long hs_220 ((hl _).mpr (by omega)) dX12_init_1044 rfl (fun m_221 e_m_221 => ?_)
    have h := h m_221 e_m_221
    refine c_putF (nx := 1049) (k0 := 55) (t := 2) G fl_RX12_113 (Nat.le_of_ble_eq_true rfl) (Nat.le_of_ble_eq_true rfl) rfl hI rfl fw_RX12_113 rfl (am_is_mono hob (by omega)) dX12_init_1046 rfl (fun m_222 e_m_222 => ?_)
    have h := h m_222 e_m_222
    refine z_aload_n (nx := 1050) (a := 0) G rfl (Or.inl rfl) dX12_init_1049 rfl ?_
    refine z_bipush (nx := 1052) (z := 6) G (R32c rfl) rfl dX12_init_1050 rfl ?_
    obtain ⟨hs_223, h⟩ := h
    refine c_newi (nx := 1054) G aw_int hs_223 ((hl _).mpr (by omega)) dX12_init_1052 rfl (fun m_224 e_m_224 => ?_)
    have h := h m_224 e_m_224
    refine c_putF (nx := 1057) (k0 := 56) (t := 2) G fl_RX12_117 (Nat.le_of_ble_eq_true rfl) (Nat.le_of_ble_eq_true rfl) rfl hI rfl fw_RX12_117 rfl (am_is_mono hob (by omega)) dX12_init_1054 rfl (fun m_225 e_m_225 => ?_)
    have h := h m_225 e_m_225
    refine z_aload_n (nx := 1058) (a := 0) G rfl (Or.inl rfl) dX12_init_1057 rfl ?_
    refine z_bipush (nx := 1060) (z := 18) G (R32c rfl) rfl dX12_init_1058 rfl ?_
    obtain ⟨hs_226, h⟩ := h
    refine c_newi (nx := 1062) G aw_int hs_226 ((hl _).mpr (by omega)) dX12_init_1060 rfl (fun m_227 e_m_227 => ?_)
    have h := h m_227 e_m_227
    refine c_putF (nx := 1065) (k0 := 57) (t := 2) G fl_RX12_120 (Nat.le_of_ble_eq_true rfl) (Nat.le_of_ble_eq_true rfl) rfl hI rfl fw_RX12_120 rfl (am_is_mono hob (by omega)) dX12_init_1062 rfl (fun m_228 e_m_228 => ?_)
    have h := h m_228 e_m_228
    refine z_aload_n (nx := 1066) (a := 0) G rfl (Or.inl rfl) dX12_init_1065 rfl ?_
    refine c_get (nx := 1069) (k0 := 2) (t := 2) G fl_RX12_24 (Nat.le_of_ble_eq_true rfl) (Nat.le_of_ble_eq_true rfl) rfl (am_is_mono hob (by omega)) dX12_init_1066 rfl ?_
    refine z_sipush (nx := 1072) (z := 360) G (R32c rfl) rfl dX12_init_1069 rfl ?_
    refine z_iconst (nx := 1073) (z := 1) G (R32c rfl) dX12_init_1072 rfl ?_
    obtain ⟨ha_230, h⟩ := h
    refine c_iast (nx := 1074) G ha_230.1 (by decide) ha_230.2 dX12_init_1073 rfl (fun m_229 e_m_229 => ?_)
    have h := h m_229 e_m_229
    refine z_aload_n (nx := 1075) (a := 0) G rfl (Or.inl rfl) dX12_init_1074 rfl ?_
    refine c_get (nx := 1078) (k0 := 2) (t := 2) G fl_RX12_24 (Nat.le_of_ble_eq_true rfl) (Nat.le_of_ble_eq_true rfl) rfl (am_is_mono hob (by omega)) dX12_init_1075 rfl ?_
    refine z_sipush (nx := 1081) (z := 361) G (R32c rfl) rfl dX12_init_1078 rfl ?_
    refine z_iconst (nx := 1082) (z := 3) G (R32c rfl) dX12_init_1081 rfl ?_
    obtain ⟨ha_232, h⟩ := h
    refine c_iast (nx := 1083) G ha_232.1 (by decide) ha_232.2 dX12_init_1082 rfl (fun m_231 e_m_231 => ?_)
    have h := h m_231 e_m_231
    refine z_aload_n (nx := 1084) (a := 0) G rfl (Or.inl rfl) dX12_init_1083 rfl ?_
    refine c_get (nx := 1087) (k0 := 2) (t := 2) G fl_RX12_24 (Nat.le_of_ble_eq_true rfl) (Nat.le_of_ble_eq_true rfl) rfl (am_is_mono hob (by omega)) dX12_init_1084 rfl ?_
    refine z_sipush (nx := 1090) (z := 369) G (R32c rfl) rfl dX12_init_1087 rfl ?_
    refine z_iconst (nx := 1091) (z := (-1)) G (R32c rfl) dX12_init_1090 rfl ?_
    obtain ⟨ha_234, h⟩ := h
    refine c_iast (nx := 1092) G ha_234.1 (by decide) ha_234.2 dX12_init_1091 rfl (fun m_233 e_m_233 => ?_)
    have h := h m_233 e_m_233
    have ecur : n + 1 + 1 + 1 + 1 + 1 + 1 + 1 + 1 + 1 + 1 + 1 + 1 + 1 + 1 + 1 + 1 + 1 + 1 + 1 + 1 + 1 + 1 + 1 + 1 + 1 + 1 + 1 + 1 + 1 + 1 + 1 = n + 31 := by omega
    exact z_return G hP ((he _).mpr ecur) dX12_init_1092 ⟨ecur, ecur.symm ▸ h⟩
