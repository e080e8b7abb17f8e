/-! the machine does what the forms say, 5 -/
set_option maxRecDepth 20000 in
set_option maxHeartbeats 4000000 in
theorem S_X12_readOrder_J2 {F : am_F} {K : am_KK} {v0 : Int} {m : am_M} (X : am_Cx F cX12_readOrder RX12 none 606 9 K) (hp_v0 : am_ob v0 12) (hB : am_Bt m) (h : M_X12_readOrder_J2 v0 K m) : am_Z F 61 [] [(2, v0)] m 200 := by
  have G := X.G
  unfold M_X12_readOrder_J2 at h
  refine z_aload_n (nx := 62) (a := 0) G rfl (Or.inl rfl) dX12_readOrder_61 rfl (z_iconst (nx := 63) (z := 4) G (R32c rfl) dX12_readOrder_62 rfl ?_)
  refine b_callV5 (nx := 66) (zs := [v0, 4]) (as := [(0, 4)]) X hB (by decide) rfl hp_v0 SS_X12_takes0 (am_ta (am_ti am_tn)) (Nat.le_of_ble_eq_true rfl) (Nat.le_of_ble_eq_true rfl) ml_RX12_204 iw_X12_takes0 vw_X12_takes0 cw_X12_takes0 nw_RX12 pp_X12_takes0 (Nat.le_of_ble_eq_true rfl) dX12_readOrder_63 rfl (NM_X12_takes0 hp_v0 h) (fun r_1 m_2 h h01_3 hB => ?_)
  refine z_if_eq (nx := 69) (tgt := 74) G dX12_readOrder_66 (by decide) rfl (fun c => ?_) (fun c => ?_)
  · have h := h.1 c
    exact b_return X hB dX12_readOrder_74 h
  · have h := h.2 c
    refine z_aload_n (nx := 70) (a := 0) G rfl (Or.inl rfl) dX12_readOrder_69 rfl (z_iconst (nx := 71) (z := 0) G (R32c rfl) dX12_readOrder_70 rfl ?_)
    refine b_callV9 (nx := 74) (zs := [v0, 0]) (as := [(0, 0)]) X hB (by decide) rfl hp_v0 SS_X12_readTest (am_ta (am_ti am_tn)) (Nat.le_of_ble_eq_true rfl) (Nat.le_of_ble_eq_true rfl) ml_RX12_220 iw_X12_readTest vw_X12_readTest cw_X12_readTest nw_RX12 pp_X12_readTest (Nat.le_of_ble_eq_true rfl) dX12_readOrder_71 rfl h (fun r_4 m_5 h hB => ?_)
    exact b_return X hB dX12_readOrder_74 h
set_option maxRecDepth 20000 in
set_option maxHeartbeats 4000000 in
theorem S_X12_readOrder_J1 {F : am_F} {K : am_KK} {v0 : Int} {m : am_M} (X : am_Cx F cX12_readOrder RX12 none 606 9 K) (hp_v0 : am_ob v0 12) (hB : am_Bt m) (h : M_X12_readOrder_J1 v0 K m) : am_Z F 45 [] [(2, v0)] m 200 := by
  have G := X.G
  unfold M_X12_readOrder_J1 at h
  refine z_aload_n (nx := 46) (a := 0) G rfl (Or.inl rfl) dX12_readOrder_45 rfl (z_bipush (nx := 48) (z := 25) G (R32c rfl) rfl dX12_readOrder_46 rfl ?_)
  refine b_callV5 (nx := 51) (zs := [v0, 25]) (as := [(0, 25)]) X hB (by decide) rfl hp_v0 SS_X12_takes0 (am_ta (am_ti am_tn)) (Nat.le_of_ble_eq_true rfl) (Nat.le_of_ble_eq_true rfl) ml_RX12_204 iw_X12_takes0 vw_X12_takes0 cw_X12_takes0 nw_RX12 pp_X12_takes0 (Nat.le_of_ble_eq_true rfl) dX12_readOrder_48 rfl (NM_X12_takes0 hp_v0 h) (fun r_6 m_7 h h01_8 hB => ?_)
  refine z_if_eq (nx := 54) (tgt := 61) G dX12_readOrder_51 (by decide) rfl (fun c => ?_) (fun c => ?_)
  · have h := h.1 c
    exact b_fewer (loc2 := [(2, v0)]) (am_lk am_ln) (S_X12_readOrder_J2 X hp_v0 hB h)
  · have h := h.2 c
    refine z_aload_n (nx := 55) (a := 0) G rfl (Or.inl rfl) dX12_readOrder_54 rfl (z_iconst (nx := 56) (z := 1) G (R32c rfl) dX12_readOrder_55 rfl (z_bipush (nx := 58) (z := 20) G (R32c rfl) rfl dX12_readOrder_56 rfl ?_))
    refine b_callV9 (nx := 61) (zs := [v0, 1, 20]) (as := [(0, 1), (0, 20)]) X hB (by decide) rfl hp_v0 SS_X12_mustNumber (am_ta (am_ti (am_ti am_tn))) (Nat.le_of_ble_eq_true rfl) (Nat.le_of_ble_eq_true rfl) ml_RX12_223 iw_X12_mustNumber vw_X12_mustNumber cw_X12_mustNumber nw_RX12 pp_X12_mustNumber (Nat.le_of_ble_eq_true rfl) dX12_readOrder_58 rfl (NM_X12_mustNumber hp_v0 h) (fun r_9 m_10 h hB => ?_)
    exact b_fewer (loc2 := [(2, v0)]) (am_lk am_ln) (S_X12_readOrder_J2 X hp_v0 hB h)
set_option maxRecDepth 20000 in
set_option maxHeartbeats 4000000 in
theorem S_X12_readOrder {F : am_F} {K : am_KK} {v0 : Int} {m : am_M} (X : am_Cx F cX12_readOrder RX12 none 606 9 K) (hp_v0 : am_ob v0 12) (hB : am_Bt m) (h : M_X12_readOrder v0 K m) : am_Z F 0 [] [(2, v0)] m 200 := by
  have G := X.G
  unfold M_X12_readOrder at h
  refine z_aload_n (nx := 1) (a := 0) G rfl (Or.inl rfl) dX12_readOrder_0 rfl (z_bipush (nx := 3) (z := 21) G (R32c rfl) rfl dX12_readOrder_1 rfl ?_)
  refine b_callV5 (nx := 6) (zs := [v0, 21]) (as := [(0, 21)]) X hB (by decide) rfl hp_v0 SS_X12_takes0 (am_ta (am_ti am_tn)) (Nat.le_of_ble_eq_true rfl) (Nat.le_of_ble_eq_true rfl) ml_RX12_204 iw_X12_takes0 vw_X12_takes0 cw_X12_takes0 nw_RX12 pp_X12_takes0 (Nat.le_of_ble_eq_true rfl) dX12_readOrder_3 rfl (NM_X12_takes0 hp_v0 h) (fun r_11 m_12 h h01_13 hB => ?_)
  refine z_if_eq (nx := 9) (tgt := 39) G dX12_readOrder_6 (by decide) rfl (fun c => ?_) (fun c => ?_)
  · have h := h.1 c
    refine z_aload_n (nx := 40) (a := 0) G rfl (Or.inl rfl) dX12_readOrder_39 rfl (z_bipush (nx := 42) (z := 24) G (R32c rfl) rfl dX12_readOrder_40 rfl ?_)
    refine b_callV9 (nx := 45) (zs := [v0, 24]) (as := [(0, 24)]) X hB (by decide) rfl hp_v0 SS_X12_must (am_ta (am_ti am_tn)) (Nat.le_of_ble_eq_true rfl) (Nat.le_of_ble_eq_true rfl) ml_RX12_217 iw_X12_must vw_X12_must cw_X12_must nw_RX12 pp_X12_must (Nat.le_of_ble_eq_true rfl) dX12_readOrder_42 rfl (NM_X12_must hp_v0 h) (fun r_14 m_15 h hB => ?_)
    exact b_fewer (loc2 := [(2, v0)]) (am_lk am_ln) (S_X12_readOrder_J1 X hp_v0 hB h)
  · have h := h.2 c
    refine z_aload_n (nx := 10) (a := 0) G rfl (Or.inl rfl) dX12_readOrder_9 rfl (z_iconst (nx := 11) (z := 0) G (R32c rfl) dX12_readOrder_10 rfl ?_)
    refine b_callV9 (nx := 14) (zs := [v0, 0]) (as := [(0, 0)]) X hB (by decide) rfl hp_v0 SS_X12_readSum (am_ta (am_ti am_tn)) (Nat.le_of_ble_eq_true rfl) (Nat.le_of_ble_eq_true rfl) ml_RX12_213 iw_X12_readSum vw_X12_readSum cw_X12_readSum nw_RX12 pp_X12_readSum (Nat.le_of_ble_eq_true rfl) dX12_readOrder_11 rfl h (fun r_16 m_17 h hB => ?_)
    refine z_aload_n (nx := 15) (a := 0) G rfl (Or.inl rfl) dX12_readOrder_14 rfl (z_bipush (nx := 17) (z := 22) G (R32c rfl) rfl dX12_readOrder_15 rfl ?_)
    refine b_callV9 (nx := 20) (zs := [v0, 22]) (as := [(0, 22)]) X hB (by decide) rfl hp_v0 SS_X12_must (am_ta (am_ti am_tn)) (Nat.le_of_ble_eq_true rfl) (Nat.le_of_ble_eq_true rfl) ml_RX12_217 iw_X12_must vw_X12_must cw_X12_must nw_RX12 pp_X12_must (Nat.le_of_ble_eq_true rfl) dX12_readOrder_17 rfl (NM_X12_must hp_v0 h) (fun r_18 m_19 h hB => ?_)
    refine z_aload_n (nx := 21) (a := 0) G rfl (Or.inl rfl) dX12_readOrder_20 rfl (z_iconst (nx := 22) (z := 0) G (R32c rfl) dX12_readOrder_21 rfl ?_)
    refine b_callV9 (nx := 25) (zs := [v0, 0]) (as := [(0, 0)]) X hB (by decide) rfl hp_v0 SS_X12_readSum (am_ta (am_ti am_tn)) (Nat.le_of_ble_eq_true rfl) (Nat.le_of_ble_eq_true rfl) ml_RX12_213 iw_X12_readSum vw_X12_readSum cw_X12_readSum nw_RX12 pp_X12_readSum (Nat.le_of_ble_eq_true rfl) dX12_readOrder_22 rfl h (fun r_20 m_21 h hB => ?_)
    refine z_aload_n (nx := 26) (a := 0) G rfl (Or.inl rfl) dX12_readOrder_25 rfl (z_bipush (nx := 28) (z := 23) G (R32c rfl) rfl dX12_readOrder_26 rfl ?_)
    refine b_callV9 (nx := 31) (zs := [v0, 23]) (as := [(0, 23)]) X hB (by decide) rfl hp_v0 SS_X12_must (am_ta (am_ti am_tn)) (Nat.le_of_ble_eq_true rfl) (Nat.le_of_ble_eq_true rfl) ml_RX12_217 iw_X12_must vw_X12_must cw_X12_must nw_RX12 pp_X12_must (Nat.le_of_ble_eq_true rfl) dX12_readOrder_28 rfl (NM_X12_must hp_v0 h) (fun r_22 m_23 h hB => ?_)
    refine z_aload_n (nx := 32) (a := 0) G rfl (Or.inl rfl) dX12_readOrder_31 rfl (z_iconst (nx := 33) (z := 0) G (R32c rfl) dX12_readOrder_32 rfl ?_)
    refine b_callV9 (nx := 36) (zs := [v0, 0]) (as := [(0, 0)]) X hB (by decide) rfl hp_v0 SS_X12_readSum (am_ta (am_ti am_tn)) (Nat.le_of_ble_eq_true rfl) (Nat.le_of_ble_eq_true rfl) ml_RX12_213 iw_X12_readSum vw_X12_readSum cw_X12_readSum nw_RX12 pp_X12_readSum (Nat.le_of_ble_eq_true rfl) dX12_readOrder_33 rfl h (fun r_24 m_25 h hB => ?_)
    refine z_goto (tgt := 45) G dX12_readOrder_36 (by decide) ?_
    exact b_fewer (loc2 := [(2, v0)]) (am_lk am_ln) (S_X12_readOrder_J1 X hp_v0 hB h)
theorem NM_X12_readOrder {v0 : Int} {K : am_KK} {m : am_M} (hp_v0 : am_ob v0 12) (h : M_X12_readOrder v0 K m) : N_X12_readOrder [v0] K m := ⟨hp_v0, h⟩
theorem SS_X12_readOrder : am_Snd yX12_readOrder cX12_readOrder 1 none 0 606 (am_L [2] 9 N_X12_readOrder) := by
  refine am_SB (by decide +kernel) (Nat.le_of_ble_eq_true rfl) (fun F zs as K m X ht hB hM => ?_)
  obtain ⟨v0, zs, as, rfl, rfl, hz0, ht⟩ := am_inv ht
  obtain ⟨rfl, rfl⟩ := am_inv0 ht
  obtain ⟨hp_v0, hM⟩ := hM
  exact S_X12_readOrder X hp_v0 hB hM
set_option maxRecDepth 20000 in
set_option maxHeartbeats 4000000 in
theorem S_X12_readOne {F : am_F} {K : am_KK} {v0 : Int} {m : am_M} (X : am_Cx F cX12_readOne RX12 none 607 9 K) (hp_v0 : am_ob v0 12) (hB : am_Bt m) (h : M_X12_readOne v0 K m) : am_Z F 0 [] [(2, v0)] m 200 := by
  have G := X.G
  unfold M_X12_readOne at h
  refine z_aload_n (nx := 1) (a := 0) G rfl (Or.inl rfl) dX12_readOne_0 rfl (b_getI (nx := 4) (k0 := 10) (t := 0) G fl_RX12_227 (Nat.le_of_ble_eq_true rfl) (Nat.le_of_ble_eq_true rfl) rfl hp_v0 dX12_readOne_1 rfl ?_)
  refine z_if_eq (nx := 7) (tgt := 14) G dX12_readOne_4 (by decide) rfl (fun c => ?_) (fun c => ?_)
  · have h := h.1 c
    refine z_aload_n (nx := 15) (a := 0) G rfl (Or.inl rfl) dX12_readOne_14 rfl ?_
    refine b_callV9 (nx := 18) (zs := [v0]) (as := []) X hB (by decide) rfl hp_v0 SS_X12_readClause (am_ta am_tn) (Nat.le_of_ble_eq_true rfl) (Nat.le_of_ble_eq_true rfl) ml_RX12_234 iw_X12_readClause vw_X12_readClause cw_X12_readClause nw_RX12 pp_X12_readClause (Nat.le_of_ble_eq_true rfl) dX12_readOne_15 rfl (NM_X12_readClause hp_v0 h) (fun r_1 m_2 h hB => ?_)
    exact b_return X hB dX12_readOne_18 h
  · have h := h.2 c
    refine z_aload_n (nx := 8) (a := 0) G rfl (Or.inl rfl) dX12_readOne_7 rfl ?_
    refine b_callV9 (nx := 11) (zs := [v0]) (as := []) X hB (by decide) rfl hp_v0 SS_X12_readOrder (am_ta am_tn) (Nat.le_of_ble_eq_true rfl) (Nat.le_of_ble_eq_true rfl) ml_RX12_231 iw_X12_readOrder vw_X12_readOrder cw_X12_readOrder nw_RX12 pp_X12_readOrder (Nat.le_of_ble_eq_true rfl) dX12_readOne_8 rfl (NM_X12_readOrder hp_v0 h) (fun r_3 m_4 h hB => ?_)
    refine z_goto (tgt := 18) G dX12_readOne_11 (by decide) ?_
    exact b_return X hB dX12_readOne_18 h
theorem NM_X12_readOne {v0 : Int} {K : am_KK} {m : am_M} (hp_v0 : am_ob v0 12) (h : M_X12_readOne v0 K m) : N_X12_readOne [v0] K m := ⟨hp_v0, h⟩
theorem SS_X12_readOne : am_Snd yX12_readOne cX12_readOne 1 none 0 607 (am_L [2] 9 N_X12_readOne) := by
  refine am_SB (by decide +kernel) (Nat.le_of_ble_eq_true rfl) (fun F zs as K m X ht hB hM => ?_)
  obtain ⟨v0, zs, as, rfl, rfl, hz0, ht⟩ := am_inv ht
  obtain ⟨rfl, rfl⟩ := am_inv0 ht
  obtain ⟨hp_v0, hM⟩ := hM
  exact S_X12_readOne X hp_v0 hB hM
set_option maxRecDepth 20000 in
set_option maxHeartbeats 4000000 in
theorem S_X12_reads_J3 {F : am_F} {K : am_KK} {v0 : Int} {m : am_M} (X : am_Cx F cX12_reads RX12 (some .boolean) 608 5 K) (hp_v0 : am_ob v0 12) (hB : am_Bt m) (h : M_X12_reads_J3 v0 K m) : am_Z F 95 [] [(2, v0), (9, 0)] m 200 := by
  have G := X.G
  unfold M_X12_reads_J3 at h
  refine z_aload_n (nx := 96) (a := 0) G rfl (Or.inl rfl) dX12_reads_95 rfl (z_aload_n (nx := 97) (a := 0) G rfl (Or.inl rfl) dX12_reads_96 rfl (b_getI (nx := 100) (k0 := 21) (t := 0) G fl_RX12_194 (Nat.le_of_ble_eq_true rfl) (Nat.le_of_ble_eq_true rfl) rfl hp_v0 dX12_reads_97 rfl ?_))
  refine b_put (nx := 103) (k0 := 14) (t := 0) G hB fl_RX12_47 (Nat.le_of_ble_eq_true rfl) (Nat.le_of_ble_eq_true rfl) rfl (fun h => nomatch h) rfl hp_v0 dX12_reads_100 rfl (fun m_1 e_m_1 hB => ?_)
  have h := h m_1 e_m_1
  refine z_aload_n (nx := 104) (a := 0) G rfl (Or.inl rfl) dX12_reads_103 rfl ?_
  refine b_callV5 (nx := 107) (zs := [v0]) (as := []) X hB (by decide) rfl hp_v0 SS_X12_fine (am_ta am_tn) (Nat.le_of_ble_eq_true rfl) (Nat.le_of_ble_eq_true rfl) ml_RX12_197 iw_X12_fine vw_X12_fine cw_X12_fine nw_RX12 pp_X12_fine (Nat.le_of_ble_eq_true rfl) dX12_reads_104 rfl (NM_X12_fine hp_v0 h) (fun r_2 m_3 h h01_4 hB => ?_)
  exact b_zreturn X hB h01_4 dX12_reads_107 h
set_option maxRecDepth 20000 in
set_option maxHeartbeats 4000000 in
theorem S_X12_reads_J2 {F : am_F} {K : am_KK} {v0 : Int} {v1 : Int} {C34 : Int → am_M → Prop} {m : am_M} (X : am_Cx F cX12_reads RX12 (some .boolean) 608 5 K) (hp_v0 : am_ob v0 12) (hC34 : ∀ w1 m, C34 w1 m → am_Bt m → am_Z F 34 [] [(2, v0), (0, w1)] m 200) (hB : am_Bt m) (h : M_X12_reads_J2 v0 v1 C34 K m) : am_Z F 67 [] [(2, v0), (0, v1)] m 200 := by
  have G := X.G
  unfold M_X12_reads_J2 at h
  refine b_iinc (nx := 70) (a := 1) (loc2 := fun v1_5 => [(2, v0), (0, v1_5)]) G (fun _ => rfl) rfl (am_pl1 rfl (fun h => nomatch h)) dX12_reads_67 rfl (fun v1_5 e_v1_5 => ?_)
  have h := h v1_5 e_v1_5
  refine z_goto (tgt := 34) G dX12_reads_70 (by decide) ?_
  exact b_fewer (loc2 := [(2, v0), (0, v1_5)]) (am_lk (am_lk am_ln)) (hC34 _ _ h hB)
set_option maxRecDepth 20000 in
set_option maxHeartbeats 4000000 in
theorem S_X12_reads_J1 {F : am_F} {K : am_KK} {v0 : Int} {v1 : Int} {C34 : Int → am_M → Prop} {m : am_M} (X : am_Cx F cX12_reads RX12 (some .boolean) 608 5 K) (hp_v0 : am_ob v0 12) (hC34 : ∀ w1 m, C34 w1 m → am_Bt m → am_Z F 34 [] [(2, v0), (0, w1)] m 200) (hB : am_Bt m) (h : M_X12_reads_J1 v0 v1 C34 K m) : am_Z F 56 [] [(2, v0), (0, v1)] m 200 := by
  have G := X.G
  unfold M_X12_reads_J1 at h
  refine z_aload_n (nx := 57) (a := 0) G rfl (Or.inl rfl) dX12_reads_56 rfl ?_
  refine b_callV5 (nx := 60) (zs := [v0]) (as := []) X hB (by decide) rfl hp_v0 SS_X12_fine (am_ta am_tn) (Nat.le_of_ble_eq_true rfl) (Nat.le_of_ble_eq_true rfl) ml_RX12_197 iw_X12_fine vw_X12_fine cw_X12_fine nw_RX12 pp_X12_fine (Nat.le_of_ble_eq_true rfl) dX12_reads_57 rfl (NM_X12_fine hp_v0 h) (fun r_6 m_7 h h01_8 hB => ?_)
  refine z_if_eq (nx := 63) (tgt := 67) G dX12_reads_60 (by decide) rfl (fun c => ?_) (fun c => ?_)
  · have h := h.1 c
    exact b_fewer (loc2 := [(2, v0), (0, v1)]) (am_lk (am_lk am_ln)) (S_X12_reads_J2 X hp_v0 hC34 hB h)
  · have h := h.2 c
    refine z_aload_n (nx := 64) (a := 0) G rfl (Or.inl rfl) dX12_reads_63 rfl ?_
    refine b_callV9 (nx := 67) (zs := [v0]) (as := []) X hB (by decide) rfl hp_v0 SS_X12_readOne (am_ta am_tn) (Nat.le_of_ble_eq_true rfl) (Nat.le_of_ble_eq_true rfl) ml_RX12_265 iw_X12_readOne vw_X12_readOne cw_X12_readOne nw_RX12 pp_X12_readOne (Nat.le_of_ble_eq_true rfl) dX12_reads_64 rfl (NM_X12_readOne hp_v0 h) (fun r_9 m_10 h hB => ?_)
    exact b_fewer (loc2 := [(2, v0), (0, v1)]) (am_lk (am_lk am_ln)) (S_X12_reads_J2 X hp_v0 hC34 hB h)
set_option maxRecDepth 20000 in
set_option maxHeartbeats 4000000 in
theorem S_X12_reads_L1B {F : am_F} {K : am_KK} {v0 : Int} {v1 : Int} {C34 : Int → am_M → Prop} {m : am_M} (X : am_Cx F cX12_reads RX12 (some .boolean) 608 5 K) (hp_v0 : am_ob v0 12) (hC34 : ∀ w1 m, C34 w1 m → am_Bt m → am_Z F 34 [] [(2, v0), (0, w1)] m 200) (hB : am_Bt m) (h : M_X12_reads_L1B v0 v1 C34 K m) : am_Z F 34 [] [(2, v0), (0, v1)] m 200 := by
  have G := X.G
  unfold M_X12_reads_L1B at h
  refine z_aload_n (nx := 35) (a := 0) G rfl (Or.inl rfl) dX12_reads_34 rfl (z_bipush (nx := 37) (z := 59) G (R32c rfl) rfl dX12_reads_35 rfl ?_)
  refine b_callS0 (nx := 40) (zs := [59]) (as := [(0, 59)]) X hB SS_X12_sign (am_ti am_tn) (Nat.le_of_ble_eq_true rfl) (Nat.le_of_ble_eq_true rfl) ml_RX12_243 sw_X12_sign (am_plainC 12 (by decide)) cw_X12_sign nw_RX12 pp_X12_sign (Nat.le_of_ble_eq_true rfl) dX12_reads_37 rfl (NM_X12_sign h) (fun r_11 m_12 h hB => ?_)
  refine b_callV5 (nx := 43) (zs := [v0, r_11]) (as := [(0, r_11)]) X hB (by decide) rfl hp_v0 SS_X12_takes0 (am_ta (am_ti am_tn)) (Nat.le_of_ble_eq_true rfl) (Nat.le_of_ble_eq_true rfl) ml_RX12_204 iw_X12_takes0 vw_X12_takes0 cw_X12_takes0 nw_RX12 pp_X12_takes0 (Nat.le_of_ble_eq_true rfl) dX12_reads_40 rfl (NM_X12_takes0 hp_v0 h) (fun r_13 m_14 h h01_15 hB => ?_)
  refine z_if_eq (nx := 46) (tgt := 73) G dX12_reads_43 (by decide) rfl (fun c => ?_) (fun c => ?_)
  · have h := h.1 c
    refine z_aload_n (nx := 74) (a := 0) G rfl (Or.inl rfl) dX12_reads_73 rfl ?_
    refine b_callV5 (nx := 77) (zs := [v0]) (as := []) X hB (by decide) rfl hp_v0 SS_X12_fine (am_ta am_tn) (Nat.le_of_ble_eq_true rfl) (Nat.le_of_ble_eq_true rfl) ml_RX12_197 iw_X12_fine vw_X12_fine cw_X12_fine nw_RX12 pp_X12_fine (Nat.le_of_ble_eq_true rfl) dX12_reads_74 rfl (NM_X12_fine hp_v0 h) (fun r_16 m_17 h h01_18 hB => ?_)
    refine z_if_eq (nx := 80) (tgt := 95) G dX12_reads_77 (by decide) rfl (fun c => ?_) (fun c => ?_)
    · have h := h.1 c
      exact b_fewer (loc2 := [(2, v0), (9, 0)]) (am_lk (am_lf am_ln)) (S_X12_reads_J3 X hp_v0 hB h)
    · have h := h.2 c
      refine z_aload_n (nx := 81) (a := 0) G rfl (Or.inl rfl) dX12_reads_80 rfl (b_getI (nx := 84) (k0 := 19) (t := 0) G fl_RX12_201 (Nat.le_of_ble_eq_true rfl) (Nat.le_of_ble_eq_true rfl) rfl hp_v0 dX12_reads_81 rfl (z_aload_n (nx := 85) (a := 0) G rfl (Or.inl rfl) dX12_reads_84 rfl (b_getI (nx := 88) (k0 := 18) (t := 0) G fl_RX12_181 (Nat.le_of_ble_eq_true rfl) (Nat.le_of_ble_eq_true rfl) rfl hp_v0 dX12_reads_85 rfl ?_)))
      refine z_icmp_ge (nx := 91) (tgt := 95) G dX12_reads_88 (by decide) rfl (fun c => ?_) (fun c => ?_)
      · have h := h.1 c
        exact b_fewer (loc2 := [(2, v0), (9, 0)]) (am_lk (am_lf am_ln)) (S_X12_reads_J3 X hp_v0 hB h)
      · have h := h.2 c
        refine z_aload_n (nx := 92) (a := 0) G rfl (Or.inl rfl) dX12_reads_91 rfl ?_
        refine b_callV9 (nx := 95) (zs := [v0]) (as := []) X hB (by decide) rfl hp_v0 SS_X12_faults (am_ta am_tn) (Nat.le_of_ble_eq_true rfl) (Nat.le_of_ble_eq_true rfl) ml_RX12_207 iw_X12_faults vw_X12_faults cw_X12_faults nw_RX12 pp_X12_faults (Nat.le_of_ble_eq_true rfl) dX12_reads_92 rfl (NM_X12_faults hp_v0 h) (fun r_19 m_20 h hB => ?_)
        exact b_fewer (loc2 := [(2, v0), (9, 0)]) (am_lk (am_lf am_ln)) (S_X12_reads_J3 X hp_v0 hB h)
  · have h := h.2 c
    refine z_iload_n (nx := 47) (a := 1) G rfl dX12_reads_46 rfl (z_bipush (nx := 49) (z := 12) G (R32c rfl) rfl dX12_reads_47 rfl ?_)
    refine z_icmp_ne (nx := 52) (tgt := 56) G dX12_reads_49 (by decide) rfl (fun c => ?_) (fun c => ?_)
    · have h := h.1 c
      exact b_fewer (loc2 := [(2, v0), (0, v1)]) (am_lk (am_lk am_ln)) (S_X12_reads_J1 X hp_v0 hC34 hB h)
    · have h := h.2 c
      refine z_aload_n (nx := 53) (a := 0) G rfl (Or.inl rfl) dX12_reads_52 rfl ?_
      refine b_callV9 (nx := 56) (zs := [v0]) (as := []) X hB (by decide) rfl hp_v0 SS_X12_faults (am_ta am_tn) (Nat.le_of_ble_eq_true rfl) (Nat.le_of_ble_eq_true rfl) ml_RX12_207 iw_X12_faults vw_X12_faults cw_X12_faults nw_RX12 pp_X12_faults (Nat.le_of_ble_eq_true rfl) dX12_reads_53 rfl (NM_X12_faults hp_v0 h) (fun r_21 m_22 h hB => ?_)
      exact b_fewer (loc2 := [(2, v0), (0, v1)]) (am_lk (am_lk am_ln)) (S_X12_reads_J1 X hp_v0 hC34 hB h)
theorem S_X12_reads_L1 {F : am_F} {K : am_KK} {v0 : Int} {v1 : Int} {m : am_M} (X : am_Cx F cX12_reads RX12 (some .boolean) 608 5 K) (hp_v0 : am_ob v0 12) (hB : am_Bt m) (h : M_X12_reads_L1 v0 v1 K m) : am_Z F 34 [] [(2, v0), (0, v1)] m 200 := by
  obtain ⟨I, ⟨j, hj⟩, hI⟩ := h
  have key : ∀ j v1 m, I j v1 m → am_Bt m → am_Z F 34 [] [(2, v0), (0, v1)] m 200 := by
    intro j
    induction j using Nat.strongRecOn with
    | ind j ih =>
      intro v1 m hj hB
      exact S_X12_reads_L1B X hp_v0 (fun v1' m' hc hB' => by
        obtain ⟨j', g1, g2⟩ := hc
        exact ih j' g1 v1' m' g2 hB') hB (hI j v1 m hj)
  exact key j _ _ hj hB
set_option maxRecDepth 20000 in
set_option maxHeartbeats 4000000 in
theorem S_X12_reads {F : am_F} {K : am_KK} {v0 : Int} {m : am_M} (X : am_Cx F cX12_reads RX12 (some .boolean) 608 5 K) (hp_v0 : am_ob v0 12) (hB : am_Bt m) (h : M_X12_reads v0 K m) : am_Z F 0 [] [(2, v0), (9, 0)] m 200 := by
  have G := X.G
  unfold M_X12_reads at h
  refine z_aload_n (nx := 1) (a := 0) G rfl (Or.inl rfl) dX12_reads_0 rfl (z_aload_n (nx := 2) (a := 0) G rfl (Or.inl rfl) dX12_reads_1 rfl (b_getI (nx := 5) (k0 := 13) (t := 0) G fl_RX12_167 (Nat.le_of_ble_eq_true rfl) (Nat.le_of_ble_eq_true rfl) rfl hp_v0 dX12_reads_2 rfl ?_))
  refine b_callV9 (nx := 8) (zs := [v0, m v0 13]) (as := [(0, m v0 13)]) X hB (by decide) rfl hp_v0 SS_X12_splits (am_ta (am_ti am_tn)) (Nat.le_of_ble_eq_true rfl) (Nat.le_of_ble_eq_true rfl) ml_RX12_262 iw_X12_splits vw_X12_splits cw_X12_splits nw_RX12 pp_X12_splits (Nat.le_of_ble_eq_true rfl) dX12_reads_5 rfl (NM_X12_splits hp_v0 h) (fun r_23 m_24 h hB => ?_)
  refine z_aload_n (nx := 9) (a := 0) G rfl (Or.inl rfl) dX12_reads_8 rfl (z_iconst (nx := 10) (z := 0) G (R32c rfl) dX12_reads_9 rfl ?_)
  refine b_put (nx := 13) (k0 := 13) (t := 0) G hB fl_RX12_167 (Nat.le_of_ble_eq_true rfl) (Nat.le_of_ble_eq_true rfl) rfl (fun h => nomatch h) rfl hp_v0 dX12_reads_10 rfl (fun m_25 e_m_25 hB => ?_)
  have h := h m_25 e_m_25
  refine z_aload_n (nx := 14) (a := 0) G rfl (Or.inl rfl) dX12_reads_13 rfl (z_iconst (nx := 15) (z := 0) G (R32c rfl) dX12_reads_14 rfl ?_)
  refine b_put (nx := 18) (k0 := 19) (t := 0) G hB fl_RX12_201 (Nat.le_of_ble_eq_true rfl) (Nat.le_of_ble_eq_true rfl) rfl (fun h => nomatch h) rfl hp_v0 dX12_reads_15 rfl (fun m_26 e_m_26 hB => ?_)
  have h := h m_26 e_m_26
  refine z_aload_n (nx := 19) (a := 0) G rfl (Or.inl rfl) dX12_reads_18 rfl (z_iconst (nx := 20) (z := 0) G (R32c rfl) dX12_reads_19 rfl ?_)
  refine b_put (nx := 23) (k0 := 20) (t := 0) G hB fl_RX12_210 (Nat.le_of_ble_eq_true rfl) (Nat.le_of_ble_eq_true rfl) rfl (fun h => nomatch h) rfl hp_v0 dX12_reads_20 rfl (fun m_27 e_m_27 hB => ?_)
  have h := h m_27 e_m_27
  refine z_aload_n (nx := 24) (a := 0) G rfl (Or.inl rfl) dX12_reads_23 rfl (z_iconst (nx := 25) (z := (-1)) G (R32c rfl) dX12_reads_24 rfl ?_)
  refine b_put (nx := 28) (k0 := 21) (t := 0) G hB fl_RX12_194 (Nat.le_of_ble_eq_true rfl) (Nat.le_of_ble_eq_true rfl) rfl (fun h => nomatch h) rfl hp_v0 dX12_reads_25 rfl (fun m_28 e_m_28 hB => ?_)
  have h := h m_28 e_m_28
  refine z_aload_n (nx := 29) (a := 0) G rfl (Or.inl rfl) dX12_reads_28 rfl ?_
  refine b_callV9 (nx := 32) (zs := [v0]) (as := []) X hB (by decide) rfl hp_v0 SS_X12_readOne (am_ta am_tn) (Nat.le_of_ble_eq_true rfl) (Nat.le_of_ble_eq_true rfl) ml_RX12_265 iw_X12_readOne vw_X12_readOne cw_X12_readOne nw_RX12 pp_X12_readOne (Nat.le_of_ble_eq_true rfl) dX12_reads_29 rfl (NM_X12_readOne hp_v0 h) (fun r_29 m_30 h hB => ?_)
  refine z_iconst (nx := 33) (z := 1) G (R32c rfl) dX12_reads_32 rfl (b_storeE_n (nx := 34) (a := 1) (loc2 := [(2, v0), (0, 1)]) G rfl (Nat.le_of_ble_eq_true rfl) (am_pl1 rfl (fun h => nomatch h)) dX12_reads_33 rfl ?_)
  exact b_fewer (loc2 := [(2, v0), (0, 1)]) (am_lk (am_lk am_ln)) (S_X12_reads_L1 X hp_v0 hB h)
theorem NM_X12_reads {v0 : Int} {K : am_KK} {m : am_M} (hp_v0 : am_ob v0 12) (h : M_X12_reads v0 K m) : N_X12_reads [v0] K m := ⟨hp_v0, h⟩
theorem SS_X12_reads : am_Snd yX12_reads cX12_reads 2 (some .boolean) 0 608 (am_L [2] 5 N_X12_reads) := by
  refine am_SB (by decide +kernel) (Nat.le_of_ble_eq_true rfl) (fun F zs as K m X ht hB hM => ?_)
  obtain ⟨v0, zs, as, rfl, rfl, hz0, ht⟩ := am_inv ht
  obtain ⟨rfl, rfl⟩ := am_inv0 ht
  obtain ⟨hp_v0, hM⟩ := hM
  exact S_X12_reads X hp_v0 hB hM
set_option maxRecDepth 20000 in
set_option maxHeartbeats 4000000 in
theorem S_X12_readsAs_J2 {F : am_F} {K : am_KK} {v0 : Int} {s0 : Int} {s1 : Int} {m : am_M} (X : am_Cx F cX12_readsAs RX12 (some .boolean) 609 5 K) (hp_v0 : am_ob v0 12) (hp_s0 : am_ob s0 12) (hB : am_Bt m) (h : M_X12_readsAs_J2 v0 s0 s1 K m) : am_Z F 32 [(0, s1), (2, s0)] [(2, v0), (9, 0)] m 200 := by
  have G := X.G
  unfold M_X12_readsAs_J2 at h
  refine b_put (nx := 35) (k0 := 9) (t := 0) G hB fl_RX12_256 (Nat.le_of_ble_eq_true rfl) (Nat.le_of_ble_eq_true rfl) rfl (fun h => nomatch h) rfl hp_s0 dX12_readsAs_32 rfl (fun m_1 e_m_1 hB => ?_)
  have h := h m_1 e_m_1
  refine z_aload_n (nx := 36) (a := 0) G rfl (Or.inl rfl) dX12_readsAs_35 rfl ?_
  refine b_callV5 (nx := 39) (zs := [v0]) (as := []) X hB (by decide) rfl hp_v0 SS_X12_reads (am_ta am_tn) (Nat.le_of_ble_eq_true rfl) (Nat.le_of_ble_eq_true rfl) ml_RX12_268 iw_X12_reads vw_X12_reads cw_X12_reads nw_RX12 pp_X12_reads (Nat.le_of_ble_eq_true rfl) dX12_readsAs_36 rfl (NM_X12_reads hp_v0 h) (fun r_2 m_3 h h01_4 hB => ?_)
  exact b_zreturn X hB h01_4 dX12_readsAs_39 h
set_option maxRecDepth 20000 in
set_option maxHeartbeats 4000000 in
theorem S_X12_readsAs_J1 {F : am_F} {K : am_KK} {v0 : Int} {v1 : Int} {s0 : Int} {s1 : Int} {m : am_M} (X : am_Cx F cX12_readsAs RX12 (some .boolean) 609 5 K) (hp_v0 : am_ob v0 12) (hp_v1 : v1 = 0 ∨ v1 = 1) (hp_s0 : am_ob s0 12) (hB : am_Bt m) (h : M_X12_readsAs_J1 v0 v1 s0 s1 K m) : am_Z F 17 [(0, s1), (2, s0)] [(2, v0), (0, v1)] m 200 := by
  have G := X.G
  unfold M_X12_readsAs_J1 at h
  refine b_put (nx := 20) (k0 := 8) (t := 0) G hB fl_RX12_253 (Nat.le_of_ble_eq_true rfl) (Nat.le_of_ble_eq_true rfl) rfl (fun h => nomatch h) rfl hp_s0 dX12_readsAs_17 rfl (fun m_5 e_m_5 hB => ?_)
  have h := h m_5 e_m_5
  refine z_aload_n (nx := 21) (a := 0) G rfl (Or.inl rfl) dX12_readsAs_20 rfl (z_iload_n (nx := 22) (a := 1) G rfl dX12_readsAs_21 rfl ?_)
  refine z_if_eq (nx := 25) (tgt := 30) G dX12_readsAs_22 (by decide) rfl (fun c => ?_) (fun c => ?_)
  · have h := h.1 c
    refine z_bipush (nx := 32) (z := 15) G (R32c rfl) rfl dX12_readsAs_30 rfl ?_
    exact b_fewer (loc2 := [(2, v0), (9, 0)]) (am_lk (am_lf am_ln)) (S_X12_readsAs_J2 X hp_v0 hp_v0 hB h)
  · have h := h.2 c
    refine z_bipush (nx := 27) (z := 20) G (R32c rfl) rfl dX12_readsAs_25 rfl (z_goto (tgt := 32) G dX12_readsAs_27 (by decide) ?_)
    exact b_fewer (loc2 := [(2, v0), (9, 0)]) (am_lk (am_lf am_ln)) (S_X12_readsAs_J2 X hp_v0 hp_v0 hB h)
set_option maxRecDepth 20000 in
set_option maxHeartbeats 4000000 in
theorem S_X12_readsAs {F : am_F} {K : am_KK} {v0 : Int} {v1 : Int} {m : am_M} (X : am_Cx F cX12_readsAs RX12 (some .boolean) 609 5 K) (hp_v0 : am_ob v0 12) (hp_v1 : (v1 = 0 ∨ v1 = 1)) (hB : am_Bt m) (h : M_X12_readsAs v0 v1 K m) : am_Z F 0 [] [(2, v0), (0, v1)] m 200 := by
  have G := X.G
  unfold M_X12_readsAs at h
  refine z_aload_n (nx := 1) (a := 0) G rfl (Or.inl rfl) dX12_readsAs_0 rfl (z_iload_n (nx := 2) (a := 1) G rfl dX12_readsAs_1 rfl ?_)
  refine b_put (nx := 5) (k0 := 10) (t := 0) G hB fl_RX12_227 (Nat.le_of_ble_eq_true rfl) (Nat.le_of_ble_eq_true rfl) rfl (fun h => nomatch h) ⟨rfl, hp_v1⟩ hp_v0 dX12_readsAs_2 rfl (fun m_6 e_m_6 hB => ?_)
  have h := h m_6 e_m_6
  refine z_aload_n (nx := 6) (a := 0) G rfl (Or.inl rfl) dX12_readsAs_5 rfl (z_iload_n (nx := 7) (a := 1) G rfl dX12_readsAs_6 rfl ?_)
  refine z_if_eq (nx := 10) (tgt := 15) G dX12_readsAs_7 (by decide) rfl (fun c => ?_) (fun c => ?_)
  · have h := h.1 c
    refine z_bipush (nx := 17) (z := 8) G (R32c rfl) rfl dX12_readsAs_15 rfl ?_
    exact b_fewer (loc2 := [(2, v0), (0, v1)]) (am_lk (am_lk am_ln)) (S_X12_readsAs_J1 X hp_v0 hp_v1 hp_v0 hB h)
  · have h := h.2 c
    refine z_bipush (nx := 12) (z := 15) G (R32c rfl) rfl dX12_readsAs_10 rfl (z_goto (tgt := 17) G dX12_readsAs_12 (by decide) ?_)
    exact b_fewer (loc2 := [(2, v0), (0, v1)]) (am_lk (am_lk am_ln)) (S_X12_readsAs_J1 X hp_v0 hp_v1 hp_v0 hB h)
theorem NM_X12_readsAs {v0 : Int} {v1 : Int} {K : am_KK} {m : am_M} (hp_v0 : am_ob v0 12) (hp_v1 : (v1 = 0 ∨ v1 = 1)) (h : M_X12_readsAs v0 v1 K m) : N_X12_readsAs [v0, v1] K m := ⟨hp_v0, hp_v1, h⟩
theorem SS_X12_readsAs : am_Snd yX12_readsAs cX12_readsAs 2 (some .boolean) 0 609 (am_L [2, 5] 5 N_X12_readsAs) := by
  refine am_SB (by decide +kernel) (Nat.le_of_ble_eq_true rfl) (fun F zs as K m X ht hB hM => ?_)
  obtain ⟨v0, zs, as, rfl, rfl, hz0, ht⟩ := am_inv ht
  obtain ⟨v1, zs, as, rfl, rfl, hz1, ht⟩ := am_inv ht
  obtain ⟨rfl, rfl⟩ := am_inv0 ht
  obtain ⟨hp_v0, hp_v1, hM⟩ := hM
  exact S_X12_readsAs X hp_v0 hp_v1 hB hM
set_option maxRecDepth 20000 in
set_option maxHeartbeats 4000000 in
theorem S_X12_lays_L1B {F : am_F} {K : am_KK} {v0 : Int} {v1 : Int} {v2 : Int} {C16 : Int → am_M → Prop} {m : am_M} (X : am_Cx F cX12_lays RX12 none 1 9 K) (hp_v0 : am_ob v0 12) (hC16 : ∀ w2 m, C16 w2 m → am_Bt m → am_Z F 16 [] [(2, v0), (0, v1), (0, w2)] m 200) (hB : am_Bt m) (h : M_X12_lays_L1B v0 v1 v2 C16 K m) : am_Z F 16 [] [(2, v0), (0, v1), (0, v2)] m 200 := by
  have G := X.G
  unfold M_X12_lays_L1B at h
  refine z_iload_n (nx := 17) (a := 2) G rfl dX12_lays_16 rfl (z_aload_n (nx := 18) (a := 0) G rfl (Or.inl rfl) dX12_lays_17 rfl (b_getI (nx := 21) (k0 := 18) (t := 0) G fl_RX12_181 (Nat.le_of_ble_eq_true rfl) (Nat.le_of_ble_eq_true rfl) rfl hp_v0 dX12_lays_18 rfl ?_))
  refine z_icmp_ge (nx := 24) (tgt := 74) G dX12_lays_21 (by decide) rfl (fun c => ?_) (fun c => ?_)
  · have h := h.1 c
    exact b_return X hB dX12_lays_74 h
  · have h := h.2 c
    refine z_aload_n (nx := 25) (a := 0) G rfl (Or.inl rfl) dX12_lays_24 rfl (b_getA (nx := 28) (k0 := 2) G hB fl_RX12_24 (Nat.le_of_ble_eq_true rfl) (Nat.le_of_ble_eq_true rfl) rfl hp_v0 dX12_lays_25 rfl (z_sipush (nx := 31) (z := 377) G (R32c rfl) rfl dX12_lays_28 rfl (z_sipush (nx := 34) (z := 400) G (R32c rfl) rfl dX12_lays_31 rfl (z_iload_n (nx := 35) (a := 1) G rfl dX12_lays_34 rfl (z_imul (nx := 36) G dX12_lays_35 rfl (z_iadd (nx := 37) G dX12_lays_36 rfl (z_iload_n (nx := 38) (a := 2) G rfl dX12_lays_37 rfl (z_iadd (nx := 39) G dX12_lays_38 rfl (z_aload_n (nx := 40) (a := 0) G rfl (Or.inl rfl) dX12_lays_39 rfl (b_getA (nx := 43) (k0 := 15) G hB fl_RX12_50 (Nat.le_of_ble_eq_true rfl) (Nat.le_of_ble_eq_true rfl) rfl hp_v0 dX12_lays_40 rfl (z_iload_n (nx := 44) (a := 2) G rfl dX12_lays_43 rfl ?_)))))))))))
    obtain ⟨hb, h⟩ := h
    refine z_iald (nx := 45) G (sh_12_15 _ hp_v0) hb.1 hb.2 dX12_lays_44 rfl ?_
    obtain ⟨hb, h⟩ := h
    refine b_iast (nx := 46) G hB (sh_12_2 _ hp_v0) hb.1 hb.2 dX12_lays_45 rfl (fun m_1 e_m_1 hB => ?_)
    have h := h m_1 e_m_1
    refine z_aload_n (nx := 47) (a := 0) G rfl (Or.inl rfl) dX12_lays_46 rfl (b_getA (nx := 50) (k0 := 2) G hB fl_RX12_24 (Nat.le_of_ble_eq_true rfl) (Nat.le_of_ble_eq_true rfl) rfl hp_v0 dX12_lays_47 rfl (z_sipush (nx := 53) (z := 3177) G (R32c rfl) rfl dX12_lays_50 rfl (z_sipush (nx := 56) (z := 400) G (R32c rfl) rfl dX12_lays_53 rfl (z_iload_n (nx := 57) (a := 1) G rfl dX12_lays_56 rfl (z_imul (nx := 58) G dX12_lays_57 rfl (z_iadd (nx := 59) G dX12_lays_58 rfl (z_iload_n (nx := 60) (a := 2) G rfl dX12_lays_59 rfl (z_iadd (nx := 61) G dX12_lays_60 rfl (z_aload_n (nx := 62) (a := 0) G rfl (Or.inl rfl) dX12_lays_61 rfl (b_getA (nx := 65) (k0 := 16) G hB fl_RX12_53 (Nat.le_of_ble_eq_true rfl) (Nat.le_of_ble_eq_true rfl) rfl hp_v0 dX12_lays_62 rfl (z_iload_n (nx := 66) (a := 2) G rfl dX12_lays_65 rfl ?_)))))))))))
    obtain ⟨hb, h⟩ := h
    refine z_iald (nx := 67) G (sh_12_16 _ hp_v0) hb.1 hb.2 dX12_lays_66 rfl ?_
    obtain ⟨hb, h⟩ := h
    refine b_iast (nx := 68) G hB (sh_12_2 _ hp_v0) hb.1 hb.2 dX12_lays_67 rfl (fun m_2 e_m_2 hB => ?_)
    have h := h m_2 e_m_2
    refine b_iinc (nx := 71) (a := 2) (loc2 := fun v2_3 => [(2, v0), (0, v1), (0, v2_3)]) G (fun _ => rfl) rfl (am_pl1 rfl (fun h => nomatch h)) dX12_lays_68 rfl (fun v2_3 e_v2_3 => ?_)
    have h := h v2_3 e_v2_3
    refine z_goto (tgt := 16) G dX12_lays_71 (by decide) ?_
    exact b_fewer (loc2 := [(2, v0), (0, v1), (0, v2_3)]) (am_lk (am_lk (am_lk am_ln))) (hC16 _ _ h hB)
theorem S_X12_lays_L1 {F : am_F} {K : am_KK} {v0 : Int} {v1 : Int} {v2 : Int} {m : am_M} (X : am_Cx F cX12_lays RX12 none 1 9 K) (hp_v0 : am_ob v0 12) (hB : am_Bt m) (h : M_X12_lays_L1 v0 v1 v2 K m) : am_Z F 16 [] [(2, v0), (0, v1), (0, v2)] m 200 := by
  obtain ⟨I, ⟨j, hj⟩, hI⟩ := h
  have key : ∀ j v2 m, I j v2 m → am_Bt m → am_Z F 16 [] [(2, v0), (0, v1), (0, v2)] m 200 := by
    intro j
    induction j using Nat.strongRecOn with
    | ind j ih =>
      intro v2 m hj hB
      exact S_X12_lays_L1B X hp_v0 (fun v2' m' hc hB' => by
        obtain ⟨j', g1, g2⟩ := hc
        exact ih j' g1 v2' m' g2 hB') hB (hI j v2 m hj)
  exact key j _ _ hj hB
set_option maxRecDepth 20000 in
set_option maxHeartbeats 4000000 in
theorem S_X12_lays {F : am_F} {K : am_KK} {v0 : Int} {v1 : Int} {m : am_M} (X : am_Cx F cX12_lays RX12 none 1 9 K) (hp_v0 : am_ob v0 12) (hB : am_Bt m) (h : M_X12_lays v0 v1 K m) : am_Z F 0 [] [(2, v0), (0, v1), (9, 0)] m 200 := by
  have G := X.G
  unfold M_X12_lays at h
  refine z_aload_n (nx := 1) (a := 0) G rfl (Or.inl rfl) dX12_lays_0 rfl (b_getA (nx := 4) (k0 := 2) G hB fl_RX12_24 (Nat.le_of_ble_eq_true rfl) (Nat.le_of_ble_eq_true rfl) rfl hp_v0 dX12_lays_1 rfl (z_sipush (nx := 7) (z := 370) G (R32c rfl) rfl dX12_lays_4 rfl (z_iload_n (nx := 8) (a := 1) G rfl dX12_lays_7 rfl (z_iadd (nx := 9) G dX12_lays_8 rfl (z_aload_n (nx := 10) (a := 0) G rfl (Or.inl rfl) dX12_lays_9 rfl (b_getI (nx := 13) (k0 := 18) (t := 0) G fl_RX12_181 (Nat.le_of_ble_eq_true rfl) (Nat.le_of_ble_eq_true rfl) rfl hp_v0 dX12_lays_10 rfl ?_))))))
  obtain ⟨hb, h⟩ := h
  refine b_iast (nx := 14) G hB (sh_12_2 _ hp_v0) hb.1 hb.2 dX12_lays_13 rfl (fun m_4 e_m_4 hB => ?_)
  have h := h m_4 e_m_4
  refine z_iconst (nx := 15) (z := 0) G (R32c rfl) dX12_lays_14 rfl (b_storeE_n (nx := 16) (a := 2) (loc2 := [(2, v0), (0, v1), (0, 0)]) G rfl (Nat.le_of_ble_eq_true rfl) (am_pl1 rfl (fun h => nomatch h)) dX12_lays_15 rfl ?_)
  exact b_fewer (loc2 := [(2, v0), (0, v1), (0, 0)]) (am_lk (am_lk (am_lk am_ln))) (S_X12_lays_L1 X hp_v0 hB h)
theorem NM_X12_lays {v0 : Int} {v1 : Int} {K : am_KK} {m : am_M} (hp_v0 : am_ob v0 12) (h : M_X12_lays v0 v1 K m) : N_X12_lays [v0, v1] K m := ⟨hp_v0, h⟩
theorem SS_X12_lays : am_Snd yX12_lays cX12_lays 3 none 0 1 (am_L [2, 0] 9 N_X12_lays) := by
  refine am_SB (by decide +kernel) (Nat.le_of_ble_eq_true rfl) (fun F zs as K m X ht hB hM => ?_)
  obtain ⟨v0, zs, as, rfl, rfl, hz0, ht⟩ := am_inv ht
  obtain ⟨v1, zs, as, rfl, rfl, hz1, ht⟩ := am_inv ht
  obtain ⟨rfl, rfl⟩ := am_inv0 ht
  obtain ⟨hp_v0, hM⟩ := hM
  exact S_X12_lays X hp_v0 hB hM
set_option maxRecDepth 20000 in
set_option maxHeartbeats 4000000 in
theorem S_X12_law {F : am_F} {K : am_KK} {v0 : Int} {m : am_M} (X : am_Cx F cX12_law RX12 (some .int) 610 0 K) (hp_v0 : am_ob v0 12) (hB : am_Bt m) (h : M_X12_law v0 K m) : am_Z F 0 [] [(2, v0)] m 200 := by
  have G := X.G
  unfold M_X12_law at h
  refine z_aload_n (nx := 1) (a := 0) G rfl (Or.inl rfl) dX12_law_0 rfl (b_getA (nx := 4) (k0 := 2) G hB fl_RX12_24 (Nat.le_of_ble_eq_true rfl) (Nat.le_of_ble_eq_true rfl) rfl hp_v0 dX12_law_1 rfl (z_sipush (nx := 7) (z := 368) G (R32c rfl) rfl dX12_law_4 rfl ?_))
  obtain ⟨hb, h⟩ := h
  refine z_iald (nx := 8) G (sh_12_2 _ hp_v0) hb.1 hb.2 dX12_law_7 rfl ?_
  refine z_bipush (nx := 10) (z := 6) G (R32c rfl) rfl dX12_law_8 rfl ?_
  refine z_icmp_ne (nx := 13) (tgt := 25) G dX12_law_10 (by decide) rfl (fun c => ?_) (fun c => ?_)
  · have h := h.1 c
    refine z_aload_n (nx := 26) (a := 0) G rfl (Or.inl rfl) dX12_law_25 rfl (z_iconst (nx := 27) (z := 0) G (R32c rfl) dX12_law_26 rfl ?_)
    refine b_callV5 (nx := 30) (zs := [v0, 0]) (as := [(0, 0)]) X hB (by decide) rfl hp_v0 SS_X12_readsAs (am_ta (am_tz (Or.inl rfl) am_tn)) (Nat.le_of_ble_eq_true rfl) (Nat.le_of_ble_eq_true rfl) ml_RX12_271 iw_X12_readsAs vw_X12_readsAs cw_X12_readsAs nw_RX12 pp_X12_readsAs (Nat.le_of_ble_eq_true rfl) dX12_law_27 rfl (NM_X12_readsAs hp_v0 (Or.inl rfl) h) (fun r_1 m_2 h h01_3 hB => ?_)
    refine z_if_ne (nx := 33) (tgt := 40) G dX12_law_30 (by decide) rfl (fun c => ?_) (fun c => ?_)
    · have h := h.1 c
      refine z_aload_n (nx := 41) (a := 0) G rfl (Or.inl rfl) dX12_law_40 rfl (z_aload_n (nx := 42) (a := 0) G rfl (Or.inl rfl) dX12_law_41 rfl (b_getA (nx := 45) (k0 := 2) G hB fl_RX12_24 (Nat.le_of_ble_eq_true rfl) (Nat.le_of_ble_eq_true rfl) rfl hp_v0 dX12_law_42 rfl (z_sipush (nx := 48) (z := 368) G (R32c rfl) rfl dX12_law_45 rfl ?_)))
      obtain ⟨hb, h⟩ := h
      refine z_iald (nx := 49) G (sh_12_2 _ hp_v0) hb.1 hb.2 dX12_law_48 rfl ?_
      refine b_callV9 (nx := 52) (zs := [v0, m_2 (am_rfv v0 2) 368]) (as := [(0, m_2 (am_rfv v0 2) 368)]) X hB (by decide) rfl hp_v0 SS_X12_lays (am_ta (am_ti am_tn)) (Nat.le_of_ble_eq_true rfl) (Nat.le_of_ble_eq_true rfl) ml_RX12_275 iw_X12_lays vw_X12_lays cw_X12_lays nw_RX12 pp_X12_lays (Nat.le_of_ble_eq_true rfl) dX12_law_49 rfl (NM_X12_lays hp_v0 h) (fun r_4 m_5 h hB => ?_)
      refine z_aload_n (nx := 53) (a := 0) G rfl (Or.inl rfl) dX12_law_52 rfl (b_getA (nx := 56) (k0 := 2) G hB fl_RX12_24 (Nat.le_of_ble_eq_true rfl) (Nat.le_of_ble_eq_true rfl) rfl hp_v0 dX12_law_53 rfl (z_sipush (nx := 59) (z := 368) G (R32c rfl) rfl dX12_law_56 rfl (z_dup2 (nx := 60) G (fun h => nomatch h) (fun h => nomatch h) dX12_law_59 rfl ?_)))
      obtain ⟨hb, h⟩ := h
      refine z_iald (nx := 61) G (sh_12_2 _ hp_v0) hb.1 hb.2 dX12_law_60 rfl ?_
      refine z_iconst (nx := 62) (z := 1) G (R32c rfl) dX12_law_61 rfl (z_iadd (nx := 63) G dX12_law_62 rfl ?_)
      obtain ⟨hb, h⟩ := h
      refine b_iast (nx := 64) G hB (sh_12_2 _ hp_v0) hb.1 hb.2 dX12_law_63 rfl (fun m_6 e_m_6 hB => ?_)
      have h := h m_6 e_m_6
      refine z_aload_n (nx := 65) (a := 0) G rfl (Or.inl rfl) dX12_law_64 rfl (z_aload_n (nx := 66) (a := 0) G rfl (Or.inl rfl) dX12_law_65 rfl (b_getA (nx := 69) (k0 := 2) G hB fl_RX12_24 (Nat.le_of_ble_eq_true rfl) (Nat.le_of_ble_eq_true rfl) rfl hp_v0 dX12_law_66 rfl (z_sipush (nx := 72) (z := 368) G (R32c rfl) rfl dX12_law_69 rfl ?_)))
      obtain ⟨hb, h⟩ := h
      refine z_iald (nx := 73) G (sh_12_2 _ hp_v0) hb.1 hb.2 dX12_law_72 rfl ?_
      refine z_iconst (nx := 74) (z := 1) G (R32c rfl) dX12_law_73 rfl (z_isub (nx := 75) G dX12_law_74 rfl ?_)
      refine b_callV0 (nx := 78) (zs := [v0, w32 ((m_6 (am_rfv v0 2) 368) - 1)]) (as := [(0, w32 ((m_6 (am_rfv v0 2) 368) - 1))]) X hB (by decide) rfl hp_v0 SS_X12_good (am_ta (am_ti am_tn)) (Nat.le_of_ble_eq_true rfl) (Nat.le_of_ble_eq_true rfl) ml_RX12_14 iw_X12_good vw_X12_good cw_X12_good nw_RX12 pp_X12_good (Nat.le_of_ble_eq_true rfl) dX12_law_75 rfl (NM_X12_good hp_v0 h) (fun r_7 m_8 h hB => ?_)
      exact b_ireturn X hB dX12_law_78 h
    · have h := h.2 c
      refine z_aload_n (nx := 34) (a := 0) G rfl (Or.inl rfl) dX12_law_33 rfl (z_bipush (nx := 36) (z := (-6)) G (R32c rfl) rfl dX12_law_34 rfl ?_)
      refine b_callV0 (nx := 39) (zs := [v0, (-6)]) (as := [(0, (-6))]) X hB (by decide) rfl hp_v0 SS_X12_refuses (am_ta (am_ti am_tn)) (Nat.le_of_ble_eq_true rfl) (Nat.le_of_ble_eq_true rfl) ml_RX12_127 iw_X12_refuses vw_X12_refuses cw_X12_refuses nw_RX12 pp_X12_refuses (Nat.le_of_ble_eq_true rfl) dX12_law_36 rfl (NM_X12_refuses hp_v0 h) (fun r_9 m_10 h hB => ?_)
      exact b_ireturn X hB dX12_law_39 h
  · have h := h.2 c
    refine z_aload_n (nx := 14) (a := 0) G rfl (Or.inl rfl) dX12_law_13 rfl (z_iconst (nx := 15) (z := 0) G (R32c rfl) dX12_law_14 rfl ?_)
    refine b_put (nx := 18) (k0 := 13) (t := 0) G hB fl_RX12_167 (Nat.le_of_ble_eq_true rfl) (Nat.le_of_ble_eq_true rfl) rfl (fun h => nomatch h) rfl hp_v0 dX12_law_15 rfl (fun m_11 e_m_11 hB => ?_)
    have h := h m_11 e_m_11
    refine z_aload_n (nx := 19) (a := 0) G rfl (Or.inl rfl) dX12_law_18 rfl (z_bipush (nx := 21) (z := (-5)) G (R32c rfl) rfl dX12_law_19 rfl ?_)
    refine b_callV0 (nx := 24) (zs := [v0, (-5)]) (as := [(0, (-5))]) X hB (by decide) rfl hp_v0 SS_X12_refuses (am_ta (am_ti am_tn)) (Nat.le_of_ble_eq_true rfl) (Nat.le_of_ble_eq_true rfl) ml_RX12_127 iw_X12_refuses vw_X12_refuses cw_X12_refuses nw_RX12 pp_X12_refuses (Nat.le_of_ble_eq_true rfl) dX12_law_21 rfl (NM_X12_refuses hp_v0 h) (fun r_12 m_13 h hB => ?_)
    exact b_ireturn X hB dX12_law_24 h
theorem NM_X12_law {v0 : Int} {K : am_KK} {m : am_M} (hp_v0 : am_ob v0 12) (h : M_X12_law v0 K m) : N_X12_law [v0] K m := ⟨hp_v0, h⟩
theorem SS_X12_law : am_Snd yX12_law cX12_law 1 (some .int) 0 610 (am_L [2] 0 N_X12_law) := by
  refine am_SB (by decide +kernel) (Nat.le_of_ble_eq_true rfl) (fun F zs as K m X ht hB hM => ?_)
  obtain ⟨v0, zs, as, rfl, rfl, hz0, ht⟩ := am_inv ht
  obtain ⟨rfl, rfl⟩ := am_inv0 ht
  obtain ⟨hp_v0, hM⟩ := hM
  exact S_X12_law X hp_v0 hB hM
set_option maxRecDepth 20000 in
set_option maxHeartbeats 4000000 in
theorem S_X12_fault {F : am_F} {K : am_KK} {v0 : Int} {m : am_M} (X : am_Cx F cX12_fault RX12 (some .int) 1 0 K) (hp_v0 : am_ob v0 12) (hB : am_Bt m) (h : M_X12_fault v0 K m) : am_Z F 0 [] [(2, v0)] m 200 := by
  have G := X.G
  unfold M_X12_fault at h
  refine z_aload_n (nx := 1) (a := 0) G rfl (Or.inl rfl) dX12_fault_0 rfl (b_getI (nx := 4) (k0 := 14) (t := 0) G fl_RX12_47 (Nat.le_of_ble_eq_true rfl) (Nat.le_of_ble_eq_true rfl) rfl hp_v0 dX12_fault_1 rfl ?_)
  exact b_ireturn X hB dX12_fault_4 h
theorem NM_X12_fault {v0 : Int} {K : am_KK} {m : am_M} (hp_v0 : am_ob v0 12) (h : M_X12_fault v0 K m) : N_X12_fault [v0] K m := ⟨hp_v0, h⟩
theorem SS_X12_fault : am_Snd yX12_fault cX12_fault 1 (some .int) 0 1 (am_L [2] 0 N_X12_fault) := by
  refine am_SB (by decide +kernel) (Nat.le_of_ble_eq_true rfl) (fun F zs as K m X ht hB hM => ?_)
  obtain ⟨v0, zs, as, rfl, rfl, hz0, ht⟩ := am_inv ht
  obtain ⟨rfl, rfl⟩ := am_inv0 ht
  obtain ⟨hp_v0, hM⟩ := hM
  exact S_X12_fault X hp_v0 hB hM
set_option maxRecDepth 20000 in
set_option maxHeartbeats 4000000 in
theorem S_X12_force {F : am_F} {K : am_KK} {v0 : Int} {v1 : Int} {m : am_M} (X : am_Cx F cX12_force RX12 (some .int) 2 0 K) (hp_v0 : am_ob v0 12) (hB : am_Bt m) (h : M_X12_force v0 v1 K m) : am_Z F 0 [] [(2, v0), (0, v1), (9, 0)] m 200 := by
  have G := X.G
  unfold M_X12_force at h
  refine z_iload_n (nx := 1) (a := 1) G rfl dX12_force_0 rfl (z_iconst (nx := 2) (z := (-1)) G (R32c rfl) dX12_force_1 rfl (z_aload_n (nx := 3) (a := 0) G rfl (Or.inl rfl) dX12_force_2 rfl (b_getA (nx := 6) (k0 := 2) G hB fl_RX12_24 (Nat.le_of_ble_eq_true rfl) (Nat.le_of_ble_eq_true rfl) rfl hp_v0 dX12_force_3 rfl (z_sipush (nx := 9) (z := 368) G (R32c rfl) rfl dX12_force_6 rfl ?_))))
  obtain ⟨hb, h⟩ := h
  refine z_iald (nx := 10) G (sh_12_2 _ hp_v0) hb.1 hb.2 dX12_force_9 rfl ?_
  refine z_iconst (nx := 11) (z := 1) G (R32c rfl) dX12_force_10 rfl (z_isub (nx := 12) G dX12_force_11 rfl ?_)
  refine b_callS5 (nx := 15) (zs := [v1, (-1), w32 ((m (am_rfv v0 2) 368) - 1)]) (as := [(0, v1), (0, (-1)), (0, w32 ((m (am_rfv v0 2) 368) - 1))]) X hB SS_X12_lies (am_ti (am_ti (am_ti am_tn))) (Nat.le_of_ble_eq_true rfl) (Nat.le_of_ble_eq_true rfl) ml_RX12_123 sw_X12_lies (am_plainC 12 (by decide)) cw_X12_lies nw_RX12 pp_X12_lies (Nat.le_of_ble_eq_true rfl) dX12_force_12 rfl (NM_X12_lies h) (fun r_1 m_2 h h01_3 hB => ?_)
  refine z_if_ne (nx := 18) (tgt := 25) G dX12_force_15 (by decide) rfl (fun c => ?_) (fun c => ?_)
  · have h := h.1 c
    refine z_aload_n (nx := 26) (a := 0) G rfl (Or.inl rfl) dX12_force_25 rfl (b_getA (nx := 29) (k0 := 2) G hB fl_RX12_24 (Nat.le_of_ble_eq_true rfl) (Nat.le_of_ble_eq_true rfl) rfl hp_v0 dX12_force_26 rfl (z_sipush (nx := 32) (z := 369) G (R32c rfl) rfl dX12_force_29 rfl ?_))
    obtain ⟨hb, h⟩ := h
    refine z_iald (nx := 33) G (sh_12_2 _ hp_v0) hb.1 hb.2 dX12_force_32 rfl ?_
    refine b_store_n (nx := 34) (a := 2) (loc2 := fun v2_4 => [(2, v0), (0, v1), (0, v2_4)]) G (fun _ => rfl) (Nat.le_of_ble_eq_true rfl) (am_pl1 rfl (fun h => nomatch h)) dX12_force_33 rfl (fun v2_4 e_v2_4 => ?_)
    have h := h v2_4 e_v2_4
    refine z_aload_n (nx := 35) (a := 0) G rfl (Or.inl rfl) dX12_force_34 rfl (b_getA (nx := 38) (k0 := 2) G hB fl_RX12_24 (Nat.le_of_ble_eq_true rfl) (Nat.le_of_ble_eq_true rfl) rfl hp_v0 dX12_force_35 rfl (z_sipush (nx := 41) (z := 369) G (R32c rfl) rfl dX12_force_38 rfl (z_iload_n (nx := 42) (a := 1) G rfl dX12_force_41 rfl ?_)))
    obtain ⟨hb, h⟩ := h
    refine b_iast (nx := 43) G hB (sh_12_2 _ hp_v0) hb.1 hb.2 dX12_force_42 rfl (fun m_5 e_m_5 hB => ?_)
    have h := h m_5 e_m_5
    refine z_aload_n (nx := 44) (a := 0) G rfl (Or.inl rfl) dX12_force_43 rfl (z_iload_n (nx := 45) (a := 2) G rfl dX12_force_44 rfl ?_)
    refine b_callV0 (nx := 48) (zs := [v0, v2_4]) (as := [(0, v2_4)]) X hB (by decide) rfl hp_v0 SS_X12_good (am_ta (am_ti am_tn)) (Nat.le_of_ble_eq_true rfl) (Nat.le_of_ble_eq_true rfl) ml_RX12_14 iw_X12_good vw_X12_good cw_X12_good nw_RX12 pp_X12_good (Nat.le_of_ble_eq_true rfl) dX12_force_45 rfl (NM_X12_good hp_v0 h) (fun r_6 m_7 h hB => ?_)
    exact b_ireturn X hB dX12_force_48 h
  · have h := h.2 c
    refine z_aload_n (nx := 19) (a := 0) G rfl (Or.inl rfl) dX12_force_18 rfl (z_bipush (nx := 21) (z := (-2)) G (R32c rfl) rfl dX12_force_19 rfl ?_)
    refine b_callV0 (nx := 24) (zs := [v0, (-2)]) (as := [(0, (-2))]) X hB (by decide) rfl hp_v0 SS_X12_refuses (am_ta (am_ti am_tn)) (Nat.le_of_ble_eq_true rfl) (Nat.le_of_ble_eq_true rfl) ml_RX12_127 iw_X12_refuses vw_X12_refuses cw_X12_refuses nw_RX12 pp_X12_refuses (Nat.le_of_ble_eq_true rfl) dX12_force_21 rfl (NM_X12_refuses hp_v0 h) (fun r_8 m_9 h hB => ?_)
    exact b_ireturn X hB dX12_force_24 h
theorem NM_X12_force {v0 : Int} {v1 : Int} {K : am_KK} {m : am_M} (hp_v0 : am_ob v0 12) (h : M_X12_force v0 v1 K m) : N_X12_force [v0, v1] K m := ⟨hp_v0, h⟩
theorem SS_X12_force : am_Snd yX12_force cX12_force 3 (some .int) 0 2 (am_L [2, 0] 0 N_X12_force) := by
  refine am_SB (by decide +kernel) (Nat.le_of_ble_eq_true rfl) (fun F zs as K m X ht hB hM => ?_)
  obtain ⟨v0, zs, as, rfl, rfl, hz0, ht⟩ := am_inv ht
  obtain ⟨v1, zs, as, rfl, rfl, hz1, ht⟩ := am_inv ht
  obtain ⟨rfl, rfl⟩ := am_inv0 ht
  obtain ⟨hp_v0, hM⟩ := hM
  exact S_X12_force X hp_v0 hB hM
set_option maxRecDepth 20000 in
set_option maxHeartbeats 4000000 in
theorem S_X12_breath {F : am_F} {K : am_KK} {v0 : Int} {v1 : Int} {v2 : Int} {m : am_M} (X : am_Cx F cX12_breath RX12 (some .int) 607 0 K) (hp_v0 : am_ob v0 12) (hB : am_Bt m) (h : M_X12_breath v0 v1 v2 K m) : am_Z F 0 [] [(2, v0), (0, v1), (0, v2)] m 200 := by
  have G := X.G
  unfold M_X12_breath at h
  refine z_aload_n (nx := 1) (a := 0) G rfl (Or.inl rfl) dX12_breath_0 rfl (z_iload_n (nx := 2) (a := 1) G rfl dX12_breath_1 rfl ?_)
  refine b_callV5 (nx := 5) (zs := [v0, v1]) (as := [(0, v1)]) X hB (by decide) rfl hp_v0 SS_X12_isPerson (am_ta (am_ti am_tn)) (Nat.le_of_ble_eq_true rfl) (Nat.le_of_ble_eq_true rfl) ml_RX12_161 iw_X12_isPerson vw_X12_isPerson cw_X12_isPerson nw_RX12 pp_X12_isPerson (Nat.le_of_ble_eq_true rfl) dX12_breath_2 rfl (NM_X12_isPerson hp_v0 h) (fun r_1 m_2 h h01_3 hB => ?_)
  refine z_if_eq (nx := 8) (tgt := 17) G dX12_breath_5 (by decide) rfl (fun c => ?_) (fun c => ?_)
  · have h := h.1 c
    refine z_iconst (nx := 18) (z := (-1)) G (R32c rfl) dX12_breath_17 rfl (z_goto (tgt := 43) G dX12_breath_18 (by decide) ?_)
    exact b_ireturn X hB dX12_breath_43 h
  · have h := h.2 c
    refine z_iload_n (nx := 9) (a := 2) G rfl dX12_breath_8 rfl (z_iconst (nx := 10) (z := 0) G (R32c rfl) dX12_breath_9 rfl (z_iconst (nx := 11) (z := 1) G (R32c rfl) dX12_breath_10 rfl ?_))
    refine b_callS5 (nx := 14) (zs := [v2, 0, 1]) (as := [(0, v2), (0, 0), (0, 1)]) X hB SS_X12_lies (am_ti (am_ti (am_ti am_tn))) (Nat.le_of_ble_eq_true rfl) (Nat.le_of_ble_eq_true rfl) ml_RX12_123 sw_X12_lies (am_plainC 12 (by decide)) cw_X12_lies nw_RX12 pp_X12_lies (Nat.le_of_ble_eq_true rfl) dX12_breath_11 rfl (NM_X12_lies h) (fun r_4 m_5 h h01_6 hB => ?_)
    refine z_if_ne (nx := 17) (tgt := 21) G dX12_breath_14 (by decide) rfl (fun c => ?_) (fun c => ?_)
    · have h := h.1 c
      refine z_iload_n (nx := 22) (a := 2) G rfl dX12_breath_21 rfl ?_
      refine z_if_ne (nx := 25) (tgt := 38) G dX12_breath_22 (by decide) rfl (fun c => ?_) (fun c => ?_)
      · have h := h.1 c
        refine z_aload_n (nx := 39) (a := 0) G rfl (Or.inl rfl) dX12_breath_38 rfl (z_iload_n (nx := 40) (a := 1) G rfl dX12_breath_39 rfl ?_)
        refine b_callV0 (nx := 43) (zs := [v0, v1]) (as := [(0, v1)]) X hB (by decide) rfl hp_v0 SS_X12_breathOf (am_ta (am_ti am_tn)) (Nat.le_of_ble_eq_true rfl) (Nat.le_of_ble_eq_true rfl) ml_RX12_164 iw_X12_breathOf vw_X12_breathOf cw_X12_breathOf nw_RX12 pp_X12_breathOf (Nat.le_of_ble_eq_true rfl) dX12_breath_40 rfl (NM_X12_breathOf hp_v0 h) (fun r_7 m_8 h hB => ?_)
        exact b_ireturn X hB dX12_breath_43 h
      · have h := h.2 c
        refine z_aload_n (nx := 26) (a := 0) G rfl (Or.inl rfl) dX12_breath_25 rfl (b_getA (nx := 29) (k0 := 2) G hB fl_RX12_24 (Nat.le_of_ble_eq_true rfl) (Nat.le_of_ble_eq_true rfl) rfl hp_v0 dX12_breath_26 rfl (z_sipush (nx := 32) (z := 316) G (R32c rfl) rfl dX12_breath_29 rfl (z_iload_n (nx := 33) (a := 1) G rfl dX12_breath_32 rfl (z_iadd (nx := 34) G dX12_breath_33 rfl ?_))))
        obtain ⟨hb, h⟩ := h
        refine z_iald (nx := 35) G (sh_12_2 _ hp_v0) hb.1 hb.2 dX12_breath_34 rfl ?_
        refine z_goto (tgt := 43) G dX12_breath_35 (by decide) ?_
        exact b_ireturn X hB dX12_breath_43 h
    · have h := h.2 c
      refine z_iconst (nx := 18) (z := (-1)) G (R32c rfl) dX12_breath_17 rfl (z_goto (tgt := 43) G dX12_breath_18 (by decide) ?_)
      exact b_ireturn X hB dX12_breath_43 h
theorem NM_X12_breath {v0 : Int} {v1 : Int} {v2 : Int} {K : am_KK} {m : am_M} (hp_v0 : am_ob v0 12) (h : M_X12_breath v0 v1 v2 K m) : N_X12_breath [v0, v1, v2] K m := ⟨hp_v0, h⟩
theorem SS_X12_breath : am_Snd yX12_breath cX12_breath 3 (some .int) 0 607 (am_L [2, 0, 0] 0 N_X12_breath) := by
  refine am_SB (by decide +kernel) (Nat.le_of_ble_eq_true rfl) (fun F zs as K m X ht hB hM => ?_)
  obtain ⟨v0, zs, as, rfl, rfl, hz0, ht⟩ := am_inv ht
  obtain ⟨v1, zs, as, rfl, rfl, hz1, ht⟩ := am_inv ht
  obtain ⟨v2, zs, as, rfl, rfl, hz2, ht⟩ := am_inv ht
  obtain ⟨rfl, rfl⟩ := am_inv0 ht
  obtain ⟨hp_v0, hM⟩ := hM
  exact S_X12_breath X hp_v0 hB hM
set_option maxRecDepth 20000 in
set_option maxHeartbeats 4000000 in
theorem S_X12_sets {F : am_F} {K : am_KK} {v0 : Int} {v1 : Int} {v2 : Int} {m : am_M} (X : am_Cx F cX12_sets RX12 none 2 9 K) (hp_v0 : am_ob v0 12) (hB : am_Bt m) (h : M_X12_sets v0 v1 v2 K m) : am_Z F 0 [] [(2, v0), (0, v1), (0, v2)] m 200 := by
  have G := X.G
  unfold M_X12_sets at h
  refine z_aload_n (nx := 1) (a := 0) G rfl (Or.inl rfl) dX12_sets_0 rfl (b_getA (nx := 4) (k0 := 25) G hB fl_RX12_59 (Nat.le_of_ble_eq_true rfl) (Nat.le_of_ble_eq_true rfl) rfl hp_v0 dX12_sets_1 rfl (z_iconst (nx := 5) (z := 0) G (R32c rfl) dX12_sets_4 rfl (z_aload_n (nx := 6) (a := 0) G rfl (Or.inl rfl) dX12_sets_5 rfl (z_iload_n (nx := 7) (a := 1) G rfl dX12_sets_6 rfl (z_iconst (nx := 8) (z := 2) G (R32c rfl) dX12_sets_7 rfl ?_)))))
  refine b_callV0 (nx := 11) (zs := [v0, v1, 2]) (as := [(0, v1), (0, 2)]) X hB (by decide) rfl hp_v0 SS_X12_fact (am_ta (am_ti (am_ti am_tn))) (Nat.le_of_ble_eq_true rfl) (Nat.le_of_ble_eq_true rfl) ml_RX12_141 iw_X12_fact vw_X12_fact cw_X12_fact nw_RX12 pp_X12_fact (Nat.le_of_ble_eq_true rfl) dX12_sets_8 rfl (NM_X12_fact hp_v0 h) (fun r_1 m_2 h hB => ?_)
  obtain ⟨hb, h⟩ := h
  refine b_iast (nx := 12) G hB (sh_12_25 _ hp_v0) hb.1 hb.2 dX12_sets_11 rfl (fun m_3 e_m_3 hB => ?_)
  have h := h m_3 e_m_3
  refine z_aload_n (nx := 13) (a := 0) G rfl (Or.inl rfl) dX12_sets_12 rfl (b_getA (nx := 16) (k0 := 25) G hB fl_RX12_59 (Nat.le_of_ble_eq_true rfl) (Nat.le_of_ble_eq_true rfl) rfl hp_v0 dX12_sets_13 rfl (z_iconst (nx := 17) (z := 1) G (R32c rfl) dX12_sets_16 rfl (z_aload_n (nx := 18) (a := 0) G rfl (Or.inl rfl) dX12_sets_17 rfl (z_iload_n (nx := 19) (a := 1) G rfl dX12_sets_18 rfl (z_iconst (nx := 20) (z := 3) G (R32c rfl) dX12_sets_19 rfl ?_)))))
  refine b_callV0 (nx := 23) (zs := [v0, v1, 3]) (as := [(0, v1), (0, 3)]) X hB (by decide) rfl hp_v0 SS_X12_fact (am_ta (am_ti (am_ti am_tn))) (Nat.le_of_ble_eq_true rfl) (Nat.le_of_ble_eq_true rfl) ml_RX12_141 iw_X12_fact vw_X12_fact cw_X12_fact nw_RX12 pp_X12_fact (Nat.le_of_ble_eq_true rfl) dX12_sets_20 rfl (NM_X12_fact hp_v0 h) (fun r_4 m_5 h hB => ?_)
  obtain ⟨hb, h⟩ := h
  refine b_iast (nx := 24) G hB (sh_12_25 _ hp_v0) hb.1 hb.2 dX12_sets_23 rfl (fun m_6 e_m_6 hB => ?_)
  have h := h m_6 e_m_6
  refine z_aload_n (nx := 25) (a := 0) G rfl (Or.inl rfl) dX12_sets_24 rfl (b_getA (nx := 28) (k0 := 25) G hB fl_RX12_59 (Nat.le_of_ble_eq_true rfl) (Nat.le_of_ble_eq_true rfl) rfl hp_v0 dX12_sets_25 rfl (z_iconst (nx := 29) (z := 2) G (R32c rfl) dX12_sets_28 rfl (z_aload_n (nx := 30) (a := 0) G rfl (Or.inl rfl) dX12_sets_29 rfl (z_iload_n (nx := 31) (a := 1) G rfl dX12_sets_30 rfl (z_iconst (nx := 32) (z := 0) G (R32c rfl) dX12_sets_31 rfl ?_)))))
  refine b_callV0 (nx := 35) (zs := [v0, v1, 0]) (as := [(0, v1), (0, 0)]) X hB (by decide) rfl hp_v0 SS_X12_fact (am_ta (am_ti (am_ti am_tn))) (Nat.le_of_ble_eq_true rfl) (Nat.le_of_ble_eq_true rfl) ml_RX12_141 iw_X12_fact vw_X12_fact cw_X12_fact nw_RX12 pp_X12_fact (Nat.le_of_ble_eq_true rfl) dX12_sets_32 rfl (NM_X12_fact hp_v0 h) (fun r_7 m_8 h hB => ?_)
  obtain ⟨hb, h⟩ := h
  refine b_iast (nx := 36) G hB (sh_12_25 _ hp_v0) hb.1 hb.2 dX12_sets_35 rfl (fun m_9 e_m_9 hB => ?_)
  have h := h m_9 e_m_9
  refine z_aload_n (nx := 37) (a := 0) G rfl (Or.inl rfl) dX12_sets_36 rfl (b_getA (nx := 40) (k0 := 25) G hB fl_RX12_59 (Nat.le_of_ble_eq_true rfl) (Nat.le_of_ble_eq_true rfl) rfl hp_v0 dX12_sets_37 rfl (z_iconst (nx := 41) (z := 3) G (R32c rfl) dX12_sets_40 rfl (z_aload_n (nx := 42) (a := 0) G rfl (Or.inl rfl) dX12_sets_41 rfl (b_getA (nx := 45) (k0 := 2) G hB fl_RX12_24 (Nat.le_of_ble_eq_true rfl) (Nat.le_of_ble_eq_true rfl) rfl hp_v0 dX12_sets_42 rfl (z_sipush (nx := 48) (z := 316) G (R32c rfl) rfl dX12_sets_45 rfl (z_aload_n (nx := 49) (a := 0) G rfl (Or.inl rfl) dX12_sets_48 rfl (z_iload_n (nx := 50) (a := 1) G rfl dX12_sets_49 rfl (z_iconst (nx := 51) (z := 0) G (R32c rfl) dX12_sets_50 rfl ?_))))))))
  refine b_callV0 (nx := 54) (zs := [v0, v1, 0]) (as := [(0, v1), (0, 0)]) X hB (by decide) rfl hp_v0 SS_X12_fact (am_ta (am_ti (am_ti am_tn))) (Nat.le_of_ble_eq_true rfl) (Nat.le_of_ble_eq_true rfl) ml_RX12_141 iw_X12_fact vw_X12_fact cw_X12_fact nw_RX12 pp_X12_fact (Nat.le_of_ble_eq_true rfl) dX12_sets_51 rfl (NM_X12_fact hp_v0 h) (fun r_10 m_11 h hB => ?_)
  refine z_iadd (nx := 55) G dX12_sets_54 rfl ?_
  obtain ⟨hb, h⟩ := h
  refine z_iald (nx := 56) G (sh_12_2 _ hp_v0) hb.1 hb.2 dX12_sets_55 rfl ?_
  obtain ⟨hb, h⟩ := h
  refine b_iast (nx := 57) G hB (sh_12_25 _ hp_v0) hb.1 hb.2 dX12_sets_56 rfl (fun m_12 e_m_12 hB => ?_)
  have h := h m_12 e_m_12
  refine z_aload_n (nx := 58) (a := 0) G rfl (Or.inl rfl) dX12_sets_57 rfl (b_getA (nx := 61) (k0 := 25) G hB fl_RX12_59 (Nat.le_of_ble_eq_true rfl) (Nat.le_of_ble_eq_true rfl) rfl hp_v0 dX12_sets_58 rfl (z_iconst (nx := 62) (z := 4) G (R32c rfl) dX12_sets_61 rfl (z_aload_n (nx := 63) (a := 0) G rfl (Or.inl rfl) dX12_sets_62 rfl (z_iload_n (nx := 64) (a := 1) G rfl dX12_sets_63 rfl (z_iconst (nx := 65) (z := 1) G (R32c rfl) dX12_sets_64 rfl ?_)))))
  refine b_callV0 (nx := 68) (zs := [v0, v1, 1]) (as := [(0, v1), (0, 1)]) X hB (by decide) rfl hp_v0 SS_X12_fact (am_ta (am_ti (am_ti am_tn))) (Nat.le_of_ble_eq_true rfl) (Nat.le_of_ble_eq_true rfl) ml_RX12_141 iw_X12_fact vw_X12_fact cw_X12_fact nw_RX12 pp_X12_fact (Nat.le_of_ble_eq_true rfl) dX12_sets_65 rfl (NM_X12_fact hp_v0 h) (fun r_13 m_14 h hB => ?_)
  obtain ⟨hb, h⟩ := h
  refine b_iast (nx := 69) G hB (sh_12_25 _ hp_v0) hb.1 hb.2 dX12_sets_68 rfl (fun m_15 e_m_15 hB => ?_)
  have h := h m_15 e_m_15
  refine z_aload_n (nx := 70) (a := 0) G rfl (Or.inl rfl) dX12_sets_69 rfl (b_getA (nx := 73) (k0 := 25) G hB fl_RX12_59 (Nat.le_of_ble_eq_true rfl) (Nat.le_of_ble_eq_true rfl) rfl hp_v0 dX12_sets_70 rfl (z_iconst (nx := 74) (z := 5) G (R32c rfl) dX12_sets_73 rfl (z_iload_n (nx := 75) (a := 2) G rfl dX12_sets_74 rfl (z_aload_n (nx := 76) (a := 0) G rfl (Or.inl rfl) dX12_sets_75 rfl (z_iload_n (nx := 77) (a := 1) G rfl dX12_sets_76 rfl (z_iconst (nx := 78) (z := 4) G (R32c rfl) dX12_sets_77 rfl ?_))))))
  refine b_callV0 (nx := 81) (zs := [v0, v1, 4]) (as := [(0, v1), (0, 4)]) X hB (by decide) rfl hp_v0 SS_X12_fact (am_ta (am_ti (am_ti am_tn))) (Nat.le_of_ble_eq_true rfl) (Nat.le_of_ble_eq_true rfl) ml_RX12_141 iw_X12_fact vw_X12_fact cw_X12_fact nw_RX12 pp_X12_fact (Nat.le_of_ble_eq_true rfl) dX12_sets_78 rfl (NM_X12_fact hp_v0 h) (fun r_16 m_17 h hB => ?_)
  refine z_isub (nx := 82) G dX12_sets_81 rfl ?_
  obtain ⟨hb, h⟩ := h
  refine b_iast (nx := 83) G hB (sh_12_25 _ hp_v0) hb.1 hb.2 dX12_sets_82 rfl (fun m_18 e_m_18 hB => ?_)
  have h := h m_18 e_m_18
  refine z_aload_n (nx := 84) (a := 0) G rfl (Or.inl rfl) dX12_sets_83 rfl (b_getA (nx := 87) (k0 := 25) G hB fl_RX12_59 (Nat.le_of_ble_eq_true rfl) (Nat.le_of_ble_eq_true rfl) rfl hp_v0 dX12_sets_84 rfl (z_bipush (nx := 89) (z := 6) G (R32c rfl) rfl dX12_sets_87 rfl (z_aload_n (nx := 90) (a := 0) G rfl (Or.inl rfl) dX12_sets_89 rfl (b_getA (nx := 93) (k0 := 2) G hB fl_RX12_24 (Nat.le_of_ble_eq_true rfl) (Nat.le_of_ble_eq_true rfl) rfl hp_v0 dX12_sets_90 rfl (z_sipush (nx := 96) (z := 362) G (R32c rfl) rfl dX12_sets_93 rfl ?_)))))
  obtain ⟨hb, h⟩ := h
  refine z_iald (nx := 97) G (sh_12_2 _ hp_v0) hb.1 hb.2 dX12_sets_96 rfl ?_
  obtain ⟨hb, h⟩ := h
  refine b_iast (nx := 98) G hB (sh_12_25 _ hp_v0) hb.1 hb.2 dX12_sets_97 rfl (fun m_19 e_m_19 hB => ?_)
  have h := h m_19 e_m_19
  refine z_aload_n (nx := 99) (a := 0) G rfl (Or.inl rfl) dX12_sets_98 rfl (b_getA (nx := 102) (k0 := 25) G hB fl_RX12_59 (Nat.le_of_ble_eq_true rfl) (Nat.le_of_ble_eq_true rfl) rfl hp_v0 dX12_sets_99 rfl (z_bipush (nx := 104) (z := 7) G (R32c rfl) rfl dX12_sets_102 rfl (z_iload_n (nx := 105) (a := 2) G rfl dX12_sets_104 rfl ?_)))
  obtain ⟨hb, h⟩ := h
  refine b_iast (nx := 106) G hB (sh_12_25 _ hp_v0) hb.1 hb.2 dX12_sets_105 rfl (fun m_20 e_m_20 hB => ?_)
  have h := h m_20 e_m_20
  exact b_return X hB dX12_sets_106 h
theorem NM_X12_sets {v0 : Int} {v1 : Int} {v2 : Int} {K : am_KK} {m : am_M} (hp_v0 : am_ob v0 12) (h : M_X12_sets v0 v1 v2 K m) : N_X12_sets [v0, v1, v2] K m := ⟨hp_v0, h⟩
theorem SS_X12_sets : am_Snd yX12_sets cX12_sets 3 none 0 2 (am_L [2, 0, 0] 9 N_X12_sets) := by
  refine am_SB (by decide +kernel) (Nat.le_of_ble_eq_true rfl) (fun F zs as K m X ht hB hM => ?_)
  obtain ⟨v0, zs, as, rfl, rfl, hz0, ht⟩ := am_inv ht
  obtain ⟨v1, zs, as, rfl, rfl, hz1, ht⟩ := am_inv ht
  obtain ⟨v2, zs, as, rfl, rfl, hz2, ht⟩ := am_inv ht
  obtain ⟨rfl, rfl⟩ := am_inv0 ht
  obtain ⟨hp_v0, hM⟩ := hM
  exact S_X12_sets X hp_v0 hB hM
set_option maxRecDepth 20000 in
set_option maxHeartbeats 4000000 in
theorem S_X12_rankOf {F : am_F} {K : am_KK} {v0 : Int} {v1 : Int} {v2 : Int} {m : am_M} (X : am_Cx F cX12_rankOf RX12 (some .int) 606 0 K) (hp_v0 : am_ob v0 12) (hB : am_Bt m) (h : M_X12_rankOf v0 v1 v2 K m) : am_Z F 0 [] [(2, v0), (0, v1), (0, v2)] m 200 := by
  have G := X.G
  unfold M_X12_rankOf at h
  refine z_aload_n (nx := 1) (a := 0) G rfl (Or.inl rfl) dX12_rankOf_0 rfl (z_iload_n (nx := 2) (a := 1) G rfl dX12_rankOf_1 rfl (z_iload_n (nx := 3) (a := 2) G rfl dX12_rankOf_2 rfl ?_))
  refine b_callV9 (nx := 6) (zs := [v0, v1, v2]) (as := [(0, v1), (0, v2)]) X hB (by decide) rfl hp_v0 SS_X12_sets (am_ta (am_ti (am_ti am_tn))) (Nat.le_of_ble_eq_true rfl) (Nat.le_of_ble_eq_true rfl) ml_RX12_326 iw_X12_sets vw_X12_sets cw_X12_sets nw_RX12 pp_X12_sets (Nat.le_of_ble_eq_true rfl) dX12_rankOf_3 rfl (NM_X12_sets hp_v0 h) (fun r_1 m_2 h hB => ?_)
  refine z_aload_n (nx := 7) (a := 0) G rfl (Or.inl rfl) dX12_rankOf_6 rfl (z_iconst (nx := 8) (z := 1) G (R32c rfl) dX12_rankOf_7 rfl (z_sipush (nx := 11) (z := (-9999)) G (R32c rfl) rfl dX12_rankOf_8 rfl (z_sipush (nx := 14) (z := 9999) G (R32c rfl) rfl dX12_rankOf_11 rfl (z_aload_n (nx := 15) (a := 0) G rfl (Or.inl rfl) dX12_rankOf_14 rfl (z_iload_n (nx := 16) (a := 1) G rfl dX12_rankOf_15 rfl (z_iconst (nx := 17) (z := 2) G (R32c rfl) dX12_rankOf_16 rfl ?_))))))
  refine b_callV0 (nx := 20) (zs := [v0, v1, 2]) (as := [(0, v1), (0, 2)]) X hB (by decide) rfl hp_v0 SS_X12_fact (am_ta (am_ti (am_ti am_tn))) (Nat.le_of_ble_eq_true rfl) (Nat.le_of_ble_eq_true rfl) ml_RX12_141 iw_X12_fact vw_X12_fact cw_X12_fact nw_RX12 pp_X12_fact (Nat.le_of_ble_eq_true rfl) dX12_rankOf_17 rfl (NM_X12_fact hp_v0 h) (fun r_3 m_4 h hB => ?_)
  refine b_callV0 (nx := 23) (zs := [v0, 1, (-9999), 9999, r_3]) (as := [(0, 1), (0, (-9999)), (0, 9999), (0, r_3)]) X hB (by decide) rfl hp_v0 SS_X12_tells (am_ta (am_ti (am_ti (am_ti (am_ti am_tn))))) (Nat.le_of_ble_eq_true rfl) (Nat.le_of_ble_eq_true rfl) ml_RX12_323 iw_X12_tells vw_X12_tells cw_X12_tells nw_RX12 pp_X12_tells (Nat.le_of_ble_eq_true rfl) dX12_rankOf_20 rfl (NM_X12_tells hp_v0 h) (fun r_5 m_6 h hB => ?_)
  exact b_ireturn X hB dX12_rankOf_23 h
theorem NM_X12_rankOf {v0 : Int} {v1 : Int} {v2 : Int} {K : am_KK} {m : am_M} (hp_v0 : am_ob v0 12) (h : M_X12_rankOf v0 v1 v2 K m) : N_X12_rankOf [v0, v1, v2] K m := ⟨hp_v0, h⟩
theorem SS_X12_rankOf : am_Snd yX12_rankOf cX12_rankOf 3 (some .int) 0 606 (am_L [2, 0, 0] 0 N_X12_rankOf) := by
  refine am_SB (by decide +kernel) (Nat.le_of_ble_eq_true rfl) (fun F zs as K m X ht hB hM => ?_)
  obtain ⟨v0, zs, as, rfl, rfl, hz0, ht⟩ := am_inv ht
  obtain ⟨v1, zs, as, rfl, rfl, hz1, ht⟩ := am_inv ht
  obtain ⟨v2, zs, as, rfl, rfl, hz2, ht⟩ := am_inv ht
  obtain ⟨rfl, rfl⟩ := am_inv0 ht
  obtain ⟨hp_v0, hM⟩ := hM
  exact S_X12_rankOf X hp_v0 hB hM
set_option maxRecDepth 20000 in
set_option maxHeartbeats 4000000 in
theorem S_X12_isBarred {F : am_F} {K : am_KK} {v0 : Int} {v1 : Int} {v2 : Int} {m : am_M} (X : am_Cx F cX12_isBarred RX12 (some .boolean) 606 5 K) (hp_v0 : am_ob v0 12) (hB : am_Bt m) (h : M_X12_isBarred v0 v1 v2 K m) : am_Z F 0 [] [(2, v0), (0, v1), (0, v2)] m 200 := by
  have G := X.G
  unfold M_X12_isBarred at h
  refine z_aload_n (nx := 1) (a := 0) G rfl (Or.inl rfl) dX12_isBarred_0 rfl (z_iload_n (nx := 2) (a := 1) G rfl dX12_isBarred_1 rfl (z_iload_n (nx := 3) (a := 2) G rfl dX12_isBarred_2 rfl ?_))
  refine b_callV9 (nx := 6) (zs := [v0, v1, v2]) (as := [(0, v1), (0, v2)]) X hB (by decide) rfl hp_v0 SS_X12_sets (am_ta (am_ti (am_ti am_tn))) (Nat.le_of_ble_eq_true rfl) (Nat.le_of_ble_eq_true rfl) ml_RX12_326 iw_X12_sets vw_X12_sets cw_X12_sets nw_RX12 pp_X12_sets (Nat.le_of_ble_eq_true rfl) dX12_isBarred_3 rfl (NM_X12_sets hp_v0 h) (fun r_1 m_2 h hB => ?_)
  refine z_aload_n (nx := 7) (a := 0) G rfl (Or.inl rfl) dX12_isBarred_6 rfl (z_iconst (nx := 8) (z := 3) G (R32c rfl) dX12_isBarred_7 rfl (z_iconst (nx := 9) (z := 0) G (R32c rfl) dX12_isBarred_8 rfl (z_iconst (nx := 10) (z := 1) G (R32c rfl) dX12_isBarred_9 rfl (z_iconst (nx := 11) (z := 0) G (R32c rfl) dX12_isBarred_10 rfl ?_))))
  refine b_callV0 (nx := 14) (zs := [v0, 3, 0, 1, 0]) (as := [(0, 3), (0, 0), (0, 1), (0, 0)]) X hB (by decide) rfl hp_v0 SS_X12_tells (am_ta (am_ti (am_ti (am_ti (am_ti am_tn))))) (Nat.le_of_ble_eq_true rfl) (Nat.le_of_ble_eq_true rfl) ml_RX12_323 iw_X12_tells vw_X12_tells cw_X12_tells nw_RX12 pp_X12_tells (Nat.le_of_ble_eq_true rfl) dX12_isBarred_11 rfl (NM_X12_tells hp_v0 h) (fun r_3 m_4 h hB => ?_)
  refine z_iconst (nx := 15) (z := 1) G (R32c rfl) dX12_isBarred_14 rfl ?_
  refine z_icmp_ne (nx := 18) (tgt := 22) G dX12_isBarred_15 (by decide) rfl (fun c => ?_) (fun c => ?_)
  · have h := h.1 c
    refine z_iconst (nx := 23) (z := 0) G (R32c rfl) dX12_isBarred_22 rfl ?_
    exact b_zreturn X hB (Or.inl rfl) dX12_isBarred_23 h
  · have h := h.2 c
    refine z_iconst (nx := 19) (z := 1) G (R32c rfl) dX12_isBarred_18 rfl (z_goto (tgt := 23) G dX12_isBarred_19 (by decide) ?_)
    exact b_zreturn X hB (Or.inr rfl) dX12_isBarred_23 h
theorem NM_X12_isBarred {v0 : Int} {v1 : Int} {v2 : Int} {K : am_KK} {m : am_M} (hp_v0 : am_ob v0 12) (h : M_X12_isBarred v0 v1 v2 K m) : N_X12_isBarred [v0, v1, v2] K m := ⟨hp_v0, h⟩
theorem SS_X12_isBarred : am_Snd yX12_isBarred cX12_isBarred 3 (some .boolean) 0 606 (am_L [2, 0, 0] 5 N_X12_isBarred) := by
  refine am_SB (by decide +kernel) (Nat.le_of_ble_eq_true rfl) (fun F zs as K m X ht hB hM => ?_)
  obtain ⟨v0, zs, as, rfl, rfl, hz0, ht⟩ := am_inv ht
  obtain ⟨v1, zs, as, rfl, rfl, hz1, ht⟩ := am_inv ht
  obtain ⟨v2, zs, as, rfl, rfl, hz2, ht⟩ := am_inv ht
  obtain ⟨rfl, rfl⟩ := am_inv0 ht
  obtain ⟨hp_v0, hM⟩ := hM
  exact S_X12_isBarred X hp_v0 hB hM
set_option maxRecDepth 20000 in
set_option maxHeartbeats 4000000 in
theorem S_X12_longOf {F : am_F} {K : am_KK} {v0 : Int} {v1 : Int} {m : am_M} (X : am_Cx F cX12_longOf RX12 (some .int) 1 0 K) (hp_v0 : am_ob v0 12) (hB : am_Bt m) (h : M_X12_longOf v0 v1 K m) : am_Z F 0 [] [(2, v0), (0, v1)] m 200 := by
  have G := X.G
  unfold M_X12_longOf at h
  refine z_iload_n (nx := 1) (a := 1) G rfl dX12_longOf_0 rfl (z_iconst (nx := 2) (z := (-1)) G (R32c rfl) dX12_longOf_1 rfl ?_)
  refine z_icmp_ne (nx := 5) (tgt := 9) G dX12_longOf_2 (by decide) rfl (fun c => ?_) (fun c => ?_)
  · have h := h.1 c
    refine z_iload_n (nx := 10) (a := 1) G rfl dX12_longOf_9 rfl (z_bipush (nx := 12) (z := 10) G (R32c rfl) rfl dX12_longOf_10 rfl ?_)
    refine z_icmp_ge (nx := 15) (tgt := 28) G dX12_longOf_12 (by decide) rfl (fun c => ?_) (fun c => ?_)
    · have h := h.1 c
      refine z_aload_n (nx := 29) (a := 0) G rfl (Or.inl rfl) dX12_longOf_28 rfl (b_getA (nx := 32) (k0 := 28) G hB fl_RX12_68 (Nat.le_of_ble_eq_true rfl) (Nat.le_of_ble_eq_true rfl) rfl hp_v0 dX12_longOf_29 rfl (z_iload_n (nx := 33) (a := 1) G rfl dX12_longOf_32 rfl (z_bipush (nx := 35) (z := 10) G (R32c rfl) rfl dX12_longOf_33 rfl (z_isub (nx := 36) G dX12_longOf_35 rfl ?_))))
      obtain ⟨hb, h⟩ := h
      refine z_iald (nx := 37) G (sh_12_28 _ hp_v0) hb.1 hb.2 dX12_longOf_36 rfl ?_
      exact b_ireturn X hB dX12_longOf_37 h
    · have h := h.2 c
      refine z_aload_n (nx := 16) (a := 0) G rfl (Or.inl rfl) dX12_longOf_15 rfl (b_getA (nx := 19) (k0 := 2) G hB fl_RX12_24 (Nat.le_of_ble_eq_true rfl) (Nat.le_of_ble_eq_true rfl) rfl hp_v0 dX12_longOf_16 rfl (z_sipush (nx := 22) (z := 170) G (R32c rfl) rfl dX12_longOf_19 rfl (z_iload_n (nx := 23) (a := 1) G rfl dX12_longOf_22 rfl (z_iadd (nx := 24) G dX12_longOf_23 rfl ?_))))
      obtain ⟨hb, h⟩ := h
      refine z_iald (nx := 25) G (sh_12_2 _ hp_v0) hb.1 hb.2 dX12_longOf_24 rfl ?_
      refine z_goto (tgt := 37) G dX12_longOf_25 (by decide) ?_
      exact b_ireturn X hB dX12_longOf_37 h
  · have h := h.2 c
    refine z_iconst (nx := 6) (z := 0) G (R32c rfl) dX12_longOf_5 rfl (z_goto (tgt := 37) G dX12_longOf_6 (by decide) ?_)
    exact b_ireturn X hB dX12_longOf_37 h
theorem NM_X12_longOf {v0 : Int} {v1 : Int} {K : am_KK} {m : am_M} (hp_v0 : am_ob v0 12) (h : M_X12_longOf v0 v1 K m) : N_X12_longOf [v0, v1] K m := ⟨hp_v0, h⟩
theorem SS_X12_longOf : am_Snd yX12_longOf cX12_longOf 2 (some .int) 0 1 (am_L [2, 0] 0 N_X12_longOf) := by
  refine am_SB (by decide +kernel) (Nat.le_of_ble_eq_true rfl) (fun F zs as K m X ht hB hM => ?_)
  obtain ⟨v0, zs, as, rfl, rfl, hz0, ht⟩ := am_inv ht
  obtain ⟨v1, zs, as, rfl, rfl, hz1, ht⟩ := am_inv ht
  obtain ⟨rfl, rfl⟩ := am_inv0 ht
  obtain ⟨hp_v0, hM⟩ := hM
  exact S_X12_longOf X hp_v0 hB hM
set_option maxRecDepth 20000 in
set_option maxHeartbeats 4000000 in
theorem S_X12_takesOf {F : am_F} {K : am_KK} {v0 : Int} {v1 : Int} {m : am_M} (X : am_Cx F cX12_takesOf RX12 (some .int) 1 0 K) (hp_v0 : am_ob v0 12) (hB : am_Bt m) (h : M_X12_takesOf v0 v1 K m) : am_Z F 0 [] [(2, v0), (0, v1)] m 200 := by
  have G := X.G
  unfold M_X12_takesOf at h
  refine z_iload_n (nx := 1) (a := 1) G rfl dX12_takesOf_0 rfl (z_bipush (nx := 3) (z := 10) G (R32c rfl) rfl dX12_takesOf_1 rfl ?_)
  refine z_icmp_ge (nx := 6) (tgt := 10) G dX12_takesOf_3 (by decide) rfl (fun c => ?_) (fun c => ?_)
  · have h := h.1 c
    refine z_aload_n (nx := 11) (a := 0) G rfl (Or.inl rfl) dX12_takesOf_10 rfl (b_getA (nx := 14) (k0 := 29) G hB fl_RX12_71 (Nat.le_of_ble_eq_true rfl) (Nat.le_of_ble_eq_true rfl) rfl hp_v0 dX12_takesOf_11 rfl (z_iload_n (nx := 15) (a := 1) G rfl dX12_takesOf_14 rfl (z_bipush (nx := 17) (z := 10) G (R32c rfl) rfl dX12_takesOf_15 rfl (z_isub (nx := 18) G dX12_takesOf_17 rfl ?_))))
    obtain ⟨hb, h⟩ := h
    refine z_iald (nx := 19) G (sh_12_29 _ hp_v0) hb.1 hb.2 dX12_takesOf_18 rfl ?_
    exact b_ireturn X hB dX12_takesOf_19 h
  · have h := h.2 c
    refine z_iconst (nx := 7) (z := 0) G (R32c rfl) dX12_takesOf_6 rfl (z_goto (tgt := 19) G dX12_takesOf_7 (by decide) ?_)
    exact b_ireturn X hB dX12_takesOf_19 h
theorem NM_X12_takesOf {v0 : Int} {v1 : Int} {K : am_KK} {m : am_M} (hp_v0 : am_ob v0 12) (h : M_X12_takesOf v0 v1 K m) : N_X12_takesOf [v0, v1] K m := ⟨hp_v0, h⟩
theorem SS_X12_takesOf : am_Snd yX12_takesOf cX12_takesOf 2 (some .int) 0 1 (am_L [2, 0] 0 N_X12_takesOf) := by
  refine am_SB (by decide +kernel) (Nat.le_of_ble_eq_true rfl) (fun F zs as K m X ht hB hM => ?_)
  obtain ⟨v0, zs, as, rfl, rfl, hz0, ht⟩ := am_inv ht
  obtain ⟨v1, zs, as, rfl, rfl, hz1, ht⟩ := am_inv ht
  obtain ⟨rfl, rfl⟩ := am_inv0 ht
  obtain ⟨hp_v0, hM⟩ := hM
  exact S_X12_takesOf X hp_v0 hB hM
set_option maxRecDepth 20000 in
set_option maxHeartbeats 4000000 in
theorem S_X12_wordsOf {F : am_F} {K : am_KK} {v0 : Int} {v1 : Int} {m : am_M} (X : am_Cx F cX12_wordsOf RX12 (some .int) 1 0 K) (hp_v0 : am_ob v0 12) (hB : am_Bt m) (h : M_X12_wordsOf v0 v1 K m) : am_Z F 0 [] [(2, v0), (0, v1)] m 200 := by
  have G := X.G
  unfold M_X12_wordsOf at h
  refine z_iload_n (nx := 1) (a := 1) G rfl dX12_wordsOf_0 rfl (z_iconst (nx := 2) (z := (-1)) G (R32c rfl) dX12_wordsOf_1 rfl ?_)
  refine z_icmp_ne (nx := 5) (tgt := 9) G dX12_wordsOf_2 (by decide) rfl (fun c => ?_) (fun c => ?_)
  · have h := h.1 c
    refine z_iload_n (nx := 10) (a := 1) G rfl dX12_wordsOf_9 rfl (z_bipush (nx := 12) (z := 10) G (R32c rfl) rfl dX12_wordsOf_10 rfl ?_)
    refine z_icmp_ge (nx := 15) (tgt := 19) G dX12_wordsOf_12 (by decide) rfl (fun c => ?_) (fun c => ?_)
    · have h := h.1 c
      refine z_aload_n (nx := 20) (a := 0) G rfl (Or.inl rfl) dX12_wordsOf_19 rfl (b_getA (nx := 23) (k0 := 31) G hB fl_RX12_77 (Nat.le_of_ble_eq_true rfl) (Nat.le_of_ble_eq_true rfl) rfl hp_v0 dX12_wordsOf_20 rfl (z_iload_n (nx := 24) (a := 1) G rfl dX12_wordsOf_23 rfl (z_bipush (nx := 26) (z := 10) G (R32c rfl) rfl dX12_wordsOf_24 rfl (z_isub (nx := 27) G dX12_wordsOf_26 rfl ?_))))
      obtain ⟨hb, h⟩ := h
      refine z_iald (nx := 28) G (sh_12_31 _ hp_v0) hb.1 hb.2 dX12_wordsOf_27 rfl ?_
      exact b_ireturn X hB dX12_wordsOf_28 h
    · have h := h.2 c
      refine z_iconst (nx := 16) (z := 1) G (R32c rfl) dX12_wordsOf_15 rfl (z_goto (tgt := 28) G dX12_wordsOf_16 (by decide) ?_)
      exact b_ireturn X hB dX12_wordsOf_28 h
  · have h := h.2 c
    refine z_iconst (nx := 6) (z := 0) G (R32c rfl) dX12_wordsOf_5 rfl (z_goto (tgt := 28) G dX12_wordsOf_6 (by decide) ?_)
    exact b_ireturn X hB dX12_wordsOf_28 h
theorem NM_X12_wordsOf {v0 : Int} {v1 : Int} {K : am_KK} {m : am_M} (hp_v0 : am_ob v0 12) (h : M_X12_wordsOf v0 v1 K m) : N_X12_wordsOf [v0, v1] K m := ⟨hp_v0, h⟩
theorem SS_X12_wordsOf : am_Snd yX12_wordsOf cX12_wordsOf 2 (some .int) 0 1 (am_L [2, 0] 0 N_X12_wordsOf) := by
  refine am_SB (by decide +kernel) (Nat.le_of_ble_eq_true rfl) (fun F zs as K m X ht hB hM => ?_)
  obtain ⟨v0, zs, as, rfl, rfl, hz0, ht⟩ := am_inv ht
  obtain ⟨v1, zs, as, rfl, rfl, hz1, ht⟩ := am_inv ht
  obtain ⟨rfl, rfl⟩ := am_inv0 ht
  obtain ⟨hp_v0, hM⟩ := hM
  exact S_X12_wordsOf X hp_v0 hB hM
set_option maxRecDepth 20000 in
set_option maxHeartbeats 4000000 in
theorem S_X12_sum_J2 {F : am_F} {K : am_KK} {v0 : Int} {v1 : Int} {v3 : Int} {s0 : Int} {C4 : Int → Int → am_M → Prop} {m : am_M} (X : am_Cx F cX12_sum RX12 (some .int) 2 0 K) (hp_v0 : am_ob v0 12) (hC4 : ∀ w2 w3 m, C4 w2 w3 m → am_Bt m → am_Z F 4 [] [(2, v0), (0, v1), (0, w2), (0, w3), (9, 0)] m 200) (hB : am_Bt m) (h : M_X12_sum_J2 v0 v1 v3 s0 C4 K m) : am_Z F 54 [(0, s0)] [(2, v0), (0, v1), (9, 0), (0, v3), (9, 0)] m 200 := by
  have G := X.G
  unfold M_X12_sum_J2 at h
  refine b_storeE_n (nx := 55) (a := 2) (loc2 := [(2, v0), (0, v1), (0, s0), (0, v3), (9, 0)]) G rfl (Nat.le_of_ble_eq_true rfl) (am_pl1 rfl (fun h => nomatch h)) dX12_sum_54 rfl ?_
  refine b_iinc (nx := 58) (a := 3) (loc2 := fun v3_1 => [(2, v0), (0, v1), (0, s0), (0, v3_1), (9, 0)]) G (fun _ => rfl) rfl (am_pl1 rfl (fun h => nomatch h)) dX12_sum_55 rfl (fun v3_1 e_v3_1 => ?_)
  have h := h v3_1 e_v3_1
  refine z_goto (tgt := 4) G dX12_sum_58 (by decide) ?_
  exact b_fewer (loc2 := [(2, v0), (0, v1), (0, s0), (0, v3_1), (9, 0)]) (am_lk (am_lk (am_lk (am_lk (am_lk am_ln))))) (hC4 _ _ _ h hB)
set_option maxRecDepth 20000 in
set_option maxHeartbeats 4000000 in
theorem S_X12_sum_J1 {F : am_F} {K : am_KK} {v0 : Int} {v1 : Int} {v3 : Int} {C4 : Int → Int → am_M → Prop} {m : am_M} (X : am_Cx F cX12_sum RX12 (some .int) 2 0 K) (hp_v0 : am_ob v0 12) (hC4 : ∀ w2 w3 m, C4 w2 w3 m → am_Bt m → am_Z F 4 [] [(2, v0), (0, v1), (0, w2), (0, w3), (9, 0)] m 200) (hB : am_Bt m) (h : M_X12_sum_J1 v0 v1 v3 C4 K m) : am_Z F 44 [] [(2, v0), (0, v1), (9, 0), (0, v3), (9, 0)] m 200 := by
  have G := X.G
  unfold M_X12_sum_J1 at h
  refine z_ldcw (nx := 47) (z := 1000000000) G (R32c rfl) rfl kw_RX12_329 dX12_sum_44 rfl (z_goto (tgt := 54) G dX12_sum_47 (by decide) ?_)
  exact b_fewer (loc2 := [(2, v0), (0, v1), (9, 0), (0, v3), (9, 0)]) (am_lk (am_lk (am_lk (am_lk (am_lk am_ln))))) (S_X12_sum_J2 X hp_v0 hC4 hB h)
set_option maxRecDepth 20000 in
set_option maxHeartbeats 4000000 in
theorem S_X12_sum_L1B {F : am_F} {K : am_KK} {v0 : Int} {v1 : Int} {v2 : Int} {v3 : Int} {C4 : Int → Int → am_M → Prop} {m : am_M} (X : am_Cx F cX12_sum RX12 (some .int) 2 0 K) (hp_v0 : am_ob v0 12) (hC4 : ∀ w2 w3 m, C4 w2 w3 m → am_Bt m → am_Z F 4 [] [(2, v0), (0, v1), (0, w2), (0, w3), (9, 0)] m 200) (hB : am_Bt m) (h : M_X12_sum_L1B v0 v1 v2 v3 C4 K m) : am_Z F 4 [] [(2, v0), (0, v1), (0, v2), (0, v3), (9, 0)] m 200 := by
  have G := X.G
  unfold M_X12_sum_L1B at h
  refine z_iload_n (nx := 5) (a := 3) G rfl dX12_sum_4 rfl (z_iconst (nx := 6) (z := 4) G (R32c rfl) dX12_sum_5 rfl ?_)
  refine z_icmp_ge (nx := 9) (tgt := 61) G dX12_sum_6 (by decide) rfl (fun c => ?_) (fun c => ?_)
  · have h := h.1 c
    refine z_iload_n (nx := 62) (a := 2) G rfl dX12_sum_61 rfl ?_
    exact b_ireturn X hB dX12_sum_62 h
  · have h := h.2 c
    refine z_aload_n (nx := 10) (a := 0) G rfl (Or.inl rfl) dX12_sum_9 rfl (z_aload_n (nx := 11) (a := 0) G rfl (Or.inl rfl) dX12_sum_10 rfl (b_getA (nx := 14) (k0 := 2) G hB fl_RX12_24 (Nat.le_of_ble_eq_true rfl) (Nat.le_of_ble_eq_true rfl) rfl hp_v0 dX12_sum_11 rfl (z_sipush (nx := 17) (z := 180) G (R32c rfl) rfl dX12_sum_14 rfl (z_iconst (nx := 18) (z := 4) G (R32c rfl) dX12_sum_17 rfl (z_iload_n (nx := 19) (a := 1) G rfl dX12_sum_18 rfl (z_imul (nx := 20) G dX12_sum_19 rfl (z_iadd (nx := 21) G dX12_sum_20 rfl (z_iload_n (nx := 22) (a := 3) G rfl dX12_sum_21 rfl (z_iadd (nx := 23) G dX12_sum_22 rfl ?_)))))))))
    obtain ⟨hb, h⟩ := h
    refine z_iald (nx := 24) G (sh_12_2 _ hp_v0) hb.1 hb.2 dX12_sum_23 rfl ?_
    refine b_callV0 (nx := 27) (zs := [v0, m (am_rfv v0 2) (w32 ((w32 (180 + (w32 (4 * v1)))) + v3))]) (as := [(0, m (am_rfv v0 2) (w32 ((w32 (180 + (w32 (4 * v1)))) + v3)))]) X hB (by decide) rfl hp_v0 SS_X12_longOf (am_ta (am_ti am_tn)) (Nat.le_of_ble_eq_true rfl) (Nat.le_of_ble_eq_true rfl) ml_RX12_342 iw_X12_longOf vw_X12_longOf cw_X12_longOf nw_RX12 pp_X12_longOf (Nat.le_of_ble_eq_true rfl) dX12_sum_24 rfl (NM_X12_longOf hp_v0 h) (fun r_2 m_3 h hB => ?_)
    refine b_storeE (nx := 29) (a := 4) (loc2 := [(2, v0), (0, v1), (0, v2), (0, v3), (0, r_2)]) G rfl (Nat.le_of_ble_eq_true rfl) (am_pl1 rfl (fun h => nomatch h)) dX12_sum_27 rfl (z_iload (nx := 31) (a := 4) G rfl dX12_sum_29 rfl (z_ldcw (nx := 34) (z := 1000000000) G (R32c rfl) rfl kw_RX12_329 dX12_sum_31 rfl ?_))
    refine z_icmp_ge (nx := 37) (tgt := 44) G dX12_sum_34 (by decide) rfl (fun c => ?_) (fun c => ?_)
    · have h := h.1 c
      exact b_fewer (loc2 := [(2, v0), (0, v1), (9, 0), (0, v3), (9, 0)]) (am_lk (am_lk (am_lf (am_lk (am_lf am_ln))))) (S_X12_sum_J1 X hp_v0 hC4 hB h)
    · have h := h.2 c
      refine z_iload_n (nx := 38) (a := 2) G rfl dX12_sum_37 rfl (z_ldcw (nx := 41) (z := 1000000000) G (R32c rfl) rfl kw_RX12_329 dX12_sum_38 rfl ?_)
      refine z_icmp_lt (nx := 44) (tgt := 50) G dX12_sum_41 (by decide) rfl (fun c => ?_) (fun c => ?_)
      · have h := h.1 c
        refine z_iload_n (nx := 51) (a := 2) G rfl dX12_sum_50 rfl (z_iload (nx := 53) (a := 4) G rfl dX12_sum_51 rfl (z_iadd (nx := 54) G dX12_sum_53 rfl ?_))
        exact b_fewer (loc2 := [(2, v0), (0, v1), (9, 0), (0, v3), (9, 0)]) (am_lk (am_lk (am_lf (am_lk (am_lf am_ln))))) (S_X12_sum_J2 X hp_v0 hC4 hB h)
      · have h := h.2 c
        exact b_fewer (loc2 := [(2, v0), (0, v1), (9, 0), (0, v3), (9, 0)]) (am_lk (am_lk (am_lf (am_lk (am_lf am_ln))))) (S_X12_sum_J1 X hp_v0 hC4 hB h)
theorem S_X12_sum_L1 {F : am_F} {K : am_KK} {v0 : Int} {v1 : Int} {v2 : Int} {v3 : Int} {m : am_M} (X : am_Cx F cX12_sum RX12 (some .int) 2 0 K) (hp_v0 : am_ob v0 12) (hB : am_Bt m) (h : M_X12_sum_L1 v0 v1 v2 v3 K m) : am_Z F 4 [] [(2, v0), (0, v1), (0, v2), (0, v3), (9, 0)] m 200 := by
  obtain ⟨I, ⟨j, hj⟩, hI⟩ := h
  have key : ∀ j v2 v3 m, I j v2 v3 m → am_Bt m → am_Z F 4 [] [(2, v0), (0, v1), (0, v2), (0, v3), (9, 0)] m 200 := by
    intro j
    induction j using Nat.strongRecOn with
    | ind j ih =>
      intro v2 v3 m hj hB
      exact S_X12_sum_L1B X hp_v0 (fun v2' v3' m' hc hB' => by
        obtain ⟨j', g1, g2⟩ := hc
        exact ih j' g1 v2' v3' m' g2 hB') hB (hI j v2 v3 m hj)
  exact key j _ _ _ hj hB
set_option maxRecDepth 20000 in
set_option maxHeartbeats 4000000 in
theorem S_X12_sum {F : am_F} {K : am_KK} {v0 : Int} {v1 : Int} {m : am_M} (X : am_Cx F cX12_sum RX12 (some .int) 2 0 K) (hp_v0 : am_ob v0 12) (hB : am_Bt m) (h : M_X12_sum v0 v1 K m) : am_Z F 0 [] [(2, v0), (0, v1), (9, 0), (9, 0), (9, 0)] m 200 := by
  have G := X.G
  unfold M_X12_sum at h
  refine z_iconst (nx := 1) (z := 0) G (R32c rfl) dX12_sum_0 rfl (b_storeE_n (nx := 2) (a := 2) (loc2 := [(2, v0), (0, v1), (0, 0), (9, 0), (9, 0)]) G rfl (Nat.le_of_ble_eq_true rfl) (am_pl1 rfl (fun h => nomatch h)) dX12_sum_1 rfl (z_iconst (nx := 3) (z := 1) G (R32c rfl) dX12_sum_2 rfl (b_storeE_n (nx := 4) (a := 3) (loc2 := [(2, v0), (0, v1), (0, 0), (0, 1), (9, 0)]) G rfl (Nat.le_of_ble_eq_true rfl) (am_pl1 rfl (fun h => nomatch h)) dX12_sum_3 rfl ?_)))
  exact b_fewer (loc2 := [(2, v0), (0, v1), (0, 0), (0, 1), (9, 0)]) (am_lk (am_lk (am_lk (am_lk (am_lk am_ln))))) (S_X12_sum_L1 X hp_v0 hB h)
theorem NM_X12_sum {v0 : Int} {v1 : Int} {K : am_KK} {m : am_M} (hp_v0 : am_ob v0 12) (h : M_X12_sum v0 v1 K m) : N_X12_sum [v0, v1] K m := ⟨hp_v0, h⟩
theorem SS_X12_sum : am_Snd yX12_sum cX12_sum 5 (some .int) 0 2 (am_L [2, 0] 0 N_X12_sum) := by
  refine am_SB (by decide +kernel) (Nat.le_of_ble_eq_true rfl) (fun F zs as K m X ht hB hM => ?_)
  obtain ⟨v0, zs, as, rfl, rfl, hz0, ht⟩ := am_inv ht
  obtain ⟨v1, zs, as, rfl, rfl, hz1, ht⟩ := am_inv ht
  obtain ⟨rfl, rfl⟩ := am_inv0 ht
  obtain ⟨hp_v0, hM⟩ := hM
  exact S_X12_sum X hp_v0 hB hM
set_option maxRecDepth 20000 in
set_option maxHeartbeats 4000000 in
theorem S_X12_rulesOf {F : am_F} {K : am_KK} {v0 : Int} {v1 : Int} {m : am_M} (X : am_Cx F cX12_rulesOf RX12 (some .int) 2 0 K) (hp_v0 : am_ob v0 12) (hB : am_Bt m) (h : M_X12_rulesOf v0 v1 K m) : am_Z F 0 [] [(2, v0), (0, v1)] m 200 := by
  have G := X.G
  unfold M_X12_rulesOf at h
  refine z_iconst (nx := 1) (z := 1) G (R32c rfl) dX12_rulesOf_0 rfl (z_aload_n (nx := 2) (a := 0) G rfl (Or.inl rfl) dX12_rulesOf_1 rfl (z_aload_n (nx := 3) (a := 0) G rfl (Or.inl rfl) dX12_rulesOf_2 rfl (b_getA (nx := 6) (k0 := 2) G hB fl_RX12_24 (Nat.le_of_ble_eq_true rfl) (Nat.le_of_ble_eq_true rfl) rfl hp_v0 dX12_rulesOf_3 rfl (z_sipush (nx := 9) (z := 180) G (R32c rfl) rfl dX12_rulesOf_6 rfl (z_iconst (nx := 10) (z := 4) G (R32c rfl) dX12_rulesOf_9 rfl (z_iload_n (nx := 11) (a := 1) G rfl dX12_rulesOf_10 rfl (z_imul (nx := 12) G dX12_rulesOf_11 rfl (z_iadd (nx := 13) G dX12_rulesOf_12 rfl (z_iconst (nx := 14) (z := 1) G (R32c rfl) dX12_rulesOf_13 rfl (z_iadd (nx := 15) G dX12_rulesOf_14 rfl ?_))))))))))
  obtain ⟨hb, h⟩ := h
  refine z_iald (nx := 16) G (sh_12_2 _ hp_v0) hb.1 hb.2 dX12_rulesOf_15 rfl ?_
  refine b_callV0 (nx := 19) (zs := [v0, m (am_rfv v0 2) (w32 ((w32 (180 + (w32 (4 * v1)))) + 1))]) (as := [(0, m (am_rfv v0 2) (w32 ((w32 (180 + (w32 (4 * v1)))) + 1)))]) X hB (by decide) rfl hp_v0 SS_X12_takesOf (am_ta (am_ti am_tn)) (Nat.le_of_ble_eq_true rfl) (Nat.le_of_ble_eq_true rfl) ml_RX12_345 iw_X12_takesOf vw_X12_takesOf cw_X12_takesOf nw_RX12 pp_X12_takesOf (Nat.le_of_ble_eq_true rfl) dX12_rulesOf_16 rfl (NM_X12_takesOf hp_v0 h) (fun r_1 m_2 h hB => ?_)
  refine z_iadd (nx := 20) G dX12_rulesOf_19 rfl (z_aload_n (nx := 21) (a := 0) G rfl (Or.inl rfl) dX12_rulesOf_20 rfl (z_aload_n (nx := 22) (a := 0) G rfl (Or.inl rfl) dX12_rulesOf_21 rfl (b_getA (nx := 25) (k0 := 2) G hB fl_RX12_24 (Nat.le_of_ble_eq_true rfl) (Nat.le_of_ble_eq_true rfl) rfl hp_v0 dX12_rulesOf_22 rfl (z_sipush (nx := 28) (z := 180) G (R32c rfl) rfl dX12_rulesOf_25 rfl (z_iconst (nx := 29) (z := 4) G (R32c rfl) dX12_rulesOf_28 rfl (z_iload_n (nx := 30) (a := 1) G rfl dX12_rulesOf_29 rfl (z_imul (nx := 31) G dX12_rulesOf_30 rfl (z_iadd (nx := 32) G dX12_rulesOf_31 rfl (z_iconst (nx := 33) (z := 2) G (R32c rfl) dX12_rulesOf_32 rfl (z_iadd (nx := 34) G dX12_rulesOf_33 rfl ?_))))))))))
  obtain ⟨hb, h⟩ := h
  refine z_iald (nx := 35) G (sh_12_2 _ hp_v0) hb.1 hb.2 dX12_rulesOf_34 rfl ?_
  refine b_callV0 (nx := 38) (zs := [v0, m_2 (am_rfv v0 2) (w32 ((w32 (180 + (w32 (4 * v1)))) + 2))]) (as := [(0, m_2 (am_rfv v0 2) (w32 ((w32 (180 + (w32 (4 * v1)))) + 2)))]) X hB (by decide) rfl hp_v0 SS_X12_takesOf (am_ta (am_ti am_tn)) (Nat.le_of_ble_eq_true rfl) (Nat.le_of_ble_eq_true rfl) ml_RX12_345 iw_X12_takesOf vw_X12_takesOf cw_X12_takesOf nw_RX12 pp_X12_takesOf (Nat.le_of_ble_eq_true rfl) dX12_rulesOf_35 rfl (NM_X12_takesOf hp_v0 h) (fun r_3 m_4 h hB => ?_)
  refine z_iadd (nx := 39) G dX12_rulesOf_38 rfl (z_aload_n (nx := 40) (a := 0) G rfl (Or.inl rfl) dX12_rulesOf_39 rfl (z_aload_n (nx := 41) (a := 0) G rfl (Or.inl rfl) dX12_rulesOf_40 rfl (b_getA (nx := 44) (k0 := 2) G hB fl_RX12_24 (Nat.le_of_ble_eq_true rfl) (Nat.le_of_ble_eq_true rfl) rfl hp_v0 dX12_rulesOf_41 rfl (z_sipush (nx := 47) (z := 180) G (R32c rfl) rfl dX12_rulesOf_44 rfl (z_iconst (nx := 48) (z := 4) G (R32c rfl) dX12_rulesOf_47 rfl (z_iload_n (nx := 49) (a := 1) G rfl dX12_rulesOf_48 rfl (z_imul (nx := 50) G dX12_rulesOf_49 rfl (z_iadd (nx := 51) G dX12_rulesOf_50 rfl (z_iconst (nx := 52) (z := 3) G (R32c rfl) dX12_rulesOf_51 rfl (z_iadd (nx := 53) G dX12_rulesOf_52 rfl ?_))))))))))
  obtain ⟨hb, h⟩ := h
  refine z_iald (nx := 54) G (sh_12_2 _ hp_v0) hb.1 hb.2 dX12_rulesOf_53 rfl ?_
  refine b_callV0 (nx := 57) (zs := [v0, m_4 (am_rfv v0 2) (w32 ((w32 (180 + (w32 (4 * v1)))) + 3))]) (as := [(0, m_4 (am_rfv v0 2) (w32 ((w32 (180 + (w32 (4 * v1)))) + 3)))]) X hB (by decide) rfl hp_v0 SS_X12_takesOf (am_ta (am_ti am_tn)) (Nat.le_of_ble_eq_true rfl) (Nat.le_of_ble_eq_true rfl) ml_RX12_345 iw_X12_takesOf vw_X12_takesOf cw_X12_takesOf nw_RX12 pp_X12_takesOf (Nat.le_of_ble_eq_true rfl) dX12_rulesOf_54 rfl (NM_X12_takesOf hp_v0 h) (fun r_5 m_6 h hB => ?_)
  refine z_iadd (nx := 58) G dX12_rulesOf_57 rfl ?_
  exact b_ireturn X hB dX12_rulesOf_58 h
theorem NM_X12_rulesOf {v0 : Int} {v1 : Int} {K : am_KK} {m : am_M} (hp_v0 : am_ob v0 12) (h : M_X12_rulesOf v0 v1 K m) : N_X12_rulesOf [v0, v1] K m := ⟨hp_v0, h⟩
theorem SS_X12_rulesOf : am_Snd yX12_rulesOf cX12_rulesOf 2 (some .int) 0 2 (am_L [2, 0] 0 N_X12_rulesOf) := by
  refine am_SB (by decide +kernel) (Nat.le_of_ble_eq_true rfl) (fun F zs as K m X ht hB hM => ?_)
  obtain ⟨v0, zs, as, rfl, rfl, hz0, ht⟩ := am_inv ht
  obtain ⟨v1, zs, as, rfl, rfl, hz1, ht⟩ := am_inv ht
  obtain ⟨rfl, rfl⟩ := am_inv0 ht
  obtain ⟨hp_v0, hM⟩ := hM
  exact S_X12_rulesOf X hp_v0 hB hM
set_option maxRecDepth 20000 in
set_option maxHeartbeats 4000000 in
theorem S_X12_shortens_J1 {F : am_F} {K : am_KK} {v0 : Int} {v1 : Int} {v2 : Int} {v3 : Int} {m : am_M} (X : am_Cx F cX12_shortens RX12 (some .boolean) 3 5 K) (hp_v0 : am_ob v0 12) (hB : am_Bt m) (h : M_X12_shortens_J1 v0 v1 v2 v3 K m) : am_Z F 62 [] [(2, v0), (0, v1), (0, v2), (0, v3)] m 200 := by
  have G := X.G
  unfold M_X12_shortens_J1 at h
  refine z_aload_n (nx := 63) (a := 0) G rfl (Or.inl rfl) dX12_shortens_62 rfl (b_getA (nx := 66) (k0 := 28) G hB fl_RX12_68 (Nat.le_of_ble_eq_true rfl) (Nat.le_of_ble_eq_true rfl) rfl hp_v0 dX12_shortens_63 rfl (z_iload_n (nx := 67) (a := 2) G rfl dX12_shortens_66 rfl (z_iload_n (nx := 68) (a := 3) G rfl dX12_shortens_67 rfl ?_)))
  obtain ⟨hb, h⟩ := h
  refine b_iast (nx := 69) G hB (sh_12_28 _ hp_v0) hb.1 hb.2 dX12_shortens_68 rfl (fun m_1 e_m_1 hB => ?_)
  have h := h m_1 e_m_1
  refine z_aload_n (nx := 70) (a := 0) G rfl (Or.inl rfl) dX12_shortens_69 rfl (b_getA (nx := 73) (k0 := 29) G hB fl_RX12_71 (Nat.le_of_ble_eq_true rfl) (Nat.le_of_ble_eq_true rfl) rfl hp_v0 dX12_shortens_70 rfl (z_iload_n (nx := 74) (a := 2) G rfl dX12_shortens_73 rfl (z_aload_n (nx := 75) (a := 0) G rfl (Or.inl rfl) dX12_shortens_74 rfl (z_iload_n (nx := 76) (a := 1) G rfl dX12_shortens_75 rfl ?_))))
  refine b_callV0 (nx := 79) (zs := [v0, v1]) (as := [(0, v1)]) X hB (by decide) rfl hp_v0 SS_X12_rulesOf (am_ta (am_ti am_tn)) (Nat.le_of_ble_eq_true rfl) (Nat.le_of_ble_eq_true rfl) ml_RX12_336 iw_X12_rulesOf vw_X12_rulesOf cw_X12_rulesOf nw_RX12 pp_X12_rulesOf (Nat.le_of_ble_eq_true rfl) dX12_shortens_76 rfl (NM_X12_rulesOf hp_v0 h) (fun r_2 m_3 h hB => ?_)
  obtain ⟨hb, h⟩ := h
  refine b_iast (nx := 80) G hB (sh_12_29 _ hp_v0) hb.1 hb.2 dX12_shortens_79 rfl (fun m_4 e_m_4 hB => ?_)
  have h := h m_4 e_m_4
  refine z_iconst (nx := 81) (z := 1) G (R32c rfl) dX12_shortens_80 rfl ?_
  exact b_zreturn X hB (Or.inr rfl) dX12_shortens_81 h
set_option maxRecDepth 20000 in
set_option maxHeartbeats 4000000 in
theorem S_X12_shortens {F : am_F} {K : am_KK} {v0 : Int} {v1 : Int} {m : am_M} (X : am_Cx F cX12_shortens RX12 (some .boolean) 3 5 K) (hp_v0 : am_ob v0 12) (hB : am_Bt m) (h : M_X12_shortens v0 v1 K m) : am_Z F 0 [] [(2, v0), (0, v1), (9, 0), (9, 0)] m 200 := by
  have G := X.G
  unfold M_X12_shortens at h
  refine z_aload_n (nx := 1) (a := 0) G rfl (Or.inl rfl) dX12_shortens_0 rfl (b_getA (nx := 4) (k0 := 2) G hB fl_RX12_24 (Nat.le_of_ble_eq_true rfl) (Nat.le_of_ble_eq_true rfl) rfl hp_v0 dX12_shortens_1 rfl (z_sipush (nx := 7) (z := 180) G (R32c rfl) rfl dX12_shortens_4 rfl (z_iconst (nx := 8) (z := 4) G (R32c rfl) dX12_shortens_7 rfl (z_iload_n (nx := 9) (a := 1) G rfl dX12_shortens_8 rfl (z_imul (nx := 10) G dX12_shortens_9 rfl (z_iadd (nx := 11) G dX12_shortens_10 rfl ?_))))))
  obtain ⟨hb, h⟩ := h
  refine z_iald (nx := 12) G (sh_12_2 _ hp_v0) hb.1 hb.2 dX12_shortens_11 rfl ?_
  refine b_store_n (nx := 13) (a := 2) (loc2 := fun v2_5 => [(2, v0), (0, v1), (0, v2_5), (9, 0)]) G (fun _ => rfl) (Nat.le_of_ble_eq_true rfl) (am_pl1 rfl (fun h => nomatch h)) dX12_shortens_12 rfl (fun v2_5 e_v2_5 => ?_)
  have h := h v2_5 e_v2_5
  refine z_aload_n (nx := 14) (a := 0) G rfl (Or.inl rfl) dX12_shortens_13 rfl (z_iload_n (nx := 15) (a := 1) G rfl dX12_shortens_14 rfl ?_)
  refine b_callV0 (nx := 18) (zs := [v0, v1]) (as := [(0, v1)]) X hB (by decide) rfl hp_v0 SS_X12_sum (am_ta (am_ti am_tn)) (Nat.le_of_ble_eq_true rfl) (Nat.le_of_ble_eq_true rfl) ml_RX12_333 iw_X12_sum vw_X12_sum cw_X12_sum nw_RX12 pp_X12_sum (Nat.le_of_ble_eq_true rfl) dX12_shortens_15 rfl (NM_X12_sum hp_v0 h) (fun r_6 m_7 h hB => ?_)
  refine b_storeE_n (nx := 19) (a := 3) (loc2 := [(2, v0), (0, v1), (0, v2_5), (0, r_6)]) G rfl (Nat.le_of_ble_eq_true rfl) (am_pl1 rfl (fun h => nomatch h)) dX12_shortens_18 rfl (z_iload_n (nx := 20) (a := 3) G rfl dX12_shortens_19 rfl (z_ldcw (nx := 23) (z := 1000000000) G (R32c rfl) rfl kw_RX12_329 dX12_shortens_20 rfl ?_))
  refine z_icmp_ge (nx := 26) (tgt := 60) G dX12_shortens_23 (by decide) rfl (fun c => ?_) (fun c => ?_)
  · have h := h.1 c
    refine z_iconst (nx := 61) (z := 0) G (R32c rfl) dX12_shortens_60 rfl ?_
    exact b_zreturn X hB (Or.inl rfl) dX12_shortens_61 h
  · have h := h.2 c
    refine z_iload_n (nx := 27) (a := 3) G rfl dX12_shortens_26 rfl (z_aload_n (nx := 28) (a := 0) G rfl (Or.inl rfl) dX12_shortens_27 rfl (b_getA (nx := 31) (k0 := 28) G hB fl_RX12_68 (Nat.le_of_ble_eq_true rfl) (Nat.le_of_ble_eq_true rfl) rfl hp_v0 dX12_shortens_28 rfl (z_iload_n (nx := 32) (a := 2) G rfl dX12_shortens_31 rfl ?_)))
    obtain ⟨hb, h⟩ := h
    refine z_iald (nx := 33) G (sh_12_28 _ hp_v0) hb.1 hb.2 dX12_shortens_32 rfl ?_
    refine z_icmp_gt (nx := 36) (tgt := 60) G dX12_shortens_33 (by decide) rfl (fun c => ?_) (fun c => ?_)
    · have h := h.1 c
      refine z_iconst (nx := 61) (z := 0) G (R32c rfl) dX12_shortens_60 rfl ?_
      exact b_zreturn X hB (Or.inl rfl) dX12_shortens_61 h
    · have h := h.2 c
      refine z_iload_n (nx := 37) (a := 3) G rfl dX12_shortens_36 rfl (z_aload_n (nx := 38) (a := 0) G rfl (Or.inl rfl) dX12_shortens_37 rfl (b_getA (nx := 41) (k0 := 28) G hB fl_RX12_68 (Nat.le_of_ble_eq_true rfl) (Nat.le_of_ble_eq_true rfl) rfl hp_v0 dX12_shortens_38 rfl (z_iload_n (nx := 42) (a := 2) G rfl dX12_shortens_41 rfl ?_)))
      obtain ⟨hb, h⟩ := h
      refine z_iald (nx := 43) G (sh_12_28 _ hp_v0) hb.1 hb.2 dX12_shortens_42 rfl ?_
      refine z_icmp_ne (nx := 46) (tgt := 62) G dX12_shortens_43 (by decide) rfl (fun c => ?_) (fun c => ?_)
      · have h := h.1 c
        exact b_fewer (loc2 := [(2, v0), (0, v1), (0, v2_5), (0, r_6)]) (am_lk (am_lk (am_lk (am_lk am_ln)))) (S_X12_shortens_J1 X hp_v0 hB h)
      · have h := h.2 c
        refine z_aload_n (nx := 47) (a := 0) G rfl (Or.inl rfl) dX12_shortens_46 rfl (z_iload_n (nx := 48) (a := 1) G rfl dX12_shortens_47 rfl ?_)
        refine b_callV0 (nx := 51) (zs := [v0, v1]) (as := [(0, v1)]) X hB (by decide) rfl hp_v0 SS_X12_rulesOf (am_ta (am_ti am_tn)) (Nat.le_of_ble_eq_true rfl) (Nat.le_of_ble_eq_true rfl) ml_RX12_336 iw_X12_rulesOf vw_X12_rulesOf cw_X12_rulesOf nw_RX12 pp_X12_rulesOf (Nat.le_of_ble_eq_true rfl) dX12_shortens_48 rfl (NM_X12_rulesOf hp_v0 h) (fun r_8 m_9 h hB => ?_)
        refine z_aload_n (nx := 52) (a := 0) G rfl (Or.inl rfl) dX12_shortens_51 rfl (b_getA (nx := 55) (k0 := 29) G hB fl_RX12_71 (Nat.le_of_ble_eq_true rfl) (Nat.le_of_ble_eq_true rfl) rfl hp_v0 dX12_shortens_52 rfl (z_iload_n (nx := 56) (a := 2) G rfl dX12_shortens_55 rfl ?_))
        obtain ⟨hb, h⟩ := h
        refine z_iald (nx := 57) G (sh_12_29 _ hp_v0) hb.1 hb.2 dX12_shortens_56 rfl ?_
        refine z_icmp_lt (nx := 60) (tgt := 62) G dX12_shortens_57 (by decide) rfl (fun c => ?_) (fun c => ?_)
        · have h := h.1 c
          exact b_fewer (loc2 := [(2, v0), (0, v1), (0, v2_5), (0, r_6)]) (am_lk (am_lk (am_lk (am_lk am_ln)))) (S_X12_shortens_J1 X hp_v0 hB h)
        · have h := h.2 c
          refine z_iconst (nx := 61) (z := 0) G (R32c rfl) dX12_shortens_60 rfl ?_
          exact b_zreturn X hB (Or.inl rfl) dX12_shortens_61 h
theorem NM_X12_shortens {v0 : Int} {v1 : Int} {K : am_KK} {m : am_M} (hp_v0 : am_ob v0 12) (h : M_X12_shortens v0 v1 K m) : N_X12_shortens [v0, v1] K m := ⟨hp_v0, h⟩
theorem SS_X12_shortens : am_Snd yX12_shortens cX12_shortens 4 (some .boolean) 0 3 (am_L [2, 0] 5 N_X12_shortens) := by
  refine am_SB (by decide +kernel) (Nat.le_of_ble_eq_true rfl) (fun F zs as K m X ht hB hM => ?_)
  obtain ⟨v0, zs, as, rfl, rfl, hz0, ht⟩ := am_inv ht
  obtain ⟨v1, zs, as, rfl, rfl, hz1, ht⟩ := am_inv ht
  obtain ⟨rfl, rfl⟩ := am_inv0 ht
  obtain ⟨hp_v0, hM⟩ := hM
  exact S_X12_shortens X hp_v0 hB hM
set_option maxRecDepth 20000 in
set_option maxHeartbeats 4000000 in
theorem S_X12_wordings_J4 {F : am_F} {K : am_KK} {v0 : Int} {v2 : Int} {v3 : Int} {C201 : Int → am_M → Prop} {C193 : Int → am_M → Prop} {m : am_M} (X : am_Cx F cX12_wordings RX12 none 4 9 K) (hp_v0 : am_ob v0 12) (hC201 : ∀ w3 m, C201 w3 m → am_Bt m → am_Z F 201 [] [(2, v0), (9, 0), (0, v2), (0, w3), (9, 0)] m 200) (hC193 : ∀ w2 m, C193 w2 m → am_Bt m → am_Z F 193 [] [(2, v0), (9, 0), (0, w2), (9, 0), (9, 0)] m 200) (hB : am_Bt m) (h : M_X12_wordings_J4 v0 v2 v3 C201 C193 K m) : am_Z F 286 [] [(2, v0), (9, 0), (0, v2), (0, v3), (9, 0)] m 200 := by
  have G := X.G
  unfold M_X12_wordings_J4 at h
  refine b_iinc (nx := 289) (a := 3) (loc2 := fun v3_1 => [(2, v0), (9, 0), (0, v2), (0, v3_1), (9, 0)]) G (fun _ => rfl) rfl (am_pl1 rfl (fun h => nomatch h)) dX12_wordings_286 rfl (fun v3_1 e_v3_1 => ?_)
  have h := h v3_1 e_v3_1
  refine z_goto (tgt := 201) G dX12_wordings_289 (by decide) ?_
  exact b_fewer (loc2 := [(2, v0), (9, 0), (0, v2), (0, v3_1), (9, 0)]) (am_lk (am_lk (am_lk (am_lk (am_lk am_ln))))) (hC201 _ _ h hB)
set_option maxRecDepth 20000 in
set_option maxHeartbeats 4000000 in
theorem S_X12_wordings_L7B {F : am_F} {K : am_KK} {v0 : Int} {v2 : Int} {v3 : Int} {C201 : Int → am_M → Prop} {C193 : Int → am_M → Prop} {m : am_M} (X : am_Cx F cX12_wordings RX12 none 4 9 K) (hp_v0 : am_ob v0 12) (hC201 : ∀ w3 m, C201 w3 m → am_Bt m → am_Z F 201 [] [(2, v0), (9, 0), (0, v2), (0, w3), (9, 0)] m 200) (hC193 : ∀ w2 m, C193 w2 m → am_Bt m → am_Z F 193 [] [(2, v0), (9, 0), (0, w2), (9, 0), (9, 0)] m 200) (hB : am_Bt m) (h : M_X12_wordings_L7B v0 v2 v3 C201 C193 K m) : am_Z F 201 [] [(2, v0), (9, 0), (0, v2), (0, v3), (9, 0)] m 200 := by
  have G := X.G
  unfold M_X12_wordings_L7B at h
  refine z_iload_n (nx := 202) (a := 3) G rfl dX12_wordings_201 rfl (z_bipush (nx := 204) (z := 8) G (R32c rfl) rfl dX12_wordings_202 rfl ?_)
  refine z_icmp_ge (nx := 207) (tgt := 292) G dX12_wordings_204 (by decide) rfl (fun c => ?_) (fun c => ?_)
  · have h := h.1 c
    refine b_iinc (nx := 295) (a := 2) (loc2 := fun v2_2 => [(2, v0), (9, 0), (0, v2_2), (0, v3), (9, 0)]) G (fun _ => rfl) rfl (am_pl1 rfl (fun h => nomatch h)) dX12_wordings_292 rfl (fun v2_2 e_v2_2 => ?_)
    have h := h v2_2 e_v2_2
    refine z_goto (tgt := 193) G dX12_wordings_295 (by decide) ?_
    exact b_fewer (loc2 := [(2, v0), (9, 0), (0, v2_2), (9, 0), (9, 0)]) (am_lk (am_lk (am_lk (am_lf (am_lk am_ln))))) (hC193 _ _ h hB)
  · have h := h.2 c
    refine z_aload_n (nx := 208) (a := 0) G rfl (Or.inl rfl) dX12_wordings_207 rfl (b_getA (nx := 211) (k0 := 30) G hB fl_RX12_74 (Nat.le_of_ble_eq_true rfl) (Nat.le_of_ble_eq_true rfl) rfl hp_v0 dX12_wordings_208 rfl (z_iload_n (nx := 212) (a := 3) G rfl dX12_wordings_211 rfl ?_))
    obtain ⟨hb, h⟩ := h
    refine z_iald (nx := 213) G (sh_12_30 _ hp_v0) hb.1 hb.2 dX12_wordings_212 rfl ?_
    refine b_store (nx := 215) (a := 4) (loc2 := fun v4_3 => [(2, v0), (9, 0), (0, v2), (0, v3), (0, v4_3)]) G (fun _ => rfl) (Nat.le_of_ble_eq_true rfl) (am_pl1 rfl (fun h => nomatch h)) dX12_wordings_213 rfl (fun v4_3 e_v4_3 => ?_)
    have h := h v4_3 e_v4_3
    refine z_iload (nx := 217) (a := 4) G rfl dX12_wordings_215 rfl (z_iconst (nx := 218) (z := (-1)) G (R32c rfl) dX12_wordings_217 rfl ?_)
    refine z_icmp_eq (nx := 221) (tgt := 286) G dX12_wordings_218 (by decide) rfl (fun c => ?_) (fun c => ?_)
    · have h := h.1 c
      exact b_fewer (loc2 := [(2, v0), (9, 0), (0, v2), (0, v3), (9, 0)]) (am_lk (am_lk (am_lk (am_lk (am_lf am_ln))))) (S_X12_wordings_J4 X hp_v0 hC201 hC193 hB h)
    · have h := h.2 c
      refine z_aload_n (nx := 222) (a := 0) G rfl (Or.inl rfl) dX12_wordings_221 rfl (b_getA (nx := 225) (k0 := 31) G hB fl_RX12_77 (Nat.le_of_ble_eq_true rfl) (Nat.le_of_ble_eq_true rfl) rfl hp_v0 dX12_wordings_222 rfl (z_iload_n (nx := 226) (a := 3) G rfl dX12_wordings_225 rfl (z_aload_n (nx := 227) (a := 0) G rfl (Or.inl rfl) dX12_wordings_226 rfl (z_aload_n (nx := 228) (a := 0) G rfl (Or.inl rfl) dX12_wordings_227 rfl (b_getA (nx := 231) (k0 := 2) G hB fl_RX12_24 (Nat.le_of_ble_eq_true rfl) (Nat.le_of_ble_eq_true rfl) rfl hp_v0 dX12_wordings_228 rfl (z_sipush (nx := 234) (z := 180) G (R32c rfl) rfl dX12_wordings_231 rfl (z_iconst (nx := 235) (z := 4) G (R32c rfl) dX12_wordings_234 rfl (z_iload (nx := 237) (a := 4) G rfl dX12_wordings_235 rfl (z_imul (nx := 238) G dX12_wordings_237 rfl (z_iadd (nx := 239) G dX12_wordings_238 rfl (z_iconst (nx := 240) (z := 1) G (R32c rfl) dX12_wordings_239 rfl (z_iadd (nx := 241) G dX12_wordings_240 rfl ?_))))))))))))
      obtain ⟨hb, h⟩ := h
      refine z_iald (nx := 242) G (sh_12_2 _ hp_v0) hb.1 hb.2 dX12_wordings_241 rfl ?_
      refine b_callV0 (nx := 245) (zs := [v0, m (am_rfv v0 2) (w32 ((w32 (180 + (w32 (4 * v4_3)))) + 1))]) (as := [(0, m (am_rfv v0 2) (w32 ((w32 (180 + (w32 (4 * v4_3)))) + 1)))]) X hB (by decide) rfl hp_v0 SS_X12_wordsOf (am_ta (am_ti am_tn)) (Nat.le_of_ble_eq_true rfl) (Nat.le_of_ble_eq_true rfl) ml_RX12_339 iw_X12_wordsOf vw_X12_wordsOf cw_X12_wordsOf nw_RX12 pp_X12_wordsOf (Nat.le_of_ble_eq_true rfl) dX12_wordings_242 rfl (NM_X12_wordsOf hp_v0 h) (fun r_4 m_5 h hB => ?_)
      refine z_aload_n (nx := 246) (a := 0) G rfl (Or.inl rfl) dX12_wordings_245 rfl (z_aload_n (nx := 247) (a := 0) G rfl (Or.inl rfl) dX12_wordings_246 rfl (b_getA (nx := 250) (k0 := 2) G hB fl_RX12_24 (Nat.le_of_ble_eq_true rfl) (Nat.le_of_ble_eq_true rfl) rfl hp_v0 dX12_wordings_247 rfl (z_sipush (nx := 253) (z := 180) G (R32c rfl) rfl dX12_wordings_250 rfl (z_iconst (nx := 254) (z := 4) G (R32c rfl) dX12_wordings_253 rfl (z_iload (nx := 256) (a := 4) G rfl dX12_wordings_254 rfl (z_imul (nx := 257) G dX12_wordings_256 rfl (z_iadd (nx := 258) G dX12_wordings_257 rfl (z_iconst (nx := 259) (z := 2) G (R32c rfl) dX12_wordings_258 rfl (z_iadd (nx := 260) G dX12_wordings_259 rfl ?_)))))))))
      obtain ⟨hb, h⟩ := h
      refine z_iald (nx := 261) G (sh_12_2 _ hp_v0) hb.1 hb.2 dX12_wordings_260 rfl ?_
      refine b_callV0 (nx := 264) (zs := [v0, m_5 (am_rfv v0 2) (w32 ((w32 (180 + (w32 (4 * v4_3)))) + 2))]) (as := [(0, m_5 (am_rfv v0 2) (w32 ((w32 (180 + (w32 (4 * v4_3)))) + 2)))]) X hB (by decide) rfl hp_v0 SS_X12_wordsOf (am_ta (am_ti am_tn)) (Nat.le_of_ble_eq_true rfl) (Nat.le_of_ble_eq_true rfl) ml_RX12_339 iw_X12_wordsOf vw_X12_wordsOf cw_X12_wordsOf nw_RX12 pp_X12_wordsOf (Nat.le_of_ble_eq_true rfl) dX12_wordings_261 rfl (NM_X12_wordsOf hp_v0 h) (fun r_6 m_7 h hB => ?_)
      refine z_iadd (nx := 265) G dX12_wordings_264 rfl (z_aload_n (nx := 266) (a := 0) G rfl (Or.inl rfl) dX12_wordings_265 rfl (z_aload_n (nx := 267) (a := 0) G rfl (Or.inl rfl) dX12_wordings_266 rfl (b_getA (nx := 270) (k0 := 2) G hB fl_RX12_24 (Nat.le_of_ble_eq_true rfl) (Nat.le_of_ble_eq_true rfl) rfl hp_v0 dX12_wordings_267 rfl (z_sipush (nx := 273) (z := 180) G (R32c rfl) rfl dX12_wordings_270 rfl (z_iconst (nx := 274) (z := 4) G (R32c rfl) dX12_wordings_273 rfl (z_iload (nx := 276) (a := 4) G rfl dX12_wordings_274 rfl (z_imul (nx := 277) G dX12_wordings_276 rfl (z_iadd (nx := 278) G dX12_wordings_277 rfl (z_iconst (nx := 279) (z := 3) G (R32c rfl) dX12_wordings_278 rfl (z_iadd (nx := 280) G dX12_wordings_279 rfl ?_))))))))))
      obtain ⟨hb, h⟩ := h
      refine z_iald (nx := 281) G (sh_12_2 _ hp_v0) hb.1 hb.2 dX12_wordings_280 rfl ?_
      refine b_callV0 (nx := 284) (zs := [v0, m_7 (am_rfv v0 2) (w32 ((w32 (180 + (w32 (4 * v4_3)))) + 3))]) (as := [(0, m_7 (am_rfv v0 2) (w32 ((w32 (180 + (w32 (4 * v4_3)))) + 3)))]) X hB (by decide) rfl hp_v0 SS_X12_wordsOf (am_ta (am_ti am_tn)) (Nat.le_of_ble_eq_true rfl) (Nat.le_of_ble_eq_true rfl) ml_RX12_339 iw_X12_wordsOf vw_X12_wordsOf cw_X12_wordsOf nw_RX12 pp_X12_wordsOf (Nat.le_of_ble_eq_true rfl) dX12_wordings_281 rfl (NM_X12_wordsOf hp_v0 h) (fun r_8 m_9 h hB => ?_)
      refine z_iadd (nx := 285) G dX12_wordings_284 rfl ?_
      obtain ⟨hb, h⟩ := h
      refine b_iast (nx := 286) G hB (sh_12_31 _ hp_v0) hb.1 hb.2 dX12_wordings_285 rfl (fun m_10 e_m_10 hB => ?_)
      have h := h m_10 e_m_10
      exact b_fewer (loc2 := [(2, v0), (9, 0), (0, v2), (0, v3), (9, 0)]) (am_lk (am_lk (am_lk (am_lk (am_lf am_ln))))) (S_X12_wordings_J4 X hp_v0 hC201 hC193 hB h)
theorem S_X12_wordings_L7 {F : am_F} {K : am_KK} {v0 : Int} {v2 : Int} {v3 : Int} {C193 : Int → am_M → Prop} {m : am_M} (X : am_Cx F cX12_wordings RX12 none 4 9 K) (hp_v0 : am_ob v0 12) (hC193 : ∀ w2 m, C193 w2 m → am_Bt m → am_Z F 193 [] [(2, v0), (9, 0), (0, w2), (9, 0), (9, 0)] m 200) (hB : am_Bt m) (h : M_X12_wordings_L7 v0 v2 v3 C193 K m) : am_Z F 201 [] [(2, v0), (9, 0), (0, v2), (0, v3), (9, 0)] m 200 := by
  obtain ⟨I, ⟨j, hj⟩, hI⟩ := h
  have key : ∀ j v3 m, I j v3 m → am_Bt m → am_Z F 201 [] [(2, v0), (9, 0), (0, v2), (0, v3), (9, 0)] m 200 := by
    intro j
    induction j using Nat.strongRecOn with
    | ind j ih =>
      intro v3 m hj hB
      exact S_X12_wordings_L7B X hp_v0 (fun v3' m' hc hB' => by
        obtain ⟨j', g1, g2⟩ := hc
        exact ih j' g1 v3' m' g2 hB') hC193 hB (hI j v3 m hj)
  exact key j _ _ hj hB
set_option maxRecDepth 20000 in
set_option maxHeartbeats 4000000 in
theorem S_X12_wordings_L6B {F : am_F} {K : am_KK} {v0 : Int} {v2 : Int} {C193 : Int → am_M → Prop} {m : am_M} (X : am_Cx F cX12_wordings RX12 none 4 9 K) (hp_v0 : am_ob v0 12) (hC193 : ∀ w2 m, C193 w2 m → am_Bt m → am_Z F 193 [] [(2, v0), (9, 0), (0, w2), (9, 0), (9, 0)] m 200) (hB : am_Bt m) (h : M_X12_wordings_L6B v0 v2 C193 K m) : am_Z F 193 [] [(2, v0), (9, 0), (0, v2), (9, 0), (9, 0)] m 200 := by
  have G := X.G
  unfold M_X12_wordings_L6B at h
  refine z_iload_n (nx := 194) (a := 2) G rfl dX12_wordings_193 rfl (z_bipush (nx := 196) (z := 8) G (R32c rfl) rfl dX12_wordings_194 rfl ?_)
  refine z_icmp_ge (nx := 199) (tgt := 298) G dX12_wordings_196 (by decide) rfl (fun c => ?_) (fun c => ?_)
  · have h := h.1 c
    exact b_return X hB dX12_wordings_298 h
  · have h := h.2 c
    refine z_iconst (nx := 200) (z := 0) G (R32c rfl) dX12_wordings_199 rfl (b_storeE_n (nx := 201) (a := 3) (loc2 := [(2, v0), (9, 0), (0, v2), (0, 0), (9, 0)]) G rfl (Nat.le_of_ble_eq_true rfl) (am_pl1 rfl (fun h => nomatch h)) dX12_wordings_200 rfl ?_)
    exact b_fewer (loc2 := [(2, v0), (9, 0), (0, v2), (0, 0), (9, 0)]) (am_lk (am_lk (am_lk (am_lk (am_lk am_ln))))) (S_X12_wordings_L7 X hp_v0 hC193 hB h)
theorem S_X12_wordings_L6 {F : am_F} {K : am_KK} {v0 : Int} {v2 : Int} {m : am_M} (X : am_Cx F cX12_wordings RX12 none 4 9 K) (hp_v0 : am_ob v0 12) (hB : am_Bt m) (h : M_X12_wordings_L6 v0 v2 K m) : am_Z F 193 [] [(2, v0), (9, 0), (0, v2), (9, 0), (9, 0)] m 200 := by
  obtain ⟨I, ⟨j, hj⟩, hI⟩ := h
  have key : ∀ j v2 m, I j v2 m → am_Bt m → am_Z F 193 [] [(2, v0), (9, 0), (0, v2), (9, 0), (9, 0)] m 200 := by
    intro j
    induction j using Nat.strongRecOn with
    | ind j ih =>
      intro v2 m hj hB
      exact S_X12_wordings_L6B X hp_v0 (fun v2' m' hc hB' => by
        obtain ⟨j', g1, g2⟩ := hc
        exact ih j' g1 v2' m' g2 hB') hB (hI j v2 m hj)
  exact key j _ _ hj hB
set_option maxRecDepth 20000 in
set_option maxHeartbeats 4000000 in
theorem S_X12_wordings_J3 {F : am_F} {K : am_KK} {v0 : Int} {v2 : Int} {v3 : Int} {C112 : Int → am_M → Prop} {C95 : Int → am_M → Prop} {m : am_M} (X : am_Cx F cX12_wordings RX12 none 4 9 K) (hp_v0 : am_ob v0 12) (hC112 : ∀ w3 m, C112 w3 m → am_Bt m → am_Z F 112 [] [(2, v0), (9, 0), (0, v2), (0, w3), (9, 0)] m 200) (hC95 : ∀ w2 m, C95 w2 m → am_Bt m → am_Z F 95 [] [(2, v0), (9, 0), (0, w2), (9, 0), (9, 0)] m 200) (hB : am_Bt m) (h : M_X12_wordings_J3 v0 v2 v3 C112 C95 K m) : am_Z F 179 [] [(2, v0), (9, 0), (0, v2), (0, v3), (9, 0)] m 200 := by
  have G := X.G
  unfold M_X12_wordings_J3 at h
  refine b_iinc (nx := 182) (a := 3) (loc2 := fun v3_11 => [(2, v0), (9, 0), (0, v2), (0, v3_11), (9, 0)]) G (fun _ => rfl) rfl (am_pl1 rfl (fun h => nomatch h)) dX12_wordings_179 rfl (fun v3_11 e_v3_11 => ?_)
  have h := h v3_11 e_v3_11
  refine z_goto (tgt := 112) G dX12_wordings_182 (by decide) ?_
  exact b_fewer (loc2 := [(2, v0), (9, 0), (0, v2), (0, v3_11), (9, 0)]) (am_lk (am_lk (am_lk (am_lk (am_lk am_ln))))) (hC112 _ _ h hB)
set_option maxRecDepth 20000 in
set_option maxHeartbeats 4000000 in
theorem S_X12_wordings_L5B {F : am_F} {K : am_KK} {v0 : Int} {v2 : Int} {v3 : Int} {C112 : Int → am_M → Prop} {C95 : Int → am_M → Prop} {m : am_M} (X : am_Cx F cX12_wordings RX12 none 4 9 K) (hp_v0 : am_ob v0 12) (hC112 : ∀ w3 m, C112 w3 m → am_Bt m → am_Z F 112 [] [(2, v0), (9, 0), (0, v2), (0, w3), (9, 0)] m 200) (hC95 : ∀ w2 m, C95 w2 m → am_Bt m → am_Z F 95 [] [(2, v0), (9, 0), (0, w2), (9, 0), (9, 0)] m 200) (hB : am_Bt m) (h : M_X12_wordings_L5B v0 v2 v3 C112 C95 K m) : am_Z F 112 [] [(2, v0), (9, 0), (0, v2), (0, v3), (9, 0)] m 200 := by
  have G := X.G
  unfold M_X12_wordings_L5B at h
  refine z_iload_n (nx := 113) (a := 3) G rfl dX12_wordings_112 rfl ?_
  refine z_if_lt (nx := 116) (tgt := 185) G dX12_wordings_113 (by decide) rfl (fun c => ?_) (fun c => ?_)
  · have h := h.1 c
    refine b_iinc (nx := 188) (a := 2) (loc2 := fun v2_12 => [(2, v0), (9, 0), (0, v2_12), (0, v3), (9, 0)]) G (fun _ => rfl) rfl (am_pl1 rfl (fun h => nomatch h)) dX12_wordings_185 rfl (fun v2_12 e_v2_12 => ?_)
    have h := h v2_12 e_v2_12
    refine z_goto (tgt := 95) G dX12_wordings_188 (by decide) ?_
    exact b_fewer (loc2 := [(2, v0), (9, 0), (0, v2_12), (9, 0), (9, 0)]) (am_lk (am_lk (am_lk (am_lf (am_lk am_ln))))) (hC95 _ _ h hB)
  · have h := h.2 c
    refine z_aload_n (nx := 117) (a := 0) G rfl (Or.inl rfl) dX12_wordings_116 rfl (b_getA (nx := 120) (k0 := 2) G hB fl_RX12_24 (Nat.le_of_ble_eq_true rfl) (Nat.le_of_ble_eq_true rfl) rfl hp_v0 dX12_wordings_117 rfl (z_sipush (nx := 123) (z := 180) G (R32c rfl) rfl dX12_wordings_120 rfl (z_iconst (nx := 124) (z := 4) G (R32c rfl) dX12_wordings_123 rfl (z_iload_n (nx := 125) (a := 3) G rfl dX12_wordings_124 rfl (z_imul (nx := 126) G dX12_wordings_125 rfl (z_iadd (nx := 127) G dX12_wordings_126 rfl ?_))))))
    obtain ⟨hb, h⟩ := h
    refine z_iald (nx := 128) G (sh_12_2 _ hp_v0) hb.1 hb.2 dX12_wordings_127 rfl ?_
    refine z_iload_n (nx := 129) (a := 2) G rfl dX12_wordings_128 rfl ?_
    refine z_icmp_ne (nx := 132) (tgt := 179) G dX12_wordings_129 (by decide) rfl (fun c => ?_) (fun c => ?_)
    · have h := h.1 c
      exact b_fewer (loc2 := [(2, v0), (9, 0), (0, v2), (0, v3), (9, 0)]) (am_lk (am_lk (am_lk (am_lk (am_lk am_ln))))) (S_X12_wordings_J3 X hp_v0 hC112 hC95 hB h)
    · have h := h.2 c
      refine z_aload_n (nx := 133) (a := 0) G rfl (Or.inl rfl) dX12_wordings_132 rfl (b_getA (nx := 136) (k0 := 28) G hB fl_RX12_68 (Nat.le_of_ble_eq_true rfl) (Nat.le_of_ble_eq_true rfl) rfl hp_v0 dX12_wordings_133 rfl (z_iload_n (nx := 137) (a := 2) G rfl dX12_wordings_136 rfl ?_))
      obtain ⟨hb, h⟩ := h
      refine z_iald (nx := 138) G (sh_12_28 _ hp_v0) hb.1 hb.2 dX12_wordings_137 rfl ?_
      refine z_ldcw (nx := 141) (z := 1000000000) G (R32c rfl) rfl kw_RX12_329 dX12_wordings_138 rfl ?_
      refine z_icmp_ge (nx := 144) (tgt := 179) G dX12_wordings_141 (by decide) rfl (fun c => ?_) (fun c => ?_)
      · have h := h.1 c
        exact b_fewer (loc2 := [(2, v0), (9, 0), (0, v2), (0, v3), (9, 0)]) (am_lk (am_lk (am_lk (am_lk (am_lk am_ln))))) (S_X12_wordings_J3 X hp_v0 hC112 hC95 hB h)
      · have h := h.2 c
        refine z_aload_n (nx := 145) (a := 0) G rfl (Or.inl rfl) dX12_wordings_144 rfl (z_iload_n (nx := 146) (a := 3) G rfl dX12_wordings_145 rfl ?_)
        refine b_callV0 (nx := 149) (zs := [v0, v3]) (as := [(0, v3)]) X hB (by decide) rfl hp_v0 SS_X12_sum (am_ta (am_ti am_tn)) (Nat.le_of_ble_eq_true rfl) (Nat.le_of_ble_eq_true rfl) ml_RX12_333 iw_X12_sum vw_X12_sum cw_X12_sum nw_RX12 pp_X12_sum (Nat.le_of_ble_eq_true rfl) dX12_wordings_146 rfl (NM_X12_sum hp_v0 h) (fun r_13 m_14 h hB => ?_)
        refine z_aload_n (nx := 150) (a := 0) G rfl (Or.inl rfl) dX12_wordings_149 rfl (b_getA (nx := 153) (k0 := 28) G hB fl_RX12_68 (Nat.le_of_ble_eq_true rfl) (Nat.le_of_ble_eq_true rfl) rfl hp_v0 dX12_wordings_150 rfl (z_iload_n (nx := 154) (a := 2) G rfl dX12_wordings_153 rfl ?_))
        obtain ⟨hb, h⟩ := h
        refine z_iald (nx := 155) G (sh_12_28 _ hp_v0) hb.1 hb.2 dX12_wordings_154 rfl ?_
        refine z_icmp_ne (nx := 158) (tgt := 179) G dX12_wordings_155 (by decide) rfl (fun c => ?_) (fun c => ?_)
        · have h := h.1 c
          exact b_fewer (loc2 := [(2, v0), (9, 0), (0, v2), (0, v3), (9, 0)]) (am_lk (am_lk (am_lk (am_lk (am_lk am_ln))))) (S_X12_wordings_J3 X hp_v0 hC112 hC95 hB h)
        · have h := h.2 c
          refine z_aload_n (nx := 159) (a := 0) G rfl (Or.inl rfl) dX12_wordings_158 rfl (z_iload_n (nx := 160) (a := 3) G rfl dX12_wordings_159 rfl ?_)
          refine b_callV0 (nx := 163) (zs := [v0, v3]) (as := [(0, v3)]) X hB (by decide) rfl hp_v0 SS_X12_rulesOf (am_ta (am_ti am_tn)) (Nat.le_of_ble_eq_true rfl) (Nat.le_of_ble_eq_true rfl) ml_RX12_336 iw_X12_rulesOf vw_X12_rulesOf cw_X12_rulesOf nw_RX12 pp_X12_rulesOf (Nat.le_of_ble_eq_true rfl) dX12_wordings_160 rfl (NM_X12_rulesOf hp_v0 h) (fun r_15 m_16 h hB => ?_)
          refine z_aload_n (nx := 164) (a := 0) G rfl (Or.inl rfl) dX12_wordings_163 rfl (b_getA (nx := 167) (k0 := 29) G hB fl_RX12_71 (Nat.le_of_ble_eq_true rfl) (Nat.le_of_ble_eq_true rfl) rfl hp_v0 dX12_wordings_164 rfl (z_iload_n (nx := 168) (a := 2) G rfl dX12_wordings_167 rfl ?_))
          obtain ⟨hb, h⟩ := h
          refine z_iald (nx := 169) G (sh_12_29 _ hp_v0) hb.1 hb.2 dX12_wordings_168 rfl ?_
          refine z_icmp_ne (nx := 172) (tgt := 179) G dX12_wordings_169 (by decide) rfl (fun c => ?_) (fun c => ?_)
          · have h := h.1 c
            exact b_fewer (loc2 := [(2, v0), (9, 0), (0, v2), (0, v3), (9, 0)]) (am_lk (am_lk (am_lk (am_lk (am_lk am_ln))))) (S_X12_wordings_J3 X hp_v0 hC112 hC95 hB h)
          · have h := h.2 c
            refine z_aload_n (nx := 173) (a := 0) G rfl (Or.inl rfl) dX12_wordings_172 rfl (b_getA (nx := 176) (k0 := 30) G hB fl_RX12_74 (Nat.le_of_ble_eq_true rfl) (Nat.le_of_ble_eq_true rfl) rfl hp_v0 dX12_wordings_173 rfl (z_iload_n (nx := 177) (a := 2) G rfl dX12_wordings_176 rfl (z_iload_n (nx := 178) (a := 3) G rfl dX12_wordings_177 rfl ?_)))
            obtain ⟨hb, h⟩ := h
            refine b_iast (nx := 179) G hB (sh_12_30 _ hp_v0) hb.1 hb.2 dX12_wordings_178 rfl (fun m_17 e_m_17 hB => ?_)
            have h := h m_17 e_m_17
            exact b_fewer (loc2 := [(2, v0), (9, 0), (0, v2), (0, v3), (9, 0)]) (am_lk (am_lk (am_lk (am_lk (am_lk am_ln))))) (S_X12_wordings_J3 X hp_v0 hC112 hC95 hB h)
theorem S_X12_wordings_L5 {F : am_F} {K : am_KK} {v0 : Int} {v2 : Int} {v3 : Int} {C95 : Int → am_M → Prop} {m : am_M} (X : am_Cx F cX12_wordings RX12 none 4 9 K) (hp_v0 : am_ob v0 12) (hC95 : ∀ w2 m, C95 w2 m → am_Bt m → am_Z F 95 [] [(2, v0), (9, 0), (0, w2), (9, 0), (9, 0)] m 200) (hB : am_Bt m) (h : M_X12_wordings_L5 v0 v2 v3 C95 K m) : am_Z F 112 [] [(2, v0), (9, 0), (0, v2), (0, v3), (9, 0)] m 200 := by
  obtain ⟨I, ⟨j, hj⟩, hI⟩ := h
  have key : ∀ j v3 m, I j v3 m → am_Bt m → am_Z F 112 [] [(2, v0), (9, 0), (0, v2), (0, v3), (9, 0)] m 200 := by
    intro j
    induction j using Nat.strongRecOn with
    | ind j ih =>
      intro v3 m hj hB
      exact S_X12_wordings_L5B X hp_v0 (fun v3' m' hc hB' => by
        obtain ⟨j', g1, g2⟩ := hc
        exact ih j' g1 v3' m' g2 hB') hC95 hB (hI j v3 m hj)
  exact key j _ _ hj hB
set_option maxRecDepth 20000 in
set_option maxHeartbeats 4000000 in
theorem S_X12_wordings_L4B {F : am_F} {K : am_KK} {v0 : Int} {v2 : Int} {C95 : Int → am_M → Prop} {m : am_M} (X : am_Cx F cX12_wordings RX12 none 4 9 K) (hp_v0 : am_ob v0 12) (hC95 : ∀ w2 m, C95 w2 m → am_Bt m → am_Z F 95 [] [(2, v0), (9, 0), (0, w2), (9, 0), (9, 0)] m 200) (hB : am_Bt m) (h : M_X12_wordings_L4B v0 v2 C95 K m) : am_Z F 95 [] [(2, v0), (9, 0), (0, v2), (9, 0), (9, 0)] m 200 := by
  have G := X.G
  unfold M_X12_wordings_L4B at h
  refine z_iload_n (nx := 96) (a := 2) G rfl dX12_wordings_95 rfl (z_bipush (nx := 98) (z := 8) G (R32c rfl) rfl dX12_wordings_96 rfl ?_)
  refine z_icmp_ge (nx := 101) (tgt := 191) G dX12_wordings_98 (by decide) rfl (fun c => ?_) (fun c => ?_)
  · have h := h.1 c
    refine z_iconst (nx := 192) (z := 0) G (R32c rfl) dX12_wordings_191 rfl (b_storeE_n (nx := 193) (a := 2) (loc2 := [(2, v0), (9, 0), (0, 0), (9, 0), (9, 0)]) G rfl (Nat.le_of_ble_eq_true rfl) (am_pl1 rfl (fun h => nomatch h)) dX12_wordings_192 rfl ?_)
    exact b_fewer (loc2 := [(2, v0), (9, 0), (0, 0), (9, 0), (9, 0)]) (am_lk (am_lk (am_lk (am_lk (am_lk am_ln))))) (S_X12_wordings_L6 X hp_v0 hB h)
  · have h := h.2 c
    refine z_aload_n (nx := 102) (a := 0) G rfl (Or.inl rfl) dX12_wordings_101 rfl (b_getA (nx := 105) (k0 := 2) G hB fl_RX12_24 (Nat.le_of_ble_eq_true rfl) (Nat.le_of_ble_eq_true rfl) rfl hp_v0 dX12_wordings_102 rfl (z_sipush (nx := 108) (z := 364) G (R32c rfl) rfl dX12_wordings_105 rfl ?_))
    obtain ⟨hb, h⟩ := h
    refine z_iald (nx := 109) G (sh_12_2 _ hp_v0) hb.1 hb.2 dX12_wordings_108 rfl ?_
    refine z_iconst (nx := 110) (z := 1) G (R32c rfl) dX12_wordings_109 rfl (z_isub (nx := 111) G dX12_wordings_110 rfl ?_)
    refine b_store_n (nx := 112) (a := 3) (loc2 := fun v3_18 => [(2, v0), (9, 0), (0, v2), (0, v3_18), (9, 0)]) G (fun _ => rfl) (Nat.le_of_ble_eq_true rfl) (am_pl1 rfl (fun h => nomatch h)) dX12_wordings_111 rfl (fun v3_18 e_v3_18 => ?_)
    have h := h v3_18 e_v3_18
    exact b_fewer (loc2 := [(2, v0), (9, 0), (0, v2), (0, v3_18), (9, 0)]) (am_lk (am_lk (am_lk (am_lk (am_lk am_ln))))) (S_X12_wordings_L5 X hp_v0 hC95 hB h)
theorem S_X12_wordings_L4 {F : am_F} {K : am_KK} {v0 : Int} {v2 : Int} {m : am_M} (X : am_Cx F cX12_wordings RX12 none 4 9 K) (hp_v0 : am_ob v0 12) (hB : am_Bt m) (h : M_X12_wordings_L4 v0 v2 K m) : am_Z F 95 [] [(2, v0), (9, 0), (0, v2), (9, 0), (9, 0)] m 200 := by
  obtain ⟨I, ⟨j, hj⟩, hI⟩ := h
  have key : ∀ j v2 m, I j v2 m → am_Bt m → am_Z F 95 [] [(2, v0), (9, 0), (0, v2), (9, 0), (9, 0)] m 200 := by
    intro j
    induction j using Nat.strongRecOn with
    | ind j ih =>
      intro v2 m hj hB
      exact S_X12_wordings_L4B X hp_v0 (fun v2' m' hc hB' => by
        obtain ⟨j', g1, g2⟩ := hc
        exact ih j' g1 v2' m' g2 hB') hB (hI j v2 m hj)
  exact key j _ _ hj hB
set_option maxRecDepth 20000 in
set_option maxHeartbeats 4000000 in
theorem S_X12_wordings_J2 {F : am_F} {K : am_KK} {v0 : Int} {v2 : Int} {s0 : Int} {C54 : Int → Int → am_M → Prop} {C46 : Int → am_M → Prop} {m : am_M} (X : am_Cx F cX12_wordings RX12 none 4 9 K) (hp_v0 : am_ob v0 12) (hp_s0 : s0 = 0 ∨ s0 = 1) (hC54 : ∀ w1 w2 m, C54 w1 w2 m → am_Bt m → am_Z F 54 [] [(2, v0), (0, w1), (0, w2), (9, 0), (9, 0)] m 200) (hC46 : ∀ w1 m, C46 w1 m → am_Bt m → am_Z F 46 [] [(2, v0), (0, w1), (9, 0), (9, 0), (9, 0)] m 200) (hB : am_Bt m) (h : M_X12_wordings_J2 v0 v2 s0 C54 C46 K m) : am_Z F 83 [(0, s0)] [(2, v0), (9, 0), (0, v2), (9, 0), (9, 0)] m 200 := by
  have G := X.G
  unfold M_X12_wordings_J2 at h
  refine b_storeE_n (nx := 84) (a := 1) (loc2 := [(2, v0), (0, s0), (0, v2), (9, 0), (9, 0)]) G rfl (Nat.le_of_ble_eq_true rfl) (am_pl1 rfl (fun h => nomatch h)) dX12_wordings_83 rfl ?_
  refine b_iinc (nx := 87) (a := 2) (loc2 := fun v2_19 => [(2, v0), (0, s0), (0, v2_19), (9, 0), (9, 0)]) G (fun _ => rfl) rfl (am_pl1 rfl (fun h => nomatch h)) dX12_wordings_84 rfl (fun v2_19 e_v2_19 => ?_)
  have h := h v2_19 e_v2_19
  refine z_goto (tgt := 54) G dX12_wordings_87 (by decide) ?_
  exact b_fewer (loc2 := [(2, v0), (0, s0), (0, v2_19), (9, 0), (9, 0)]) (am_lk (am_lk (am_lk (am_lk (am_lk am_ln))))) (hC54 _ _ _ h hB)
set_option maxRecDepth 20000 in
set_option maxHeartbeats 4000000 in
theorem S_X12_wordings_J1 {F : am_F} {K : am_KK} {v0 : Int} {v2 : Int} {C54 : Int → Int → am_M → Prop} {C46 : Int → am_M → Prop} {m : am_M} (X : am_Cx F cX12_wordings RX12 none 4 9 K) (hp_v0 : am_ob v0 12) (hC54 : ∀ w1 w2 m, C54 w1 w2 m → am_Bt m → am_Z F 54 [] [(2, v0), (0, w1), (0, w2), (9, 0), (9, 0)] m 200) (hC46 : ∀ w1 m, C46 w1 m → am_Bt m → am_Z F 46 [] [(2, v0), (0, w1), (9, 0), (9, 0), (9, 0)] m 200) (hB : am_Bt m) (h : M_X12_wordings_J1 v0 v2 C54 C46 K m) : am_Z F 78 [] [(2, v0), (9, 0), (0, v2), (9, 0), (9, 0)] m 200 := by
  have G := X.G
  unfold M_X12_wordings_J1 at h
  refine z_iconst (nx := 79) (z := 1) G (R32c rfl) dX12_wordings_78 rfl (z_goto (tgt := 83) G dX12_wordings_79 (by decide) ?_)
  exact b_fewer (loc2 := [(2, v0), (9, 0), (0, v2), (9, 0), (9, 0)]) (am_lk (am_lk (am_lk (am_lk (am_lk am_ln))))) (S_X12_wordings_J2 X hp_v0 (Or.inr rfl) hC54 hC46 hB h)
set_option maxRecDepth 20000 in
set_option maxHeartbeats 4000000 in
theorem S_X12_wordings_L3B {F : am_F} {K : am_KK} {v0 : Int} {v1 : Int} {v2 : Int} {C54 : Int → Int → am_M → Prop} {C46 : Int → am_M → Prop} {m : am_M} (X : am_Cx F cX12_wordings RX12 none 4 9 K) (hp_v0 : am_ob v0 12) (hC54 : ∀ w1 w2 m, C54 w1 w2 m → am_Bt m → am_Z F 54 [] [(2, v0), (0, w1), (0, w2), (9, 0), (9, 0)] m 200) (hC46 : ∀ w1 m, C46 w1 m → am_Bt m → am_Z F 46 [] [(2, v0), (0, w1), (9, 0), (9, 0), (9, 0)] m 200) (hB : am_Bt m) (h : M_X12_wordings_L3B v0 v1 v2 C54 C46 K m) : am_Z F 54 [] [(2, v0), (0, v1), (0, v2), (9, 0), (9, 0)] m 200 := by
  have G := X.G
  unfold M_X12_wordings_L3B at h
  refine z_iload_n (nx := 55) (a := 2) G rfl dX12_wordings_54 rfl (z_aload_n (nx := 56) (a := 0) G rfl (Or.inl rfl) dX12_wordings_55 rfl (b_getA (nx := 59) (k0 := 2) G hB fl_RX12_24 (Nat.le_of_ble_eq_true rfl) (Nat.le_of_ble_eq_true rfl) rfl hp_v0 dX12_wordings_56 rfl (z_sipush (nx := 62) (z := 364) G (R32c rfl) rfl dX12_wordings_59 rfl ?_)))
  obtain ⟨hb, h⟩ := h
  refine z_iald (nx := 63) G (sh_12_2 _ hp_v0) hb.1 hb.2 dX12_wordings_62 rfl ?_
  refine z_icmp_ge (nx := 66) (tgt := 90) G dX12_wordings_63 (by decide) rfl (fun c => ?_) (fun c => ?_)
  · have h := h.1 c
    refine z_goto (tgt := 46) G dX12_wordings_90 (by decide) ?_
    exact b_fewer (loc2 := [(2, v0), (0, v1), (9, 0), (9, 0), (9, 0)]) (am_lk (am_lk (am_lf (am_lk (am_lk am_ln))))) (hC46 _ _ h hB)
  · have h := h.2 c
    refine z_aload_n (nx := 67) (a := 0) G rfl (Or.inl rfl) dX12_wordings_66 rfl (z_iload_n (nx := 68) (a := 2) G rfl dX12_wordings_67 rfl ?_)
    refine b_callV5 (nx := 71) (zs := [v0, v2]) (as := [(0, v2)]) X hB (by decide) rfl hp_v0 SS_X12_shortens (am_ta (am_ti am_tn)) (Nat.le_of_ble_eq_true rfl) (Nat.le_of_ble_eq_true rfl) ml_RX12_330 iw_X12_shortens vw_X12_shortens cw_X12_shortens nw_RX12 pp_X12_shortens (Nat.le_of_ble_eq_true rfl) dX12_wordings_68 rfl (NM_X12_shortens hp_v0 h) (fun r_20 m_21 h h01_22 hB => ?_)
    refine z_if_ne (nx := 74) (tgt := 78) G dX12_wordings_71 (by decide) rfl (fun c => ?_) (fun c => ?_)
    · have h := h.1 c
      exact b_fewer (loc2 := [(2, v0), (9, 0), (0, v2), (9, 0), (9, 0)]) (am_lk (am_lf (am_lk (am_lk (am_lk am_ln))))) (S_X12_wordings_J1 X hp_v0 hC54 hC46 hB h)
    · have h := h.2 c
      refine z_iload_n (nx := 75) (a := 1) G rfl dX12_wordings_74 rfl ?_
      refine z_if_eq (nx := 78) (tgt := 82) G dX12_wordings_75 (by decide) rfl (fun c => ?_) (fun c => ?_)
      · have h := h.1 c
        refine z_iconst (nx := 83) (z := 0) G (R32c rfl) dX12_wordings_82 rfl ?_
        exact b_fewer (loc2 := [(2, v0), (9, 0), (0, v2), (9, 0), (9, 0)]) (am_lk (am_lf (am_lk (am_lk (am_lk am_ln))))) (S_X12_wordings_J2 X hp_v0 (Or.inl rfl) hC54 hC46 hB h)
      · have h := h.2 c
        exact b_fewer (loc2 := [(2, v0), (9, 0), (0, v2), (9, 0), (9, 0)]) (am_lk (am_lf (am_lk (am_lk (am_lk am_ln))))) (S_X12_wordings_J1 X hp_v0 hC54 hC46 hB h)
theorem S_X12_wordings_L3 {F : am_F} {K : am_KK} {v0 : Int} {v1 : Int} {v2 : Int} {C46 : Int → am_M → Prop} {m : am_M} (X : am_Cx F cX12_wordings RX12 none 4 9 K) (hp_v0 : am_ob v0 12) (hC46 : ∀ w1 m, C46 w1 m → am_Bt m → am_Z F 46 [] [(2, v0), (0, w1), (9, 0), (9, 0), (9, 0)] m 200) (hB : am_Bt m) (h : M_X12_wordings_L3 v0 v1 v2 C46 K m) : am_Z F 54 [] [(2, v0), (0, v1), (0, v2), (9, 0), (9, 0)] m 200 := by
  obtain ⟨I, ⟨j, hj⟩, hI⟩ := h
  have key : ∀ j v1 v2 m, I j v1 v2 m → am_Bt m → am_Z F 54 [] [(2, v0), (0, v1), (0, v2), (9, 0), (9, 0)] m 200 := by
    intro j
    induction j using Nat.strongRecOn with
    | ind j ih =>
      intro v1 v2 m hj hB
      exact S_X12_wordings_L3B X hp_v0 (fun v1' v2' m' hc hB' => by
        obtain ⟨j', g1, g2⟩ := hc
        exact ih j' g1 v1' v2' m' g2 hB') hC46 hB (hI j v1 v2 m hj)
  exact key j _ _ _ hj hB
set_option maxRecDepth 20000 in
set_option maxHeartbeats 4000000 in
theorem S_X12_wordings_L2B {F : am_F} {K : am_KK} {v0 : Int} {v1 : Int} {C46 : Int → am_M → Prop} {m : am_M} (X : am_Cx F cX12_wordings RX12 none 4 9 K) (hp_v0 : am_ob v0 12) (hC46 : ∀ w1 m, C46 w1 m → am_Bt m → am_Z F 46 [] [(2, v0), (0, w1), (9, 0), (9, 0), (9, 0)] m 200) (hB : am_Bt m) (h : M_X12_wordings_L2B v0 v1 C46 K m) : am_Z F 46 [] [(2, v0), (0, v1), (9, 0), (9, 0), (9, 0)] m 200 := by
  have G := X.G
  unfold M_X12_wordings_L2B at h
  refine z_iload_n (nx := 47) (a := 1) G rfl dX12_wordings_46 rfl ?_
  refine z_if_eq (nx := 50) (tgt := 93) G dX12_wordings_47 (by decide) rfl (fun c => ?_) (fun c => ?_)
  · have h := h.1 c
    refine z_iconst (nx := 94) (z := 0) G (R32c rfl) dX12_wordings_93 rfl (b_storeE_n (nx := 95) (a := 2) (loc2 := [(2, v0), (0, v1), (0, 0), (9, 0), (9, 0)]) G rfl (Nat.le_of_ble_eq_true rfl) (am_pl1 rfl (fun h => nomatch h)) dX12_wordings_94 rfl ?_)
    exact b_fewer (loc2 := [(2, v0), (9, 0), (0, 0), (9, 0), (9, 0)]) (am_lk (am_lf (am_lk (am_lk (am_lk am_ln))))) (S_X12_wordings_L4 X hp_v0 hB h)
  · have h := h.2 c
    refine z_iconst (nx := 51) (z := 0) G (R32c rfl) dX12_wordings_50 rfl (b_storeE_n (nx := 52) (a := 1) (loc2 := [(2, v0), (0, 0), (9, 0), (9, 0), (9, 0)]) G rfl (Nat.le_of_ble_eq_true rfl) (am_pl1 rfl (fun h => nomatch h)) dX12_wordings_51 rfl (z_iconst (nx := 53) (z := 0) G (R32c rfl) dX12_wordings_52 rfl (b_storeE_n (nx := 54) (a := 2) (loc2 := [(2, v0), (0, 0), (0, 0), (9, 0), (9, 0)]) G rfl (Nat.le_of_ble_eq_true rfl) (am_pl1 rfl (fun h => nomatch h)) dX12_wordings_53 rfl ?_)))
    exact b_fewer (loc2 := [(2, v0), (0, 0), (0, 0), (9, 0), (9, 0)]) (am_lk (am_lk (am_lk (am_lk (am_lk am_ln))))) (S_X12_wordings_L3 X hp_v0 hC46 hB h)
theorem S_X12_wordings_L2 {F : am_F} {K : am_KK} {v0 : Int} {v1 : Int} {m : am_M} (X : am_Cx F cX12_wordings RX12 none 4 9 K) (hp_v0 : am_ob v0 12) (hB : am_Bt m) (h : M_X12_wordings_L2 v0 v1 K m) : am_Z F 46 [] [(2, v0), (0, v1), (9, 0), (9, 0), (9, 0)] m 200 := by
  obtain ⟨I, ⟨j, hj⟩, hI⟩ := h
  have key : ∀ j v1 m, I j v1 m → am_Bt m → am_Z F 46 [] [(2, v0), (0, v1), (9, 0), (9, 0), (9, 0)] m 200 := by
    intro j
    induction j using Nat.strongRecOn with
    | ind j ih =>
      intro v1 m hj hB
      exact S_X12_wordings_L2B X hp_v0 (fun v1' m' hc hB' => by
        obtain ⟨j', g1, g2⟩ := hc
        exact ih j' g1 v1' m' g2 hB') hB (hI j v1 m hj)
  exact key j _ _ hj hB
set_option maxRecDepth 20000 in
set_option maxHeartbeats 4000000 in
theorem S_X12_wordings_L1B {F : am_F} {K : am_KK} {v0 : Int} {v1 : Int} {C2 : Int → am_M → Prop} {m : am_M} (X : am_Cx F cX12_wordings RX12 none 4 9 K) (hp_v0 : am_ob v0 12) (hC2 : ∀ w1 m, C2 w1 m → am_Bt m → am_Z F 2 [] [(2, v0), (0, w1), (9, 0), (9, 0), (9, 0)] m 200) (hB : am_Bt m) (h : M_X12_wordings_L1B v0 v1 C2 K m) : am_Z F 2 [] [(2, v0), (0, v1), (9, 0), (9, 0), (9, 0)] m 200 := by
  have G := X.G
  unfold M_X12_wordings_L1B at h
  refine z_iload_n (nx := 3) (a := 1) G rfl dX12_wordings_2 rfl (z_bipush (nx := 5) (z := 8) G (R32c rfl) rfl dX12_wordings_3 rfl ?_)
  refine z_icmp_ge (nx := 8) (tgt := 44) G dX12_wordings_5 (by decide) rfl (fun c => ?_) (fun c => ?_)
  · have h := h.1 c
    refine z_iconst (nx := 45) (z := 1) G (R32c rfl) dX12_wordings_44 rfl (b_storeE_n (nx := 46) (a := 1) (loc2 := [(2, v0), (0, 1), (9, 0), (9, 0), (9, 0)]) G rfl (Nat.le_of_ble_eq_true rfl) (am_pl1 rfl (fun h => nomatch h)) dX12_wordings_45 rfl ?_)
    exact b_fewer (loc2 := [(2, v0), (0, 1), (9, 0), (9, 0), (9, 0)]) (am_lk (am_lk (am_lk (am_lk (am_lk am_ln))))) (S_X12_wordings_L2 X hp_v0 hB h)
  · have h := h.2 c
    refine z_aload_n (nx := 9) (a := 0) G rfl (Or.inl rfl) dX12_wordings_8 rfl (b_getA (nx := 12) (k0 := 28) G hB fl_RX12_68 (Nat.le_of_ble_eq_true rfl) (Nat.le_of_ble_eq_true rfl) rfl hp_v0 dX12_wordings_9 rfl (z_iload_n (nx := 13) (a := 1) G rfl dX12_wordings_12 rfl (z_ldcw (nx := 16) (z := 1000000000) G (R32c rfl) rfl kw_RX12_329 dX12_wordings_13 rfl ?_)))
    obtain ⟨hb, h⟩ := h
    refine b_iast (nx := 17) G hB (sh_12_28 _ hp_v0) hb.1 hb.2 dX12_wordings_16 rfl (fun m_23 e_m_23 hB => ?_)
    have h := h m_23 e_m_23
    refine z_aload_n (nx := 18) (a := 0) G rfl (Or.inl rfl) dX12_wordings_17 rfl (b_getA (nx := 21) (k0 := 29) G hB fl_RX12_71 (Nat.le_of_ble_eq_true rfl) (Nat.le_of_ble_eq_true rfl) rfl hp_v0 dX12_wordings_18 rfl (z_iload_n (nx := 22) (a := 1) G rfl dX12_wordings_21 rfl (z_iconst (nx := 23) (z := 0) G (R32c rfl) dX12_wordings_22 rfl ?_)))
    obtain ⟨hb, h⟩ := h
    refine b_iast (nx := 24) G hB (sh_12_29 _ hp_v0) hb.1 hb.2 dX12_wordings_23 rfl (fun m_24 e_m_24 hB => ?_)
    have h := h m_24 e_m_24
    refine z_aload_n (nx := 25) (a := 0) G rfl (Or.inl rfl) dX12_wordings_24 rfl (b_getA (nx := 28) (k0 := 30) G hB fl_RX12_74 (Nat.le_of_ble_eq_true rfl) (Nat.le_of_ble_eq_true rfl) rfl hp_v0 dX12_wordings_25 rfl (z_iload_n (nx := 29) (a := 1) G rfl dX12_wordings_28 rfl (z_iconst (nx := 30) (z := (-1)) G (R32c rfl) dX12_wordings_29 rfl ?_)))
    obtain ⟨hb, h⟩ := h
    refine b_iast (nx := 31) G hB (sh_12_30 _ hp_v0) hb.1 hb.2 dX12_wordings_30 rfl (fun m_25 e_m_25 hB => ?_)
    have h := h m_25 e_m_25
    refine z_aload_n (nx := 32) (a := 0) G rfl (Or.inl rfl) dX12_wordings_31 rfl (b_getA (nx := 35) (k0 := 31) G hB fl_RX12_77 (Nat.le_of_ble_eq_true rfl) (Nat.le_of_ble_eq_true rfl) rfl hp_v0 dX12_wordings_32 rfl (z_iload_n (nx := 36) (a := 1) G rfl dX12_wordings_35 rfl (z_iconst (nx := 37) (z := 0) G (R32c rfl) dX12_wordings_36 rfl ?_)))
    obtain ⟨hb, h⟩ := h
    refine b_iast (nx := 38) G hB (sh_12_31 _ hp_v0) hb.1 hb.2 dX12_wordings_37 rfl (fun m_26 e_m_26 hB => ?_)
    have h := h m_26 e_m_26
    refine b_iinc (nx := 41) (a := 1) (loc2 := fun v1_27 => [(2, v0), (0, v1_27), (9, 0), (9, 0), (9, 0)]) G (fun _ => rfl) rfl (am_pl1 rfl (fun h => nomatch h)) dX12_wordings_38 rfl (fun v1_27 e_v1_27 => ?_)
    have h := h v1_27 e_v1_27
    refine z_goto (tgt := 2) G dX12_wordings_41 (by decide) ?_
    exact b_fewer (loc2 := [(2, v0), (0, v1_27), (9, 0), (9, 0), (9, 0)]) (am_lk (am_lk (am_lk (am_lk (am_lk am_ln))))) (hC2 _ _ h hB)
theorem S_X12_wordings_L1 {F : am_F} {K : am_KK} {v0 : Int} {v1 : Int} {m : am_M} (X : am_Cx F cX12_wordings RX12 none 4 9 K) (hp_v0 : am_ob v0 12) (hB : am_Bt m) (h : M_X12_wordings_L1 v0 v1 K m) : am_Z F 2 [] [(2, v0), (0, v1), (9, 0), (9, 0), (9, 0)] m 200 := by
  obtain ⟨I, ⟨j, hj⟩, hI⟩ := h
  have key : ∀ j v1 m, I j v1 m → am_Bt m → am_Z F 2 [] [(2, v0), (0, v1), (9, 0), (9, 0), (9, 0)] m 200 := by
    intro j
    induction j using Nat.strongRecOn with
    | ind j ih =>
      intro v1 m hj hB
      exact S_X12_wordings_L1B X hp_v0 (fun v1' m' hc hB' => by
        obtain ⟨j', g1, g2⟩ := hc
        exact ih j' g1 v1' m' g2 hB') hB (hI j v1 m hj)
  exact key j _ _ hj hB
set_option maxRecDepth 20000 in
set_option maxHeartbeats 4000000 in
theorem S_X12_wordings {F : am_F} {K : am_KK} {v0 : Int} {m : am_M} (X : am_Cx F cX12_wordings RX12 none 4 9 K) (hp_v0 : am_ob v0 12) (hB : am_Bt m) (h : M_X12_wordings v0 K m) : am_Z F 0 [] [(2, v0), (9, 0), (9, 0), (9, 0), (9, 0)] m 200 := by
  have G := X.G
  unfold M_X12_wordings at h
  refine z_iconst (nx := 1) (z := 0) G (R32c rfl) dX12_wordings_0 rfl (b_storeE_n (nx := 2) (a := 1) (loc2 := [(2, v0), (0, 0), (9, 0), (9, 0), (9, 0)]) G rfl (Nat.le_of_ble_eq_true rfl) (am_pl1 rfl (fun h => nomatch h)) dX12_wordings_1 rfl ?_)
  exact b_fewer (loc2 := [(2, v0), (0, 0), (9, 0), (9, 0), (9, 0)]) (am_lk (am_lk (am_lk (am_lk (am_lk am_ln))))) (S_X12_wordings_L1 X hp_v0 hB h)
theorem NM_X12_wordings {v0 : Int} {K : am_KK} {m : am_M} (hp_v0 : am_ob v0 12) (h : M_X12_wordings v0 K m) : N_X12_wordings [v0] K m := ⟨hp_v0, h⟩
theorem SS_X12_wordings : am_Snd yX12_wordings cX12_wordings 5 none 0 4 (am_L [2] 9 N_X12_wordings) := by
  refine am_SB (by decide +kernel) (Nat.le_of_ble_eq_true rfl) (fun F zs as K m X ht hB hM => ?_)
  obtain ⟨v0, zs, as, rfl, rfl, hz0, ht⟩ := am_inv ht
  obtain ⟨rfl, rfl⟩ := am_inv0 ht
  obtain ⟨hp_v0, hM⟩ := hM
  exact S_X12_wordings X hp_v0 hB hM
set_option maxRecDepth 20000 in
set_option maxHeartbeats 4000000 in
theorem S_X12_wordIn_L2B {F : am_F} {K : am_KK} {v0 : Int} {v4 : Int} {v5 : Int} {C21 : Int → Int → am_M → Prop} {C5 : Int → Int → am_M → Prop} {m : am_M} (X : am_Cx F cX12_wordIn RX12 (some .int) 2 0 K) (hp_v0 : am_ob v0 12) (hC21 : ∀ w4 w5 m, C21 w4 w5 m → am_Bt m → am_Z F 21 [] [(2, v0), (9, 0), (9, 0), (9, 0), (0, w4), (0, w5)] m 200) (hC5 : ∀ w3 w4 m, C5 w3 w4 m → am_Bt m → am_Z F 5 [] [(2, v0), (9, 0), (9, 0), (0, w3), (0, w4), (9, 0)] m 200) (hB : am_Bt m) (h : M_X12_wordIn_L2B v0 v4 v5 C21 C5 K m) : am_Z F 21 [] [(2, v0), (9, 0), (9, 0), (9, 0), (0, v4), (0, v5)] m 200 := by
  have G := X.G
  unfold M_X12_wordIn_L2B at h
  refine z_iload (nx := 23) (a := 4) G rfl dX12_wordIn_21 rfl (z_aload_n (nx := 24) (a := 0) G rfl (Or.inl rfl) dX12_wordIn_23 rfl (z_aload_n (nx := 25) (a := 0) G rfl (Or.inl rfl) dX12_wordIn_24 rfl (b_getA (nx := 28) (k0 := 2) G hB fl_RX12_24 (Nat.le_of_ble_eq_true rfl) (Nat.le_of_ble_eq_true rfl) rfl hp_v0 dX12_wordIn_25 rfl (z_iload (nx := 30) (a := 5) G rfl dX12_wordIn_28 rfl ?_))))
  obtain ⟨hb, h⟩ := h
  refine z_iald (nx := 31) G (sh_12_2 _ hp_v0) hb.1 hb.2 dX12_wordIn_30 rfl ?_
  refine b_callV0 (nx := 34) (zs := [v0, m (am_rfv v0 2) v5]) (as := [(0, m (am_rfv v0 2) v5)]) X hB (by decide) rfl hp_v0 SS_X12_wordsOf (am_ta (am_ti am_tn)) (Nat.le_of_ble_eq_true rfl) (Nat.le_of_ble_eq_true rfl) ml_RX12_339 iw_X12_wordsOf vw_X12_wordsOf cw_X12_wordsOf nw_RX12 pp_X12_wordsOf (Nat.le_of_ble_eq_true rfl) dX12_wordIn_31 rfl (NM_X12_wordsOf hp_v0 h) (fun r_1 m_2 h hB => ?_)
  refine z_icmp_lt (nx := 37) (tgt := 59) G dX12_wordIn_34 (by decide) rfl (fun c => ?_) (fun c => ?_)
  · have h := h.1 c
    refine z_aload_n (nx := 60) (a := 0) G rfl (Or.inl rfl) dX12_wordIn_59 rfl (b_getA (nx := 63) (k0 := 2) G hB fl_RX12_24 (Nat.le_of_ble_eq_true rfl) (Nat.le_of_ble_eq_true rfl) rfl hp_v0 dX12_wordIn_60 rfl (z_iload (nx := 65) (a := 5) G rfl dX12_wordIn_63 rfl ?_))
    obtain ⟨hb, h⟩ := h
    refine z_iald (nx := 66) G (sh_12_2 _ hp_v0) hb.1 hb.2 dX12_wordIn_65 rfl ?_
    refine z_bipush (nx := 68) (z := 10) G (R32c rfl) rfl dX12_wordIn_66 rfl ?_
    refine z_icmp_ge (nx := 71) (tgt := 79) G dX12_wordIn_68 (by decide) rfl (fun c => ?_) (fun c => ?_)
    · have h := h.1 c
      refine z_aload_n (nx := 80) (a := 0) G rfl (Or.inl rfl) dX12_wordIn_79 rfl (b_getA (nx := 83) (k0 := 2) G hB fl_RX12_24 (Nat.le_of_ble_eq_true rfl) (Nat.le_of_ble_eq_true rfl) rfl hp_v0 dX12_wordIn_80 rfl (z_iload (nx := 85) (a := 5) G rfl dX12_wordIn_83 rfl ?_))
      obtain ⟨hb, h⟩ := h
      refine z_iald (nx := 86) G (sh_12_2 _ hp_v0) hb.1 hb.2 dX12_wordIn_85 rfl ?_
      refine z_bipush (nx := 88) (z := 10) G (R32c rfl) rfl dX12_wordIn_86 rfl (z_isub (nx := 89) G dX12_wordIn_88 rfl ?_)
      refine b_store_n (nx := 90) (a := 3) (loc2 := fun v3_3 => [(2, v0), (9, 0), (9, 0), (0, v3_3), (0, v4), (0, v5)]) G (fun _ => rfl) (Nat.le_of_ble_eq_true rfl) (am_pl1 rfl (fun h => nomatch h)) dX12_wordIn_89 rfl (fun v3_3 e_v3_3 => ?_)
      have h := h v3_3 e_v3_3
      refine z_goto (tgt := 5) G dX12_wordIn_90 (by decide) ?_
      exact b_fewer (loc2 := [(2, v0), (9, 0), (9, 0), (0, v3_3), (0, v4), (9, 0)]) (am_lk (am_lk (am_lk (am_lk (am_lk (am_lf am_ln)))))) (hC5 _ _ _ h hB)
    · have h := h.2 c
      refine z_aload_n (nx := 72) (a := 0) G rfl (Or.inl rfl) dX12_wordIn_71 rfl (b_getA (nx := 75) (k0 := 2) G hB fl_RX12_24 (Nat.le_of_ble_eq_true rfl) (Nat.le_of_ble_eq_true rfl) rfl hp_v0 dX12_wordIn_72 rfl (z_iload (nx := 77) (a := 5) G rfl dX12_wordIn_75 rfl ?_))
      obtain ⟨hb, h⟩ := h
      refine z_iald (nx := 78) G (sh_12_2 _ hp_v0) hb.1 hb.2 dX12_wordIn_77 rfl ?_
      exact b_ireturn X hB dX12_wordIn_78 h
  · have h := h.2 c
    refine z_iload (nx := 39) (a := 4) G rfl dX12_wordIn_37 rfl (z_aload_n (nx := 40) (a := 0) G rfl (Or.inl rfl) dX12_wordIn_39 rfl (z_aload_n (nx := 41) (a := 0) G rfl (Or.inl rfl) dX12_wordIn_40 rfl (b_getA (nx := 44) (k0 := 2) G hB fl_RX12_24 (Nat.le_of_ble_eq_true rfl) (Nat.le_of_ble_eq_true rfl) rfl hp_v0 dX12_wordIn_41 rfl (z_iload (nx := 46) (a := 5) G rfl dX12_wordIn_44 rfl ?_))))
    obtain ⟨hb, h⟩ := h
    refine z_iald (nx := 47) G (sh_12_2 _ hp_v0) hb.1 hb.2 dX12_wordIn_46 rfl ?_
    refine b_callV0 (nx := 50) (zs := [v0, m_2 (am_rfv v0 2) v5]) (as := [(0, m_2 (am_rfv v0 2) v5)]) X hB (by decide) rfl hp_v0 SS_X12_wordsOf (am_ta (am_ti am_tn)) (Nat.le_of_ble_eq_true rfl) (Nat.le_of_ble_eq_true rfl) ml_RX12_339 iw_X12_wordsOf vw_X12_wordsOf cw_X12_wordsOf nw_RX12 pp_X12_wordsOf (Nat.le_of_ble_eq_true rfl) dX12_wordIn_47 rfl (NM_X12_wordsOf hp_v0 h) (fun r_4 m_5 h hB => ?_)
    refine z_isub (nx := 51) G dX12_wordIn_50 rfl ?_
    refine b_store (nx := 53) (a := 4) (loc2 := fun v4_6 => [(2, v0), (9, 0), (9, 0), (9, 0), (0, v4_6), (0, v5)]) G (fun _ => rfl) (Nat.le_of_ble_eq_true rfl) (am_pl1 rfl (fun h => nomatch h)) dX12_wordIn_51 rfl (fun v4_6 e_v4_6 => ?_)
    have h := h v4_6 e_v4_6
    refine b_iinc (nx := 56) (a := 5) (loc2 := fun v5_7 => [(2, v0), (9, 0), (9, 0), (9, 0), (0, v4_6), (0, v5_7)]) G (fun _ => rfl) rfl (am_pl1 rfl (fun h => nomatch h)) dX12_wordIn_53 rfl (fun v5_7 e_v5_7 => ?_)
    have h := h v5_7 e_v5_7
    refine z_goto (tgt := 21) G dX12_wordIn_56 (by decide) ?_
    exact b_fewer (loc2 := [(2, v0), (9, 0), (9, 0), (9, 0), (0, v4_6), (0, v5_7)]) (am_lk (am_lk (am_lk (am_lk (am_lk (am_lk am_ln)))))) (hC21 _ _ _ h hB)
theorem S_X12_wordIn_L2 {F : am_F} {K : am_KK} {v0 : Int} {v4 : Int} {v5 : Int} {C5 : Int → Int → am_M → Prop} {m : am_M} (X : am_Cx F cX12_wordIn RX12 (some .int) 2 0 K) (hp_v0 : am_ob v0 12) (hC5 : ∀ w3 w4 m, C5 w3 w4 m → am_Bt m → am_Z F 5 [] [(2, v0), (9, 0), (9, 0), (0, w3), (0, w4), (9, 0)] m 200) (hB : am_Bt m) (h : M_X12_wordIn_L2 v0 v4 v5 C5 K m) : am_Z F 21 [] [(2, v0), (9, 0), (9, 0), (9, 0), (0, v4), (0, v5)] m 200 := by
  obtain ⟨I, ⟨j, hj⟩, hI⟩ := h
  have key : ∀ j v4 v5 m, I j v4 v5 m → am_Bt m → am_Z F 21 [] [(2, v0), (9, 0), (9, 0), (9, 0), (0, v4), (0, v5)] m 200 := by
    intro j
    induction j using Nat.strongRecOn with
    | ind j ih =>
      intro v4 v5 m hj hB
      exact S_X12_wordIn_L2B X hp_v0 (fun v4' v5' m' hc hB' => by
        obtain ⟨j', g1, g2⟩ := hc
        exact ih j' g1 v4' v5' m' g2 hB') hC5 hB (hI j v4 v5 m hj)
  exact key j _ _ _ hj hB
set_option maxRecDepth 20000 in
set_option maxHeartbeats 4000000 in
theorem S_X12_wordIn_L1B {F : am_F} {K : am_KK} {v0 : Int} {v3 : Int} {v4 : Int} {C5 : Int → Int → am_M → Prop} {m : am_M} (X : am_Cx F cX12_wordIn RX12 (some .int) 2 0 K) (hp_v0 : am_ob v0 12) (hC5 : ∀ w3 w4 m, C5 w3 w4 m → am_Bt m → am_Z F 5 [] [(2, v0), (9, 0), (9, 0), (0, w3), (0, w4), (9, 0)] m 200) (hB : am_Bt m) (h : M_X12_wordIn_L1B v0 v3 v4 C5 K m) : am_Z F 5 [] [(2, v0), (9, 0), (9, 0), (0, v3), (0, v4), (9, 0)] m 200 := by
  have G := X.G
  unfold M_X12_wordIn_L1B at h
  refine z_sipush (nx := 8) (z := 180) G (R32c rfl) rfl dX12_wordIn_5 rfl (z_iconst (nx := 9) (z := 4) G (R32c rfl) dX12_wordIn_8 rfl (z_aload_n (nx := 10) (a := 0) G rfl (Or.inl rfl) dX12_wordIn_9 rfl (b_getA (nx := 13) (k0 := 30) G hB fl_RX12_74 (Nat.le_of_ble_eq_true rfl) (Nat.le_of_ble_eq_true rfl) rfl hp_v0 dX12_wordIn_10 rfl (z_iload_n (nx := 14) (a := 3) G rfl dX12_wordIn_13 rfl ?_))))
  obtain ⟨hb, h⟩ := h
  refine z_iald (nx := 15) G (sh_12_30 _ hp_v0) hb.1 hb.2 dX12_wordIn_14 rfl ?_
  refine z_imul (nx := 16) G dX12_wordIn_15 rfl (z_iadd (nx := 17) G dX12_wordIn_16 rfl (z_iconst (nx := 18) (z := 1) G (R32c rfl) dX12_wordIn_17 rfl (z_iadd (nx := 19) G dX12_wordIn_18 rfl ?_)))
  refine b_store (nx := 21) (a := 5) (loc2 := fun v5_8 => [(2, v0), (9, 0), (9, 0), (0, v3), (0, v4), (0, v5_8)]) G (fun _ => rfl) (Nat.le_of_ble_eq_true rfl) (am_pl1 rfl (fun h => nomatch h)) dX12_wordIn_19 rfl (fun v5_8 e_v5_8 => ?_)
  have h := h v5_8 e_v5_8
  exact b_fewer (loc2 := [(2, v0), (9, 0), (9, 0), (9, 0), (0, v4), (0, v5_8)]) (am_lk (am_lk (am_lk (am_lf (am_lk (am_lk am_ln)))))) (S_X12_wordIn_L2 X hp_v0 hC5 hB h)
theorem S_X12_wordIn_L1 {F : am_F} {K : am_KK} {v0 : Int} {v3 : Int} {v4 : Int} {m : am_M} (X : am_Cx F cX12_wordIn RX12 (some .int) 2 0 K) (hp_v0 : am_ob v0 12) (hB : am_Bt m) (h : M_X12_wordIn_L1 v0 v3 v4 K m) : am_Z F 5 [] [(2, v0), (9, 0), (9, 0), (0, v3), (0, v4), (9, 0)] m 200 := by
  obtain ⟨I, ⟨j, hj⟩, hI⟩ := h
  have key : ∀ j v3 v4 m, I j v3 v4 m → am_Bt m → am_Z F 5 [] [(2, v0), (9, 0), (9, 0), (0, v3), (0, v4), (9, 0)] m 200 := by
    intro j
    induction j using Nat.strongRecOn with
    | ind j ih =>
      intro v3 v4 m hj hB
      exact S_X12_wordIn_L1B X hp_v0 (fun v3' v4' m' hc hB' => by
        obtain ⟨j', g1, g2⟩ := hc
        exact ih j' g1 v3' v4' m' g2 hB') hB (hI j v3 v4 m hj)
  exact key j _ _ _ hj hB
set_option maxRecDepth 20000 in
set_option maxHeartbeats 4000000 in
theorem S_X12_wordIn {F : am_F} {K : am_KK} {v0 : Int} {v1 : Int} {v2 : Int} {m : am_M} (X : am_Cx F cX12_wordIn RX12 (some .int) 2 0 K) (hp_v0 : am_ob v0 12) (hB : am_Bt m) (h : M_X12_wordIn v0 v1 v2 K m) : am_Z F 0 [] [(2, v0), (0, v1), (0, v2), (9, 0), (9, 0), (9, 0)] m 200 := by
  have G := X.G
  unfold M_X12_wordIn at h
  refine z_iload_n (nx := 1) (a := 1) G rfl dX12_wordIn_0 rfl (b_storeE_n (nx := 2) (a := 3) (loc2 := [(2, v0), (0, v1), (0, v2), (0, v1), (9, 0), (9, 0)]) G rfl (Nat.le_of_ble_eq_true rfl) (am_pl1 rfl (fun h => nomatch h)) dX12_wordIn_1 rfl (z_iload_n (nx := 3) (a := 2) G rfl dX12_wordIn_2 rfl (b_storeE (nx := 5) (a := 4) (loc2 := [(2, v0), (0, v1), (0, v2), (0, v1), (0, v2), (9, 0)]) G rfl (Nat.le_of_ble_eq_true rfl) (am_pl1 rfl (fun h => nomatch h)) dX12_wordIn_3 rfl ?_)))
  exact b_fewer (loc2 := [(2, v0), (9, 0), (9, 0), (0, v1), (0, v2), (9, 0)]) (am_lk (am_lf (am_lf (am_lk (am_lk (am_lk am_ln)))))) (S_X12_wordIn_L1 X hp_v0 hB h)
theorem NM_X12_wordIn {v0 : Int} {v1 : Int} {v2 : Int} {K : am_KK} {m : am_M} (hp_v0 : am_ob v0 12) (h : M_X12_wordIn v0 v1 v2 K m) : N_X12_wordIn [v0, v1, v2] K m := ⟨hp_v0, h⟩
theorem SS_X12_wordIn : am_Snd yX12_wordIn cX12_wordIn 6 (some .int) 0 2 (am_L [2, 0, 0] 0 N_X12_wordIn) := by
  refine am_SB (by decide +kernel) (Nat.le_of_ble_eq_true rfl) (fun F zs as K m X ht hB hM => ?_)
  obtain ⟨v0, zs, as, rfl, rfl, hz0, ht⟩ := am_inv ht
  obtain ⟨v1, zs, as, rfl, rfl, hz1, ht⟩ := am_inv ht
  obtain ⟨v2, zs, as, rfl, rfl, hz2, ht⟩ := am_inv ht
  obtain ⟨rfl, rfl⟩ := am_inv0 ht
  obtain ⟨hp_v0, hM⟩ := hM
  exact S_X12_wordIn X hp_v0 hB hM
set_option maxRecDepth 20000 in
set_option maxHeartbeats 4000000 in
theorem S_X12_say {F : am_F} {K : am_KK} {v0 : Int} {v1 : Int} {v2 : Int} {m : am_M} (X : am_Cx F cX12_say RX12 (some .int) 5 0 K) (hp_v0 : am_ob v0 12) (hB : am_Bt m) (h : M_X12_say v0 v1 v2 K m) : am_Z F 0 [] [(2, v0), (0, v1), (0, v2)] m 200 := by
  have G := X.G
  unfold M_X12_say at h
  refine z_iload_n (nx := 1) (a := 1) G rfl dX12_say_0 rfl ?_
  refine b_callS5 (nx := 4) (zs := [v1]) (as := [(0, v1)]) X hB SS_X12_isThing (am_ti am_tn) (Nat.le_of_ble_eq_true rfl) (Nat.le_of_ble_eq_true rfl) ml_RX12_148 sw_X12_isThing (am_plainC 12 (by decide)) cw_X12_isThing nw_RX12 pp_X12_isThing (Nat.le_of_ble_eq_true rfl) dX12_say_1 rfl (NM_X12_isThing h) (fun r_1 m_2 h h01_3 hB => ?_)
  refine z_if_eq (nx := 7) (tgt := 11) G dX12_say_4 (by decide) rfl (fun c => ?_) (fun c => ?_)
  · have h := h.1 c
    refine z_iconst (nx := 12) (z := (-1)) G (R32c rfl) dX12_say_11 rfl ?_
    exact b_ireturn X hB dX12_say_12 h
  · have h := h.2 c
    refine z_iload_n (nx := 8) (a := 2) G rfl dX12_say_7 rfl ?_
    refine z_if_ge (nx := 11) (tgt := 13) G dX12_say_8 (by decide) rfl (fun c => ?_) (fun c => ?_)
    · have h := h.1 c
      refine z_aload_n (nx := 14) (a := 0) G rfl (Or.inl rfl) dX12_say_13 rfl ?_
      refine b_callV9 (nx := 17) (zs := [v0]) (as := []) X hB (by decide) rfl hp_v0 SS_X12_wordings (am_ta am_tn) (Nat.le_of_ble_eq_true rfl) (Nat.le_of_ble_eq_true rfl) ml_RX12_348 iw_X12_wordings vw_X12_wordings cw_X12_wordings nw_RX12 pp_X12_wordings (Nat.le_of_ble_eq_true rfl) dX12_say_14 rfl (NM_X12_wordings hp_v0 h) (fun r_4 m_5 h hB => ?_)
      refine z_aload_n (nx := 18) (a := 0) G rfl (Or.inl rfl) dX12_say_17 rfl (b_getA (nx := 21) (k0 := 28) G hB fl_RX12_68 (Nat.le_of_ble_eq_true rfl) (Nat.le_of_ble_eq_true rfl) rfl hp_v0 dX12_say_18 rfl (z_iload_n (nx := 22) (a := 1) G rfl dX12_say_21 rfl ?_))
      obtain ⟨hb, h⟩ := h
      refine z_iald (nx := 23) G (sh_12_28 _ hp_v0) hb.1 hb.2 dX12_say_22 rfl ?_
      refine z_ldcw (nx := 26) (z := 1000000000) G (R32c rfl) rfl kw_RX12_329 dX12_say_23 rfl ?_
      refine z_icmp_lt (nx := 29) (tgt := 31) G dX12_say_26 (by decide) rfl (fun c => ?_) (fun c => ?_)
      · have h := h.1 c
        refine z_iload_n (nx := 32) (a := 2) G rfl dX12_say_31 rfl (z_iconst (nx := 33) (z := 3) G (R32c rfl) dX12_say_32 rfl ?_)
        refine z_icmp_ge (nx := 36) (tgt := 70) G dX12_say_33 (by decide) rfl (fun c => ?_) (fun c => ?_)
        · have h := h.1 c
          refine z_iload_n (nx := 71) (a := 2) G rfl dX12_say_70 rfl (z_iconst (nx := 72) (z := 3) G (R32c rfl) dX12_say_71 rfl (z_isub (nx := 73) G dX12_say_72 rfl (z_aload_n (nx := 74) (a := 0) G rfl (Or.inl rfl) dX12_say_73 rfl (b_getA (nx := 77) (k0 := 31) G hB fl_RX12_77 (Nat.le_of_ble_eq_true rfl) (Nat.le_of_ble_eq_true rfl) rfl hp_v0 dX12_say_74 rfl (z_iload_n (nx := 78) (a := 1) G rfl dX12_say_77 rfl ?_)))))
          obtain ⟨hb, h⟩ := h
          refine z_iald (nx := 79) G (sh_12_31 _ hp_v0) hb.1 hb.2 dX12_say_78 rfl ?_
          refine z_icmp_ge (nx := 82) (tgt := 93) G dX12_say_79 (by decide) rfl (fun c => ?_) (fun c => ?_)
          · have h := h.1 c
            refine z_iconst (nx := 94) (z := (-1)) G (R32c rfl) dX12_say_93 rfl ?_
            exact b_ireturn X hB dX12_say_94 h
          · have h := h.2 c
            refine z_aload_n (nx := 83) (a := 0) G rfl (Or.inl rfl) dX12_say_82 rfl (z_iload_n (nx := 84) (a := 1) G rfl dX12_say_83 rfl (z_iload_n (nx := 85) (a := 2) G rfl dX12_say_84 rfl (z_iconst (nx := 86) (z := 3) G (R32c rfl) dX12_say_85 rfl (z_isub (nx := 87) G dX12_say_86 rfl ?_))))
            refine b_callV0 (nx := 90) (zs := [v0, v1, w32 (v2 - 3)]) (as := [(0, v1), (0, w32 (v2 - 3))]) X hB (by decide) rfl hp_v0 SS_X12_wordIn (am_ta (am_ti (am_ti am_tn))) (Nat.le_of_ble_eq_true rfl) (Nat.le_of_ble_eq_true rfl) ml_RX12_351 iw_X12_wordIn vw_X12_wordIn cw_X12_wordIn nw_RX12 pp_X12_wordIn (Nat.le_of_ble_eq_true rfl) dX12_say_87 rfl (NM_X12_wordIn hp_v0 h) (fun r_6 m_7 h hB => ?_)
            refine z_goto (tgt := 94) G dX12_say_90 (by decide) ?_
            exact b_ireturn X hB dX12_say_94 h
        · have h := h.2 c
          refine z_iload_n (nx := 37) (a := 2) G rfl dX12_say_36 rfl ?_
          refine z_if_ne (nx := 40) (tgt := 49) G dX12_say_37 (by decide) rfl (fun c => ?_) (fun c => ?_)
          · have h := h.1 c
            refine z_iload_n (nx := 50) (a := 2) G rfl dX12_say_49 rfl (z_iconst (nx := 51) (z := 1) G (R32c rfl) dX12_say_50 rfl ?_)
            refine z_icmp_ne (nx := 54) (tgt := 63) G dX12_say_51 (by decide) rfl (fun c => ?_) (fun c => ?_)
            · have h := h.1 c
              refine z_aload_n (nx := 64) (a := 0) G rfl (Or.inl rfl) dX12_say_63 rfl (b_getA (nx := 67) (k0 := 29) G hB fl_RX12_71 (Nat.le_of_ble_eq_true rfl) (Nat.le_of_ble_eq_true rfl) rfl hp_v0 dX12_say_64 rfl (z_iload_n (nx := 68) (a := 1) G rfl dX12_say_67 rfl ?_))
              obtain ⟨hb, h⟩ := h
              refine z_iald (nx := 69) G (sh_12_29 _ hp_v0) hb.1 hb.2 dX12_say_68 rfl ?_
              exact b_ireturn X hB dX12_say_69 h
            · have h := h.2 c
              refine z_aload_n (nx := 55) (a := 0) G rfl (Or.inl rfl) dX12_say_54 rfl (b_getA (nx := 58) (k0 := 31) G hB fl_RX12_77 (Nat.le_of_ble_eq_true rfl) (Nat.le_of_ble_eq_true rfl) rfl hp_v0 dX12_say_55 rfl (z_iload_n (nx := 59) (a := 1) G rfl dX12_say_58 rfl ?_))
              obtain ⟨hb, h⟩ := h
              refine z_iald (nx := 60) G (sh_12_31 _ hp_v0) hb.1 hb.2 dX12_say_59 rfl ?_
              refine z_goto (tgt := 69) G dX12_say_60 (by decide) ?_
              exact b_ireturn X hB dX12_say_69 h
          · have h := h.2 c
            refine z_aload_n (nx := 41) (a := 0) G rfl (Or.inl rfl) dX12_say_40 rfl (b_getA (nx := 44) (k0 := 28) G hB fl_RX12_68 (Nat.le_of_ble_eq_true rfl) (Nat.le_of_ble_eq_true rfl) rfl hp_v0 dX12_say_41 rfl (z_iload_n (nx := 45) (a := 1) G rfl dX12_say_44 rfl ?_))
            obtain ⟨hb, h⟩ := h
            refine z_iald (nx := 46) G (sh_12_28 _ hp_v0) hb.1 hb.2 dX12_say_45 rfl ?_
            refine z_goto (tgt := 69) G dX12_say_46 (by decide) ?_
            exact b_ireturn X hB dX12_say_69 h
      · have h := h.2 c
        refine z_iconst (nx := 30) (z := (-1)) G (R32c rfl) dX12_say_29 rfl ?_
        exact b_ireturn X hB dX12_say_30 h
    · have h := h.2 c
      refine z_iconst (nx := 12) (z := (-1)) G (R32c rfl) dX12_say_11 rfl ?_
      exact b_ireturn X hB dX12_say_12 h
theorem NM_X12_say {v0 : Int} {v1 : Int} {v2 : Int} {K : am_KK} {m : am_M} (hp_v0 : am_ob v0 12) (h : M_X12_say v0 v1 v2 K m) : N_X12_say [v0, v1, v2] K m := ⟨hp_v0, h⟩
theorem SS_X12_say : am_Snd yX12_say cX12_say 3 (some .int) 0 5 (am_L [2, 0, 0] 0 N_X12_say) := by
  refine am_SB (by decide +kernel) (Nat.le_of_ble_eq_true rfl) (fun F zs as K m X ht hB hM => ?_)
  obtain ⟨v0, zs, as, rfl, rfl, hz0, ht⟩ := am_inv ht
  obtain ⟨v1, zs, as, rfl, rfl, hz1, ht⟩ := am_inv ht
  obtain ⟨v2, zs, as, rfl, rfl, hz2, ht⟩ := am_inv ht
  obtain ⟨rfl, rfl⟩ := am_inv0 ht
  obtain ⟨hp_v0, hM⟩ := hM
  exact S_X12_say X hp_v0 hB hM
set_option maxRecDepth 20000 in
set_option maxHeartbeats 4000000 in
theorem S_X12_queues_J2 {F : am_F} {K : am_KK} {v0 : Int} {v1 : Int} {v2 : Int} {C7 : Int → am_M → Prop} {m : am_M} (X : am_Cx F cX12_queues RX12 none 607 9 K) (hp_v0 : am_ob v0 12) (hC7 : ∀ w2 m, C7 w2 m → am_Bt m → am_Z F 7 [] [(2, v0), (0, v1), (0, w2), (9, 0), (9, 0)] m 200) (hB : am_Bt m) (h : M_X12_queues_J2 v0 v1 v2 C7 K m) : am_Z F 131 [] [(2, v0), (0, v1), (0, v2), (9, 0), (9, 0)] m 200 := by
  have G := X.G
  unfold M_X12_queues_J2 at h
  refine b_iinc (nx := 134) (a := 2) (loc2 := fun v2_1 => [(2, v0), (0, v1), (0, v2_1), (9, 0), (9, 0)]) G (fun _ => rfl) rfl (am_pl1 rfl (fun h => nomatch h)) dX12_queues_131 rfl (fun v2_1 e_v2_1 => ?_)
  have h := h v2_1 e_v2_1
  refine z_goto (tgt := 7) G dX12_queues_134 (by decide) ?_
  exact b_fewer (loc2 := [(2, v0), (0, v1), (0, v2_1), (9, 0), (9, 0)]) (am_lk (am_lk (am_lk (am_lk (am_lk am_ln))))) (hC7 _ _ h hB)
set_option maxRecDepth 20000 in
set_option maxHeartbeats 4000000 in
theorem S_X12_queues_J1 {F : am_F} {K : am_KK} {v0 : Int} {v1 : Int} {v2 : Int} {v3 : Int} {v4 : Int} {C7 : Int → am_M → Prop} {m : am_M} (X : am_Cx F cX12_queues RX12 none 607 9 K) (hp_v0 : am_ob v0 12) (hC7 : ∀ w2 m, C7 w2 m → am_Bt m → am_Z F 7 [] [(2, v0), (0, v1), (0, w2), (9, 0), (9, 0)] m 200) (hB : am_Bt m) (h : M_X12_queues_J1 v0 v1 v2 v3 v4 C7 K m) : am_Z F 105 [] [(2, v0), (0, v1), (0, v2), (0, v3), (0, v4)] m 200 := by
  have G := X.G
  unfold M_X12_queues_J1 at h
  refine z_aload_n (nx := 106) (a := 0) G rfl (Or.inl rfl) dX12_queues_105 rfl (b_getA (nx := 109) (k0 := 32) G hB fl_RX12_80 (Nat.le_of_ble_eq_true rfl) (Nat.le_of_ble_eq_true rfl) rfl hp_v0 dX12_queues_106 rfl (z_iload (nx := 111) (a := 4) G rfl dX12_queues_109 rfl (z_iload_n (nx := 112) (a := 2) G rfl dX12_queues_111 rfl ?_)))
  obtain ⟨hb, h⟩ := h
  refine b_iast (nx := 113) G hB (sh_12_32 _ hp_v0) hb.1 hb.2 dX12_queues_112 rfl (fun m_2 e_m_2 hB => ?_)
  have h := h m_2 e_m_2
  refine z_aload_n (nx := 114) (a := 0) G rfl (Or.inl rfl) dX12_queues_113 rfl (b_getA (nx := 117) (k0 := 33) G hB fl_RX12_83 (Nat.le_of_ble_eq_true rfl) (Nat.le_of_ble_eq_true rfl) rfl hp_v0 dX12_queues_114 rfl (z_iload (nx := 119) (a := 4) G rfl dX12_queues_117 rfl (z_iload_n (nx := 120) (a := 3) G rfl dX12_queues_119 rfl ?_)))
  obtain ⟨hb, h⟩ := h
  refine b_iast (nx := 121) G hB (sh_12_33 _ hp_v0) hb.1 hb.2 dX12_queues_120 rfl (fun m_3 e_m_3 hB => ?_)
  have h := h m_3 e_m_3
  refine z_aload_n (nx := 122) (a := 0) G rfl (Or.inl rfl) dX12_queues_121 rfl (z_dup (nx := 123) G (fun h => nomatch h) dX12_queues_122 rfl (b_getI (nx := 126) (k0 := 34) (t := 0) G fl_RX12_354 (Nat.le_of_ble_eq_true rfl) (Nat.le_of_ble_eq_true rfl) rfl hp_v0 dX12_queues_123 rfl (z_iconst (nx := 127) (z := 1) G (R32c rfl) dX12_queues_126 rfl (z_iadd (nx := 128) G dX12_queues_127 rfl ?_))))
  refine b_put (nx := 131) (k0 := 34) (t := 0) G hB fl_RX12_354 (Nat.le_of_ble_eq_true rfl) (Nat.le_of_ble_eq_true rfl) rfl (fun h => nomatch h) rfl hp_v0 dX12_queues_128 rfl (fun m_4 e_m_4 hB => ?_)
  have h := h m_4 e_m_4
  exact b_fewer (loc2 := [(2, v0), (0, v1), (0, v2), (9, 0), (9, 0)]) (am_lk (am_lk (am_lk (am_lf (am_lf am_ln))))) (S_X12_queues_J2 X hp_v0 hC7 hB h)
set_option maxRecDepth 20000 in
set_option maxHeartbeats 4000000 in
theorem S_X12_queues_L2B {F : am_F} {K : am_KK} {v0 : Int} {v1 : Int} {v2 : Int} {v3 : Int} {v4 : Int} {C49 : Int → am_M → Prop} {C7 : Int → am_M → Prop} {m : am_M} (X : am_Cx F cX12_queues RX12 none 607 9 K) (hp_v0 : am_ob v0 12) (hC49 : ∀ w4 m, C49 w4 m → am_Bt m → am_Z F 49 [] [(2, v0), (0, v1), (0, v2), (0, v3), (0, w4)] m 200) (hC7 : ∀ w2 m, C7 w2 m → am_Bt m → am_Z F 7 [] [(2, v0), (0, v1), (0, w2), (9, 0), (9, 0)] m 200) (hB : am_Bt m) (h : M_X12_queues_L2B v0 v1 v2 v3 v4 C49 C7 K m) : am_Z F 49 [] [(2, v0), (0, v1), (0, v2), (0, v3), (0, v4)] m 200 := by
  have G := X.G
  unfold M_X12_queues_L2B at h
  refine z_iload (nx := 51) (a := 4) G rfl dX12_queues_49 rfl ?_
  refine z_if_le (nx := 54) (tgt := 105) G dX12_queues_51 (by decide) rfl (fun c => ?_) (fun c => ?_)
  · have h := h.1 c
    exact b_fewer (loc2 := [(2, v0), (0, v1), (0, v2), (0, v3), (0, v4)]) (am_lk (am_lk (am_lk (am_lk (am_lk am_ln))))) (S_X12_queues_J1 X hp_v0 hC7 hB h)
  · have h := h.2 c
    refine z_aload_n (nx := 55) (a := 0) G rfl (Or.inl rfl) dX12_queues_54 rfl (b_getA (nx := 58) (k0 := 33) G hB fl_RX12_83 (Nat.le_of_ble_eq_true rfl) (Nat.le_of_ble_eq_true rfl) rfl hp_v0 dX12_queues_55 rfl (z_iload (nx := 60) (a := 4) G rfl dX12_queues_58 rfl (z_iconst (nx := 61) (z := 1) G (R32c rfl) dX12_queues_60 rfl (z_isub (nx := 62) G dX12_queues_61 rfl ?_))))
    obtain ⟨hb, h⟩ := h
    refine z_iald (nx := 63) G (sh_12_33 _ hp_v0) hb.1 hb.2 dX12_queues_62 rfl ?_
    refine z_iload_n (nx := 64) (a := 3) G rfl dX12_queues_63 rfl ?_
    refine z_icmp_le (nx := 67) (tgt := 105) G dX12_queues_64 (by decide) rfl (fun c => ?_) (fun c => ?_)
    · have h := h.1 c
      exact b_fewer (loc2 := [(2, v0), (0, v1), (0, v2), (0, v3), (0, v4)]) (am_lk (am_lk (am_lk (am_lk (am_lk am_ln))))) (S_X12_queues_J1 X hp_v0 hC7 hB h)
    · have h := h.2 c
      refine z_aload_n (nx := 68) (a := 0) G rfl (Or.inl rfl) dX12_queues_67 rfl (b_getA (nx := 71) (k0 := 32) G hB fl_RX12_80 (Nat.le_of_ble_eq_true rfl) (Nat.le_of_ble_eq_true rfl) rfl hp_v0 dX12_queues_68 rfl (z_iload (nx := 73) (a := 4) G rfl dX12_queues_71 rfl (z_aload_n (nx := 74) (a := 0) G rfl (Or.inl rfl) dX12_queues_73 rfl (b_getA (nx := 77) (k0 := 32) G hB fl_RX12_80 (Nat.le_of_ble_eq_true rfl) (Nat.le_of_ble_eq_true rfl) rfl hp_v0 dX12_queues_74 rfl (z_iload (nx := 79) (a := 4) G rfl dX12_queues_77 rfl (z_iconst (nx := 80) (z := 1) G (R32c rfl) dX12_queues_79 rfl (z_isub (nx := 81) G dX12_queues_80 rfl ?_)))))))
      obtain ⟨hb, h⟩ := h
      refine z_iald (nx := 82) G (sh_12_32 _ hp_v0) hb.1 hb.2 dX12_queues_81 rfl ?_
      obtain ⟨hb, h⟩ := h
      refine b_iast (nx := 83) G hB (sh_12_32 _ hp_v0) hb.1 hb.2 dX12_queues_82 rfl (fun m_5 e_m_5 hB => ?_)
      have h := h m_5 e_m_5
      refine z_aload_n (nx := 84) (a := 0) G rfl (Or.inl rfl) dX12_queues_83 rfl (b_getA (nx := 87) (k0 := 33) G hB fl_RX12_83 (Nat.le_of_ble_eq_true rfl) (Nat.le_of_ble_eq_true rfl) rfl hp_v0 dX12_queues_84 rfl (z_iload (nx := 89) (a := 4) G rfl dX12_queues_87 rfl (z_aload_n (nx := 90) (a := 0) G rfl (Or.inl rfl) dX12_queues_89 rfl (b_getA (nx := 93) (k0 := 33) G hB fl_RX12_83 (Nat.le_of_ble_eq_true rfl) (Nat.le_of_ble_eq_true rfl) rfl hp_v0 dX12_queues_90 rfl (z_iload (nx := 95) (a := 4) G rfl dX12_queues_93 rfl (z_iconst (nx := 96) (z := 1) G (R32c rfl) dX12_queues_95 rfl (z_isub (nx := 97) G dX12_queues_96 rfl ?_)))))))
      obtain ⟨hb, h⟩ := h
      refine z_iald (nx := 98) G (sh_12_33 _ hp_v0) hb.1 hb.2 dX12_queues_97 rfl ?_
      obtain ⟨hb, h⟩ := h
      refine b_iast (nx := 99) G hB (sh_12_33 _ hp_v0) hb.1 hb.2 dX12_queues_98 rfl (fun m_6 e_m_6 hB => ?_)
      have h := h m_6 e_m_6
      refine b_iinc (nx := 102) (a := 4) (loc2 := fun v4_7 => [(2, v0), (0, v1), (0, v2), (0, v3), (0, v4_7)]) G (fun _ => rfl) rfl (am_pl1 rfl (fun h => nomatch h)) dX12_queues_99 rfl (fun v4_7 e_v4_7 => ?_)
      have h := h v4_7 e_v4_7
      refine z_goto (tgt := 49) G dX12_queues_102 (by decide) ?_
      exact b_fewer (loc2 := [(2, v0), (0, v1), (0, v2), (0, v3), (0, v4_7)]) (am_lk (am_lk (am_lk (am_lk (am_lk am_ln))))) (hC49 _ _ h hB)
theorem S_X12_queues_L2 {F : am_F} {K : am_KK} {v0 : Int} {v1 : Int} {v2 : Int} {v3 : Int} {v4 : Int} {C7 : Int → am_M → Prop} {m : am_M} (X : am_Cx F cX12_queues RX12 none 607 9 K) (hp_v0 : am_ob v0 12) (hC7 : ∀ w2 m, C7 w2 m → am_Bt m → am_Z F 7 [] [(2, v0), (0, v1), (0, w2), (9, 0), (9, 0)] m 200) (hB : am_Bt m) (h : M_X12_queues_L2 v0 v1 v2 v3 v4 C7 K m) : am_Z F 49 [] [(2, v0), (0, v1), (0, v2), (0, v3), (0, v4)] m 200 := by
  obtain ⟨I, ⟨j, hj⟩, hI⟩ := h
  have key : ∀ j v4 m, I j v4 m → am_Bt m → am_Z F 49 [] [(2, v0), (0, v1), (0, v2), (0, v3), (0, v4)] m 200 := by
    intro j
    induction j using Nat.strongRecOn with
    | ind j ih =>
      intro v4 m hj hB
      exact S_X12_queues_L2B X hp_v0 (fun v4' m' hc hB' => by
        obtain ⟨j', g1, g2⟩ := hc
        exact ih j' g1 v4' m' g2 hB') hC7 hB (hI j v4 m hj)
  exact key j _ _ hj hB
set_option maxRecDepth 20000 in
set_option maxHeartbeats 4000000 in
theorem S_X12_queues_L1B {F : am_F} {K : am_KK} {v0 : Int} {v1 : Int} {v2 : Int} {C7 : Int → am_M → Prop} {m : am_M} (X : am_Cx F cX12_queues RX12 none 607 9 K) (hp_v0 : am_ob v0 12) (hC7 : ∀ w2 m, C7 w2 m → am_Bt m → am_Z F 7 [] [(2, v0), (0, v1), (0, w2), (9, 0), (9, 0)] m 200) (hB : am_Bt m) (h : M_X12_queues_L1B v0 v1 v2 C7 K m) : am_Z F 7 [] [(2, v0), (0, v1), (0, v2), (9, 0), (9, 0)] m 200 := by
  have G := X.G
  unfold M_X12_queues_L1B at h
  refine z_iload_n (nx := 8) (a := 2) G rfl dX12_queues_7 rfl (z_aload_n (nx := 9) (a := 0) G rfl (Or.inl rfl) dX12_queues_8 rfl ?_)
  refine b_callV0 (nx := 12) (zs := [v0]) (as := []) X hB (by decide) rfl hp_v0 SS_X12_prayers (am_ta am_tn) (Nat.le_of_ble_eq_true rfl) (Nat.le_of_ble_eq_true rfl) ml_RX12_133 iw_X12_prayers vw_X12_prayers cw_X12_prayers nw_RX12 pp_X12_prayers (Nat.le_of_ble_eq_true rfl) dX12_queues_9 rfl (NM_X12_prayers hp_v0 h) (fun r_8 m_9 h hB => ?_)
  refine z_icmp_ge (nx := 15) (tgt := 137) G dX12_queues_12 (by decide) rfl (fun c => ?_) (fun c => ?_)
  · have h := h.1 c
    exact b_return X hB dX12_queues_137 h
  · have h := h.2 c
    refine z_aload_n (nx := 16) (a := 0) G rfl (Or.inl rfl) dX12_queues_15 rfl (z_iload_n (nx := 17) (a := 2) G rfl dX12_queues_16 rfl (z_iconst (nx := 18) (z := 5) G (R32c rfl) dX12_queues_17 rfl ?_))
    refine b_callV0 (nx := 21) (zs := [v0, v2, 5]) (as := [(0, v2), (0, 5)]) X hB (by decide) rfl hp_v0 SS_X12_fact (am_ta (am_ti (am_ti am_tn))) (Nat.le_of_ble_eq_true rfl) (Nat.le_of_ble_eq_true rfl) ml_RX12_141 iw_X12_fact vw_X12_fact cw_X12_fact nw_RX12 pp_X12_fact (Nat.le_of_ble_eq_true rfl) dX12_queues_18 rfl (NM_X12_fact hp_v0 h) (fun r_10 m_11 h hB => ?_)
    refine z_if_ne (nx := 24) (tgt := 131) G dX12_queues_21 (by decide) rfl (fun c => ?_) (fun c => ?_)
    · have h := h.1 c
      exact b_fewer (loc2 := [(2, v0), (0, v1), (0, v2), (9, 0), (9, 0)]) (am_lk (am_lk (am_lk (am_lk (am_lk am_ln))))) (S_X12_queues_J2 X hp_v0 hC7 hB h)
    · have h := h.2 c
      refine z_aload_n (nx := 25) (a := 0) G rfl (Or.inl rfl) dX12_queues_24 rfl (z_iload_n (nx := 26) (a := 2) G rfl dX12_queues_25 rfl (z_iload_n (nx := 27) (a := 1) G rfl dX12_queues_26 rfl ?_))
      refine b_callV5 (nx := 30) (zs := [v0, v2, v1]) (as := [(0, v2), (0, v1)]) X hB (by decide) rfl hp_v0 SS_X12_isBarred (am_ta (am_ti (am_ti am_tn))) (Nat.le_of_ble_eq_true rfl) (Nat.le_of_ble_eq_true rfl) ml_RX12_357 iw_X12_isBarred vw_X12_isBarred cw_X12_isBarred nw_RX12 pp_X12_isBarred (Nat.le_of_ble_eq_true rfl) dX12_queues_27 rfl (NM_X12_isBarred hp_v0 h) (fun r_12 m_13 h h01_14 hB => ?_)
      refine z_if_eq (nx := 33) (tgt := 36) G dX12_queues_30 (by decide) rfl (fun c => ?_) (fun c => ?_)
      · have h := h.1 c
        refine z_aload_n (nx := 37) (a := 0) G rfl (Or.inl rfl) dX12_queues_36 rfl (z_iload_n (nx := 38) (a := 2) G rfl dX12_queues_37 rfl (z_iload_n (nx := 39) (a := 1) G rfl dX12_queues_38 rfl ?_))
        refine b_callV0 (nx := 42) (zs := [v0, v2, v1]) (as := [(0, v2), (0, v1)]) X hB (by decide) rfl hp_v0 SS_X12_rankOf (am_ta (am_ti (am_ti am_tn))) (Nat.le_of_ble_eq_true rfl) (Nat.le_of_ble_eq_true rfl) ml_RX12_360 iw_X12_rankOf vw_X12_rankOf cw_X12_rankOf nw_RX12 pp_X12_rankOf (Nat.le_of_ble_eq_true rfl) dX12_queues_39 rfl (NM_X12_rankOf hp_v0 h) (fun r_15 m_16 h hB => ?_)
        refine b_storeE_n (nx := 43) (a := 3) (loc2 := [(2, v0), (0, v1), (0, v2), (0, r_15), (9, 0)]) G rfl (Nat.le_of_ble_eq_true rfl) (am_pl1 rfl (fun h => nomatch h)) dX12_queues_42 rfl (z_aload_n (nx := 44) (a := 0) G rfl (Or.inl rfl) dX12_queues_43 rfl (b_getI (nx := 47) (k0 := 34) (t := 0) G fl_RX12_354 (Nat.le_of_ble_eq_true rfl) (Nat.le_of_ble_eq_true rfl) rfl hp_v0 dX12_queues_44 rfl ?_))
        refine b_store (nx := 49) (a := 4) (loc2 := fun v4_17 => [(2, v0), (0, v1), (0, v2), (0, r_15), (0, v4_17)]) G (fun _ => rfl) (Nat.le_of_ble_eq_true rfl) (am_pl1 rfl (fun h => nomatch h)) dX12_queues_47 rfl (fun v4_17 e_v4_17 => ?_)
        have h := h v4_17 e_v4_17
        exact b_fewer (loc2 := [(2, v0), (0, v1), (0, v2), (0, r_15), (0, v4_17)]) (am_lk (am_lk (am_lk (am_lk (am_lk am_ln))))) (S_X12_queues_L2 X hp_v0 hC7 hB h)
      · have h := h.2 c
        refine z_goto (tgt := 131) G dX12_queues_33 (by decide) ?_
        exact b_fewer (loc2 := [(2, v0), (0, v1), (0, v2), (9, 0), (9, 0)]) (am_lk (am_lk (am_lk (am_lk (am_lk am_ln))))) (S_X12_queues_J2 X hp_v0 hC7 hB h)
theorem S_X12_queues_L1 {F : am_F} {K : am_KK} {v0 : Int} {v1 : Int} {v2 : Int} {m : am_M} (X : am_Cx F cX12_queues RX12 none 607 9 K) (hp_v0 : am_ob v0 12) (hB : am_Bt m) (h : M_X12_queues_L1 v0 v1 v2 K m) : am_Z F 7 [] [(2, v0), (0, v1), (0, v2), (9, 0), (9, 0)] m 200 := by
  obtain ⟨I, ⟨j, hj⟩, hI⟩ := h
  have key : ∀ j v2 m, I j v2 m → am_Bt m → am_Z F 7 [] [(2, v0), (0, v1), (0, v2), (9, 0), (9, 0)] m 200 := by
    intro j
    induction j using Nat.strongRecOn with
    | ind j ih =>
      intro v2 m hj hB
      exact S_X12_queues_L1B X hp_v0 (fun v2' m' hc hB' => by
        obtain ⟨j', g1, g2⟩ := hc
        exact ih j' g1 v2' m' g2 hB') hB (hI j v2 m hj)
  exact key j _ _ hj hB
set_option maxRecDepth 20000 in
set_option maxHeartbeats 4000000 in
theorem S_X12_queues {F : am_F} {K : am_KK} {v0 : Int} {v1 : Int} {m : am_M} (X : am_Cx F cX12_queues RX12 none 607 9 K) (hp_v0 : am_ob v0 12) (hB : am_Bt m) (h : M_X12_queues v0 v1 K m) : am_Z F 0 [] [(2, v0), (0, v1), (9, 0), (9, 0), (9, 0)] m 200 := by
  have G := X.G
  unfold M_X12_queues at h
  refine z_aload_n (nx := 1) (a := 0) G rfl (Or.inl rfl) dX12_queues_0 rfl (z_iconst (nx := 2) (z := 0) G (R32c rfl) dX12_queues_1 rfl ?_)
  refine b_put (nx := 5) (k0 := 34) (t := 0) G hB fl_RX12_354 (Nat.le_of_ble_eq_true rfl) (Nat.le_of_ble_eq_true rfl) rfl (fun h => nomatch h) rfl hp_v0 dX12_queues_2 rfl (fun m_18 e_m_18 hB => ?_)
  have h := h m_18 e_m_18
  refine z_iconst (nx := 6) (z := 0) G (R32c rfl) dX12_queues_5 rfl (b_storeE_n (nx := 7) (a := 2) (loc2 := [(2, v0), (0, v1), (0, 0), (9, 0), (9, 0)]) G rfl (Nat.le_of_ble_eq_true rfl) (am_pl1 rfl (fun h => nomatch h)) dX12_queues_6 rfl ?_)
  exact b_fewer (loc2 := [(2, v0), (0, v1), (0, 0), (9, 0), (9, 0)]) (am_lk (am_lk (am_lk (am_lk (am_lk am_ln))))) (S_X12_queues_L1 X hp_v0 hB h)
theorem NM_X12_queues {v0 : Int} {v1 : Int} {K : am_KK} {m : am_M} (hp_v0 : am_ob v0 12) (h : M_X12_queues v0 v1 K m) : N_X12_queues [v0, v1] K m := ⟨hp_v0, h⟩
theorem SS_X12_queues : am_Snd yX12_queues cX12_queues 5 none 0 607 (am_L [2, 0] 9 N_X12_queues) := by
  refine am_SB (by decide +kernel) (Nat.le_of_ble_eq_true rfl) (fun F zs as K m X ht hB hM => ?_)
  obtain ⟨v0, zs, as, rfl, rfl, hz0, ht⟩ := am_inv ht
  obtain ⟨v1, zs, as, rfl, rfl, hz1, ht⟩ := am_inv ht
  obtain ⟨rfl, rfl⟩ := am_inv0 ht
  obtain ⟨hp_v0, hM⟩ := hM
  exact S_X12_queues X hp_v0 hB hM
set_option maxRecDepth 20000 in
set_option maxHeartbeats 4000000 in
theorem S_X12_isDenied_J1 {F : am_F} {K : am_KK} {v0 : Int} {v1 : Int} {v2 : Int} {C2 : Int → am_M → Prop} {m : am_M} (X : am_Cx F cX12_isDenied RX12 (some .boolean) 2 5 K) (hp_v0 : am_ob v0 12) (hC2 : ∀ w2 m, C2 w2 m → am_Bt m → am_Z F 2 [] [(2, v0), (0, v1), (0, w2)] m 200) (hB : am_Bt m) (h : M_X12_isDenied_J1 v0 v1 v2 C2 K m) : am_Z F 96 [] [(2, v0), (0, v1), (0, v2)] m 200 := by
  have G := X.G
  unfold M_X12_isDenied_J1 at h
  refine b_iinc (nx := 99) (a := 2) (loc2 := fun v2_1 => [(2, v0), (0, v1), (0, v2_1)]) G (fun _ => rfl) rfl (am_pl1 rfl (fun h => nomatch h)) dX12_isDenied_96 rfl (fun v2_1 e_v2_1 => ?_)
  have h := h v2_1 e_v2_1
  refine z_goto (tgt := 2) G dX12_isDenied_99 (by decide) ?_
  exact b_fewer (loc2 := [(2, v0), (0, v1), (0, v2_1)]) (am_lk (am_lk (am_lk am_ln))) (hC2 _ _ h hB)
set_option maxRecDepth 20000 in
set_option maxHeartbeats 4000000 in
theorem S_X12_isDenied_L1B {F : am_F} {K : am_KK} {v0 : Int} {v1 : Int} {v2 : Int} {C2 : Int → am_M → Prop} {m : am_M} (X : am_Cx F cX12_isDenied RX12 (some .boolean) 2 5 K) (hp_v0 : am_ob v0 12) (hC2 : ∀ w2 m, C2 w2 m → am_Bt m → am_Z F 2 [] [(2, v0), (0, v1), (0, w2)] m 200) (hB : am_Bt m) (h : M_X12_isDenied_L1B v0 v1 v2 C2 K m) : am_Z F 2 [] [(2, v0), (0, v1), (0, v2)] m 200 := by
  have G := X.G
  unfold M_X12_isDenied_L1B at h
  refine z_iload_n (nx := 3) (a := 2) G rfl dX12_isDenied_2 rfl (z_aload_n (nx := 4) (a := 0) G rfl (Or.inl rfl) dX12_isDenied_3 rfl ?_)
  refine b_callV0 (nx := 7) (zs := [v0]) (as := []) X hB (by decide) rfl hp_v0 SS_X12_prayers (am_ta am_tn) (Nat.le_of_ble_eq_true rfl) (Nat.le_of_ble_eq_true rfl) ml_RX12_133 iw_X12_prayers vw_X12_prayers cw_X12_prayers nw_RX12 pp_X12_prayers (Nat.le_of_ble_eq_true rfl) dX12_isDenied_4 rfl (NM_X12_prayers hp_v0 h) (fun r_2 m_3 h hB => ?_)
  refine z_icmp_ge (nx := 10) (tgt := 102) G dX12_isDenied_7 (by decide) rfl (fun c => ?_) (fun c => ?_)
  · have h := h.1 c
    refine z_iconst (nx := 103) (z := 0) G (R32c rfl) dX12_isDenied_102 rfl ?_
    exact b_zreturn X hB (Or.inl rfl) dX12_isDenied_103 h
  · have h := h.2 c
    refine z_aload_n (nx := 11) (a := 0) G rfl (Or.inl rfl) dX12_isDenied_10 rfl (z_iload_n (nx := 12) (a := 2) G rfl dX12_isDenied_11 rfl (z_iconst (nx := 13) (z := 5) G (R32c rfl) dX12_isDenied_12 rfl ?_))
    refine b_callV0 (nx := 16) (zs := [v0, v2, 5]) (as := [(0, v2), (0, 5)]) X hB (by decide) rfl hp_v0 SS_X12_fact (am_ta (am_ti (am_ti am_tn))) (Nat.le_of_ble_eq_true rfl) (Nat.le_of_ble_eq_true rfl) ml_RX12_141 iw_X12_fact vw_X12_fact cw_X12_fact nw_RX12 pp_X12_fact (Nat.le_of_ble_eq_true rfl) dX12_isDenied_13 rfl (NM_X12_fact hp_v0 h) (fun r_4 m_5 h hB => ?_)
    refine z_iconst (nx := 17) (z := 1) G (R32c rfl) dX12_isDenied_16 rfl ?_
    refine z_icmp_ne (nx := 20) (tgt := 96) G dX12_isDenied_17 (by decide) rfl (fun c => ?_) (fun c => ?_)
    · have h := h.1 c
      exact b_fewer (loc2 := [(2, v0), (0, v1), (0, v2)]) (am_lk (am_lk (am_lk am_ln))) (S_X12_isDenied_J1 X hp_v0 hC2 hB h)
    · have h := h.2 c
      refine z_aload_n (nx := 21) (a := 0) G rfl (Or.inl rfl) dX12_isDenied_20 rfl (b_getA (nx := 24) (k0 := 2) G hB fl_RX12_24 (Nat.le_of_ble_eq_true rfl) (Nat.le_of_ble_eq_true rfl) rfl hp_v0 dX12_isDenied_21 rfl (z_sipush (nx := 27) (z := 169) G (R32c rfl) rfl dX12_isDenied_24 rfl ?_))
      obtain ⟨hb, h⟩ := h
      refine z_iald (nx := 28) G (sh_12_2 _ hp_v0) hb.1 hb.2 dX12_isDenied_27 rfl ?_
      refine z_aload_n (nx := 29) (a := 0) G rfl (Or.inl rfl) dX12_isDenied_28 rfl (z_iload_n (nx := 30) (a := 2) G rfl dX12_isDenied_29 rfl (z_bipush (nx := 32) (z := 6) G (R32c rfl) rfl dX12_isDenied_30 rfl ?_))
      refine b_callV0 (nx := 35) (zs := [v0, v2, 6]) (as := [(0, v2), (0, 6)]) X hB (by decide) rfl hp_v0 SS_X12_fact (am_ta (am_ti (am_ti am_tn))) (Nat.le_of_ble_eq_true rfl) (Nat.le_of_ble_eq_true rfl) ml_RX12_141 iw_X12_fact vw_X12_fact cw_X12_fact nw_RX12 pp_X12_fact (Nat.le_of_ble_eq_true rfl) dX12_isDenied_32 rfl (NM_X12_fact hp_v0 h) (fun r_6 m_7 h hB => ?_)
      refine z_isub (nx := 36) G dX12_isDenied_35 rfl (z_aload_n (nx := 37) (a := 0) G rfl (Or.inl rfl) dX12_isDenied_36 rfl (b_getA (nx := 40) (k0 := 2) G hB fl_RX12_24 (Nat.le_of_ble_eq_true rfl) (Nat.le_of_ble_eq_true rfl) rfl hp_v0 dX12_isDenied_37 rfl (z_sipush (nx := 43) (z := 361) G (R32c rfl) rfl dX12_isDenied_40 rfl ?_)))
      obtain ⟨hb, h⟩ := h
      refine z_iald (nx := 44) G (sh_12_2 _ hp_v0) hb.1 hb.2 dX12_isDenied_43 rfl ?_
      refine z_icmp_lt (nx := 47) (tgt := 50) G dX12_isDenied_44 (by decide) rfl (fun c => ?_) (fun c => ?_)
      · have h := h.1 c
        refine z_aload_n (nx := 51) (a := 0) G rfl (Or.inl rfl) dX12_isDenied_50 rfl (z_iload_n (nx := 52) (a := 2) G rfl dX12_isDenied_51 rfl (z_iconst (nx := 53) (z := 1) G (R32c rfl) dX12_isDenied_52 rfl ?_))
        refine b_callV0 (nx := 56) (zs := [v0, v2, 1]) (as := [(0, v2), (0, 1)]) X hB (by decide) rfl hp_v0 SS_X12_fact (am_ta (am_ti (am_ti am_tn))) (Nat.le_of_ble_eq_true rfl) (Nat.le_of_ble_eq_true rfl) ml_RX12_141 iw_X12_fact vw_X12_fact cw_X12_fact nw_RX12 pp_X12_fact (Nat.le_of_ble_eq_true rfl) dX12_isDenied_53 rfl (NM_X12_fact hp_v0 h) (fun r_8 m_9 h hB => ?_)
        refine z_aload_n (nx := 57) (a := 0) G rfl (Or.inl rfl) dX12_isDenied_56 rfl (z_iload_n (nx := 58) (a := 1) G rfl dX12_isDenied_57 rfl (z_iconst (nx := 59) (z := 1) G (R32c rfl) dX12_isDenied_58 rfl ?_))
        refine b_callV0 (nx := 62) (zs := [v0, v1, 1]) (as := [(0, v1), (0, 1)]) X hB (by decide) rfl hp_v0 SS_X12_fact (am_ta (am_ti (am_ti am_tn))) (Nat.le_of_ble_eq_true rfl) (Nat.le_of_ble_eq_true rfl) ml_RX12_141 iw_X12_fact vw_X12_fact cw_X12_fact nw_RX12 pp_X12_fact (Nat.le_of_ble_eq_true rfl) dX12_isDenied_59 rfl (NM_X12_fact hp_v0 h) (fun r_10 m_11 h hB => ?_)
        refine z_icmp_eq (nx := 65) (tgt := 94) G dX12_isDenied_62 (by decide) rfl (fun c => ?_) (fun c => ?_)
        · have h := h.1 c
          refine z_iconst (nx := 95) (z := 1) G (R32c rfl) dX12_isDenied_94 rfl ?_
          exact b_zreturn X hB (Or.inr rfl) dX12_isDenied_95 h
        · have h := h.2 c
          refine z_aload_n (nx := 66) (a := 0) G rfl (Or.inl rfl) dX12_isDenied_65 rfl (b_getA (nx := 69) (k0 := 2) G hB fl_RX12_24 (Nat.le_of_ble_eq_true rfl) (Nat.le_of_ble_eq_true rfl) rfl hp_v0 dX12_isDenied_66 rfl (z_sipush (nx := 72) (z := 244) G (R32c rfl) rfl dX12_isDenied_69 rfl (z_bipush (nx := 74) (z := 8) G (R32c rfl) rfl dX12_isDenied_72 rfl (z_aload_n (nx := 75) (a := 0) G rfl (Or.inl rfl) dX12_isDenied_74 rfl (z_iload_n (nx := 76) (a := 2) G rfl dX12_isDenied_75 rfl (z_iconst (nx := 77) (z := 1) G (R32c rfl) dX12_isDenied_76 rfl ?_))))))
          refine b_callV0 (nx := 80) (zs := [v0, v2, 1]) (as := [(0, v2), (0, 1)]) X hB (by decide) rfl hp_v0 SS_X12_fact (am_ta (am_ti (am_ti am_tn))) (Nat.le_of_ble_eq_true rfl) (Nat.le_of_ble_eq_true rfl) ml_RX12_141 iw_X12_fact vw_X12_fact cw_X12_fact nw_RX12 pp_X12_fact (Nat.le_of_ble_eq_true rfl) dX12_isDenied_77 rfl (NM_X12_fact hp_v0 h) (fun r_12 m_13 h hB => ?_)
          refine z_imul (nx := 81) G dX12_isDenied_80 rfl (z_iadd (nx := 82) G dX12_isDenied_81 rfl (z_aload_n (nx := 83) (a := 0) G rfl (Or.inl rfl) dX12_isDenied_82 rfl (z_iload_n (nx := 84) (a := 1) G rfl dX12_isDenied_83 rfl (z_iconst (nx := 85) (z := 1) G (R32c rfl) dX12_isDenied_84 rfl ?_))))
          refine b_callV0 (nx := 88) (zs := [v0, v1, 1]) (as := [(0, v1), (0, 1)]) X hB (by decide) rfl hp_v0 SS_X12_fact (am_ta (am_ti (am_ti am_tn))) (Nat.le_of_ble_eq_true rfl) (Nat.le_of_ble_eq_true rfl) ml_RX12_141 iw_X12_fact vw_X12_fact cw_X12_fact nw_RX12 pp_X12_fact (Nat.le_of_ble_eq_true rfl) dX12_isDenied_85 rfl (NM_X12_fact hp_v0 h) (fun r_14 m_15 h hB => ?_)
          refine z_iadd (nx := 89) G dX12_isDenied_88 rfl ?_
          obtain ⟨hb, h⟩ := h
          refine z_iald (nx := 90) G (sh_12_2 _ hp_v0) hb.1 hb.2 dX12_isDenied_89 rfl ?_
          refine z_iconst (nx := 91) (z := 1) G (R32c rfl) dX12_isDenied_90 rfl ?_
          refine z_icmp_ne (nx := 94) (tgt := 96) G dX12_isDenied_91 (by decide) rfl (fun c => ?_) (fun c => ?_)
          · have h := h.1 c
            exact b_fewer (loc2 := [(2, v0), (0, v1), (0, v2)]) (am_lk (am_lk (am_lk am_ln))) (S_X12_isDenied_J1 X hp_v0 hC2 hB h)
          · have h := h.2 c
            refine z_iconst (nx := 95) (z := 1) G (R32c rfl) dX12_isDenied_94 rfl ?_
            exact b_zreturn X hB (Or.inr rfl) dX12_isDenied_95 h
      · have h := h.2 c
        refine z_goto (tgt := 96) G dX12_isDenied_47 (by decide) ?_
        exact b_fewer (loc2 := [(2, v0), (0, v1), (0, v2)]) (am_lk (am_lk (am_lk am_ln))) (S_X12_isDenied_J1 X hp_v0 hC2 hB h)
theorem S_X12_isDenied_L1 {F : am_F} {K : am_KK} {v0 : Int} {v1 : Int} {v2 : Int} {m : am_M} (X : am_Cx F cX12_isDenied RX12 (some .boolean) 2 5 K) (hp_v0 : am_ob v0 12) (hB : am_Bt m) (h : M_X12_isDenied_L1 v0 v1 v2 K m) : am_Z F 2 [] [(2, v0), (0, v1), (0, v2)] m 200 := by
  obtain ⟨I, ⟨j, hj⟩, hI⟩ := h
  have key : ∀ j v2 m, I j v2 m → am_Bt m → am_Z F 2 [] [(2, v0), (0, v1), (0, v2)] m 200 := by
    intro j
    induction j using Nat.strongRecOn with
    | ind j ih =>
      intro v2 m hj hB
      exact S_X12_isDenied_L1B X hp_v0 (fun v2' m' hc hB' => by
        obtain ⟨j', g1, g2⟩ := hc
        exact ih j' g1 v2' m' g2 hB') hB (hI j v2 m hj)
  exact key j _ _ hj hB
set_option maxRecDepth 20000 in
set_option maxHeartbeats 4000000 in
theorem S_X12_isDenied {F : am_F} {K : am_KK} {v0 : Int} {v1 : Int} {m : am_M} (X : am_Cx F cX12_isDenied RX12 (some .boolean) 2 5 K) (hp_v0 : am_ob v0 12) (hB : am_Bt m) (h : M_X12_isDenied v0 v1 K m) : am_Z F 0 [] [(2, v0), (0, v1), (9, 0)] m 200 := by
  have G := X.G
  unfold M_X12_isDenied at h
  refine z_iconst (nx := 1) (z := 0) G (R32c rfl) dX12_isDenied_0 rfl (b_storeE_n (nx := 2) (a := 2) (loc2 := [(2, v0), (0, v1), (0, 0)]) G rfl (Nat.le_of_ble_eq_true rfl) (am_pl1 rfl (fun h => nomatch h)) dX12_isDenied_1 rfl ?_)
  exact b_fewer (loc2 := [(2, v0), (0, v1), (0, 0)]) (am_lk (am_lk (am_lk am_ln))) (S_X12_isDenied_L1 X hp_v0 hB h)
theorem NM_X12_isDenied {v0 : Int} {v1 : Int} {K : am_KK} {m : am_M} (hp_v0 : am_ob v0 12) (h : M_X12_isDenied v0 v1 K m) : N_X12_isDenied [v0, v1] K m := ⟨hp_v0, h⟩
theorem SS_X12_isDenied : am_Snd yX12_isDenied cX12_isDenied 3 (some .boolean) 0 2 (am_L [2, 0] 5 N_X12_isDenied) := by
  refine am_SB (by decide +kernel) (Nat.le_of_ble_eq_true rfl) (fun F zs as K m X ht hB hM => ?_)
  obtain ⟨v0, zs, as, rfl, rfl, hz0, ht⟩ := am_inv ht
  obtain ⟨v1, zs, as, rfl, rfl, hz1, ht⟩ := am_inv ht
  obtain ⟨rfl, rfl⟩ := am_inv0 ht
  obtain ⟨hp_v0, hM⟩ := hM
  exact S_X12_isDenied X hp_v0 hB hM
set_option maxRecDepth 20000 in
set_option maxHeartbeats 4000000 in
theorem S_X12_dawns_J4 {F : am_F} {K : am_KK} {v0 : Int} {v2 : Int} {s0 : Int} {s1 : Int} {C33 : Int → Int → am_M → Prop} {m : am_M} (X : am_Cx F cX12_dawns RX12 (some .int) 608 0 K) (hp_v0 : am_ob v0 12) (hp_s1 : s1 = 0 ∨ s1 = 1) (hC33 : ∀ w1 w2 m, C33 w1 w2 m → am_Bt m → am_Z F 33 [] [(2, v0), (0, w1), (0, w2), (9, 0), (9, 0)] m 200) (hB : am_Bt m) (h : M_X12_dawns_J4 v0 v2 s0 s1 C33 K m) : am_Z F 162 [(0, s1), (0, s0)] [(2, v0), (9, 0), (0, v2), (9, 0), (9, 0)] m 200 := by
  have G := X.G
  unfold M_X12_dawns_J4 at h
  refine z_iadd (nx := 163) G dX12_dawns_162 rfl ?_
  refine b_store_n (nx := 164) (a := 1) (loc2 := fun v1_1 => [(2, v0), (0, v1_1), (0, v2), (9, 0), (9, 0)]) G (fun _ => rfl) (Nat.le_of_ble_eq_true rfl) (am_pl1 rfl (fun h => nomatch h)) dX12_dawns_163 rfl (fun v1_1 e_v1_1 => ?_)
  have h := h v1_1 e_v1_1
  refine b_iinc (nx := 167) (a := 2) (loc2 := fun v2_2 => [(2, v0), (0, v1_1), (0, v2_2), (9, 0), (9, 0)]) G (fun _ => rfl) rfl (am_pl1 rfl (fun h => nomatch h)) dX12_dawns_164 rfl (fun v2_2 e_v2_2 => ?_)
  have h := h v2_2 e_v2_2
  refine z_goto (tgt := 33) G dX12_dawns_167 (by decide) ?_
  exact b_fewer (loc2 := [(2, v0), (0, v1_1), (0, v2_2), (9, 0), (9, 0)]) (am_lk (am_lk (am_lk (am_lk (am_lk am_ln))))) (hC33 _ _ _ h hB)
set_option maxRecDepth 20000 in
set_option maxHeartbeats 4000000 in
theorem S_X12_dawns_J3 {F : am_F} {K : am_KK} {v0 : Int} {v1 : Int} {v2 : Int} {v4 : Int} {s0 : Int} {s1 : Int} {s2 : Int} {C33 : Int → Int → am_M → Prop} {m : am_M} (X : am_Cx F cX12_dawns RX12 (some .int) 608 0 K) (hp_v0 : am_ob v0 12) (hp_s0 : am_ob s0 12) (hC33 : ∀ w1 w2 m, C33 w1 w2 m → am_Bt m → am_Z F 33 [] [(2, v0), (0, w1), (0, w2), (9, 0), (9, 0)] m 200) (hB : am_Bt m) (h : M_X12_dawns_J3 v0 v1 v2 v4 s0 s1 s2 C33 K m) : am_Z F 147 [(0, s2), (0, s1), (2, s0)] [(2, v0), (0, v1), (0, v2), (9, 0), (0, v4)] m 200 := by
  have G := X.G
  unfold M_X12_dawns_J3 at h
  refine z_ior (nx := 148) G dX12_dawns_147 rfl ?_
  refine b_put (nx := 151) (k0 := 35) (t := 0) G hB fl_RX12_366 (Nat.le_of_ble_eq_true rfl) (Nat.le_of_ble_eq_true rfl) rfl (fun h => nomatch h) rfl hp_s0 dX12_dawns_148 rfl (fun m_3 e_m_3 hB => ?_)
  have h := h m_3 e_m_3
  refine z_iload_n (nx := 152) (a := 1) G rfl dX12_dawns_151 rfl (z_iload (nx := 154) (a := 4) G rfl dX12_dawns_152 rfl ?_)
  refine z_if_eq (nx := 157) (tgt := 161) G dX12_dawns_154 (by decide) rfl (fun c => ?_) (fun c => ?_)
  · have h := h.1 c
    refine z_iconst (nx := 162) (z := 0) G (R32c rfl) dX12_dawns_161 rfl ?_
    exact b_fewer (loc2 := [(2, v0), (9, 0), (0, v2), (9, 0), (9, 0)]) (am_lk (am_lf (am_lk (am_lk (am_lf am_ln))))) (S_X12_dawns_J4 X hp_v0 (Or.inl rfl) hC33 hB h)
  · have h := h.2 c
    refine z_iconst (nx := 158) (z := 1) G (R32c rfl) dX12_dawns_157 rfl (z_goto (tgt := 162) G dX12_dawns_158 (by decide) ?_)
    exact b_fewer (loc2 := [(2, v0), (9, 0), (0, v2), (9, 0), (9, 0)]) (am_lk (am_lf (am_lk (am_lk (am_lf am_ln))))) (S_X12_dawns_J4 X hp_v0 (Or.inr rfl) hC33 hB h)
set_option maxRecDepth 20000 in
set_option maxHeartbeats 4000000 in
theorem S_X12_dawns_J2 {F : am_F} {K : am_KK} {v0 : Int} {v1 : Int} {v2 : Int} {v3 : Int} {v4 : Int} {s0 : Int} {s1 : Int} {s2 : Int} {C33 : Int → Int → am_M → Prop} {m : am_M} (X : am_Cx F cX12_dawns RX12 (some .int) 608 0 K) (hp_v0 : am_ob v0 12) (hp_s0 : am_ar s0 20) (hC33 : ∀ w1 w2 m, C33 w1 w2 m → am_Bt m → am_Z F 33 [] [(2, v0), (0, w1), (0, w2), (9, 0), (9, 0)] m 200) (hB : am_Bt m) (h : M_X12_dawns_J2 v0 v1 v2 v3 v4 s0 s1 s2 C33 K m) : am_Z F 102 [(0, s2), (0, s1), (2, s0)] [(2, v0), (0, v1), (0, v2), (0, v3), (0, v4)] m 200 := by
  have G := X.G
  unfold M_X12_dawns_J2 at h
  obtain ⟨hb, h⟩ := h
  refine b_iast (nx := 103) G hB hp_s0 hb.1 hb.2 dX12_dawns_102 rfl (fun m_4 e_m_4 hB => ?_)
  have h := h m_4 e_m_4
  refine z_aload_n (nx := 104) (a := 0) G rfl (Or.inl rfl) dX12_dawns_103 rfl (b_getA (nx := 107) (k0 := 2) G hB fl_RX12_24 (Nat.le_of_ble_eq_true rfl) (Nat.le_of_ble_eq_true rfl) rfl hp_v0 dX12_dawns_104 rfl (z_iload_n (nx := 108) (a := 3) G rfl dX12_dawns_107 rfl (z_bipush (nx := 110) (z := 6) G (R32c rfl) rfl dX12_dawns_108 rfl (z_iadd (nx := 111) G dX12_dawns_110 rfl (z_aload_n (nx := 112) (a := 0) G rfl (Or.inl rfl) dX12_dawns_111 rfl (b_getA (nx := 115) (k0 := 2) G hB fl_RX12_24 (Nat.le_of_ble_eq_true rfl) (Nat.le_of_ble_eq_true rfl) rfl hp_v0 dX12_dawns_112 rfl (z_sipush (nx := 118) (z := 169) G (R32c rfl) rfl dX12_dawns_115 rfl ?_)))))))
  obtain ⟨hb, h⟩ := h
  refine z_iald (nx := 119) G (sh_12_2 _ hp_v0) hb.1 hb.2 dX12_dawns_118 rfl ?_
  obtain ⟨hb, h⟩ := h
  refine b_iast (nx := 120) G hB (sh_12_2 _ hp_v0) hb.1 hb.2 dX12_dawns_119 rfl (fun m_5 e_m_5 hB => ?_)
  have h := h m_5 e_m_5
  refine z_aload_n (nx := 121) (a := 0) G rfl (Or.inl rfl) dX12_dawns_120 rfl (z_dup (nx := 122) G (fun h => nomatch h) dX12_dawns_121 rfl (b_getI (nx := 125) (k0 := 35) (t := 0) G fl_RX12_366 (Nat.le_of_ble_eq_true rfl) (Nat.le_of_ble_eq_true rfl) rfl hp_v0 dX12_dawns_122 rfl (z_iload (nx := 127) (a := 4) G rfl dX12_dawns_125 rfl ?_)))
  refine z_if_eq (nx := 130) (tgt := 146) G dX12_dawns_127 (by decide) rfl (fun c => ?_) (fun c => ?_)
  · have h := h.1 c
    refine z_iconst (nx := 147) (z := 0) G (R32c rfl) dX12_dawns_146 rfl ?_
    exact b_fewer (loc2 := [(2, v0), (0, v1), (0, v2), (9, 0), (0, v4)]) (am_lk (am_lk (am_lk (am_lf (am_lk am_ln))))) (S_X12_dawns_J3 X hp_v0 hp_v0 hC33 hB h)
  · have h := h.2 c
    refine z_iconst (nx := 131) (z := 1) G (R32c rfl) dX12_dawns_130 rfl (z_aload_n (nx := 132) (a := 0) G rfl (Or.inl rfl) dX12_dawns_131 rfl (z_aload_n (nx := 133) (a := 0) G rfl (Or.inl rfl) dX12_dawns_132 rfl (b_getA (nx := 136) (k0 := 32) G hB fl_RX12_80 (Nat.le_of_ble_eq_true rfl) (Nat.le_of_ble_eq_true rfl) rfl hp_v0 dX12_dawns_133 rfl (z_iload_n (nx := 137) (a := 2) G rfl dX12_dawns_136 rfl ?_))))
    obtain ⟨hb, h⟩ := h
    refine z_iald (nx := 138) G (sh_12_32 _ hp_v0) hb.1 hb.2 dX12_dawns_137 rfl ?_
    refine z_iconst (nx := 139) (z := 1) G (R32c rfl) dX12_dawns_138 rfl ?_
    refine b_callV0 (nx := 142) (zs := [v0, m_5 (am_rfv v0 32) v2, 1]) (as := [(0, m_5 (am_rfv v0 32) v2), (0, 1)]) X hB (by decide) rfl hp_v0 SS_X12_fact (am_ta (am_ti (am_ti am_tn))) (Nat.le_of_ble_eq_true rfl) (Nat.le_of_ble_eq_true rfl) ml_RX12_141 iw_X12_fact vw_X12_fact cw_X12_fact nw_RX12 pp_X12_fact (Nat.le_of_ble_eq_true rfl) dX12_dawns_139 rfl (NM_X12_fact hp_v0 h) (fun r_6 m_7 h hB => ?_)
    refine z_ishl (nx := 143) G dX12_dawns_142 rfl (z_goto (tgt := 147) G dX12_dawns_143 (by decide) ?_)
    exact b_fewer (loc2 := [(2, v0), (0, v1), (0, v2), (9, 0), (0, v4)]) (am_lk (am_lk (am_lk (am_lf (am_lk am_ln))))) (S_X12_dawns_J3 X hp_v0 hp_v0 hC33 hB h)
set_option maxRecDepth 20000 in
set_option maxHeartbeats 4000000 in
theorem S_X12_dawns_J1 {F : am_F} {K : am_KK} {v0 : Int} {v1 : Int} {v2 : Int} {v3 : Int} {s0 : Int} {C33 : Int → Int → am_M → Prop} {m : am_M} (X : am_Cx F cX12_dawns RX12 (some .int) 608 0 K) (hp_v0 : am_ob v0 12) (hp_s0 : s0 = 0 ∨ s0 = 1) (hC33 : ∀ w1 w2 m, C33 w1 w2 m → am_Bt m → am_Z F 33 [] [(2, v0), (0, w1), (0, w2), (9, 0), (9, 0)] m 200) (hB : am_Bt m) (h : M_X12_dawns_J1 v0 v1 v2 v3 s0 C33 K m) : am_Z F 83 [(0, s0)] [(2, v0), (0, v1), (0, v2), (0, v3), (9, 0)] m 200 := by
  have G := X.G
  unfold M_X12_dawns_J1 at h
  refine b_storeE (nx := 85) (a := 4) (loc2 := [(2, v0), (0, v1), (0, v2), (0, v3), (0, s0)]) G rfl (Nat.le_of_ble_eq_true rfl) (am_pl1 rfl (fun h => nomatch h)) dX12_dawns_83 rfl (z_aload_n (nx := 86) (a := 0) G rfl (Or.inl rfl) dX12_dawns_85 rfl (b_getA (nx := 89) (k0 := 2) G hB fl_RX12_24 (Nat.le_of_ble_eq_true rfl) (Nat.le_of_ble_eq_true rfl) rfl hp_v0 dX12_dawns_86 rfl (z_iload_n (nx := 90) (a := 3) G rfl dX12_dawns_89 rfl (z_iconst (nx := 91) (z := 5) G (R32c rfl) dX12_dawns_90 rfl (z_iadd (nx := 92) G dX12_dawns_91 rfl (z_iload (nx := 94) (a := 4) G rfl dX12_dawns_92 rfl ?_))))))
  refine z_if_eq (nx := 97) (tgt := 101) G dX12_dawns_94 (by decide) rfl (fun c => ?_) (fun c => ?_)
  · have h := h.1 c
    refine z_iconst (nx := 102) (z := 2) G (R32c rfl) dX12_dawns_101 rfl ?_
    exact b_fewer (loc2 := [(2, v0), (0, v1), (0, v2), (0, v3), (0, s0)]) (am_lk (am_lk (am_lk (am_lk (am_lk am_ln))))) (S_X12_dawns_J2 X hp_v0 (sh_12_2 _ hp_v0) hC33 hB h)
  · have h := h.2 c
    refine z_iconst (nx := 98) (z := 1) G (R32c rfl) dX12_dawns_97 rfl (z_goto (tgt := 102) G dX12_dawns_98 (by decide) ?_)
    exact b_fewer (loc2 := [(2, v0), (0, v1), (0, v2), (0, v3), (0, s0)]) (am_lk (am_lk (am_lk (am_lk (am_lk am_ln))))) (S_X12_dawns_J2 X hp_v0 (sh_12_2 _ hp_v0) hC33 hB h)
set_option maxRecDepth 20000 in
set_option maxHeartbeats 4000000 in
theorem S_X12_dawns_L1B {F : am_F} {K : am_KK} {v0 : Int} {v1 : Int} {v2 : Int} {C33 : Int → Int → am_M → Prop} {m : am_M} (X : am_Cx F cX12_dawns RX12 (some .int) 608 0 K) (hp_v0 : am_ob v0 12) (hC33 : ∀ w1 w2 m, C33 w1 w2 m → am_Bt m → am_Z F 33 [] [(2, v0), (0, w1), (0, w2), (9, 0), (9, 0)] m 200) (hB : am_Bt m) (h : M_X12_dawns_L1B v0 v1 v2 C33 K m) : am_Z F 33 [] [(2, v0), (0, v1), (0, v2), (9, 0), (9, 0)] m 200 := by
  have G := X.G
  unfold M_X12_dawns_L1B at h
  refine z_iload_n (nx := 34) (a := 2) G rfl dX12_dawns_33 rfl (z_aload_n (nx := 35) (a := 0) G rfl (Or.inl rfl) dX12_dawns_34 rfl (b_getI (nx := 38) (k0 := 34) (t := 0) G fl_RX12_354 (Nat.le_of_ble_eq_true rfl) (Nat.le_of_ble_eq_true rfl) rfl hp_v0 dX12_dawns_35 rfl ?_))
  refine z_icmp_ge (nx := 41) (tgt := 170) G dX12_dawns_38 (by decide) rfl (fun c => ?_) (fun c => ?_)
  · have h := h.1 c
    refine z_iload_n (nx := 171) (a := 1) G rfl dX12_dawns_170 rfl ?_
    exact b_ireturn X hB dX12_dawns_171 h
  · have h := h.2 c
    refine z_iload_n (nx := 42) (a := 2) G rfl dX12_dawns_41 rfl (z_aload_n (nx := 43) (a := 0) G rfl (Or.inl rfl) dX12_dawns_42 rfl (b_getA (nx := 46) (k0 := 2) G hB fl_RX12_24 (Nat.le_of_ble_eq_true rfl) (Nat.le_of_ble_eq_true rfl) rfl hp_v0 dX12_dawns_43 rfl (z_sipush (nx := 49) (z := 360) G (R32c rfl) rfl dX12_dawns_46 rfl ?_)))
    obtain ⟨hb, h⟩ := h
    refine z_iald (nx := 50) G (sh_12_2 _ hp_v0) hb.1 hb.2 dX12_dawns_49 rfl ?_
    refine z_icmp_ge (nx := 53) (tgt := 170) G dX12_dawns_50 (by decide) rfl (fun c => ?_) (fun c => ?_)
    · have h := h.1 c
      refine z_iload_n (nx := 171) (a := 1) G rfl dX12_dawns_170 rfl ?_
      exact b_ireturn X hB dX12_dawns_171 h
    · have h := h.2 c
      refine z_iconst (nx := 54) (z := 0) G (R32c rfl) dX12_dawns_53 rfl (z_bipush (nx := 56) (z := 7) G (R32c rfl) rfl dX12_dawns_54 rfl (z_aload_n (nx := 57) (a := 0) G rfl (Or.inl rfl) dX12_dawns_56 rfl (b_getA (nx := 60) (k0 := 32) G hB fl_RX12_80 (Nat.le_of_ble_eq_true rfl) (Nat.le_of_ble_eq_true rfl) rfl hp_v0 dX12_dawns_57 rfl (z_iload_n (nx := 61) (a := 2) G rfl dX12_dawns_60 rfl ?_))))
      obtain ⟨hb, h⟩ := h
      refine z_iald (nx := 62) G (sh_12_32 _ hp_v0) hb.1 hb.2 dX12_dawns_61 rfl ?_
      refine z_imul (nx := 63) G dX12_dawns_62 rfl (z_iadd (nx := 64) G dX12_dawns_63 rfl ?_)
      refine b_store_n (nx := 65) (a := 3) (loc2 := fun v3_8 => [(2, v0), (0, v1), (0, v2), (0, v3_8), (9, 0)]) G (fun _ => rfl) (Nat.le_of_ble_eq_true rfl) (am_pl1 rfl (fun h => nomatch h)) dX12_dawns_64 rfl (fun v3_8 e_v3_8 => ?_)
      have h := h v3_8 e_v3_8
      refine z_aload_n (nx := 66) (a := 0) G rfl (Or.inl rfl) dX12_dawns_65 rfl (z_aload_n (nx := 67) (a := 0) G rfl (Or.inl rfl) dX12_dawns_66 rfl (b_getA (nx := 70) (k0 := 32) G hB fl_RX12_80 (Nat.le_of_ble_eq_true rfl) (Nat.le_of_ble_eq_true rfl) rfl hp_v0 dX12_dawns_67 rfl (z_iload_n (nx := 71) (a := 2) G rfl dX12_dawns_70 rfl ?_)))
      obtain ⟨hb, h⟩ := h
      refine z_iald (nx := 72) G (sh_12_32 _ hp_v0) hb.1 hb.2 dX12_dawns_71 rfl ?_
      refine b_callV5 (nx := 75) (zs := [v0, m (am_rfv v0 32) v2]) (as := [(0, m (am_rfv v0 32) v2)]) X hB (by decide) rfl hp_v0 SS_X12_isDenied (am_ta (am_ti am_tn)) (Nat.le_of_ble_eq_true rfl) (Nat.le_of_ble_eq_true rfl) ml_RX12_369 iw_X12_isDenied vw_X12_isDenied cw_X12_isDenied nw_RX12 pp_X12_isDenied (Nat.le_of_ble_eq_true rfl) dX12_dawns_72 rfl (NM_X12_isDenied hp_v0 h) (fun r_9 m_10 h h01_11 hB => ?_)
      refine z_if_ne (nx := 78) (tgt := 82) G dX12_dawns_75 (by decide) rfl (fun c => ?_) (fun c => ?_)
      · have h := h.1 c
        refine z_iconst (nx := 83) (z := 0) G (R32c rfl) dX12_dawns_82 rfl ?_
        exact b_fewer (loc2 := [(2, v0), (0, v1), (0, v2), (0, v3_8), (9, 0)]) (am_lk (am_lk (am_lk (am_lk (am_lk am_ln))))) (S_X12_dawns_J1 X hp_v0 (Or.inl rfl) hC33 hB h)
      · have h := h.2 c
        refine z_iconst (nx := 79) (z := 1) G (R32c rfl) dX12_dawns_78 rfl (z_goto (tgt := 83) G dX12_dawns_79 (by decide) ?_)
        exact b_fewer (loc2 := [(2, v0), (0, v1), (0, v2), (0, v3_8), (9, 0)]) (am_lk (am_lk (am_lk (am_lk (am_lk am_ln))))) (S_X12_dawns_J1 X hp_v0 (Or.inr rfl) hC33 hB h)
theorem S_X12_dawns_L1 {F : am_F} {K : am_KK} {v0 : Int} {v1 : Int} {v2 : Int} {m : am_M} (X : am_Cx F cX12_dawns RX12 (some .int) 608 0 K) (hp_v0 : am_ob v0 12) (hB : am_Bt m) (h : M_X12_dawns_L1 v0 v1 v2 K m) : am_Z F 33 [] [(2, v0), (0, v1), (0, v2), (9, 0), (9, 0)] m 200 := by
  obtain ⟨I, ⟨j, hj⟩, hI⟩ := h
  have key : ∀ j v1 v2 m, I j v1 v2 m → am_Bt m → am_Z F 33 [] [(2, v0), (0, v1), (0, v2), (9, 0), (9, 0)] m 200 := by
    intro j
    induction j using Nat.strongRecOn with
    | ind j ih =>
      intro v1 v2 m hj hB
      exact S_X12_dawns_L1B X hp_v0 (fun v1' v2' m' hc hB' => by
        obtain ⟨j', g1, g2⟩ := hc
        exact ih j' g1 v1' v2' m' g2 hB') hB (hI j v1 v2 m hj)
  exact key j _ _ _ hj hB
set_option maxRecDepth 20000 in
set_option maxHeartbeats 4000000 in
theorem S_X12_dawns {F : am_F} {K : am_KK} {v0 : Int} {m : am_M} (X : am_Cx F cX12_dawns RX12 (some .int) 608 0 K) (hp_v0 : am_ob v0 12) (hB : am_Bt m) (h : M_X12_dawns v0 K m) : am_Z F 0 [] [(2, v0), (9, 0), (9, 0), (9, 0), (9, 0)] m 200 := by
  have G := X.G
  unfold M_X12_dawns at h
  refine z_aload_n (nx := 1) (a := 0) G rfl (Or.inl rfl) dX12_dawns_0 rfl (b_getA (nx := 4) (k0 := 2) G hB fl_RX12_24 (Nat.le_of_ble_eq_true rfl) (Nat.le_of_ble_eq_true rfl) rfl hp_v0 dX12_dawns_1 rfl (z_sipush (nx := 7) (z := 169) G (R32c rfl) rfl dX12_dawns_4 rfl (z_dup2 (nx := 8) G (fun h => nomatch h) (fun h => nomatch h) dX12_dawns_7 rfl ?_)))
  obtain ⟨hb, h⟩ := h
  refine z_iald (nx := 9) G (sh_12_2 _ hp_v0) hb.1 hb.2 dX12_dawns_8 rfl ?_
  refine z_iconst (nx := 10) (z := 1) G (R32c rfl) dX12_dawns_9 rfl (z_iadd (nx := 11) G dX12_dawns_10 rfl ?_)
  obtain ⟨hb, h⟩ := h
  refine b_iast (nx := 12) G hB (sh_12_2 _ hp_v0) hb.1 hb.2 dX12_dawns_11 rfl (fun m_12 e_m_12 hB => ?_)
  have h := h m_12 e_m_12
  refine z_aload_n (nx := 13) (a := 0) G rfl (Or.inl rfl) dX12_dawns_12 rfl (z_aload_n (nx := 14) (a := 0) G rfl (Or.inl rfl) dX12_dawns_13 rfl (b_getA (nx := 17) (k0 := 2) G hB fl_RX12_24 (Nat.le_of_ble_eq_true rfl) (Nat.le_of_ble_eq_true rfl) rfl hp_v0 dX12_dawns_14 rfl (z_sipush (nx := 20) (z := 169) G (R32c rfl) rfl dX12_dawns_17 rfl ?_)))
  obtain ⟨hb, h⟩ := h
  refine z_iald (nx := 21) G (sh_12_2 _ hp_v0) hb.1 hb.2 dX12_dawns_20 rfl ?_
  refine b_callV9 (nx := 24) (zs := [v0, m_12 (am_rfv v0 2) 169]) (as := [(0, m_12 (am_rfv v0 2) 169)]) X hB (by decide) rfl hp_v0 SS_X12_queues (am_ta (am_ti am_tn)) (Nat.le_of_ble_eq_true rfl) (Nat.le_of_ble_eq_true rfl) ml_RX12_363 iw_X12_queues vw_X12_queues cw_X12_queues nw_RX12 pp_X12_queues (Nat.le_of_ble_eq_true rfl) dX12_dawns_21 rfl (NM_X12_queues hp_v0 h) (fun r_13 m_14 h hB => ?_)
  refine z_aload_n (nx := 25) (a := 0) G rfl (Or.inl rfl) dX12_dawns_24 rfl (z_iconst (nx := 26) (z := 0) G (R32c rfl) dX12_dawns_25 rfl ?_)
  refine b_put (nx := 29) (k0 := 35) (t := 0) G hB fl_RX12_366 (Nat.le_of_ble_eq_true rfl) (Nat.le_of_ble_eq_true rfl) rfl (fun h => nomatch h) rfl hp_v0 dX12_dawns_26 rfl (fun m_15 e_m_15 hB => ?_)
  have h := h m_15 e_m_15
  refine z_iconst (nx := 30) (z := 0) G (R32c rfl) dX12_dawns_29 rfl (b_storeE_n (nx := 31) (a := 1) (loc2 := [(2, v0), (0, 0), (9, 0), (9, 0), (9, 0)]) G rfl (Nat.le_of_ble_eq_true rfl) (am_pl1 rfl (fun h => nomatch h)) dX12_dawns_30 rfl (z_iconst (nx := 32) (z := 0) G (R32c rfl) dX12_dawns_31 rfl (b_storeE_n (nx := 33) (a := 2) (loc2 := [(2, v0), (0, 0), (0, 0), (9, 0), (9, 0)]) G rfl (Nat.le_of_ble_eq_true rfl) (am_pl1 rfl (fun h => nomatch h)) dX12_dawns_32 rfl ?_)))
  exact b_fewer (loc2 := [(2, v0), (0, 0), (0, 0), (9, 0), (9, 0)]) (am_lk (am_lk (am_lk (am_lk (am_lk am_ln))))) (S_X12_dawns_L1 X hp_v0 hB h)
theorem NM_X12_dawns {v0 : Int} {K : am_KK} {m : am_M} (hp_v0 : am_ob v0 12) (h : M_X12_dawns v0 K m) : N_X12_dawns [v0] K m := ⟨hp_v0, h⟩
theorem SS_X12_dawns : am_Snd yX12_dawns cX12_dawns 5 (some .int) 0 608 (am_L [2] 0 N_X12_dawns) := by
  refine am_SB (by decide +kernel) (Nat.le_of_ble_eq_true rfl) (fun F zs as K m X ht hB hM => ?_)
  obtain ⟨v0, zs, as, rfl, rfl, hz0, ht⟩ := am_inv ht
  obtain ⟨rfl, rfl⟩ := am_inv0 ht
  obtain ⟨hp_v0, hM⟩ := hM
  exact S_X12_dawns X hp_v0 hB hM
set_option maxRecDepth 20000 in
set_option maxHeartbeats 4000000 in
theorem S_X12_at {F : am_F} {K : am_KK} {v0 : Int} {v1 : Int} {v2 : Int} {m : am_M} (X : am_Cx F cX12_at RX12 (some .int) 3 0 K) (hp_v0 : am_ob v0 12) (hB : am_Bt m) (h : M_X12_at v0 v1 v2 K m) : am_Z F 0 [] [(2, v0), (0, v1), (0, v2)] m 200 := by
  have G := X.G
  unfold M_X12_at at h
  refine z_aload_n (nx := 1) (a := 0) G rfl (Or.inl rfl) dX12_at_0 rfl (z_iload_n (nx := 2) (a := 1) G rfl dX12_at_1 rfl ?_)
  refine b_callV5 (nx := 5) (zs := [v0, v1]) (as := [(0, v1)]) X hB (by decide) rfl hp_v0 SS_X12_isPrayer (am_ta (am_ti am_tn)) (Nat.le_of_ble_eq_true rfl) (Nat.le_of_ble_eq_true rfl) ml_RX12_137 iw_X12_isPrayer vw_X12_isPrayer cw_X12_isPrayer nw_RX12 pp_X12_isPrayer (Nat.le_of_ble_eq_true rfl) dX12_at_2 rfl (NM_X12_isPrayer hp_v0 h) (fun r_1 m_2 h h01_3 hB => ?_)
  refine z_if_eq (nx := 8) (tgt := 27) G dX12_at_5 (by decide) rfl (fun c => ?_) (fun c => ?_)
  · have h := h.1 c
    refine z_iconst (nx := 28) (z := (-1)) G (R32c rfl) dX12_at_27 rfl ?_
    exact b_ireturn X hB dX12_at_28 h
  · have h := h.2 c
    refine z_iload_n (nx := 9) (a := 2) G rfl dX12_at_8 rfl (z_iconst (nx := 10) (z := 0) G (R32c rfl) dX12_at_9 rfl (z_bipush (nx := 12) (z := 6) G (R32c rfl) rfl dX12_at_10 rfl ?_))
    refine b_callS5 (nx := 15) (zs := [v2, 0, 6]) (as := [(0, v2), (0, 0), (0, 6)]) X hB SS_X12_lies (am_ti (am_ti (am_ti am_tn))) (Nat.le_of_ble_eq_true rfl) (Nat.le_of_ble_eq_true rfl) ml_RX12_123 sw_X12_lies (am_plainC 12 (by decide)) cw_X12_lies nw_RX12 pp_X12_lies (Nat.le_of_ble_eq_true rfl) dX12_at_12 rfl (NM_X12_lies h) (fun r_4 m_5 h h01_6 hB => ?_)
    refine z_if_eq (nx := 18) (tgt := 27) G dX12_at_15 (by decide) rfl (fun c => ?_) (fun c => ?_)
    · have h := h.1 c
      refine z_iconst (nx := 28) (z := (-1)) G (R32c rfl) dX12_at_27 rfl ?_
      exact b_ireturn X hB dX12_at_28 h
    · have h := h.2 c
      refine z_aload_n (nx := 19) (a := 0) G rfl (Or.inl rfl) dX12_at_18 rfl (z_iload_n (nx := 20) (a := 1) G rfl dX12_at_19 rfl (z_iload_n (nx := 21) (a := 2) G rfl dX12_at_20 rfl ?_))
      refine b_callV0 (nx := 24) (zs := [v0, v1, v2]) (as := [(0, v1), (0, v2)]) X hB (by decide) rfl hp_v0 SS_X12_fact (am_ta (am_ti (am_ti am_tn))) (Nat.le_of_ble_eq_true rfl) (Nat.le_of_ble_eq_true rfl) ml_RX12_141 iw_X12_fact vw_X12_fact cw_X12_fact nw_RX12 pp_X12_fact (Nat.le_of_ble_eq_true rfl) dX12_at_21 rfl (NM_X12_fact hp_v0 h) (fun r_7 m_8 h hB => ?_)
      refine z_goto (tgt := 28) G dX12_at_24 (by decide) ?_
      exact b_ireturn X hB dX12_at_28 h
theorem NM_X12_at {v0 : Int} {v1 : Int} {v2 : Int} {K : am_KK} {m : am_M} (hp_v0 : am_ob v0 12) (h : M_X12_at v0 v1 v2 K m) : N_X12_at [v0, v1, v2] K m := ⟨hp_v0, h⟩
theorem SS_X12_at : am_Snd yX12_at cX12_at 3 (some .int) 0 3 (am_L [2, 0, 0] 0 N_X12_at) := by
  refine am_SB (by decide +kernel) (Nat.le_of_ble_eq_true rfl) (fun F zs as K m X ht hB hM => ?_)
  obtain ⟨v0, zs, as, rfl, rfl, hz0, ht⟩ := am_inv ht
  obtain ⟨v1, zs, as, rfl, rfl, hz1, ht⟩ := am_inv ht
  obtain ⟨v2, zs, as, rfl, rfl, hz2, ht⟩ := am_inv ht
  obtain ⟨rfl, rfl⟩ := am_inv0 ht
  obtain ⟨hp_v0, hM⟩ := hM
  exact S_X12_at X hp_v0 hB hM
set_option maxRecDepth 20000 in
set_option maxHeartbeats 4000000 in
theorem S_X12_rank_J1 {F : am_F} {K : am_KK} {m : am_M} (X : am_Cx F cX12_rank RX12 (some .int) 607 0 K) (hB : am_Bt m) (h : M_X12_rank_J1  K m) : am_Z F 17 [] [(9, 0), (9, 0), (9, 0)] m 200 := by
  have G := X.G
  unfold M_X12_rank_J1 at h
  refine z_ldcw (nx := 20) (z := (-1000000)) G (R32c rfl) rfl kw_RX12_375 dX12_rank_17 rfl ?_
  exact b_ireturn X hB dX12_rank_20 h
set_option maxRecDepth 20000 in
set_option maxHeartbeats 4000000 in
theorem S_X12_rank {F : am_F} {K : am_KK} {v0 : Int} {v1 : Int} {v2 : Int} {m : am_M} (X : am_Cx F cX12_rank RX12 (some .int) 607 0 K) (hp_v0 : am_ob v0 12) (hB : am_Bt m) (h : M_X12_rank v0 v1 v2 K m) : am_Z F 0 [] [(2, v0), (0, v1), (0, v2)] m 200 := by
  have G := X.G
  unfold M_X12_rank at h
  refine z_aload_n (nx := 1) (a := 0) G rfl (Or.inl rfl) dX12_rank_0 rfl (z_iload_n (nx := 2) (a := 1) G rfl dX12_rank_1 rfl ?_)
  refine b_callV5 (nx := 5) (zs := [v0, v1]) (as := [(0, v1)]) X hB (by decide) rfl hp_v0 SS_X12_isWaiting (am_ta (am_ti am_tn)) (Nat.le_of_ble_eq_true rfl) (Nat.le_of_ble_eq_true rfl) ml_RX12_372 iw_X12_isWaiting vw_X12_isWaiting cw_X12_isWaiting nw_RX12 pp_X12_isWaiting (Nat.le_of_ble_eq_true rfl) dX12_rank_2 rfl (NM_X12_isWaiting hp_v0 h) (fun r_1 m_2 h h01_3 hB => ?_)
  refine z_if_eq (nx := 8) (tgt := 17) G dX12_rank_5 (by decide) rfl (fun c => ?_) (fun c => ?_)
  · have h := h.1 c
    exact b_fewer (loc2 := [(9, 0), (9, 0), (9, 0)]) (am_lf (am_lf (am_lf am_ln))) (S_X12_rank_J1 X hB h)
  · have h := h.2 c
    refine z_iload_n (nx := 9) (a := 2) G rfl dX12_rank_8 rfl (z_iconst (nx := 10) (z := 0) G (R32c rfl) dX12_rank_9 rfl (z_iconst (nx := 11) (z := 1) G (R32c rfl) dX12_rank_10 rfl ?_))
    refine b_callS5 (nx := 14) (zs := [v2, 0, 1]) (as := [(0, v2), (0, 0), (0, 1)]) X hB SS_X12_lies (am_ti (am_ti (am_ti am_tn))) (Nat.le_of_ble_eq_true rfl) (Nat.le_of_ble_eq_true rfl) ml_RX12_123 sw_X12_lies (am_plainC 12 (by decide)) cw_X12_lies nw_RX12 pp_X12_lies (Nat.le_of_ble_eq_true rfl) dX12_rank_11 rfl (NM_X12_lies h) (fun r_4 m_5 h h01_6 hB => ?_)
    refine z_if_ne (nx := 17) (tgt := 21) G dX12_rank_14 (by decide) rfl (fun c => ?_) (fun c => ?_)
    · have h := h.1 c
      refine z_iload_n (nx := 22) (a := 2) G rfl dX12_rank_21 rfl ?_
      refine z_if_ne (nx := 25) (tgt := 43) G dX12_rank_22 (by decide) rfl (fun c => ?_) (fun c => ?_)
      · have h := h.1 c
        refine z_aload_n (nx := 44) (a := 0) G rfl (Or.inl rfl) dX12_rank_43 rfl (z_iload_n (nx := 45) (a := 1) G rfl dX12_rank_44 rfl (z_aload_n (nx := 46) (a := 0) G rfl (Or.inl rfl) dX12_rank_45 rfl (b_getA (nx := 49) (k0 := 2) G hB fl_RX12_24 (Nat.le_of_ble_eq_true rfl) (Nat.le_of_ble_eq_true rfl) rfl hp_v0 dX12_rank_46 rfl (z_sipush (nx := 52) (z := 169) G (R32c rfl) rfl dX12_rank_49 rfl ?_))))
        obtain ⟨hb, h⟩ := h
        refine z_iald (nx := 53) G (sh_12_2 _ hp_v0) hb.1 hb.2 dX12_rank_52 rfl ?_
        refine z_iconst (nx := 54) (z := 1) G (R32c rfl) dX12_rank_53 rfl (z_iadd (nx := 55) G dX12_rank_54 rfl ?_)
        refine b_callV5 (nx := 58) (zs := [v0, v1, w32 ((m_5 (am_rfv v0 2) 169) + 1)]) (as := [(0, v1), (0, w32 ((m_5 (am_rfv v0 2) 169) + 1))]) X hB (by decide) rfl hp_v0 SS_X12_isBarred (am_ta (am_ti (am_ti am_tn))) (Nat.le_of_ble_eq_true rfl) (Nat.le_of_ble_eq_true rfl) ml_RX12_357 iw_X12_isBarred vw_X12_isBarred cw_X12_isBarred nw_RX12 pp_X12_isBarred (Nat.le_of_ble_eq_true rfl) dX12_rank_55 rfl (NM_X12_isBarred hp_v0 h) (fun r_7 m_8 h h01_9 hB => ?_)
        refine z_if_eq (nx := 61) (tgt := 65) G dX12_rank_58 (by decide) rfl (fun c => ?_) (fun c => ?_)
        · have h := h.1 c
          refine z_iconst (nx := 66) (z := 0) G (R32c rfl) dX12_rank_65 rfl ?_
          exact b_ireturn X hB dX12_rank_66 h
        · have h := h.2 c
          refine z_iconst (nx := 62) (z := 1) G (R32c rfl) dX12_rank_61 rfl (z_goto (tgt := 66) G dX12_rank_62 (by decide) ?_)
          exact b_ireturn X hB dX12_rank_66 h
      · have h := h.2 c
        refine z_aload_n (nx := 26) (a := 0) G rfl (Or.inl rfl) dX12_rank_25 rfl (z_iload_n (nx := 27) (a := 1) G rfl dX12_rank_26 rfl (z_aload_n (nx := 28) (a := 0) G rfl (Or.inl rfl) dX12_rank_27 rfl (b_getA (nx := 31) (k0 := 2) G hB fl_RX12_24 (Nat.le_of_ble_eq_true rfl) (Nat.le_of_ble_eq_true rfl) rfl hp_v0 dX12_rank_28 rfl (z_sipush (nx := 34) (z := 169) G (R32c rfl) rfl dX12_rank_31 rfl ?_))))
        obtain ⟨hb, h⟩ := h
        refine z_iald (nx := 35) G (sh_12_2 _ hp_v0) hb.1 hb.2 dX12_rank_34 rfl ?_
        refine z_iconst (nx := 36) (z := 1) G (R32c rfl) dX12_rank_35 rfl (z_iadd (nx := 37) G dX12_rank_36 rfl ?_)
        refine b_callV0 (nx := 40) (zs := [v0, v1, w32 ((m_5 (am_rfv v0 2) 169) + 1)]) (as := [(0, v1), (0, w32 ((m_5 (am_rfv v0 2) 169) + 1))]) X hB (by decide) rfl hp_v0 SS_X12_rankOf (am_ta (am_ti (am_ti am_tn))) (Nat.le_of_ble_eq_true rfl) (Nat.le_of_ble_eq_true rfl) ml_RX12_360 iw_X12_rankOf vw_X12_rankOf cw_X12_rankOf nw_RX12 pp_X12_rankOf (Nat.le_of_ble_eq_true rfl) dX12_rank_37 rfl (NM_X12_rankOf hp_v0 h) (fun r_10 m_11 h hB => ?_)
        refine z_goto (tgt := 66) G dX12_rank_40 (by decide) ?_
        exact b_ireturn X hB dX12_rank_66 h
    · have h := h.2 c
      exact b_fewer (loc2 := [(9, 0), (9, 0), (9, 0)]) (am_lf (am_lf (am_lf am_ln))) (S_X12_rank_J1 X hB h)
theorem NM_X12_rank {v0 : Int} {v1 : Int} {v2 : Int} {K : am_KK} {m : am_M} (hp_v0 : am_ob v0 12) (h : M_X12_rank v0 v1 v2 K m) : N_X12_rank [v0, v1, v2] K m := ⟨hp_v0, h⟩
theorem SS_X12_rank : am_Snd yX12_rank cX12_rank 3 (some .int) 0 607 (am_L [2, 0, 0] 0 N_X12_rank) := by
  refine am_SB (by decide +kernel) (Nat.le_of_ble_eq_true rfl) (fun F zs as K m X ht hB hM => ?_)
  obtain ⟨v0, zs, as, rfl, rfl, hz0, ht⟩ := am_inv ht
  obtain ⟨v1, zs, as, rfl, rfl, hz1, ht⟩ := am_inv ht
  obtain ⟨v2, zs, as, rfl, rfl, hz2, ht⟩ := am_inv ht
  obtain ⟨rfl, rfl⟩ := am_inv0 ht
  obtain ⟨hp_v0, hM⟩ := hM
  exact S_X12_rank X hp_v0 hB hM
set_option maxRecDepth 20000 in
set_option maxHeartbeats 4000000 in
theorem S_X12_order {F : am_F} {K : am_KK} {v0 : Int} {v1 : Int} {m : am_M} (X : am_Cx F cX12_order RX12 (some .int) 608 0 K) (hp_v0 : am_ob v0 12) (hB : am_Bt m) (h : M_X12_order v0 v1 K m) : am_Z F 0 [] [(2, v0), (0, v1)] m 200 := by
  have G := X.G
  unfold M_X12_order at h
  refine z_aload_n (nx := 1) (a := 0) G rfl (Or.inl rfl) dX12_order_0 rfl (z_aload_n (nx := 2) (a := 0) G rfl (Or.inl rfl) dX12_order_1 rfl (b_getA (nx := 5) (k0 := 2) G hB fl_RX12_24 (Nat.le_of_ble_eq_true rfl) (Nat.le_of_ble_eq_true rfl) rfl hp_v0 dX12_order_2 rfl (z_sipush (nx := 8) (z := 169) G (R32c rfl) rfl dX12_order_5 rfl ?_)))
  obtain ⟨hb, h⟩ := h
  refine z_iald (nx := 9) G (sh_12_2 _ hp_v0) hb.1 hb.2 dX12_order_8 rfl ?_
  refine z_iconst (nx := 10) (z := 1) G (R32c rfl) dX12_order_9 rfl (z_iadd (nx := 11) G dX12_order_10 rfl ?_)
  refine b_callV9 (nx := 14) (zs := [v0, w32 ((m (am_rfv v0 2) 169) + 1)]) (as := [(0, w32 ((m (am_rfv v0 2) 169) + 1))]) X hB (by decide) rfl hp_v0 SS_X12_queues (am_ta (am_ti am_tn)) (Nat.le_of_ble_eq_true rfl) (Nat.le_of_ble_eq_true rfl) ml_RX12_363 iw_X12_queues vw_X12_queues cw_X12_queues nw_RX12 pp_X12_queues (Nat.le_of_ble_eq_true rfl) dX12_order_11 rfl (NM_X12_queues hp_v0 h) (fun r_1 m_2 h hB => ?_)
  refine z_iload_n (nx := 15) (a := 1) G rfl dX12_order_14 rfl (z_iconst (nx := 16) (z := (-1)) G (R32c rfl) dX12_order_15 rfl ?_)
  refine z_icmp_ne (nx := 19) (tgt := 26) G dX12_order_16 (by decide) rfl (fun c => ?_) (fun c => ?_)
  · have h := h.1 c
    refine z_iload_n (nx := 27) (a := 1) G rfl dX12_order_26 rfl (z_iconst (nx := 28) (z := 0) G (R32c rfl) dX12_order_27 rfl (z_aload_n (nx := 29) (a := 0) G rfl (Or.inl rfl) dX12_order_28 rfl (b_getI (nx := 32) (k0 := 34) (t := 0) G fl_RX12_354 (Nat.le_of_ble_eq_true rfl) (Nat.le_of_ble_eq_true rfl) rfl hp_v0 dX12_order_29 rfl (z_iconst (nx := 33) (z := 1) G (R32c rfl) dX12_order_32 rfl (z_isub (nx := 34) G dX12_order_33 rfl ?_)))))
    refine b_callS5 (nx := 37) (zs := [v1, 0, w32 ((m_2 v0 34) - 1)]) (as := [(0, v1), (0, 0), (0, w32 ((m_2 v0 34) - 1))]) X hB SS_X12_lies (am_ti (am_ti (am_ti am_tn))) (Nat.le_of_ble_eq_true rfl) (Nat.le_of_ble_eq_true rfl) ml_RX12_123 sw_X12_lies (am_plainC 12 (by decide)) cw_X12_lies nw_RX12 pp_X12_lies (Nat.le_of_ble_eq_true rfl) dX12_order_34 rfl (NM_X12_lies h) (fun r_3 m_4 h h01_5 hB => ?_)
    refine z_if_eq (nx := 40) (tgt := 49) G dX12_order_37 (by decide) rfl (fun c => ?_) (fun c => ?_)
    · have h := h.1 c
      refine z_iconst (nx := 50) (z := (-1)) G (R32c rfl) dX12_order_49 rfl ?_
      exact b_ireturn X hB dX12_order_50 h
    · have h := h.2 c
      refine z_aload_n (nx := 41) (a := 0) G rfl (Or.inl rfl) dX12_order_40 rfl (b_getA (nx := 44) (k0 := 32) G hB fl_RX12_80 (Nat.le_of_ble_eq_true rfl) (Nat.le_of_ble_eq_true rfl) rfl hp_v0 dX12_order_41 rfl (z_iload_n (nx := 45) (a := 1) G rfl dX12_order_44 rfl ?_))
      obtain ⟨hb, h⟩ := h
      refine z_iald (nx := 46) G (sh_12_32 _ hp_v0) hb.1 hb.2 dX12_order_45 rfl ?_
      refine z_goto (tgt := 50) G dX12_order_46 (by decide) ?_
      exact b_ireturn X hB dX12_order_50 h
  · have h := h.2 c
    refine z_aload_n (nx := 20) (a := 0) G rfl (Or.inl rfl) dX12_order_19 rfl (b_getI (nx := 23) (k0 := 34) (t := 0) G fl_RX12_354 (Nat.le_of_ble_eq_true rfl) (Nat.le_of_ble_eq_true rfl) rfl hp_v0 dX12_order_20 rfl (z_goto (tgt := 50) G dX12_order_23 (by decide) ?_))
    exact b_ireturn X hB dX12_order_50 h
theorem NM_X12_order {v0 : Int} {v1 : Int} {K : am_KK} {m : am_M} (hp_v0 : am_ob v0 12) (h : M_X12_order v0 v1 K m) : N_X12_order [v0, v1] K m := ⟨hp_v0, h⟩
theorem SS_X12_order : am_Snd yX12_order cX12_order 2 (some .int) 0 608 (am_L [2, 0] 0 N_X12_order) := by
  refine am_SB (by decide +kernel) (Nat.le_of_ble_eq_true rfl) (fun F zs as K m X ht hB hM => ?_)
  obtain ⟨v0, zs, as, rfl, rfl, hz0, ht⟩ := am_inv ht
  obtain ⟨v1, zs, as, rfl, rfl, hz1, ht⟩ := am_inv ht
  obtain ⟨rfl, rfl⟩ := am_inv0 ht
  obtain ⟨hp_v0, hM⟩ := hM
  exact S_X12_order X hp_v0 hB hM
set_option maxRecDepth 20000 in
set_option maxHeartbeats 4000000 in
theorem S_X12_keeps_L2B {F : am_F} {K : am_KK} {v0 : Int} {v1 : Int} {v2 : Int} {v3 : Int} {C55 : Int → am_M → Prop} {m : am_M} (X : am_Cx F cX12_keeps RX12 none 1 9 K) (hp_v0 : am_ob v0 12) (hC55 : ∀ w3 m, C55 w3 m → am_Bt m → am_Z F 55 [] [(2, v0), (0, v1), (0, v2), (0, w3)] m 200) (hB : am_Bt m) (h : M_X12_keeps_L2B v0 v1 v2 v3 C55 K m) : am_Z F 55 [] [(2, v0), (0, v1), (0, v2), (0, v3)] m 200 := by
  have G := X.G
  unfold M_X12_keeps_L2B at h
  refine z_iload_n (nx := 56) (a := 3) G rfl dX12_keeps_55 rfl (z_sipush (nx := 59) (z := 170) G (R32c rfl) rfl dX12_keeps_56 rfl ?_)
  refine z_icmp_ge (nx := 62) (tgt := 87) G dX12_keeps_59 (by decide) rfl (fun c => ?_) (fun c => ?_)
  · have h := h.1 c
    refine z_aload_n (nx := 88) (a := 0) G rfl (Or.inl rfl) dX12_keeps_87 rfl (b_getA (nx := 91) (k0 := 36) G hB fl_RX12_86 (Nat.le_of_ble_eq_true rfl) (Nat.le_of_ble_eq_true rfl) rfl hp_v0 dX12_keeps_88 rfl (z_iload_n (nx := 92) (a := 2) G rfl dX12_keeps_91 rfl (z_aload_n (nx := 93) (a := 0) G rfl (Or.inl rfl) dX12_keeps_92 rfl (b_getI (nx := 96) (k0 := 38) (t := 0) G fl_RX12_11 (Nat.le_of_ble_eq_true rfl) (Nat.le_of_ble_eq_true rfl) rfl hp_v0 dX12_keeps_93 rfl (z_imul (nx := 97) G dX12_keeps_96 rfl (z_sipush (nx := 100) (z := 170) G (R32c rfl) rfl dX12_keeps_97 rfl (z_iadd (nx := 101) G dX12_keeps_100 rfl (z_iload_n (nx := 102) (a := 1) G rfl dX12_keeps_101 rfl ?_))))))))
    obtain ⟨hb, h⟩ := h
    refine b_iast (nx := 103) G hB (sh_12_36 _ hp_v0) hb.1 hb.2 dX12_keeps_102 rfl (fun m_1 e_m_1 hB => ?_)
    have h := h m_1 e_m_1
    refine z_aload_n (nx := 104) (a := 0) G rfl (Or.inl rfl) dX12_keeps_103 rfl (z_dup (nx := 105) G (fun h => nomatch h) dX12_keeps_104 rfl (b_getI (nx := 108) (k0 := 38) (t := 0) G fl_RX12_11 (Nat.le_of_ble_eq_true rfl) (Nat.le_of_ble_eq_true rfl) rfl hp_v0 dX12_keeps_105 rfl (z_iconst (nx := 109) (z := 1) G (R32c rfl) dX12_keeps_108 rfl (z_iadd (nx := 110) G dX12_keeps_109 rfl ?_))))
    refine b_put (nx := 113) (k0 := 38) (t := 0) G hB fl_RX12_11 (Nat.le_of_ble_eq_true rfl) (Nat.le_of_ble_eq_true rfl) rfl (fun h => nomatch h) rfl hp_v0 dX12_keeps_110 rfl (fun m_2 e_m_2 hB => ?_)
    have h := h m_2 e_m_2
    exact b_return X hB dX12_keeps_113 h
  · have h := h.2 c
    refine z_aload_n (nx := 63) (a := 0) G rfl (Or.inl rfl) dX12_keeps_62 rfl (b_getA (nx := 66) (k0 := 36) G hB fl_RX12_86 (Nat.le_of_ble_eq_true rfl) (Nat.le_of_ble_eq_true rfl) rfl hp_v0 dX12_keeps_63 rfl (z_iload_n (nx := 67) (a := 2) G rfl dX12_keeps_66 rfl (z_aload_n (nx := 68) (a := 0) G rfl (Or.inl rfl) dX12_keeps_67 rfl (b_getI (nx := 71) (k0 := 38) (t := 0) G fl_RX12_11 (Nat.le_of_ble_eq_true rfl) (Nat.le_of_ble_eq_true rfl) rfl hp_v0 dX12_keeps_68 rfl (z_imul (nx := 72) G dX12_keeps_71 rfl (z_iload_n (nx := 73) (a := 3) G rfl dX12_keeps_72 rfl (z_iadd (nx := 74) G dX12_keeps_73 rfl (z_aload_n (nx := 75) (a := 0) G rfl (Or.inl rfl) dX12_keeps_74 rfl (b_getA (nx := 78) (k0 := 2) G hB fl_RX12_24 (Nat.le_of_ble_eq_true rfl) (Nat.le_of_ble_eq_true rfl) rfl hp_v0 dX12_keeps_75 rfl (z_iload_n (nx := 79) (a := 3) G rfl dX12_keeps_78 rfl ?_))))))))))
    obtain ⟨hb, h⟩ := h
    refine z_iald (nx := 80) G (sh_12_2 _ hp_v0) hb.1 hb.2 dX12_keeps_79 rfl ?_
    obtain ⟨hb, h⟩ := h
    refine b_iast (nx := 81) G hB (sh_12_36 _ hp_v0) hb.1 hb.2 dX12_keeps_80 rfl (fun m_3 e_m_3 hB => ?_)
    have h := h m_3 e_m_3
    refine b_iinc (nx := 84) (a := 3) (loc2 := fun v3_4 => [(2, v0), (0, v1), (0, v2), (0, v3_4)]) G (fun _ => rfl) rfl (am_pl1 rfl (fun h => nomatch h)) dX12_keeps_81 rfl (fun v3_4 e_v3_4 => ?_)
    have h := h v3_4 e_v3_4
    refine z_goto (tgt := 55) G dX12_keeps_84 (by decide) ?_
    exact b_fewer (loc2 := [(2, v0), (0, v1), (0, v2), (0, v3_4)]) (am_lk (am_lk (am_lk (am_lk am_ln)))) (hC55 _ _ h hB)
theorem S_X12_keeps_L2 {F : am_F} {K : am_KK} {v0 : Int} {v1 : Int} {v2 : Int} {v3 : Int} {m : am_M} (X : am_Cx F cX12_keeps RX12 none 1 9 K) (hp_v0 : am_ob v0 12) (hB : am_Bt m) (h : M_X12_keeps_L2 v0 v1 v2 v3 K m) : am_Z F 55 [] [(2, v0), (0, v1), (0, v2), (0, v3)] m 200 := by
  obtain ⟨I, ⟨j, hj⟩, hI⟩ := h
  have key : ∀ j v3 m, I j v3 m → am_Bt m → am_Z F 55 [] [(2, v0), (0, v1), (0, v2), (0, v3)] m 200 := by
    intro j
    induction j using Nat.strongRecOn with
    | ind j ih =>
      intro v3 m hj hB
      exact S_X12_keeps_L2B X hp_v0 (fun v3' m' hc hB' => by
        obtain ⟨j', g1, g2⟩ := hc
        exact ih j' g1 v3' m' g2 hB') hB (hI j v3 m hj)
  exact key j _ _ hj hB
set_option maxRecDepth 20000 in
set_option maxHeartbeats 4000000 in
theorem S_X12_keeps_J1 {F : am_F} {K : am_KK} {v0 : Int} {v1 : Int} {v2 : Int} {m : am_M} (X : am_Cx F cX12_keeps RX12 none 1 9 K) (hp_v0 : am_ob v0 12) (hB : am_Bt m) (h : M_X12_keeps_J1 v0 v1 v2 K m) : am_Z F 53 [] [(2, v0), (0, v1), (0, v2), (9, 0)] m 200 := by
  have G := X.G
  unfold M_X12_keeps_J1 at h
  refine z_iconst (nx := 54) (z := 0) G (R32c rfl) dX12_keeps_53 rfl (b_storeE_n (nx := 55) (a := 3) (loc2 := [(2, v0), (0, v1), (0, v2), (0, 0)]) G rfl (Nat.le_of_ble_eq_true rfl) (am_pl1 rfl (fun h => nomatch h)) dX12_keeps_54 rfl ?_)
  exact b_fewer (loc2 := [(2, v0), (0, v1), (0, v2), (0, 0)]) (am_lk (am_lk (am_lk (am_lk am_ln)))) (S_X12_keeps_L2 X hp_v0 hB h)
set_option maxRecDepth 20000 in
set_option maxHeartbeats 4000000 in
theorem S_X12_keeps_L1B {F : am_F} {K : am_KK} {v0 : Int} {v1 : Int} {v2 : Int} {v3 : Int} {C15 : Int → am_M → Prop} {m : am_M} (X : am_Cx F cX12_keeps RX12 none 1 9 K) (hp_v0 : am_ob v0 12) (hC15 : ∀ w3 m, C15 w3 m → am_Bt m → am_Z F 15 [] [(2, v0), (0, v1), (0, v2), (0, w3)] m 200) (hB : am_Bt m) (h : M_X12_keeps_L1B v0 v1 v2 v3 C15 K m) : am_Z F 15 [] [(2, v0), (0, v1), (0, v2), (0, v3)] m 200 := by
  have G := X.G
  unfold M_X12_keeps_L1B at h
  refine z_iload_n (nx := 16) (a := 3) G rfl dX12_keeps_15 rfl (z_bipush (nx := 18) (z := 15) G (R32c rfl) rfl dX12_keeps_16 rfl (z_iload_n (nx := 19) (a := 2) G rfl dX12_keeps_18 rfl (z_imul (nx := 20) G dX12_keeps_19 rfl ?_)))
  refine z_icmp_ge (nx := 23) (tgt := 43) G dX12_keeps_20 (by decide) rfl (fun c => ?_) (fun c => ?_)
  · have h := h.1 c
    refine z_aload_n (nx := 44) (a := 0) G rfl (Or.inl rfl) dX12_keeps_43 rfl (z_dup (nx := 45) G (fun h => nomatch h) dX12_keeps_44 rfl (b_getI (nx := 48) (k0 := 38) (t := 0) G fl_RX12_11 (Nat.le_of_ble_eq_true rfl) (Nat.le_of_ble_eq_true rfl) rfl hp_v0 dX12_keeps_45 rfl (z_iconst (nx := 49) (z := 1) G (R32c rfl) dX12_keeps_48 rfl (z_isub (nx := 50) G dX12_keeps_49 rfl ?_))))
    refine b_put (nx := 53) (k0 := 38) (t := 0) G hB fl_RX12_11 (Nat.le_of_ble_eq_true rfl) (Nat.le_of_ble_eq_true rfl) rfl (fun h => nomatch h) rfl hp_v0 dX12_keeps_50 rfl (fun m_5 e_m_5 hB => ?_)
    have h := h m_5 e_m_5
    exact b_fewer (loc2 := [(2, v0), (0, v1), (0, v2), (9, 0)]) (am_lk (am_lk (am_lk (am_lf am_ln)))) (S_X12_keeps_J1 X hp_v0 hB h)
  · have h := h.2 c
    refine z_aload_n (nx := 24) (a := 0) G rfl (Or.inl rfl) dX12_keeps_23 rfl (b_getA (nx := 27) (k0 := 36) G hB fl_RX12_86 (Nat.le_of_ble_eq_true rfl) (Nat.le_of_ble_eq_true rfl) rfl hp_v0 dX12_keeps_24 rfl (z_iload_n (nx := 28) (a := 3) G rfl dX12_keeps_27 rfl (z_aload_n (nx := 29) (a := 0) G rfl (Or.inl rfl) dX12_keeps_28 rfl (b_getA (nx := 32) (k0 := 36) G hB fl_RX12_86 (Nat.le_of_ble_eq_true rfl) (Nat.le_of_ble_eq_true rfl) rfl hp_v0 dX12_keeps_29 rfl (z_iload_n (nx := 33) (a := 3) G rfl dX12_keeps_32 rfl (z_iload_n (nx := 34) (a := 2) G rfl dX12_keeps_33 rfl (z_iadd (nx := 35) G dX12_keeps_34 rfl ?_)))))))
    obtain ⟨hb, h⟩ := h
    refine z_iald (nx := 36) G (sh_12_36 _ hp_v0) hb.1 hb.2 dX12_keeps_35 rfl ?_
    obtain ⟨hb, h⟩ := h
    refine b_iast (nx := 37) G hB (sh_12_36 _ hp_v0) hb.1 hb.2 dX12_keeps_36 rfl (fun m_6 e_m_6 hB => ?_)
    have h := h m_6 e_m_6
    refine b_iinc (nx := 40) (a := 3) (loc2 := fun v3_7 => [(2, v0), (0, v1), (0, v2), (0, v3_7)]) G (fun _ => rfl) rfl (am_pl1 rfl (fun h => nomatch h)) dX12_keeps_37 rfl (fun v3_7 e_v3_7 => ?_)
    have h := h v3_7 e_v3_7
    refine z_goto (tgt := 15) G dX12_keeps_40 (by decide) ?_
    exact b_fewer (loc2 := [(2, v0), (0, v1), (0, v2), (0, v3_7)]) (am_lk (am_lk (am_lk (am_lk am_ln)))) (hC15 _ _ h hB)
theorem S_X12_keeps_L1 {F : am_F} {K : am_KK} {v0 : Int} {v1 : Int} {v2 : Int} {v3 : Int} {m : am_M} (X : am_Cx F cX12_keeps RX12 none 1 9 K) (hp_v0 : am_ob v0 12) (hB : am_Bt m) (h : M_X12_keeps_L1 v0 v1 v2 v3 K m) : am_Z F 15 [] [(2, v0), (0, v1), (0, v2), (0, v3)] m 200 := by
  obtain ⟨I, ⟨j, hj⟩, hI⟩ := h
  have key : ∀ j v3 m, I j v3 m → am_Bt m → am_Z F 15 [] [(2, v0), (0, v1), (0, v2), (0, v3)] m 200 := by
    intro j
    induction j using Nat.strongRecOn with
    | ind j ih =>
      intro v3 m hj hB
      exact S_X12_keeps_L1B X hp_v0 (fun v3' m' hc hB' => by
        obtain ⟨j', g1, g2⟩ := hc
        exact ih j' g1 v3' m' g2 hB') hB (hI j v3 m hj)
  exact key j _ _ hj hB
set_option maxRecDepth 20000 in
set_option maxHeartbeats 4000000 in
theorem S_X12_keeps {F : am_F} {K : am_KK} {v0 : Int} {v1 : Int} {m : am_M} (X : am_Cx F cX12_keeps RX12 none 1 9 K) (hp_v0 : am_ob v0 12) (hB : am_Bt m) (h : M_X12_keeps v0 v1 K m) : am_Z F 0 [] [(2, v0), (0, v1), (9, 0), (9, 0)] m 200 := by
  have G := X.G
  unfold M_X12_keeps at h
  refine z_sipush (nx := 3) (z := 171) G (R32c rfl) rfl dX12_keeps_0 rfl (b_storeE_n (nx := 4) (a := 2) (loc2 := [(2, v0), (0, v1), (0, 171), (9, 0)]) G rfl (Nat.le_of_ble_eq_true rfl) (am_pl1 rfl (fun h => nomatch h)) dX12_keeps_3 rfl (z_aload_n (nx := 5) (a := 0) G rfl (Or.inl rfl) dX12_keeps_4 rfl (b_getI (nx := 8) (k0 := 38) (t := 0) G fl_RX12_11 (Nat.le_of_ble_eq_true rfl) (Nat.le_of_ble_eq_true rfl) rfl hp_v0 dX12_keeps_5 rfl (z_bipush (nx := 10) (z := 16) G (R32c rfl) rfl dX12_keeps_8 rfl ?_))))
  refine z_icmp_ne (nx := 13) (tgt := 53) G dX12_keeps_10 (by decide) rfl (fun c => ?_) (fun c => ?_)
  · have h := h.1 c
    exact b_fewer (loc2 := [(2, v0), (0, v1), (0, 171), (9, 0)]) (am_lk (am_lk (am_lk (am_lk am_ln)))) (S_X12_keeps_J1 X hp_v0 hB h)
  · have h := h.2 c
    refine z_iconst (nx := 14) (z := 0) G (R32c rfl) dX12_keeps_13 rfl (b_storeE_n (nx := 15) (a := 3) (loc2 := [(2, v0), (0, v1), (0, 171), (0, 0)]) G rfl (Nat.le_of_ble_eq_true rfl) (am_pl1 rfl (fun h => nomatch h)) dX12_keeps_14 rfl ?_)
    exact b_fewer (loc2 := [(2, v0), (0, v1), (0, 171), (0, 0)]) (am_lk (am_lk (am_lk (am_lk am_ln)))) (S_X12_keeps_L1 X hp_v0 hB h)
theorem NM_X12_keeps {v0 : Int} {v1 : Int} {K : am_KK} {m : am_M} (hp_v0 : am_ob v0 12) (h : M_X12_keeps v0 v1 K m) : N_X12_keeps [v0, v1] K m := ⟨hp_v0, h⟩
theorem SS_X12_keeps : am_Snd yX12_keeps cX12_keeps 4 none 0 1 (am_L [2, 0] 9 N_X12_keeps) := by
  refine am_SB (by decide +kernel) (Nat.le_of_ble_eq_true rfl) (fun F zs as K m X ht hB hM => ?_)
  obtain ⟨v0, zs, as, rfl, rfl, hz0, ht⟩ := am_inv ht
  obtain ⟨v1, zs, as, rfl, rfl, hz1, ht⟩ := am_inv ht
  obtain ⟨rfl, rfl⟩ := am_inv0 ht
  obtain ⟨hp_v0, hM⟩ := hM
  exact S_X12_keeps X hp_v0 hB hM
set_option maxRecDepth 20000 in
set_option maxHeartbeats 4000000 in
theorem S_X12_undo_L1B {F : am_F} {K : am_KK} {v0 : Int} {v1 : Int} {v2 : Int} {C35 : Int → am_M → Prop} {m : am_M} (X : am_Cx F cX12_undo RX12 (some .int) 2 0 K) (hp_v0 : am_ob v0 12) (hC35 : ∀ w2 m, C35 w2 m → am_Bt m → am_Z F 35 [] [(2, v0), (0, v1), (0, w2)] m 200) (hB : am_Bt m) (h : M_X12_undo_L1B v0 v1 v2 C35 K m) : am_Z F 35 [] [(2, v0), (0, v1), (0, v2)] m 200 := by
  have G := X.G
  unfold M_X12_undo_L1B at h
  refine z_iload_n (nx := 36) (a := 2) G rfl dX12_undo_35 rfl (z_sipush (nx := 39) (z := 170) G (R32c rfl) rfl dX12_undo_36 rfl ?_)
  refine z_icmp_ge (nx := 42) (tgt := 62) G dX12_undo_39 (by decide) rfl (fun c => ?_) (fun c => ?_)
  · have h := h.1 c
    refine z_aload_n (nx := 63) (a := 0) G rfl (Or.inl rfl) dX12_undo_62 rfl (z_aload_n (nx := 64) (a := 0) G rfl (Or.inl rfl) dX12_undo_63 rfl (b_getA (nx := 67) (k0 := 36) G hB fl_RX12_86 (Nat.le_of_ble_eq_true rfl) (Nat.le_of_ble_eq_true rfl) rfl hp_v0 dX12_undo_64 rfl (z_iload_n (nx := 68) (a := 1) G rfl dX12_undo_67 rfl (z_sipush (nx := 71) (z := 170) G (R32c rfl) rfl dX12_undo_68 rfl (z_iadd (nx := 72) G dX12_undo_71 rfl ?_)))))
    obtain ⟨hb, h⟩ := h
    refine z_iald (nx := 73) G (sh_12_36 _ hp_v0) hb.1 hb.2 dX12_undo_72 rfl ?_
    refine b_callV0 (nx := 76) (zs := [v0, m (am_rfv v0 36) (w32 (v1 + 170))]) (as := [(0, m (am_rfv v0 36) (w32 (v1 + 170)))]) X hB (by decide) rfl hp_v0 SS_X12_good (am_ta (am_ti am_tn)) (Nat.le_of_ble_eq_true rfl) (Nat.le_of_ble_eq_true rfl) ml_RX12_14 iw_X12_good vw_X12_good cw_X12_good nw_RX12 pp_X12_good (Nat.le_of_ble_eq_true rfl) dX12_undo_73 rfl (NM_X12_good hp_v0 h) (fun r_1 m_2 h hB => ?_)
    exact b_ireturn X hB dX12_undo_76 h
  · have h := h.2 c
    refine z_aload_n (nx := 43) (a := 0) G rfl (Or.inl rfl) dX12_undo_42 rfl (b_getA (nx := 46) (k0 := 2) G hB fl_RX12_24 (Nat.le_of_ble_eq_true rfl) (Nat.le_of_ble_eq_true rfl) rfl hp_v0 dX12_undo_43 rfl (z_iload_n (nx := 47) (a := 2) G rfl dX12_undo_46 rfl (z_aload_n (nx := 48) (a := 0) G rfl (Or.inl rfl) dX12_undo_47 rfl (b_getA (nx := 51) (k0 := 36) G hB fl_RX12_86 (Nat.le_of_ble_eq_true rfl) (Nat.le_of_ble_eq_true rfl) rfl hp_v0 dX12_undo_48 rfl (z_iload_n (nx := 52) (a := 1) G rfl dX12_undo_51 rfl (z_iload_n (nx := 53) (a := 2) G rfl dX12_undo_52 rfl (z_iadd (nx := 54) G dX12_undo_53 rfl ?_)))))))
    obtain ⟨hb, h⟩ := h
    refine z_iald (nx := 55) G (sh_12_36 _ hp_v0) hb.1 hb.2 dX12_undo_54 rfl ?_
    obtain ⟨hb, h⟩ := h
    refine b_iast (nx := 56) G hB (sh_12_2 _ hp_v0) hb.1 hb.2 dX12_undo_55 rfl (fun m_3 e_m_3 hB => ?_)
    have h := h m_3 e_m_3
    refine b_iinc (nx := 59) (a := 2) (loc2 := fun v2_4 => [(2, v0), (0, v1), (0, v2_4)]) G (fun _ => rfl) rfl (am_pl1 rfl (fun h => nomatch h)) dX12_undo_56 rfl (fun v2_4 e_v2_4 => ?_)
    have h := h v2_4 e_v2_4
    refine z_goto (tgt := 35) G dX12_undo_59 (by decide) ?_
    exact b_fewer (loc2 := [(2, v0), (0, v1), (0, v2_4)]) (am_lk (am_lk (am_lk am_ln))) (hC35 _ _ h hB)
theorem S_X12_undo_L1 {F : am_F} {K : am_KK} {v0 : Int} {v1 : Int} {v2 : Int} {m : am_M} (X : am_Cx F cX12_undo RX12 (some .int) 2 0 K) (hp_v0 : am_ob v0 12) (hB : am_Bt m) (h : M_X12_undo_L1 v0 v1 v2 K m) : am_Z F 35 [] [(2, v0), (0, v1), (0, v2)] m 200 := by
  obtain ⟨I, ⟨j, hj⟩, hI⟩ := h
  have key : ∀ j v2 m, I j v2 m → am_Bt m → am_Z F 35 [] [(2, v0), (0, v1), (0, v2)] m 200 := by
    intro j
    induction j using Nat.strongRecOn with
    | ind j ih =>
      intro v2 m hj hB
      exact S_X12_undo_L1B X hp_v0 (fun v2' m' hc hB' => by
        obtain ⟨j', g1, g2⟩ := hc
        exact ih j' g1 v2' m' g2 hB') hB (hI j v2 m hj)
  exact key j _ _ hj hB
set_option maxRecDepth 20000 in
set_option maxHeartbeats 4000000 in
theorem S_X12_undo {F : am_F} {K : am_KK} {v0 : Int} {m : am_M} (X : am_Cx F cX12_undo RX12 (some .int) 2 0 K) (hp_v0 : am_ob v0 12) (hB : am_Bt m) (h : M_X12_undo v0 K m) : am_Z F 0 [] [(2, v0), (9, 0), (9, 0)] m 200 := by
  have G := X.G
  unfold M_X12_undo at h
  refine z_aload_n (nx := 1) (a := 0) G rfl (Or.inl rfl) dX12_undo_0 rfl (b_getI (nx := 4) (k0 := 38) (t := 0) G fl_RX12_11 (Nat.le_of_ble_eq_true rfl) (Nat.le_of_ble_eq_true rfl) rfl hp_v0 dX12_undo_1 rfl ?_)
  refine z_if_ne (nx := 7) (tgt := 14) G dX12_undo_4 (by decide) rfl (fun c => ?_) (fun c => ?_)
  · have h := h.1 c
    refine z_aload_n (nx := 15) (a := 0) G rfl (Or.inl rfl) dX12_undo_14 rfl (z_dup (nx := 16) G (fun h => nomatch h) dX12_undo_15 rfl (b_getI (nx := 19) (k0 := 38) (t := 0) G fl_RX12_11 (Nat.le_of_ble_eq_true rfl) (Nat.le_of_ble_eq_true rfl) rfl hp_v0 dX12_undo_16 rfl (z_iconst (nx := 20) (z := 1) G (R32c rfl) dX12_undo_19 rfl (z_isub (nx := 21) G dX12_undo_20 rfl ?_))))
    refine b_put (nx := 24) (k0 := 38) (t := 0) G hB fl_RX12_11 (Nat.le_of_ble_eq_true rfl) (Nat.le_of_ble_eq_true rfl) rfl (fun h => nomatch h) rfl hp_v0 dX12_undo_21 rfl (fun m_5 e_m_5 hB => ?_)
    have h := h m_5 e_m_5
    refine z_sipush (nx := 27) (z := 171) G (R32c rfl) rfl dX12_undo_24 rfl (z_aload_n (nx := 28) (a := 0) G rfl (Or.inl rfl) dX12_undo_27 rfl (b_getI (nx := 31) (k0 := 38) (t := 0) G fl_RX12_11 (Nat.le_of_ble_eq_true rfl) (Nat.le_of_ble_eq_true rfl) rfl hp_v0 dX12_undo_28 rfl (z_imul (nx := 32) G dX12_undo_31 rfl ?_)))
    refine b_store_n (nx := 33) (a := 1) (loc2 := fun v1_6 => [(2, v0), (0, v1_6), (9, 0)]) G (fun _ => rfl) (Nat.le_of_ble_eq_true rfl) (am_pl1 rfl (fun h => nomatch h)) dX12_undo_32 rfl (fun v1_6 e_v1_6 => ?_)
    have h := h v1_6 e_v1_6
    refine z_iconst (nx := 34) (z := 0) G (R32c rfl) dX12_undo_33 rfl (b_storeE_n (nx := 35) (a := 2) (loc2 := [(2, v0), (0, v1_6), (0, 0)]) G rfl (Nat.le_of_ble_eq_true rfl) (am_pl1 rfl (fun h => nomatch h)) dX12_undo_34 rfl ?_)
    exact b_fewer (loc2 := [(2, v0), (0, v1_6), (0, 0)]) (am_lk (am_lk (am_lk am_ln))) (S_X12_undo_L1 X hp_v0 hB h)
  · have h := h.2 c
    refine z_aload_n (nx := 8) (a := 0) G rfl (Or.inl rfl) dX12_undo_7 rfl (z_bipush (nx := 10) (z := (-3)) G (R32c rfl) rfl dX12_undo_8 rfl ?_)
    refine b_callV0 (nx := 13) (zs := [v0, (-3)]) (as := [(0, (-3))]) X hB (by decide) rfl hp_v0 SS_X12_refuses (am_ta (am_ti am_tn)) (Nat.le_of_ble_eq_true rfl) (Nat.le_of_ble_eq_true rfl) ml_RX12_127 iw_X12_refuses vw_X12_refuses cw_X12_refuses nw_RX12 pp_X12_refuses (Nat.le_of_ble_eq_true rfl) dX12_undo_10 rfl (NM_X12_refuses hp_v0 h) (fun r_7 m_8 h hB => ?_)
    exact b_ireturn X hB dX12_undo_13 h
theorem NM_X12_undo {v0 : Int} {K : am_KK} {m : am_M} (hp_v0 : am_ob v0 12) (h : M_X12_undo v0 K m) : N_X12_undo [v0] K m := ⟨hp_v0, h⟩
theorem SS_X12_undo : am_Snd yX12_undo cX12_undo 3 (some .int) 0 2 (am_L [2] 0 N_X12_undo) := by
  refine am_SB (by decide +kernel) (Nat.le_of_ble_eq_true rfl) (fun F zs as K m X ht hB hM => ?_)
  obtain ⟨v0, zs, as, rfl, rfl, hz0, ht⟩ := am_inv ht
  obtain ⟨rfl, rfl⟩ := am_inv0 ht
  obtain ⟨hp_v0, hM⟩ := hM
  exact S_X12_undo X hp_v0 hB hM
set_option maxRecDepth 20000 in
set_option maxHeartbeats 4000000 in
theorem S_X12_praysKept {F : am_F} {K : am_KK} {v0 : Int} {v1 : Int} {v2 : Int} {v3 : Int} {v4 : Int} {m : am_M} (X : am_Cx F cX12_praysKept RX12 (some .int) 608 0 K) (hp_v0 : am_ob v0 12) (hB : am_Bt m) (h : M_X12_praysKept v0 v1 v2 v3 v4 K m) : am_Z F 0 [] [(2, v0), (0, v1), (0, v2), (0, v3), (0, v4), (9, 0)] m 200 := by
  have G := X.G
  unfold M_X12_praysKept at h
  refine z_aload_n (nx := 1) (a := 0) G rfl (Or.inl rfl) dX12_praysKept_0 rfl (z_iload_n (nx := 2) (a := 1) G rfl dX12_praysKept_1 rfl (z_iload_n (nx := 3) (a := 2) G rfl dX12_praysKept_2 rfl (z_iload_n (nx := 4) (a := 3) G rfl dX12_praysKept_3 rfl (z_iload (nx := 6) (a := 4) G rfl dX12_praysKept_4 rfl ?_))))
  refine b_callV0 (nx := 9) (zs := [v0, v1, v2, v3, v4]) (as := [(0, v1), (0, v2), (0, v3), (0, v4)]) X hB (by decide) rfl hp_v0 SS_X12_whyNot (am_ta (am_ti (am_ti (am_ti (am_ti am_tn))))) (Nat.le_of_ble_eq_true rfl) (Nat.le_of_ble_eq_true rfl) ml_RX12_173 iw_X12_whyNot vw_X12_whyNot cw_X12_whyNot nw_RX12 pp_X12_whyNot (Nat.le_of_ble_eq_true rfl) dX12_praysKept_6 rfl (NM_X12_whyNot hp_v0 h) (fun r_1 m_2 h hB => ?_)
  refine b_storeE (nx := 11) (a := 5) (loc2 := [(2, v0), (0, v1), (0, v2), (0, v3), (0, v4), (0, r_1)]) G rfl (Nat.le_of_ble_eq_true rfl) (am_pl1 rfl (fun h => nomatch h)) dX12_praysKept_9 rfl (z_iload (nx := 13) (a := 5) G rfl dX12_praysKept_11 rfl ?_)
  refine z_if_ge (nx := 16) (tgt := 19) G dX12_praysKept_13 (by decide) rfl (fun c => ?_) (fun c => ?_)
  · have h := h.1 c
    refine z_aload_n (nx := 20) (a := 0) G rfl (Or.inl rfl) dX12_praysKept_19 rfl (z_iconst (nx := 21) (z := 0) G (R32c rfl) dX12_praysKept_20 rfl ?_)
    refine b_callV9 (nx := 24) (zs := [v0, 0]) (as := [(0, 0)]) X hB (by decide) rfl hp_v0 SS_X12_keeps (am_ta (am_ti am_tn)) (Nat.le_of_ble_eq_true rfl) (Nat.le_of_ble_eq_true rfl) ml_RX12_376 iw_X12_keeps vw_X12_keeps cw_X12_keeps nw_RX12 pp_X12_keeps (Nat.le_of_ble_eq_true rfl) dX12_praysKept_21 rfl (NM_X12_keeps hp_v0 h) (fun r_3 m_4 h hB => ?_)
    refine z_aload_n (nx := 25) (a := 0) G rfl (Or.inl rfl) dX12_praysKept_24 rfl (z_iload_n (nx := 26) (a := 1) G rfl dX12_praysKept_25 rfl (z_iload_n (nx := 27) (a := 2) G rfl dX12_praysKept_26 rfl (z_iload_n (nx := 28) (a := 3) G rfl dX12_praysKept_27 rfl (z_iload (nx := 30) (a := 4) G rfl dX12_praysKept_28 rfl ?_))))
    refine b_callV9 (nx := 33) (zs := [v0, v1, v2, v3, v4]) (as := [(0, v1), (0, v2), (0, v3), (0, v4)]) X hB (by decide) rfl hp_v0 SS_X12_says (am_ta (am_ti (am_ti (am_ti (am_ti am_tn))))) (Nat.le_of_ble_eq_true rfl) (Nat.le_of_ble_eq_true rfl) ml_RX12_177 iw_X12_says vw_X12_says cw_X12_says nw_RX12 pp_X12_says (Nat.le_of_ble_eq_true rfl) dX12_praysKept_30 rfl (NM_X12_says hp_v0 h) (fun r_5 m_6 h hB => ?_)
    refine z_aload_n (nx := 34) (a := 0) G rfl (Or.inl rfl) dX12_praysKept_33 rfl ?_
    refine b_callV0 (nx := 37) (zs := [v0]) (as := []) X hB (by decide) rfl hp_v0 SS_X12_prayers (am_ta am_tn) (Nat.le_of_ble_eq_true rfl) (Nat.le_of_ble_eq_true rfl) ml_RX12_133 iw_X12_prayers vw_X12_prayers cw_X12_prayers nw_RX12 pp_X12_prayers (Nat.le_of_ble_eq_true rfl) dX12_praysKept_34 rfl (NM_X12_prayers hp_v0 h) (fun r_7 m_8 h hB => ?_)
    refine z_iconst (nx := 38) (z := 1) G (R32c rfl) dX12_praysKept_37 rfl (z_isub (nx := 39) G dX12_praysKept_38 rfl ?_)
    exact b_ireturn X hB dX12_praysKept_39 h
  · have h := h.2 c
    refine z_iload (nx := 18) (a := 5) G rfl dX12_praysKept_16 rfl ?_
    exact b_ireturn X hB dX12_praysKept_18 h
theorem NM_X12_praysKept {v0 : Int} {v1 : Int} {v2 : Int} {v3 : Int} {v4 : Int} {K : am_KK} {m : am_M} (hp_v0 : am_ob v0 12) (h : M_X12_praysKept v0 v1 v2 v3 v4 K m) : N_X12_praysKept [v0, v1, v2, v3, v4] K m := ⟨hp_v0, h⟩
theorem SS_X12_praysKept : am_Snd yX12_praysKept cX12_praysKept 6 (some .int) 0 608 (am_L [2, 0, 0, 0, 0] 0 N_X12_praysKept) := by
  refine am_SB (by decide +kernel) (Nat.le_of_ble_eq_true rfl) (fun F zs as K m X ht hB hM => ?_)
  obtain ⟨v0, zs, as, rfl, rfl, hz0, ht⟩ := am_inv ht
  obtain ⟨v1, zs, as, rfl, rfl, hz1, ht⟩ := am_inv ht
  obtain ⟨v2, zs, as, rfl, rfl, hz2, ht⟩ := am_inv ht
  obtain ⟨v3, zs, as, rfl, rfl, hz3, ht⟩ := am_inv ht
  obtain ⟨v4, zs, as, rfl, rfl, hz4, ht⟩ := am_inv ht
  obtain ⟨rfl, rfl⟩ := am_inv0 ht
  obtain ⟨hp_v0, hM⟩ := hM
  exact S_X12_praysKept X hp_v0 hB hM
set_option maxRecDepth 20000 in
set_option maxHeartbeats 4000000 in
theorem S_X12_dawnsKept {F : am_F} {K : am_KK} {v0 : Int} {m : am_M} (X : am_Cx F cX12_dawnsKept RX12 (some .int) 609 0 K) (hp_v0 : am_ob v0 12) (hB : am_Bt m) (h : M_X12_dawnsKept v0 K m) : am_Z F 0 [] [(2, v0)] m 200 := by
  have G := X.G
  unfold M_X12_dawnsKept at h
  refine z_aload_n (nx := 1) (a := 0) G rfl (Or.inl rfl) dX12_dawnsKept_0 rfl (b_getA (nx := 4) (k0 := 2) G hB fl_RX12_24 (Nat.le_of_ble_eq_true rfl) (Nat.le_of_ble_eq_true rfl) rfl hp_v0 dX12_dawnsKept_1 rfl (z_sipush (nx := 7) (z := 169) G (R32c rfl) rfl dX12_dawnsKept_4 rfl ?_))
  obtain ⟨hb, h⟩ := h
  refine z_iald (nx := 8) G (sh_12_2 _ hp_v0) hb.1 hb.2 dX12_dawnsKept_7 rfl ?_
  refine z_sipush (nx := 11) (z := 999) G (R32c rfl) rfl dX12_dawnsKept_8 rfl ?_
  refine z_icmp_ne (nx := 14) (tgt := 17) G dX12_dawnsKept_11 (by decide) rfl (fun c => ?_) (fun c => ?_)
  · have h := h.1 c
    refine z_aload_n (nx := 18) (a := 0) G rfl (Or.inl rfl) dX12_dawnsKept_17 rfl (z_iconst (nx := 19) (z := 1) G (R32c rfl) dX12_dawnsKept_18 rfl ?_)
    refine b_callV9 (nx := 22) (zs := [v0, 1]) (as := [(0, 1)]) X hB (by decide) rfl hp_v0 SS_X12_keeps (am_ta (am_ti am_tn)) (Nat.le_of_ble_eq_true rfl) (Nat.le_of_ble_eq_true rfl) ml_RX12_376 iw_X12_keeps vw_X12_keeps cw_X12_keeps nw_RX12 pp_X12_keeps (Nat.le_of_ble_eq_true rfl) dX12_dawnsKept_19 rfl (NM_X12_keeps hp_v0 h) (fun r_1 m_2 h hB => ?_)
    refine z_aload_n (nx := 23) (a := 0) G rfl (Or.inl rfl) dX12_dawnsKept_22 rfl ?_
    refine b_callV0 (nx := 26) (zs := [v0]) (as := []) X hB (by decide) rfl hp_v0 SS_X12_dawns (am_ta am_tn) (Nat.le_of_ble_eq_true rfl) (Nat.le_of_ble_eq_true rfl) ml_RX12_379 iw_X12_dawns vw_X12_dawns cw_X12_dawns nw_RX12 pp_X12_dawns (Nat.le_of_ble_eq_true rfl) dX12_dawnsKept_23 rfl (NM_X12_dawns hp_v0 h) (fun r_3 m_4 h hB => ?_)
    exact b_ireturn X hB dX12_dawnsKept_26 h
  · have h := h.2 c
    refine z_bipush (nx := 16) (z := (-3)) G (R32c rfl) rfl dX12_dawnsKept_14 rfl ?_
    exact b_ireturn X hB dX12_dawnsKept_16 h
theorem NM_X12_dawnsKept {v0 : Int} {K : am_KK} {m : am_M} (hp_v0 : am_ob v0 12) (h : M_X12_dawnsKept v0 K m) : N_X12_dawnsKept [v0] K m := ⟨hp_v0, h⟩
theorem SS_X12_dawnsKept : am_Snd yX12_dawnsKept cX12_dawnsKept 1 (some .int) 0 609 (am_L [2] 0 N_X12_dawnsKept) := by
  refine am_SB (by decide +kernel) (Nat.le_of_ble_eq_true rfl) (fun F zs as K m X ht hB hM => ?_)
  obtain ⟨v0, zs, as, rfl, rfl, hz0, ht⟩ := am_inv ht
  obtain ⟨rfl, rfl⟩ := am_inv0 ht
  obtain ⟨hp_v0, hM⟩ := hM
  exact S_X12_dawnsKept X hp_v0 hB hM
set_option maxRecDepth 20000 in
set_option maxHeartbeats 4000000 in
theorem S_X12_goodOr {F : am_F} {K : am_KK} {v0 : Int} {v1 : Int} {m : am_M} (X : am_Cx F cX12_goodOr RX12 (some .int) 2 0 K) (hp_v0 : am_ob v0 12) (hB : am_Bt m) (h : M_X12_goodOr v0 v1 K m) : am_Z F 0 [] [(2, v0), (0, v1)] m 200 := by
  have G := X.G
  unfold M_X12_goodOr at h
  refine z_iload_n (nx := 1) (a := 1) G rfl dX12_goodOr_0 rfl ?_
  refine z_if_ge (nx := 4) (tgt := 12) G dX12_goodOr_1 (by decide) rfl (fun c => ?_) (fun c => ?_)
  · have h := h.1 c
    refine z_aload_n (nx := 13) (a := 0) G rfl (Or.inl rfl) dX12_goodOr_12 rfl (z_iload_n (nx := 14) (a := 1) G rfl dX12_goodOr_13 rfl ?_)
    refine b_callV0 (nx := 17) (zs := [v0, v1]) (as := [(0, v1)]) X hB (by decide) rfl hp_v0 SS_X12_good (am_ta (am_ti am_tn)) (Nat.le_of_ble_eq_true rfl) (Nat.le_of_ble_eq_true rfl) ml_RX12_14 iw_X12_good vw_X12_good cw_X12_good nw_RX12 pp_X12_good (Nat.le_of_ble_eq_true rfl) dX12_goodOr_14 rfl (NM_X12_good hp_v0 h) (fun r_1 m_2 h hB => ?_)
    exact b_ireturn X hB dX12_goodOr_17 h
  · have h := h.2 c
    refine z_aload_n (nx := 5) (a := 0) G rfl (Or.inl rfl) dX12_goodOr_4 rfl (z_iload_n (nx := 6) (a := 1) G rfl dX12_goodOr_5 rfl ?_)
    refine b_callV0 (nx := 9) (zs := [v0, v1]) (as := [(0, v1)]) X hB (by decide) rfl hp_v0 SS_X12_refuses (am_ta (am_ti am_tn)) (Nat.le_of_ble_eq_true rfl) (Nat.le_of_ble_eq_true rfl) ml_RX12_127 iw_X12_refuses vw_X12_refuses cw_X12_refuses nw_RX12 pp_X12_refuses (Nat.le_of_ble_eq_true rfl) dX12_goodOr_6 rfl (NM_X12_refuses hp_v0 h) (fun r_3 m_4 h hB => ?_)
    refine z_goto (tgt := 17) G dX12_goodOr_9 (by decide) ?_
    exact b_ireturn X hB dX12_goodOr_17 h
theorem NM_X12_goodOr {v0 : Int} {v1 : Int} {K : am_KK} {m : am_M} (hp_v0 : am_ob v0 12) (h : M_X12_goodOr v0 v1 K m) : N_X12_goodOr [v0, v1] K m := ⟨hp_v0, h⟩
theorem SS_X12_goodOr : am_Snd yX12_goodOr cX12_goodOr 2 (some .int) 0 2 (am_L [2, 0] 0 N_X12_goodOr) := by
  refine am_SB (by decide +kernel) (Nat.le_of_ble_eq_true rfl) (fun F zs as K m X ht hB hM => ?_)
  obtain ⟨v0, zs, as, rfl, rfl, hz0, ht⟩ := am_inv ht
  obtain ⟨v1, zs, as, rfl, rfl, hz1, ht⟩ := am_inv ht
  obtain ⟨rfl, rfl⟩ := am_inv0 ht
  obtain ⟨hp_v0, hM⟩ := hM
  exact S_X12_goodOr X hp_v0 hB hM
set_option maxRecDepth 20000 in
set_option maxHeartbeats 4000000 in
theorem S_X12_pray {F : am_F} {K : am_KK} {v0 : Int} {v1 : Int} {v2 : Int} {v3 : Int} {v4 : Int} {m : am_M} (X : am_Cx F cX12_pray RX12 (some .int) 609 0 K) (hp_v0 : am_ob v0 12) (hB : am_Bt m) (h : M_X12_pray v0 v1 v2 v3 v4 K m) : am_Z F 0 [] [(2, v0), (0, v1), (0, v2), (0, v3), (0, v4)] m 200 := by
  have G := X.G
  unfold M_X12_pray at h
  refine z_aload_n (nx := 1) (a := 0) G rfl (Or.inl rfl) dX12_pray_0 rfl (z_aload_n (nx := 2) (a := 0) G rfl (Or.inl rfl) dX12_pray_1 rfl (z_iload_n (nx := 3) (a := 1) G rfl dX12_pray_2 rfl (z_iload_n (nx := 4) (a := 2) G rfl dX12_pray_3 rfl (z_iload_n (nx := 5) (a := 3) G rfl dX12_pray_4 rfl (z_iload (nx := 7) (a := 4) G rfl dX12_pray_5 rfl ?_)))))
  refine b_callV0 (nx := 10) (zs := [v0, v1, v2, v3, v4]) (as := [(0, v1), (0, v2), (0, v3), (0, v4)]) X hB (by decide) rfl hp_v0 SS_X12_praysKept (am_ta (am_ti (am_ti (am_ti (am_ti am_tn))))) (Nat.le_of_ble_eq_true rfl) (Nat.le_of_ble_eq_true rfl) ml_RX12_382 iw_X12_praysKept vw_X12_praysKept cw_X12_praysKept nw_RX12 pp_X12_praysKept (Nat.le_of_ble_eq_true rfl) dX12_pray_7 rfl (NM_X12_praysKept hp_v0 h) (fun r_1 m_2 h hB => ?_)
  refine b_callV0 (nx := 13) (zs := [v0, r_1]) (as := [(0, r_1)]) X hB (by decide) rfl hp_v0 SS_X12_goodOr (am_ta (am_ti am_tn)) (Nat.le_of_ble_eq_true rfl) (Nat.le_of_ble_eq_true rfl) ml_RX12_385 iw_X12_goodOr vw_X12_goodOr cw_X12_goodOr nw_RX12 pp_X12_goodOr (Nat.le_of_ble_eq_true rfl) dX12_pray_10 rfl (NM_X12_goodOr hp_v0 h) (fun r_3 m_4 h hB => ?_)
  exact b_ireturn X hB dX12_pray_13 h
theorem NM_X12_pray {v0 : Int} {v1 : Int} {v2 : Int} {v3 : Int} {v4 : Int} {K : am_KK} {m : am_M} (hp_v0 : am_ob v0 12) (h : M_X12_pray v0 v1 v2 v3 v4 K m) : N_X12_pray [v0, v1, v2, v3, v4] K m := ⟨hp_v0, h⟩
theorem SS_X12_pray : am_Snd yX12_pray cX12_pray 5 (some .int) 0 609 (am_L [2, 0, 0, 0, 0] 0 N_X12_pray) := by
  refine am_SB (by decide +kernel) (Nat.le_of_ble_eq_true rfl) (fun F zs as K m X ht hB hM => ?_)
  obtain ⟨v0, zs, as, rfl, rfl, hz0, ht⟩ := am_inv ht
  obtain ⟨v1, zs, as, rfl, rfl, hz1, ht⟩ := am_inv ht
  obtain ⟨v2, zs, as, rfl, rfl, hz2, ht⟩ := am_inv ht
  obtain ⟨v3, zs, as, rfl, rfl, hz3, ht⟩ := am_inv ht
  obtain ⟨v4, zs, as, rfl, rfl, hz4, ht⟩ := am_inv ht
  obtain ⟨rfl, rfl⟩ := am_inv0 ht
  obtain ⟨hp_v0, hM⟩ := hM
  exact S_X12_pray X hp_v0 hB hM
set_option maxRecDepth 20000 in
set_option maxHeartbeats 4000000 in
theorem S_X12_dawn {F : am_F} {K : am_KK} {v0 : Int} {m : am_M} (X : am_Cx F cX12_dawn RX12 (some .int) 610 0 K) (hp_v0 : am_ob v0 12) (hB : am_Bt m) (h : M_X12_dawn v0 K m) : am_Z F 0 [] [(2, v0)] m 200 := by
  have G := X.G
  unfold M_X12_dawn at h
  refine z_aload_n (nx := 1) (a := 0) G rfl (Or.inl rfl) dX12_dawn_0 rfl (z_aload_n (nx := 2) (a := 0) G rfl (Or.inl rfl) dX12_dawn_1 rfl ?_)
  refine b_callV0 (nx := 5) (zs := [v0]) (as := []) X hB (by decide) rfl hp_v0 SS_X12_dawnsKept (am_ta am_tn) (Nat.le_of_ble_eq_true rfl) (Nat.le_of_ble_eq_true rfl) ml_RX12_388 iw_X12_dawnsKept vw_X12_dawnsKept cw_X12_dawnsKept nw_RX12 pp_X12_dawnsKept (Nat.le_of_ble_eq_true rfl) dX12_dawn_2 rfl (NM_X12_dawnsKept hp_v0 h) (fun r_1 m_2 h hB => ?_)
  refine b_callV0 (nx := 8) (zs := [v0, r_1]) (as := [(0, r_1)]) X hB (by decide) rfl hp_v0 SS_X12_goodOr (am_ta (am_ti am_tn)) (Nat.le_of_ble_eq_true rfl) (Nat.le_of_ble_eq_true rfl) ml_RX12_385 iw_X12_goodOr vw_X12_goodOr cw_X12_goodOr nw_RX12 pp_X12_goodOr (Nat.le_of_ble_eq_true rfl) dX12_dawn_5 rfl (NM_X12_goodOr hp_v0 h) (fun r_3 m_4 h hB => ?_)
  exact b_ireturn X hB dX12_dawn_8 h
theorem NM_X12_dawn {v0 : Int} {K : am_KK} {m : am_M} (hp_v0 : am_ob v0 12) (h : M_X12_dawn v0 K m) : N_X12_dawn [v0] K m := ⟨hp_v0, h⟩
theorem SS_X12_dawn : am_Snd yX12_dawn cX12_dawn 1 (some .int) 0 610 (am_L [2] 0 N_X12_dawn) := by
  refine am_SB (by decide +kernel) (Nat.le_of_ble_eq_true rfl) (fun F zs as K m X ht hB hM => ?_)
  obtain ⟨v0, zs, as, rfl, rfl, hz0, ht⟩ := am_inv ht
  obtain ⟨rfl, rfl⟩ := am_inv0 ht
  obtain ⟨hp_v0, hM⟩ := hM
  exact S_X12_dawn X hp_v0 hB hM
set_option maxRecDepth 20000 in
set_option maxHeartbeats 4000000 in
theorem S_X12_sweep_J1 {F : am_F} {K : am_KK} {v0 : Int} {v1 : Int} {v2 : Int} {v3 : Int} {C6 : Int → Int → Int → am_M → Prop} {m : am_M} (X : am_Cx F cX12_sweep RX12 (some .int) 2 0 K) (hp_v0 : am_ob v0 12) (hC6 : ∀ w1 w2 w3 m, C6 w1 w2 w3 m → am_Bt m → am_Z F 6 [] [(2, v0), (0, w1), (0, w2), (0, w3), (9, 0)] m 200) (hB : am_Bt m) (h : M_X12_sweep_J1 v0 v1 v2 v3 C6 K m) : am_Z F 69 [] [(2, v0), (0, v1), (0, v2), (0, v3), (9, 0)] m 200 := by
  have G := X.G
  unfold M_X12_sweep_J1 at h
  refine b_iinc (nx := 72) (a := 3) (loc2 := fun v3_1 => [(2, v0), (0, v1), (0, v2), (0, v3_1), (9, 0)]) G (fun _ => rfl) rfl (am_pl1 rfl (fun h => nomatch h)) dX12_sweep_69 rfl (fun v3_1 e_v3_1 => ?_)
  have h := h v3_1 e_v3_1
  refine z_goto (tgt := 6) G dX12_sweep_72 (by decide) ?_
  exact b_fewer (loc2 := [(2, v0), (0, v1), (0, v2), (0, v3_1), (9, 0)]) (am_lk (am_lk (am_lk (am_lk (am_lk am_ln))))) (hC6 _ _ _ _ h hB)
set_option maxRecDepth 20000 in
set_option maxHeartbeats 4000000 in
theorem S_X12_sweep_L2B {F : am_F} {K : am_KK} {v0 : Int} {v1 : Int} {v2 : Int} {v3 : Int} {v4 : Int} {C32 : Int → am_M → Prop} {C6 : Int → Int → Int → am_M → Prop} {m : am_M} (X : am_Cx F cX12_sweep RX12 (some .int) 2 0 K) (hp_v0 : am_ob v0 12) (hC32 : ∀ w4 m, C32 w4 m → am_Bt m → am_Z F 32 [] [(2, v0), (0, v1), (0, v2), (0, v3), (0, w4)] m 200) (hC6 : ∀ w1 w2 w3 m, C6 w1 w2 w3 m → am_Bt m → am_Z F 6 [] [(2, v0), (0, w1), (0, w2), (0, w3), (9, 0)] m 200) (hB : am_Bt m) (h : M_X12_sweep_L2B v0 v1 v2 v3 v4 C32 C6 K m) : am_Z F 32 [] [(2, v0), (0, v1), (0, v2), (0, v3), (0, v4)] m 200 := by
  have G := X.G
  unfold M_X12_sweep_L2B at h
  refine z_iload (nx := 34) (a := 4) G rfl dX12_sweep_32 rfl (z_bipush (nx := 36) (z := 7) G (R32c rfl) rfl dX12_sweep_34 rfl ?_)
  refine z_icmp_ge (nx := 39) (tgt := 66) G dX12_sweep_36 (by decide) rfl (fun c => ?_) (fun c => ?_)
  · have h := h.1 c
    refine b_iinc (nx := 69) (a := 2) (loc2 := fun v2_2 => [(2, v0), (0, v1), (0, v2_2), (0, v3), (0, v4)]) G (fun _ => rfl) rfl (am_pl1 rfl (fun h => nomatch h)) dX12_sweep_66 rfl (fun v2_2 e_v2_2 => ?_)
    have h := h v2_2 e_v2_2
    exact b_fewer (loc2 := [(2, v0), (0, v1), (0, v2_2), (0, v3), (9, 0)]) (am_lk (am_lk (am_lk (am_lk (am_lf am_ln))))) (S_X12_sweep_J1 X hp_v0 hC6 hB h)
  · have h := h.2 c
    refine z_aload_n (nx := 40) (a := 0) G rfl (Or.inl rfl) dX12_sweep_39 rfl (b_getA (nx := 43) (k0 := 2) G hB fl_RX12_24 (Nat.le_of_ble_eq_true rfl) (Nat.le_of_ble_eq_true rfl) rfl hp_v0 dX12_sweep_40 rfl (z_iconst (nx := 44) (z := 0) G (R32c rfl) dX12_sweep_43 rfl (z_bipush (nx := 46) (z := 7) G (R32c rfl) rfl dX12_sweep_44 rfl (z_iload_n (nx := 47) (a := 2) G rfl dX12_sweep_46 rfl (z_imul (nx := 48) G dX12_sweep_47 rfl (z_iadd (nx := 49) G dX12_sweep_48 rfl (z_iload (nx := 51) (a := 4) G rfl dX12_sweep_49 rfl (z_iadd (nx := 52) G dX12_sweep_51 rfl (z_aload_n (nx := 53) (a := 0) G rfl (Or.inl rfl) dX12_sweep_52 rfl (z_iload_n (nx := 54) (a := 3) G rfl dX12_sweep_53 rfl (z_iload (nx := 56) (a := 4) G rfl dX12_sweep_54 rfl ?_)))))))))))
    refine b_callV0 (nx := 59) (zs := [v0, v3, v4]) (as := [(0, v3), (0, v4)]) X hB (by decide) rfl hp_v0 SS_X12_fact (am_ta (am_ti (am_ti am_tn))) (Nat.le_of_ble_eq_true rfl) (Nat.le_of_ble_eq_true rfl) ml_RX12_141 iw_X12_fact vw_X12_fact cw_X12_fact nw_RX12 pp_X12_fact (Nat.le_of_ble_eq_true rfl) dX12_sweep_56 rfl (NM_X12_fact hp_v0 h) (fun r_3 m_4 h hB => ?_)
    obtain ⟨hb, h⟩ := h
    refine b_iast (nx := 60) G hB (sh_12_2 _ hp_v0) hb.1 hb.2 dX12_sweep_59 rfl (fun m_5 e_m_5 hB => ?_)
    have h := h m_5 e_m_5
    refine b_iinc (nx := 63) (a := 4) (loc2 := fun v4_6 => [(2, v0), (0, v1), (0, v2), (0, v3), (0, v4_6)]) G (fun _ => rfl) rfl (am_pl1 rfl (fun h => nomatch h)) dX12_sweep_60 rfl (fun v4_6 e_v4_6 => ?_)
    have h := h v4_6 e_v4_6
    refine z_goto (tgt := 32) G dX12_sweep_63 (by decide) ?_
    exact b_fewer (loc2 := [(2, v0), (0, v1), (0, v2), (0, v3), (0, v4_6)]) (am_lk (am_lk (am_lk (am_lk (am_lk am_ln))))) (hC32 _ _ h hB)
theorem S_X12_sweep_L2 {F : am_F} {K : am_KK} {v0 : Int} {v1 : Int} {v2 : Int} {v3 : Int} {v4 : Int} {C6 : Int → Int → Int → am_M → Prop} {m : am_M} (X : am_Cx F cX12_sweep RX12 (some .int) 2 0 K) (hp_v0 : am_ob v0 12) (hC6 : ∀ w1 w2 w3 m, C6 w1 w2 w3 m → am_Bt m → am_Z F 6 [] [(2, v0), (0, w1), (0, w2), (0, w3), (9, 0)] m 200) (hB : am_Bt m) (h : M_X12_sweep_L2 v0 v1 v2 v3 v4 C6 K m) : am_Z F 32 [] [(2, v0), (0, v1), (0, v2), (0, v3), (0, v4)] m 200 := by
  obtain ⟨I, ⟨j, hj⟩, hI⟩ := h
  have key : ∀ j v4 m, I j v4 m → am_Bt m → am_Z F 32 [] [(2, v0), (0, v1), (0, v2), (0, v3), (0, v4)] m 200 := by
    intro j
    induction j using Nat.strongRecOn with
    | ind j ih =>
      intro v4 m hj hB
      exact S_X12_sweep_L2B X hp_v0 (fun v4' m' hc hB' => by
        obtain ⟨j', g1, g2⟩ := hc
        exact ih j' g1 v4' m' g2 hB') hC6 hB (hI j v4 m hj)
  exact key j _ _ hj hB
set_option maxRecDepth 20000 in
set_option maxHeartbeats 4000000 in
theorem S_X12_sweep_L1B {F : am_F} {K : am_KK} {v0 : Int} {v1 : Int} {v2 : Int} {v3 : Int} {C6 : Int → Int → Int → am_M → Prop} {m : am_M} (X : am_Cx F cX12_sweep RX12 (some .int) 2 0 K) (hp_v0 : am_ob v0 12) (hC6 : ∀ w1 w2 w3 m, C6 w1 w2 w3 m → am_Bt m → am_Z F 6 [] [(2, v0), (0, w1), (0, w2), (0, w3), (9, 0)] m 200) (hB : am_Bt m) (h : M_X12_sweep_L1B v0 v1 v2 v3 C6 K m) : am_Z F 6 [] [(2, v0), (0, v1), (0, v2), (0, v3), (9, 0)] m 200 := by
  have G := X.G
  unfold M_X12_sweep_L1B at h
  refine z_iload_n (nx := 7) (a := 3) G rfl dX12_sweep_6 rfl (z_aload_n (nx := 8) (a := 0) G rfl (Or.inl rfl) dX12_sweep_7 rfl ?_)
  refine b_callV0 (nx := 11) (zs := [v0]) (as := []) X hB (by decide) rfl hp_v0 SS_X12_prayers (am_ta am_tn) (Nat.le_of_ble_eq_true rfl) (Nat.le_of_ble_eq_true rfl) ml_RX12_133 iw_X12_prayers vw_X12_prayers cw_X12_prayers nw_RX12 pp_X12_prayers (Nat.le_of_ble_eq_true rfl) dX12_sweep_8 rfl (NM_X12_prayers hp_v0 h) (fun r_7 m_8 h hB => ?_)
  refine z_icmp_ge (nx := 14) (tgt := 75) G dX12_sweep_11 (by decide) rfl (fun c => ?_) (fun c => ?_)
  · have h := h.1 c
    refine z_aload_n (nx := 76) (a := 0) G rfl (Or.inl rfl) dX12_sweep_75 rfl (b_getA (nx := 79) (k0 := 2) G hB fl_RX12_24 (Nat.le_of_ble_eq_true rfl) (Nat.le_of_ble_eq_true rfl) rfl hp_v0 dX12_sweep_76 rfl (z_sipush (nx := 82) (z := 168) G (R32c rfl) rfl dX12_sweep_79 rfl (z_iload_n (nx := 83) (a := 2) G rfl dX12_sweep_82 rfl ?_)))
    obtain ⟨hb, h⟩ := h
    refine b_iast (nx := 84) G hB (sh_12_2 _ hp_v0) hb.1 hb.2 dX12_sweep_83 rfl (fun m_9 e_m_9 hB => ?_)
    have h := h m_9 e_m_9
    refine z_aload_n (nx := 85) (a := 0) G rfl (Or.inl rfl) dX12_sweep_84 rfl (z_iconst (nx := 86) (z := 0) G (R32c rfl) dX12_sweep_85 rfl ?_)
    refine b_put (nx := 89) (k0 := 38) (t := 0) G hB fl_RX12_11 (Nat.le_of_ble_eq_true rfl) (Nat.le_of_ble_eq_true rfl) rfl (fun h => nomatch h) rfl hp_v0 dX12_sweep_86 rfl (fun m_10 e_m_10 hB => ?_)
    have h := h m_10 e_m_10
    refine z_iload_n (nx := 90) (a := 1) G rfl dX12_sweep_89 rfl ?_
    exact b_ireturn X hB dX12_sweep_90 h
  · have h := h.2 c
    refine z_aload_n (nx := 15) (a := 0) G rfl (Or.inl rfl) dX12_sweep_14 rfl (z_iload_n (nx := 16) (a := 3) G rfl dX12_sweep_15 rfl (z_iconst (nx := 17) (z := 5) G (R32c rfl) dX12_sweep_16 rfl ?_))
    refine b_callV0 (nx := 20) (zs := [v0, v3, 5]) (as := [(0, v3), (0, 5)]) X hB (by decide) rfl hp_v0 SS_X12_fact (am_ta (am_ti (am_ti am_tn))) (Nat.le_of_ble_eq_true rfl) (Nat.le_of_ble_eq_true rfl) ml_RX12_141 iw_X12_fact vw_X12_fact cw_X12_fact nw_RX12 pp_X12_fact (Nat.le_of_ble_eq_true rfl) dX12_sweep_17 rfl (NM_X12_fact hp_v0 h) (fun r_11 m_12 h hB => ?_)
    refine z_if_eq (nx := 23) (tgt := 29) G dX12_sweep_20 (by decide) rfl (fun c => ?_) (fun c => ?_)
    · have h := h.1 c
      refine z_iconst (nx := 30) (z := 0) G (R32c rfl) dX12_sweep_29 rfl (b_storeE (nx := 32) (a := 4) (loc2 := [(2, v0), (0, v1), (0, v2), (0, v3), (0, 0)]) G rfl (Nat.le_of_ble_eq_true rfl) (am_pl1 rfl (fun h => nomatch h)) dX12_sweep_30 rfl ?_)
      exact b_fewer (loc2 := [(2, v0), (0, v1), (0, v2), (0, v3), (0, 0)]) (am_lk (am_lk (am_lk (am_lk (am_lk am_ln))))) (S_X12_sweep_L2 X hp_v0 hC6 hB h)
    · have h := h.2 c
      refine b_iinc (nx := 26) (a := 1) (loc2 := fun v1_13 => [(2, v0), (0, v1_13), (0, v2), (0, v3), (9, 0)]) G (fun _ => rfl) rfl (am_pl1 rfl (fun h => nomatch h)) dX12_sweep_23 rfl (fun v1_13 e_v1_13 => ?_)
      have h := h v1_13 e_v1_13
      refine z_goto (tgt := 69) G dX12_sweep_26 (by decide) ?_
      exact b_fewer (loc2 := [(2, v0), (0, v1_13), (0, v2), (0, v3), (9, 0)]) (am_lk (am_lk (am_lk (am_lk (am_lk am_ln))))) (S_X12_sweep_J1 X hp_v0 hC6 hB h)
theorem S_X12_sweep_L1 {F : am_F} {K : am_KK} {v0 : Int} {v1 : Int} {v2 : Int} {v3 : Int} {m : am_M} (X : am_Cx F cX12_sweep RX12 (some .int) 2 0 K) (hp_v0 : am_ob v0 12) (hB : am_Bt m) (h : M_X12_sweep_L1 v0 v1 v2 v3 K m) : am_Z F 6 [] [(2, v0), (0, v1), (0, v2), (0, v3), (9, 0)] m 200 := by
  obtain ⟨I, ⟨j, hj⟩, hI⟩ := h
  have key : ∀ j v1 v2 v3 m, I j v1 v2 v3 m → am_Bt m → am_Z F 6 [] [(2, v0), (0, v1), (0, v2), (0, v3), (9, 0)] m 200 := by
    intro j
    induction j using Nat.strongRecOn with
    | ind j ih =>
      intro v1 v2 v3 m hj hB
      exact S_X12_sweep_L1B X hp_v0 (fun v1' v2' v3' m' hc hB' => by
        obtain ⟨j', g1, g2⟩ := hc
        exact ih j' g1 v1' v2' v3' m' g2 hB') hB (hI j v1 v2 v3 m hj)
  exact key j _ _ _ _ hj hB
set_option maxRecDepth 20000 in
set_option maxHeartbeats 4000000 in
theorem S_X12_sweep {F : am_F} {K : am_KK} {v0 : Int} {m : am_M} (X : am_Cx F cX12_sweep RX12 (some .int) 2 0 K) (hp_v0 : am_ob v0 12) (hB : am_Bt m) (h : M_X12_sweep v0 K m) : am_Z F 0 [] [(2, v0), (9, 0), (9, 0), (9, 0), (9, 0)] m 200 := by
  have G := X.G
  unfold M_X12_sweep at h
  refine z_iconst (nx := 1) (z := 0) G (R32c rfl) dX12_sweep_0 rfl (b_storeE_n (nx := 2) (a := 1) (loc2 := [(2, v0), (0, 0), (9, 0), (9, 0), (9, 0)]) G rfl (Nat.le_of_ble_eq_true rfl) (am_pl1 rfl (fun h => nomatch h)) dX12_sweep_1 rfl (z_iconst (nx := 3) (z := 0) G (R32c rfl) dX12_sweep_2 rfl (b_storeE_n (nx := 4) (a := 2) (loc2 := [(2, v0), (0, 0), (0, 0), (9, 0), (9, 0)]) G rfl (Nat.le_of_ble_eq_true rfl) (am_pl1 rfl (fun h => nomatch h)) dX12_sweep_3 rfl (z_iconst (nx := 5) (z := 0) G (R32c rfl) dX12_sweep_4 rfl (b_storeE_n (nx := 6) (a := 3) (loc2 := [(2, v0), (0, 0), (0, 0), (0, 0), (9, 0)]) G rfl (Nat.le_of_ble_eq_true rfl) (am_pl1 rfl (fun h => nomatch h)) dX12_sweep_5 rfl ?_)))))
  exact b_fewer (loc2 := [(2, v0), (0, 0), (0, 0), (0, 0), (9, 0)]) (am_lk (am_lk (am_lk (am_lk (am_lk am_ln))))) (S_X12_sweep_L1 X hp_v0 hB h)
theorem NM_X12_sweep {v0 : Int} {K : am_KK} {m : am_M} (hp_v0 : am_ob v0 12) (h : M_X12_sweep v0 K m) : N_X12_sweep [v0] K m := ⟨hp_v0, h⟩
theorem SS_X12_sweep : am_Snd yX12_sweep cX12_sweep 5 (some .int) 0 2 (am_L [2] 0 N_X12_sweep) := by
  refine am_SB (by decide +kernel) (Nat.le_of_ble_eq_true rfl) (fun F zs as K m X ht hB hM => ?_)
  obtain ⟨v0, zs, as, rfl, rfl, hz0, ht⟩ := am_inv ht
  obtain ⟨rfl, rfl⟩ := am_inv0 ht
  obtain ⟨hp_v0, hM⟩ := hM
  exact S_X12_sweep X hp_v0 hB hM
set_option maxRecDepth 20000 in
set_option maxHeartbeats 4000000 in
theorem S_X12_looksAt_L6B {F : am_F} {K : am_KK} {v0 : Int} {v4 : Int} {C317 : Int → am_M → Prop} {m : am_M} (X : am_Cx F cX12_looksAt RX12 none 1 9 K) (hp_v0 : am_ob v0 12) (hC317 : ∀ w4 m, C317 w4 m → am_Bt m → am_Z F 317 [] [(2, v0), (9, 0), (9, 0), (9, 0), (0, w4), (9, 0), (9, 0), (9, 0)] m 200) (hB : am_Bt m) (h : M_X12_looksAt_L6B v0 v4 C317 K m) : am_Z F 317 [] [(2, v0), (9, 0), (9, 0), (9, 0), (0, v4), (9, 0), (9, 0), (9, 0)] m 200 := by
  have G := X.G
  unfold M_X12_looksAt_L6B at h
  refine z_iload (nx := 319) (a := 4) G rfl dX12_looksAt_317 rfl (z_aload_n (nx := 320) (a := 0) G rfl (Or.inl rfl) dX12_looksAt_319 rfl (b_getI (nx := 323) (k0 := 46) (t := 0) G fl_RX12_391 (Nat.le_of_ble_eq_true rfl) (Nat.le_of_ble_eq_true rfl) rfl hp_v0 dX12_looksAt_320 rfl ?_))
  refine z_icmp_ge (nx := 326) (tgt := 346) G dX12_looksAt_323 (by decide) rfl (fun c => ?_) (fun c => ?_)
  · have h := h.1 c
    exact b_return X hB dX12_looksAt_346 h
  · have h := h.2 c
    refine z_aload_n (nx := 327) (a := 0) G rfl (Or.inl rfl) dX12_looksAt_326 rfl (b_getA (nx := 330) (k0 := 44) G hB fl_RX12_107 (Nat.le_of_ble_eq_true rfl) (Nat.le_of_ble_eq_true rfl) rfl hp_v0 dX12_looksAt_327 rfl (z_iload (nx := 332) (a := 4) G rfl dX12_looksAt_330 rfl (z_aload_n (nx := 333) (a := 0) G rfl (Or.inl rfl) dX12_looksAt_332 rfl (b_getA (nx := 336) (k0 := 43) G hB fl_RX12_104 (Nat.le_of_ble_eq_true rfl) (Nat.le_of_ble_eq_true rfl) rfl hp_v0 dX12_looksAt_333 rfl (z_iload (nx := 338) (a := 4) G rfl dX12_looksAt_336 rfl ?_)))))
    obtain ⟨hb, h⟩ := h
    refine z_iald (nx := 339) G (sh_12_43 _ hp_v0) hb.1 hb.2 dX12_looksAt_338 rfl ?_
    obtain ⟨hb, h⟩ := h
    refine b_iast (nx := 340) G hB (sh_12_44 _ hp_v0) hb.1 hb.2 dX12_looksAt_339 rfl (fun m_1 e_m_1 hB => ?_)
    have h := h m_1 e_m_1
    refine b_iinc (nx := 343) (a := 4) (loc2 := fun v4_2 => [(2, v0), (9, 0), (9, 0), (9, 0), (0, v4_2), (9, 0), (9, 0), (9, 0)]) G (fun _ => rfl) rfl (am_pl1 rfl (fun h => nomatch h)) dX12_looksAt_340 rfl (fun v4_2 e_v4_2 => ?_)
    have h := h v4_2 e_v4_2
    refine z_goto (tgt := 317) G dX12_looksAt_343 (by decide) ?_
    exact b_fewer (loc2 := [(2, v0), (9, 0), (9, 0), (9, 0), (0, v4_2), (9, 0), (9, 0), (9, 0)]) (am_lk (am_lk (am_lk (am_lk (am_lk (am_lk (am_lk (am_lk am_ln)))))))) (hC317 _ _ h hB)
theorem S_X12_looksAt_L6 {F : am_F} {K : am_KK} {v0 : Int} {v4 : Int} {m : am_M} (X : am_Cx F cX12_looksAt RX12 none 1 9 K) (hp_v0 : am_ob v0 12) (hB : am_Bt m) (h : M_X12_looksAt_L6 v0 v4 K m) : am_Z F 317 [] [(2, v0), (9, 0), (9, 0), (9, 0), (0, v4), (9, 0), (9, 0), (9, 0)] m 200 := by
  obtain ⟨I, ⟨j, hj⟩, hI⟩ := h
  have key : ∀ j v4 m, I j v4 m → am_Bt m → am_Z F 317 [] [(2, v0), (9, 0), (9, 0), (9, 0), (0, v4), (9, 0), (9, 0), (9, 0)] m 200 := by
    intro j
    induction j using Nat.strongRecOn with
    | ind j ih =>
      intro v4 m hj hB
      exact S_X12_looksAt_L6B X hp_v0 (fun v4' m' hc hB' => by
        obtain ⟨j', g1, g2⟩ := hc
        exact ih j' g1 v4' m' g2 hB') hB (hI j v4 m hj)
  exact key j _ _ hj hB
set_option maxRecDepth 20000 in
set_option maxHeartbeats 4000000 in
theorem S_X12_looksAt_J7 {F : am_F} {K : am_KK} {v0 : Int} {v2 : Int} {v3 : Int} {m : am_M} (X : am_Cx F cX12_looksAt RX12 none 1 9 K) (hp_v0 : am_ob v0 12) (hB : am_Bt m) (h : M_X12_looksAt_J7 v0 v2 v3 K m) : am_Z F 304 [] [(2, v0), (9, 0), (0, v2), (0, v3), (9, 0), (9, 0), (9, 0), (9, 0)] m 200 := by
  have G := X.G
  unfold M_X12_looksAt_J7 at h
  refine z_iload_n (nx := 305) (a := 3) G rfl dX12_looksAt_304 rfl ?_
  refine z_if_ne (nx := 308) (tgt := 309) G dX12_looksAt_305 (by decide) rfl (fun c => ?_) (fun c => ?_)
  · have h := h.1 c
    refine z_aload_n (nx := 310) (a := 0) G rfl (Or.inl rfl) dX12_looksAt_309 rfl (z_iload_n (nx := 311) (a := 2) G rfl dX12_looksAt_310 rfl ?_)
    refine b_put (nx := 314) (k0 := 47) (t := 0) G hB fl_RX12_403 (Nat.le_of_ble_eq_true rfl) (Nat.le_of_ble_eq_true rfl) rfl (fun h => nomatch h) rfl hp_v0 dX12_looksAt_311 rfl (fun m_3 e_m_3 hB => ?_)
    have h := h m_3 e_m_3
    refine z_iconst (nx := 315) (z := 0) G (R32c rfl) dX12_looksAt_314 rfl (b_storeE (nx := 317) (a := 4) (loc2 := [(2, v0), (9, 0), (0, v2), (0, v3), (0, 0), (9, 0), (9, 0), (9, 0)]) G rfl (Nat.le_of_ble_eq_true rfl) (am_pl1 rfl (fun h => nomatch h)) dX12_looksAt_315 rfl ?_)
    exact b_fewer (loc2 := [(2, v0), (9, 0), (9, 0), (9, 0), (0, 0), (9, 0), (9, 0), (9, 0)]) (am_lk (am_lk (am_lf (am_lf (am_lk (am_lk (am_lk (am_lk am_ln)))))))) (S_X12_looksAt_L6 X hp_v0 hB h)
  · have h := h.2 c
    exact b_return X hB dX12_looksAt_308 h
set_option maxRecDepth 20000 in
set_option maxHeartbeats 4000000 in
theorem S_X12_looksAt_J6 {F : am_F} {K : am_KK} {v0 : Int} {v2 : Int} {s0 : Int} {m : am_M} (X : am_Cx F cX12_looksAt RX12 none 1 9 K) (hp_v0 : am_ob v0 12) (hp_s0 : s0 = 0 ∨ s0 = 1) (hB : am_Bt m) (h : M_X12_looksAt_J6 v0 v2 s0 K m) : am_Z F 294 [(0, s0)] [(2, v0), (9, 0), (0, v2), (9, 0), (9, 0), (9, 0), (9, 0), (9, 0)] m 200 := by
  have G := X.G
  unfold M_X12_looksAt_J6 at h
  refine b_storeE_n (nx := 295) (a := 3) (loc2 := [(2, v0), (9, 0), (0, v2), (0, s0), (9, 0), (9, 0), (9, 0), (9, 0)]) G rfl (Nat.le_of_ble_eq_true rfl) (am_pl1 rfl (fun h => nomatch h)) dX12_looksAt_294 rfl (z_goto (tgt := 304) G dX12_looksAt_295 (by decide) ?_)
  exact b_fewer (loc2 := [(2, v0), (9, 0), (0, v2), (0, s0), (9, 0), (9, 0), (9, 0), (9, 0)]) (am_lk (am_lk (am_lk (am_lk (am_lk (am_lk (am_lk (am_lk am_ln)))))))) (S_X12_looksAt_J7 X hp_v0 hB h)
set_option maxRecDepth 20000 in
set_option maxHeartbeats 4000000 in
theorem S_X12_looksAt_L5B {F : am_F} {K : am_KK} {v0 : Int} {v2 : Int} {v3 : Int} {v4 : Int} {C235 : Int → am_M → Prop} {m : am_M} (X : am_Cx F cX12_looksAt RX12 none 1 9 K) (hp_v0 : am_ob v0 12) (hC235 : ∀ w4 m, C235 w4 m → am_Bt m → am_Z F 235 [] [(2, v0), (9, 0), (0, v2), (0, v3), (0, w4), (9, 0), (9, 0), (9, 0)] m 200) (hB : am_Bt m) (h : M_X12_looksAt_L5B v0 v2 v3 v4 C235 K m) : am_Z F 235 [] [(2, v0), (9, 0), (0, v2), (0, v3), (0, v4), (9, 0), (9, 0), (9, 0)] m 200 := by
  have G := X.G
  unfold M_X12_looksAt_L5B at h
  refine z_iload (nx := 237) (a := 4) G rfl dX12_looksAt_235 rfl (z_aload_n (nx := 238) (a := 0) G rfl (Or.inl rfl) dX12_looksAt_237 rfl (b_getI (nx := 241) (k0 := 46) (t := 0) G fl_RX12_391 (Nat.le_of_ble_eq_true rfl) (Nat.le_of_ble_eq_true rfl) rfl hp_v0 dX12_looksAt_238 rfl ?_))
  refine z_icmp_ge (nx := 244) (tgt := 304) G dX12_looksAt_241 (by decide) rfl (fun c => ?_) (fun c => ?_)
  · have h := h.1 c
    exact b_fewer (loc2 := [(2, v0), (9, 0), (0, v2), (0, v3), (9, 0), (9, 0), (9, 0), (9, 0)]) (am_lk (am_lk (am_lk (am_lk (am_lf (am_lk (am_lk (am_lk am_ln)))))))) (S_X12_looksAt_J7 X hp_v0 hB h)
  · have h := h.2 c
    refine z_iload_n (nx := 245) (a := 2) G rfl dX12_looksAt_244 rfl (z_aload_n (nx := 246) (a := 0) G rfl (Or.inl rfl) dX12_looksAt_245 rfl (b_getI (nx := 249) (k0 := 47) (t := 0) G fl_RX12_403 (Nat.le_of_ble_eq_true rfl) (Nat.le_of_ble_eq_true rfl) rfl hp_v0 dX12_looksAt_246 rfl ?_))
    refine z_icmp_ne (nx := 252) (tgt := 304) G dX12_looksAt_249 (by decide) rfl (fun c => ?_) (fun c => ?_)
    · have h := h.1 c
      exact b_fewer (loc2 := [(2, v0), (9, 0), (0, v2), (0, v3), (9, 0), (9, 0), (9, 0), (9, 0)]) (am_lk (am_lk (am_lk (am_lk (am_lf (am_lk (am_lk (am_lk am_ln)))))))) (S_X12_looksAt_J7 X hp_v0 hB h)
    · have h := h.2 c
      refine z_aload_n (nx := 253) (a := 0) G rfl (Or.inl rfl) dX12_looksAt_252 rfl (b_getA (nx := 256) (k0 := 43) G hB fl_RX12_104 (Nat.le_of_ble_eq_true rfl) (Nat.le_of_ble_eq_true rfl) rfl hp_v0 dX12_looksAt_253 rfl (z_iload (nx := 258) (a := 4) G rfl dX12_looksAt_256 rfl ?_))
      obtain ⟨hb, h⟩ := h
      refine z_iald (nx := 259) G (sh_12_43 _ hp_v0) hb.1 hb.2 dX12_looksAt_258 rfl ?_
      refine z_aload_n (nx := 260) (a := 0) G rfl (Or.inl rfl) dX12_looksAt_259 rfl (b_getA (nx := 263) (k0 := 44) G hB fl_RX12_107 (Nat.le_of_ble_eq_true rfl) (Nat.le_of_ble_eq_true rfl) rfl hp_v0 dX12_looksAt_260 rfl (z_iload (nx := 265) (a := 4) G rfl dX12_looksAt_263 rfl ?_))
      obtain ⟨hb, h⟩ := h
      refine z_iald (nx := 266) G (sh_12_44 _ hp_v0) hb.1 hb.2 dX12_looksAt_265 rfl ?_
      refine z_icmp_ne (nx := 269) (tgt := 272) G dX12_looksAt_266 (by decide) rfl (fun c => ?_) (fun c => ?_)
      · have h := h.1 c
        refine z_aload_n (nx := 273) (a := 0) G rfl (Or.inl rfl) dX12_looksAt_272 rfl (b_getA (nx := 276) (k0 := 43) G hB fl_RX12_104 (Nat.le_of_ble_eq_true rfl) (Nat.le_of_ble_eq_true rfl) rfl hp_v0 dX12_looksAt_273 rfl (z_iload (nx := 278) (a := 4) G rfl dX12_looksAt_276 rfl ?_))
        obtain ⟨hb, h⟩ := h
        refine z_iald (nx := 279) G (sh_12_43 _ hp_v0) hb.1 hb.2 dX12_looksAt_278 rfl ?_
        refine z_aload_n (nx := 280) (a := 0) G rfl (Or.inl rfl) dX12_looksAt_279 rfl (b_getA (nx := 283) (k0 := 44) G hB fl_RX12_107 (Nat.le_of_ble_eq_true rfl) (Nat.le_of_ble_eq_true rfl) rfl hp_v0 dX12_looksAt_280 rfl (z_iload (nx := 285) (a := 4) G rfl dX12_looksAt_283 rfl ?_))
        obtain ⟨hb, h⟩ := h
        refine z_iald (nx := 286) G (sh_12_44 _ hp_v0) hb.1 hb.2 dX12_looksAt_285 rfl ?_
        refine z_icmp_ge (nx := 289) (tgt := 293) G dX12_looksAt_286 (by decide) rfl (fun c => ?_) (fun c => ?_)
        · have h := h.1 c
          refine z_iconst (nx := 294) (z := 0) G (R32c rfl) dX12_looksAt_293 rfl ?_
          exact b_fewer (loc2 := [(2, v0), (9, 0), (0, v2), (9, 0), (9, 0), (9, 0), (9, 0), (9, 0)]) (am_lk (am_lk (am_lk (am_lf (am_lf (am_lk (am_lk (am_lk am_ln)))))))) (S_X12_looksAt_J6 X hp_v0 (Or.inl rfl) hB h)
        · have h := h.2 c
          refine z_iconst (nx := 290) (z := 1) G (R32c rfl) dX12_looksAt_289 rfl (z_goto (tgt := 294) G dX12_looksAt_290 (by decide) ?_)
          exact b_fewer (loc2 := [(2, v0), (9, 0), (0, v2), (9, 0), (9, 0), (9, 0), (9, 0), (9, 0)]) (am_lk (am_lk (am_lk (am_lf (am_lf (am_lk (am_lk (am_lk am_ln)))))))) (S_X12_looksAt_J6 X hp_v0 (Or.inr rfl) hB h)
      · have h := h.2 c
        refine z_goto (tgt := 298) G dX12_looksAt_269 (by decide) ?_
        refine b_iinc (nx := 301) (a := 4) (loc2 := fun v4_4 => [(2, v0), (9, 0), (0, v2), (0, v3), (0, v4_4), (9, 0), (9, 0), (9, 0)]) G (fun _ => rfl) rfl (am_pl1 rfl (fun h => nomatch h)) dX12_looksAt_298 rfl (fun v4_4 e_v4_4 => ?_)
        have h := h v4_4 e_v4_4
        refine z_goto (tgt := 235) G dX12_looksAt_301 (by decide) ?_
        exact b_fewer (loc2 := [(2, v0), (9, 0), (0, v2), (0, v3), (0, v4_4), (9, 0), (9, 0), (9, 0)]) (am_lk (am_lk (am_lk (am_lk (am_lk (am_lk (am_lk (am_lk am_ln)))))))) (hC235 _ _ h hB)
theorem S_X12_looksAt_L5 {F : am_F} {K : am_KK} {v0 : Int} {v2 : Int} {v3 : Int} {v4 : Int} {m : am_M} (X : am_Cx F cX12_looksAt RX12 none 1 9 K) (hp_v0 : am_ob v0 12) (hB : am_Bt m) (h : M_X12_looksAt_L5 v0 v2 v3 v4 K m) : am_Z F 235 [] [(2, v0), (9, 0), (0, v2), (0, v3), (0, v4), (9, 0), (9, 0), (9, 0)] m 200 := by
  obtain ⟨I, ⟨j, hj⟩, hI⟩ := h
  have key : ∀ j v4 m, I j v4 m → am_Bt m → am_Z F 235 [] [(2, v0), (9, 0), (0, v2), (0, v3), (0, v4), (9, 0), (9, 0), (9, 0)] m 200 := by
    intro j
    induction j using Nat.strongRecOn with
    | ind j ih =>
      intro v4 m hj hB
      exact S_X12_looksAt_L5B X hp_v0 (fun v4' m' hc hB' => by
        obtain ⟨j', g1, g2⟩ := hc
        exact ih j' g1 v4' m' g2 hB') hB (hI j v4 m hj)
  exact key j _ _ hj hB
set_option maxRecDepth 20000 in
set_option maxHeartbeats 4000000 in
theorem S_X12_looksAt_J5 {F : am_F} {K : am_KK} {v0 : Int} {v2 : Int} {s0 : Int} {m : am_M} (X : am_Cx F cX12_looksAt RX12 none 1 9 K) (hp_v0 : am_ob v0 12) (hp_s0 : s0 = 0 ∨ s0 = 1) (hB : am_Bt m) (h : M_X12_looksAt_J5 v0 v2 s0 K m) : am_Z F 231 [(0, s0)] [(2, v0), (9, 0), (0, v2), (9, 0), (9, 0), (9, 0), (9, 0), (9, 0)] m 200 := by
  have G := X.G
  unfold M_X12_looksAt_J5 at h
  refine b_storeE_n (nx := 232) (a := 3) (loc2 := [(2, v0), (9, 0), (0, v2), (0, s0), (9, 0), (9, 0), (9, 0), (9, 0)]) G rfl (Nat.le_of_ble_eq_true rfl) (am_pl1 rfl (fun h => nomatch h)) dX12_looksAt_231 rfl (z_iconst (nx := 233) (z := 0) G (R32c rfl) dX12_looksAt_232 rfl (b_storeE (nx := 235) (a := 4) (loc2 := [(2, v0), (9, 0), (0, v2), (0, s0), (0, 0), (9, 0), (9, 0), (9, 0)]) G rfl (Nat.le_of_ble_eq_true rfl) (am_pl1 rfl (fun h => nomatch h)) dX12_looksAt_233 rfl ?_))
  exact b_fewer (loc2 := [(2, v0), (9, 0), (0, v2), (0, s0), (0, 0), (9, 0), (9, 0), (9, 0)]) (am_lk (am_lk (am_lk (am_lk (am_lk (am_lk (am_lk (am_lk am_ln)))))))) (S_X12_looksAt_L5 X hp_v0 hB h)
set_option maxRecDepth 20000 in
set_option maxHeartbeats 4000000 in
theorem S_X12_looksAt_J4 {F : am_F} {K : am_KK} {v0 : Int} {v2 : Int} {v3 : Int} {v5 : Int} {s0 : Int} {s1 : Int} {C94 : Int → Int → am_M → Prop} {C80 : Int → Int → am_M → Prop} {m : am_M} (X : am_Cx F cX12_looksAt RX12 none 1 9 K) (hp_v0 : am_ob v0 12) (hp_s1 : s1 = 0 ∨ s1 = 1) (hC94 : ∀ w4 w5 m, C94 w4 w5 m → am_Bt m → am_Z F 94 [] [(2, v0), (9, 0), (0, v2), (0, v3), (0, w4), (0, w5), (9, 0), (9, 0)] m 200) (hC80 : ∀ w2 w3 m, C80 w2 w3 m → am_Bt m → am_Z F 80 [] [(2, v0), (9, 0), (0, w2), (0, w3), (9, 0), (9, 0), (9, 0), (9, 0)] m 200) (hB : am_Bt m) (h : M_X12_looksAt_J4 v0 v2 v3 v5 s0 s1 C94 C80 K m) : am_Z F 165 [(0, s1), (0, s0)] [(2, v0), (9, 0), (0, v2), (0, v3), (9, 0), (0, v5), (9, 0), (9, 0)] m 200 := by
  have G := X.G
  unfold M_X12_looksAt_J4 at h
  refine z_iadd (nx := 166) G dX12_looksAt_165 rfl ?_
  refine b_store (nx := 168) (a := 4) (loc2 := fun v4_5 => [(2, v0), (9, 0), (0, v2), (0, v3), (0, v4_5), (0, v5), (9, 0), (9, 0)]) G (fun _ => rfl) (Nat.le_of_ble_eq_true rfl) (am_pl1 rfl (fun h => nomatch h)) dX12_looksAt_166 rfl (fun v4_5 e_v4_5 => ?_)
  have h := h v4_5 e_v4_5
  refine b_iinc (nx := 171) (a := 5) (loc2 := fun v5_6 => [(2, v0), (9, 0), (0, v2), (0, v3), (0, v4_5), (0, v5_6), (9, 0), (9, 0)]) G (fun _ => rfl) rfl (am_pl1 rfl (fun h => nomatch h)) dX12_looksAt_168 rfl (fun v5_6 e_v5_6 => ?_)
  have h := h v5_6 e_v5_6
  refine z_goto (tgt := 94) G dX12_looksAt_171 (by decide) ?_
  exact b_fewer (loc2 := [(2, v0), (9, 0), (0, v2), (0, v3), (0, v4_5), (0, v5_6), (9, 0), (9, 0)]) (am_lk (am_lk (am_lk (am_lk (am_lk (am_lk (am_lk (am_lk am_ln)))))))) (hC94 _ _ _ h hB)
set_option maxRecDepth 20000 in
set_option maxHeartbeats 4000000 in
theorem S_X12_looksAt_J3 {F : am_F} {K : am_KK} {v0 : Int} {v2 : Int} {v3 : Int} {v5 : Int} {s0 : Int} {C94 : Int → Int → am_M → Prop} {C80 : Int → Int → am_M → Prop} {m : am_M} (X : am_Cx F cX12_looksAt RX12 none 1 9 K) (hp_v0 : am_ob v0 12) (hC94 : ∀ w4 w5 m, C94 w4 w5 m → am_Bt m → am_Z F 94 [] [(2, v0), (9, 0), (0, v2), (0, v3), (0, w4), (0, w5), (9, 0), (9, 0)] m 200) (hC80 : ∀ w2 w3 m, C80 w2 w3 m → am_Bt m → am_Z F 80 [] [(2, v0), (9, 0), (0, w2), (0, w3), (9, 0), (9, 0), (9, 0), (9, 0)] m 200) (hB : am_Bt m) (h : M_X12_looksAt_J3 v0 v2 v3 v5 s0 C94 C80 K m) : am_Z F 164 [(0, s0)] [(2, v0), (9, 0), (0, v2), (0, v3), (9, 0), (0, v5), (9, 0), (9, 0)] m 200 := by
  have G := X.G
  unfold M_X12_looksAt_J3 at h
  refine z_iconst (nx := 165) (z := 0) G (R32c rfl) dX12_looksAt_164 rfl ?_
  exact b_fewer (loc2 := [(2, v0), (9, 0), (0, v2), (0, v3), (9, 0), (0, v5), (9, 0), (9, 0)]) (am_lk (am_lk (am_lk (am_lk (am_lk (am_lk (am_lk (am_lk am_ln)))))))) (S_X12_looksAt_J4 X hp_v0 (Or.inl rfl) hC94 hC80 hB h)
set_option maxRecDepth 20000 in
set_option maxHeartbeats 4000000 in
theorem S_X12_looksAt_J2 {F : am_F} {K : am_KK} {v0 : Int} {v2 : Int} {v3 : Int} {v5 : Int} {s0 : Int} {C94 : Int → Int → am_M → Prop} {C80 : Int → Int → am_M → Prop} {m : am_M} (X : am_Cx F cX12_looksAt RX12 none 1 9 K) (hp_v0 : am_ob v0 12) (hC94 : ∀ w4 w5 m, C94 w4 w5 m → am_Bt m → am_Z F 94 [] [(2, v0), (9, 0), (0, v2), (0, v3), (0, w4), (0, w5), (9, 0), (9, 0)] m 200) (hC80 : ∀ w2 w3 m, C80 w2 w3 m → am_Bt m → am_Z F 80 [] [(2, v0), (9, 0), (0, w2), (0, w3), (9, 0), (9, 0), (9, 0), (9, 0)] m 200) (hB : am_Bt m) (h : M_X12_looksAt_J2 v0 v2 v3 v5 s0 C94 C80 K m) : am_Z F 160 [(0, s0)] [(2, v0), (9, 0), (0, v2), (0, v3), (9, 0), (0, v5), (9, 0), (9, 0)] m 200 := by
  have G := X.G
  unfold M_X12_looksAt_J2 at h
  refine z_iconst (nx := 161) (z := 1) G (R32c rfl) dX12_looksAt_160 rfl (z_goto (tgt := 165) G dX12_looksAt_161 (by decide) ?_)
  exact b_fewer (loc2 := [(2, v0), (9, 0), (0, v2), (0, v3), (9, 0), (0, v5), (9, 0), (9, 0)]) (am_lk (am_lk (am_lk (am_lk (am_lk (am_lk (am_lk (am_lk am_ln)))))))) (S_X12_looksAt_J4 X hp_v0 (Or.inr rfl) hC94 hC80 hB h)
set_option maxRecDepth 20000 in
set_option maxHeartbeats 4000000 in
theorem S_X12_looksAt_L4B {F : am_F} {K : am_KK} {v0 : Int} {v2 : Int} {v3 : Int} {v4 : Int} {v5 : Int} {C94 : Int → Int → am_M → Prop} {C80 : Int → Int → am_M → Prop} {m : am_M} (X : am_Cx F cX12_looksAt RX12 none 1 9 K) (hp_v0 : am_ob v0 12) (hC94 : ∀ w4 w5 m, C94 w4 w5 m → am_Bt m → am_Z F 94 [] [(2, v0), (9, 0), (0, v2), (0, v3), (0, w4), (0, w5), (9, 0), (9, 0)] m 200) (hC80 : ∀ w2 w3 m, C80 w2 w3 m → am_Bt m → am_Z F 80 [] [(2, v0), (9, 0), (0, w2), (0, w3), (9, 0), (9, 0), (9, 0), (9, 0)] m 200) (hB : am_Bt m) (h : M_X12_looksAt_L4B v0 v2 v3 v4 v5 C94 C80 K m) : am_Z F 94 [] [(2, v0), (9, 0), (0, v2), (0, v3), (0, v4), (0, v5), (9, 0), (9, 0)] m 200 := by
  have G := X.G
  unfold M_X12_looksAt_L4B at h
  refine z_iload (nx := 96) (a := 5) G rfl dX12_looksAt_94 rfl (z_aload_n (nx := 97) (a := 0) G rfl (Or.inl rfl) dX12_looksAt_96 rfl (b_getI (nx := 100) (k0 := 46) (t := 0) G fl_RX12_391 (Nat.le_of_ble_eq_true rfl) (Nat.le_of_ble_eq_true rfl) rfl hp_v0 dX12_looksAt_97 rfl ?_))
  refine z_icmp_ge (nx := 103) (tgt := 174) G dX12_looksAt_100 (by decide) rfl (fun c => ?_) (fun c => ?_)
  · have h := h.1 c
    refine z_aload_n (nx := 175) (a := 0) G rfl (Or.inl rfl) dX12_looksAt_174 rfl (b_getA (nx := 178) (k0 := 43) G hB fl_RX12_104 (Nat.le_of_ble_eq_true rfl) (Nat.le_of_ble_eq_true rfl) rfl hp_v0 dX12_looksAt_175 rfl (z_iload_n (nx := 179) (a := 3) G rfl dX12_looksAt_178 rfl (z_aload_n (nx := 180) (a := 0) G rfl (Or.inl rfl) dX12_looksAt_179 rfl (b_getA (nx := 183) (k0 := 42) G hB fl_RX12_101 (Nat.le_of_ble_eq_true rfl) (Nat.le_of_ble_eq_true rfl) rfl hp_v0 dX12_looksAt_180 rfl (z_iload (nx := 185) (a := 4) G rfl dX12_looksAt_183 rfl ?_)))))
    obtain ⟨hb, h⟩ := h
    refine z_iald (nx := 186) G (sh_12_42 _ hp_v0) hb.1 hb.2 dX12_looksAt_185 rfl ?_
    obtain ⟨hb, h⟩ := h
    refine b_iast (nx := 187) G hB (sh_12_43 _ hp_v0) hb.1 hb.2 dX12_looksAt_186 rfl (fun m_7 e_m_7 hB => ?_)
    have h := h m_7 e_m_7
    refine z_iload_n (nx := 188) (a := 2) G rfl dX12_looksAt_187 rfl (z_aload_n (nx := 189) (a := 0) G rfl (Or.inl rfl) dX12_looksAt_188 rfl (b_getA (nx := 192) (k0 := 43) G hB fl_RX12_104 (Nat.le_of_ble_eq_true rfl) (Nat.le_of_ble_eq_true rfl) rfl hp_v0 dX12_looksAt_189 rfl (z_iload_n (nx := 193) (a := 3) G rfl dX12_looksAt_192 rfl ?_)))
    obtain ⟨hb, h⟩ := h
    refine z_iald (nx := 194) G (sh_12_43 _ hp_v0) hb.1 hb.2 dX12_looksAt_193 rfl ?_
    refine z_aload_n (nx := 195) (a := 0) G rfl (Or.inl rfl) dX12_looksAt_194 rfl (b_getA (nx := 198) (k0 := 2) G hB fl_RX12_24 (Nat.le_of_ble_eq_true rfl) (Nat.le_of_ble_eq_true rfl) rfl hp_v0 dX12_looksAt_195 rfl (z_sipush (nx := 201) (z := 308) G (R32c rfl) rfl dX12_looksAt_198 rfl (z_aload_n (nx := 202) (a := 0) G rfl (Or.inl rfl) dX12_looksAt_201 rfl (b_getA (nx := 205) (k0 := 40) G hB fl_RX12_95 (Nat.le_of_ble_eq_true rfl) (Nat.le_of_ble_eq_true rfl) rfl hp_v0 dX12_looksAt_202 rfl (z_iload_n (nx := 206) (a := 3) G rfl dX12_looksAt_205 rfl ?_)))))
    obtain ⟨hb, h⟩ := h
    refine z_iald (nx := 207) G (sh_12_40 _ hp_v0) hb.1 hb.2 dX12_looksAt_206 rfl ?_
    refine z_iadd (nx := 208) G dX12_looksAt_207 rfl ?_
    obtain ⟨hb, h⟩ := h
    refine z_iald (nx := 209) G (sh_12_2 _ hp_v0) hb.1 hb.2 dX12_looksAt_208 rfl ?_
    refine z_imul (nx := 210) G dX12_looksAt_209 rfl (z_iadd (nx := 211) G dX12_looksAt_210 rfl ?_)
    refine b_store_n (nx := 212) (a := 2) (loc2 := fun v2_8 => [(2, v0), (9, 0), (0, v2_8), (0, v3), (0, v4), (0, v5), (9, 0), (9, 0)]) G (fun _ => rfl) (Nat.le_of_ble_eq_true rfl) (am_pl1 rfl (fun h => nomatch h)) dX12_looksAt_211 rfl (fun v2_8 e_v2_8 => ?_)
    have h := h v2_8 e_v2_8
    refine b_iinc (nx := 215) (a := 3) (loc2 := fun v3_9 => [(2, v0), (9, 0), (0, v2_8), (0, v3_9), (0, v4), (0, v5), (9, 0), (9, 0)]) G (fun _ => rfl) rfl (am_pl1 rfl (fun h => nomatch h)) dX12_looksAt_212 rfl (fun v3_9 e_v3_9 => ?_)
    have h := h v3_9 e_v3_9
    refine z_goto (tgt := 80) G dX12_looksAt_215 (by decide) ?_
    exact b_fewer (loc2 := [(2, v0), (9, 0), (0, v2_8), (0, v3_9), (9, 0), (9, 0), (9, 0), (9, 0)]) (am_lk (am_lk (am_lk (am_lk (am_lf (am_lf (am_lk (am_lk am_ln)))))))) (hC80 _ _ _ h hB)
  · have h := h.2 c
    refine z_aload_n (nx := 104) (a := 0) G rfl (Or.inl rfl) dX12_looksAt_103 rfl (b_getA (nx := 107) (k0 := 2) G hB fl_RX12_24 (Nat.le_of_ble_eq_true rfl) (Nat.le_of_ble_eq_true rfl) rfl hp_v0 dX12_looksAt_104 rfl (z_sipush (nx := 110) (z := 308) G (R32c rfl) rfl dX12_looksAt_107 rfl (z_aload_n (nx := 111) (a := 0) G rfl (Or.inl rfl) dX12_looksAt_110 rfl (b_getA (nx := 114) (k0 := 40) G hB fl_RX12_95 (Nat.le_of_ble_eq_true rfl) (Nat.le_of_ble_eq_true rfl) rfl hp_v0 dX12_looksAt_111 rfl (z_iload (nx := 116) (a := 5) G rfl dX12_looksAt_114 rfl ?_)))))
    obtain ⟨hb, h⟩ := h
    refine z_iald (nx := 117) G (sh_12_40 _ hp_v0) hb.1 hb.2 dX12_looksAt_116 rfl ?_
    refine z_iadd (nx := 118) G dX12_looksAt_117 rfl ?_
    obtain ⟨hb, h⟩ := h
    refine z_iald (nx := 119) G (sh_12_2 _ hp_v0) hb.1 hb.2 dX12_looksAt_118 rfl ?_
    refine b_store (nx := 121) (a := 6) (loc2 := fun v6_10 => [(2, v0), (9, 0), (0, v2), (0, v3), (0, v4), (0, v5), (0, v6_10), (9, 0)]) G (fun _ => rfl) (Nat.le_of_ble_eq_true rfl) (am_pl1 rfl (fun h => nomatch h)) dX12_looksAt_119 rfl (fun v6_10 e_v6_10 => ?_)
    have h := h v6_10 e_v6_10
    refine z_aload_n (nx := 122) (a := 0) G rfl (Or.inl rfl) dX12_looksAt_121 rfl (b_getA (nx := 125) (k0 := 2) G hB fl_RX12_24 (Nat.le_of_ble_eq_true rfl) (Nat.le_of_ble_eq_true rfl) rfl hp_v0 dX12_looksAt_122 rfl (z_sipush (nx := 128) (z := 308) G (R32c rfl) rfl dX12_looksAt_125 rfl (z_aload_n (nx := 129) (a := 0) G rfl (Or.inl rfl) dX12_looksAt_128 rfl (b_getA (nx := 132) (k0 := 40) G hB fl_RX12_95 (Nat.le_of_ble_eq_true rfl) (Nat.le_of_ble_eq_true rfl) rfl hp_v0 dX12_looksAt_129 rfl (z_iload_n (nx := 133) (a := 3) G rfl dX12_looksAt_132 rfl ?_)))))
    obtain ⟨hb, h⟩ := h
    refine z_iald (nx := 134) G (sh_12_40 _ hp_v0) hb.1 hb.2 dX12_looksAt_133 rfl ?_
    refine z_iadd (nx := 135) G dX12_looksAt_134 rfl ?_
    obtain ⟨hb, h⟩ := h
    refine z_iald (nx := 136) G (sh_12_2 _ hp_v0) hb.1 hb.2 dX12_looksAt_135 rfl ?_
    refine b_store (nx := 138) (a := 7) (loc2 := fun v7_11 => [(2, v0), (9, 0), (0, v2), (0, v3), (0, v4), (0, v5), (0, v6_10), (0, v7_11)]) G (fun _ => rfl) (Nat.le_of_ble_eq_true rfl) (am_pl1 rfl (fun h => nomatch h)) dX12_looksAt_136 rfl (fun v7_11 e_v7_11 => ?_)
    have h := h v7_11 e_v7_11
    refine z_iload (nx := 140) (a := 4) G rfl dX12_looksAt_138 rfl (z_iload (nx := 142) (a := 6) G rfl dX12_looksAt_140 rfl (z_iload (nx := 144) (a := 7) G rfl dX12_looksAt_142 rfl ?_))
    refine z_icmp_gt (nx := 147) (tgt := 160) G dX12_looksAt_144 (by decide) rfl (fun c => ?_) (fun c => ?_)
    · have h := h.1 c
      exact b_fewer (loc2 := [(2, v0), (9, 0), (0, v2), (0, v3), (9, 0), (0, v5), (9, 0), (9, 0)]) (am_lk (am_lk (am_lk (am_lk (am_lf (am_lk (am_lf (am_lf am_ln)))))))) (S_X12_looksAt_J2 X hp_v0 hC94 hC80 hB h)
    · have h := h.2 c
      refine z_iload (nx := 149) (a := 6) G rfl dX12_looksAt_147 rfl (z_iload (nx := 151) (a := 7) G rfl dX12_looksAt_149 rfl ?_)
      refine z_icmp_ne (nx := 154) (tgt := 164) G dX12_looksAt_151 (by decide) rfl (fun c => ?_) (fun c => ?_)
      · have h := h.1 c
        exact b_fewer (loc2 := [(2, v0), (9, 0), (0, v2), (0, v3), (9, 0), (0, v5), (9, 0), (9, 0)]) (am_lk (am_lk (am_lk (am_lk (am_lf (am_lk (am_lf (am_lf am_ln)))))))) (S_X12_looksAt_J3 X hp_v0 hC94 hC80 hB h)
      · have h := h.2 c
        refine z_iload (nx := 156) (a := 5) G rfl dX12_looksAt_154 rfl (z_iload_n (nx := 157) (a := 3) G rfl dX12_looksAt_156 rfl ?_)
        refine z_icmp_ge (nx := 160) (tgt := 164) G dX12_looksAt_157 (by decide) rfl (fun c => ?_) (fun c => ?_)
        · have h := h.1 c
          exact b_fewer (loc2 := [(2, v0), (9, 0), (0, v2), (0, v3), (9, 0), (0, v5), (9, 0), (9, 0)]) (am_lk (am_lk (am_lk (am_lk (am_lf (am_lk (am_lf (am_lf am_ln)))))))) (S_X12_looksAt_J3 X hp_v0 hC94 hC80 hB h)
        · have h := h.2 c
          exact b_fewer (loc2 := [(2, v0), (9, 0), (0, v2), (0, v3), (9, 0), (0, v5), (9, 0), (9, 0)]) (am_lk (am_lk (am_lk (am_lk (am_lf (am_lk (am_lf (am_lf am_ln)))))))) (S_X12_looksAt_J2 X hp_v0 hC94 hC80 hB h)
theorem S_X12_looksAt_L4 {F : am_F} {K : am_KK} {v0 : Int} {v2 : Int} {v3 : Int} {v4 : Int} {v5 : Int} {C80 : Int → Int → am_M → Prop} {m : am_M} (X : am_Cx F cX12_looksAt RX12 none 1 9 K) (hp_v0 : am_ob v0 12) (hC80 : ∀ w2 w3 m, C80 w2 w3 m → am_Bt m → am_Z F 80 [] [(2, v0), (9, 0), (0, w2), (0, w3), (9, 0), (9, 0), (9, 0), (9, 0)] m 200) (hB : am_Bt m) (h : M_X12_looksAt_L4 v0 v2 v3 v4 v5 C80 K m) : am_Z F 94 [] [(2, v0), (9, 0), (0, v2), (0, v3), (0, v4), (0, v5), (9, 0), (9, 0)] m 200 := by
  obtain ⟨I, ⟨j, hj⟩, hI⟩ := h
  have key : ∀ j v4 v5 m, I j v4 v5 m → am_Bt m → am_Z F 94 [] [(2, v0), (9, 0), (0, v2), (0, v3), (0, v4), (0, v5), (9, 0), (9, 0)] m 200 := by
    intro j
    induction j using Nat.strongRecOn with
    | ind j ih =>
      intro v4 v5 m hj hB
      exact S_X12_looksAt_L4B X hp_v0 (fun v4' v5' m' hc hB' => by
        obtain ⟨j', g1, g2⟩ := hc
        exact ih j' g1 v4' v5' m' g2 hB') hC80 hB (hI j v4 v5 m hj)
  exact key j _ _ _ hj hB
set_option maxRecDepth 20000 in
set_option maxHeartbeats 4000000 in
theorem S_X12_looksAt_L3B {F : am_F} {K : am_KK} {v0 : Int} {v2 : Int} {v3 : Int} {C80 : Int → Int → am_M → Prop} {m : am_M} (X : am_Cx F cX12_looksAt RX12 none 1 9 K) (hp_v0 : am_ob v0 12) (hC80 : ∀ w2 w3 m, C80 w2 w3 m → am_Bt m → am_Z F 80 [] [(2, v0), (9, 0), (0, w2), (0, w3), (9, 0), (9, 0), (9, 0), (9, 0)] m 200) (hB : am_Bt m) (h : M_X12_looksAt_L3B v0 v2 v3 C80 K m) : am_Z F 80 [] [(2, v0), (9, 0), (0, v2), (0, v3), (9, 0), (9, 0), (9, 0), (9, 0)] m 200 := by
  have G := X.G
  unfold M_X12_looksAt_L3B at h
  refine z_iload_n (nx := 81) (a := 3) G rfl dX12_looksAt_80 rfl (z_aload_n (nx := 82) (a := 0) G rfl (Or.inl rfl) dX12_looksAt_81 rfl (b_getI (nx := 85) (k0 := 46) (t := 0) G fl_RX12_391 (Nat.le_of_ble_eq_true rfl) (Nat.le_of_ble_eq_true rfl) rfl hp_v0 dX12_looksAt_82 rfl ?_))
  refine z_icmp_ge (nx := 88) (tgt := 218) G dX12_looksAt_85 (by decide) rfl (fun c => ?_) (fun c => ?_)
  · have h := h.1 c
    refine z_iload_n (nx := 219) (a := 2) G rfl dX12_looksAt_218 rfl (z_aload_n (nx := 220) (a := 0) G rfl (Or.inl rfl) dX12_looksAt_219 rfl (b_getI (nx := 223) (k0 := 47) (t := 0) G fl_RX12_403 (Nat.le_of_ble_eq_true rfl) (Nat.le_of_ble_eq_true rfl) rfl hp_v0 dX12_looksAt_220 rfl ?_))
    refine z_icmp_ge (nx := 226) (tgt := 230) G dX12_looksAt_223 (by decide) rfl (fun c => ?_) (fun c => ?_)
    · have h := h.1 c
      refine z_iconst (nx := 231) (z := 0) G (R32c rfl) dX12_looksAt_230 rfl ?_
      exact b_fewer (loc2 := [(2, v0), (9, 0), (0, v2), (9, 0), (9, 0), (9, 0), (9, 0), (9, 0)]) (am_lk (am_lk (am_lk (am_lf (am_lk (am_lk (am_lk (am_lk am_ln)))))))) (S_X12_looksAt_J5 X hp_v0 (Or.inl rfl) hB h)
    · have h := h.2 c
      refine z_iconst (nx := 227) (z := 1) G (R32c rfl) dX12_looksAt_226 rfl (z_goto (tgt := 231) G dX12_looksAt_227 (by decide) ?_)
      exact b_fewer (loc2 := [(2, v0), (9, 0), (0, v2), (9, 0), (9, 0), (9, 0), (9, 0), (9, 0)]) (am_lk (am_lk (am_lk (am_lf (am_lk (am_lk (am_lk (am_lk am_ln)))))))) (S_X12_looksAt_J5 X hp_v0 (Or.inr rfl) hB h)
  · have h := h.2 c
    refine z_iconst (nx := 89) (z := 0) G (R32c rfl) dX12_looksAt_88 rfl (b_storeE (nx := 91) (a := 4) (loc2 := [(2, v0), (9, 0), (0, v2), (0, v3), (0, 0), (9, 0), (9, 0), (9, 0)]) G rfl (Nat.le_of_ble_eq_true rfl) (am_pl1 rfl (fun h => nomatch h)) dX12_looksAt_89 rfl (z_iconst (nx := 92) (z := 0) G (R32c rfl) dX12_looksAt_91 rfl (b_storeE (nx := 94) (a := 5) (loc2 := [(2, v0), (9, 0), (0, v2), (0, v3), (0, 0), (0, 0), (9, 0), (9, 0)]) G rfl (Nat.le_of_ble_eq_true rfl) (am_pl1 rfl (fun h => nomatch h)) dX12_looksAt_92 rfl ?_)))
    exact b_fewer (loc2 := [(2, v0), (9, 0), (0, v2), (0, v3), (0, 0), (0, 0), (9, 0), (9, 0)]) (am_lk (am_lk (am_lk (am_lk (am_lk (am_lk (am_lk (am_lk am_ln)))))))) (S_X12_looksAt_L4 X hp_v0 hC80 hB h)
theorem S_X12_looksAt_L3 {F : am_F} {K : am_KK} {v0 : Int} {v2 : Int} {v3 : Int} {m : am_M} (X : am_Cx F cX12_looksAt RX12 none 1 9 K) (hp_v0 : am_ob v0 12) (hB : am_Bt m) (h : M_X12_looksAt_L3 v0 v2 v3 K m) : am_Z F 80 [] [(2, v0), (9, 0), (0, v2), (0, v3), (9, 0), (9, 0), (9, 0), (9, 0)] m 200 := by
  obtain ⟨I, ⟨j, hj⟩, hI⟩ := h
  have key : ∀ j v2 v3 m, I j v2 v3 m → am_Bt m → am_Z F 80 [] [(2, v0), (9, 0), (0, v2), (0, v3), (9, 0), (9, 0), (9, 0), (9, 0)] m 200 := by
    intro j
    induction j using Nat.strongRecOn with
    | ind j ih =>
      intro v2 v3 m hj hB
      exact S_X12_looksAt_L3B X hp_v0 (fun v2' v3' m' hc hB' => by
        obtain ⟨j', g1, g2⟩ := hc
        exact ih j' g1 v2' v3' m' g2 hB') hB (hI j v2 v3 m hj)
  exact key j _ _ _ hj hB
set_option maxRecDepth 20000 in
set_option maxHeartbeats 4000000 in
theorem S_X12_looksAt_J1 {F : am_F} {K : am_KK} {v0 : Int} {v1 : Int} {v2 : Int} {v3 : Int} {v4 : Int} {C2 : Int → am_M → Prop} {m : am_M} (X : am_Cx F cX12_looksAt RX12 none 1 9 K) (hp_v0 : am_ob v0 12) (hC2 : ∀ w2 m, C2 w2 m → am_Bt m → am_Z F 2 [] [(2, v0), (0, v1), (0, w2), (9, 0), (9, 0), (9, 0), (9, 0), (9, 0)] m 200) (hB : am_Bt m) (h : M_X12_looksAt_J1 v0 v1 v2 v3 v4 C2 K m) : am_Z F 62 [] [(2, v0), (0, v1), (0, v2), (0, v3), (0, v4), (9, 0), (9, 0), (9, 0)] m 200 := by
  have G := X.G
  unfold M_X12_looksAt_J1 at h
  refine z_aload_n (nx := 63) (a := 0) G rfl (Or.inl rfl) dX12_looksAt_62 rfl (b_getA (nx := 66) (k0 := 42) G hB fl_RX12_101 (Nat.le_of_ble_eq_true rfl) (Nat.le_of_ble_eq_true rfl) rfl hp_v0 dX12_looksAt_63 rfl (z_iload_n (nx := 67) (a := 3) G rfl dX12_looksAt_66 rfl (z_iload (nx := 69) (a := 4) G rfl dX12_looksAt_67 rfl ?_)))
  obtain ⟨hb, h⟩ := h
  refine b_iast (nx := 70) G hB (sh_12_42 _ hp_v0) hb.1 hb.2 dX12_looksAt_69 rfl (fun m_12 e_m_12 hB => ?_)
  have h := h m_12 e_m_12
  refine b_iinc (nx := 73) (a := 2) (loc2 := fun v2_13 => [(2, v0), (0, v1), (0, v2_13), (0, v3), (0, v4), (9, 0), (9, 0), (9, 0)]) G (fun _ => rfl) rfl (am_pl1 rfl (fun h => nomatch h)) dX12_looksAt_70 rfl (fun v2_13 e_v2_13 => ?_)
  have h := h v2_13 e_v2_13
  refine z_goto (tgt := 2) G dX12_looksAt_73 (by decide) ?_
  exact b_fewer (loc2 := [(2, v0), (0, v1), (0, v2_13), (9, 0), (9, 0), (9, 0), (9, 0), (9, 0)]) (am_lk (am_lk (am_lk (am_lf (am_lf (am_lk (am_lk (am_lk am_ln)))))))) (hC2 _ _ h hB)
set_option maxRecDepth 20000 in
set_option maxHeartbeats 4000000 in
theorem S_X12_looksAt_L2B {F : am_F} {K : am_KK} {v0 : Int} {v1 : Int} {v2 : Int} {v3 : Int} {v4 : Int} {C25 : Int → am_M → Prop} {C2 : Int → am_M → Prop} {m : am_M} (X : am_Cx F cX12_looksAt RX12 none 1 9 K) (hp_v0 : am_ob v0 12) (hC25 : ∀ w3 m, C25 w3 m → am_Bt m → am_Z F 25 [] [(2, v0), (0, v1), (0, v2), (0, w3), (0, v4), (9, 0), (9, 0), (9, 0)] m 200) (hC2 : ∀ w2 m, C2 w2 m → am_Bt m → am_Z F 2 [] [(2, v0), (0, v1), (0, w2), (9, 0), (9, 0), (9, 0), (9, 0), (9, 0)] m 200) (hB : am_Bt m) (h : M_X12_looksAt_L2B v0 v1 v2 v3 v4 C25 C2 K m) : am_Z F 25 [] [(2, v0), (0, v1), (0, v2), (0, v3), (0, v4), (9, 0), (9, 0), (9, 0)] m 200 := by
  have G := X.G
  unfold M_X12_looksAt_L2B at h
  refine z_iload_n (nx := 26) (a := 3) G rfl dX12_looksAt_25 rfl ?_
  refine z_if_le (nx := 29) (tgt := 62) G dX12_looksAt_26 (by decide) rfl (fun c => ?_) (fun c => ?_)
  · have h := h.1 c
    exact b_fewer (loc2 := [(2, v0), (0, v1), (0, v2), (0, v3), (0, v4), (9, 0), (9, 0), (9, 0)]) (am_lk (am_lk (am_lk (am_lk (am_lk (am_lk (am_lk (am_lk am_ln)))))))) (S_X12_looksAt_J1 X hp_v0 hC2 hB h)
  · have h := h.2 c
    refine z_aload_n (nx := 30) (a := 0) G rfl (Or.inl rfl) dX12_looksAt_29 rfl (b_getA (nx := 33) (k0 := 42) G hB fl_RX12_101 (Nat.le_of_ble_eq_true rfl) (Nat.le_of_ble_eq_true rfl) rfl hp_v0 dX12_looksAt_30 rfl (z_iload_n (nx := 34) (a := 3) G rfl dX12_looksAt_33 rfl (z_iconst (nx := 35) (z := 1) G (R32c rfl) dX12_looksAt_34 rfl (z_isub (nx := 36) G dX12_looksAt_35 rfl ?_))))
    obtain ⟨hb, h⟩ := h
    refine z_iald (nx := 37) G (sh_12_42 _ hp_v0) hb.1 hb.2 dX12_looksAt_36 rfl ?_
    refine z_iload (nx := 39) (a := 4) G rfl dX12_looksAt_37 rfl ?_
    refine z_icmp_le (nx := 42) (tgt := 62) G dX12_looksAt_39 (by decide) rfl (fun c => ?_) (fun c => ?_)
    · have h := h.1 c
      exact b_fewer (loc2 := [(2, v0), (0, v1), (0, v2), (0, v3), (0, v4), (9, 0), (9, 0), (9, 0)]) (am_lk (am_lk (am_lk (am_lk (am_lk (am_lk (am_lk (am_lk am_ln)))))))) (S_X12_looksAt_J1 X hp_v0 hC2 hB h)
    · have h := h.2 c
      refine z_aload_n (nx := 43) (a := 0) G rfl (Or.inl rfl) dX12_looksAt_42 rfl (b_getA (nx := 46) (k0 := 42) G hB fl_RX12_101 (Nat.le_of_ble_eq_true rfl) (Nat.le_of_ble_eq_true rfl) rfl hp_v0 dX12_looksAt_43 rfl (z_iload_n (nx := 47) (a := 3) G rfl dX12_looksAt_46 rfl (z_aload_n (nx := 48) (a := 0) G rfl (Or.inl rfl) dX12_looksAt_47 rfl (b_getA (nx := 51) (k0 := 42) G hB fl_RX12_101 (Nat.le_of_ble_eq_true rfl) (Nat.le_of_ble_eq_true rfl) rfl hp_v0 dX12_looksAt_48 rfl (z_iload_n (nx := 52) (a := 3) G rfl dX12_looksAt_51 rfl (z_iconst (nx := 53) (z := 1) G (R32c rfl) dX12_looksAt_52 rfl (z_isub (nx := 54) G dX12_looksAt_53 rfl ?_)))))))
      obtain ⟨hb, h⟩ := h
      refine z_iald (nx := 55) G (sh_12_42 _ hp_v0) hb.1 hb.2 dX12_looksAt_54 rfl ?_
      obtain ⟨hb, h⟩ := h
      refine b_iast (nx := 56) G hB (sh_12_42 _ hp_v0) hb.1 hb.2 dX12_looksAt_55 rfl (fun m_14 e_m_14 hB => ?_)
      have h := h m_14 e_m_14
      refine b_iinc (nx := 59) (a := 3) (loc2 := fun v3_15 => [(2, v0), (0, v1), (0, v2), (0, v3_15), (0, v4), (9, 0), (9, 0), (9, 0)]) G (fun _ => rfl) rfl (am_pl1 rfl (fun h => nomatch h)) dX12_looksAt_56 rfl (fun v3_15 e_v3_15 => ?_)
      have h := h v3_15 e_v3_15
      refine z_goto (tgt := 25) G dX12_looksAt_59 (by decide) ?_
      exact b_fewer (loc2 := [(2, v0), (0, v1), (0, v2), (0, v3_15), (0, v4), (9, 0), (9, 0), (9, 0)]) (am_lk (am_lk (am_lk (am_lk (am_lk (am_lk (am_lk (am_lk am_ln)))))))) (hC25 _ _ h hB)
theorem S_X12_looksAt_L2 {F : am_F} {K : am_KK} {v0 : Int} {v1 : Int} {v2 : Int} {v3 : Int} {v4 : Int} {C2 : Int → am_M → Prop} {m : am_M} (X : am_Cx F cX12_looksAt RX12 none 1 9 K) (hp_v0 : am_ob v0 12) (hC2 : ∀ w2 m, C2 w2 m → am_Bt m → am_Z F 2 [] [(2, v0), (0, v1), (0, w2), (9, 0), (9, 0), (9, 0), (9, 0), (9, 0)] m 200) (hB : am_Bt m) (h : M_X12_looksAt_L2 v0 v1 v2 v3 v4 C2 K m) : am_Z F 25 [] [(2, v0), (0, v1), (0, v2), (0, v3), (0, v4), (9, 0), (9, 0), (9, 0)] m 200 := by
  obtain ⟨I, ⟨j, hj⟩, hI⟩ := h
  have key : ∀ j v3 m, I j v3 m → am_Bt m → am_Z F 25 [] [(2, v0), (0, v1), (0, v2), (0, v3), (0, v4), (9, 0), (9, 0), (9, 0)] m 200 := by
    intro j
    induction j using Nat.strongRecOn with
    | ind j ih =>
      intro v3 m hj hB
      exact S_X12_looksAt_L2B X hp_v0 (fun v3' m' hc hB' => by
        obtain ⟨j', g1, g2⟩ := hc
        exact ih j' g1 v3' m' g2 hB') hC2 hB (hI j v3 m hj)
  exact key j _ _ hj hB
set_option maxRecDepth 20000 in
set_option maxHeartbeats 4000000 in
theorem S_X12_looksAt_L1B {F : am_F} {K : am_KK} {v0 : Int} {v1 : Int} {v2 : Int} {C2 : Int → am_M → Prop} {m : am_M} (X : am_Cx F cX12_looksAt RX12 none 1 9 K) (hp_v0 : am_ob v0 12) (hC2 : ∀ w2 m, C2 w2 m → am_Bt m → am_Z F 2 [] [(2, v0), (0, v1), (0, w2), (9, 0), (9, 0), (9, 0), (9, 0), (9, 0)] m 200) (hB : am_Bt m) (h : M_X12_looksAt_L1B v0 v1 v2 C2 K m) : am_Z F 2 [] [(2, v0), (0, v1), (0, v2), (9, 0), (9, 0), (9, 0), (9, 0), (9, 0)] m 200 := by
  have G := X.G
  unfold M_X12_looksAt_L1B at h
  refine z_iload_n (nx := 3) (a := 2) G rfl dX12_looksAt_2 rfl (z_aload_n (nx := 4) (a := 0) G rfl (Or.inl rfl) dX12_looksAt_3 rfl (b_getI (nx := 7) (k0 := 46) (t := 0) G fl_RX12_391 (Nat.le_of_ble_eq_true rfl) (Nat.le_of_ble_eq_true rfl) rfl hp_v0 dX12_looksAt_4 rfl ?_))
  refine z_icmp_ge (nx := 10) (tgt := 76) G dX12_looksAt_7 (by decide) rfl (fun c => ?_) (fun c => ?_)
  · have h := h.1 c
    refine z_iconst (nx := 77) (z := 0) G (R32c rfl) dX12_looksAt_76 rfl (b_storeE_n (nx := 78) (a := 2) (loc2 := [(2, v0), (0, v1), (0, 0), (9, 0), (9, 0), (9, 0), (9, 0), (9, 0)]) G rfl (Nat.le_of_ble_eq_true rfl) (am_pl1 rfl (fun h => nomatch h)) dX12_looksAt_77 rfl (z_iconst (nx := 79) (z := 0) G (R32c rfl) dX12_looksAt_78 rfl (b_storeE_n (nx := 80) (a := 3) (loc2 := [(2, v0), (0, v1), (0, 0), (0, 0), (9, 0), (9, 0), (9, 0), (9, 0)]) G rfl (Nat.le_of_ble_eq_true rfl) (am_pl1 rfl (fun h => nomatch h)) dX12_looksAt_79 rfl ?_)))
    exact b_fewer (loc2 := [(2, v0), (9, 0), (0, 0), (0, 0), (9, 0), (9, 0), (9, 0), (9, 0)]) (am_lk (am_lf (am_lk (am_lk (am_lk (am_lk (am_lk (am_lk am_ln)))))))) (S_X12_looksAt_L3 X hp_v0 hB h)
  · have h := h.2 c
    refine z_iload_n (nx := 11) (a := 2) G rfl dX12_looksAt_10 rfl (b_storeE_n (nx := 12) (a := 3) (loc2 := [(2, v0), (0, v1), (0, v2), (0, v2), (9, 0), (9, 0), (9, 0), (9, 0)]) G rfl (Nat.le_of_ble_eq_true rfl) (am_pl1 rfl (fun h => nomatch h)) dX12_looksAt_11 rfl (z_aload_n (nx := 13) (a := 0) G rfl (Or.inl rfl) dX12_looksAt_12 rfl (b_getA (nx := 16) (k0 := 41) G hB fl_RX12_98 (Nat.le_of_ble_eq_true rfl) (Nat.le_of_ble_eq_true rfl) rfl hp_v0 dX12_looksAt_13 rfl (z_bipush (nx := 18) (z := 6) G (R32c rfl) rfl dX12_looksAt_16 rfl (z_iload_n (nx := 19) (a := 1) G rfl dX12_looksAt_18 rfl (z_imul (nx := 20) G dX12_looksAt_19 rfl (z_iload_n (nx := 21) (a := 2) G rfl dX12_looksAt_20 rfl (z_iadd (nx := 22) G dX12_looksAt_21 rfl ?_))))))))
    obtain ⟨hb, h⟩ := h
    refine z_iald (nx := 23) G (sh_12_41 _ hp_v0) hb.1 hb.2 dX12_looksAt_22 rfl ?_
    refine b_store (nx := 25) (a := 4) (loc2 := fun v4_16 => [(2, v0), (0, v1), (0, v2), (0, v2), (0, v4_16), (9, 0), (9, 0), (9, 0)]) G (fun _ => rfl) (Nat.le_of_ble_eq_true rfl) (am_pl1 rfl (fun h => nomatch h)) dX12_looksAt_23 rfl (fun v4_16 e_v4_16 => ?_)
    have h := h v4_16 e_v4_16
    exact b_fewer (loc2 := [(2, v0), (0, v1), (0, v2), (0, v2), (0, v4_16), (9, 0), (9, 0), (9, 0)]) (am_lk (am_lk (am_lk (am_lk (am_lk (am_lk (am_lk (am_lk am_ln)))))))) (S_X12_looksAt_L2 X hp_v0 hC2 hB h)
theorem S_X12_looksAt_L1 {F : am_F} {K : am_KK} {v0 : Int} {v1 : Int} {v2 : Int} {m : am_M} (X : am_Cx F cX12_looksAt RX12 none 1 9 K) (hp_v0 : am_ob v0 12) (hB : am_Bt m) (h : M_X12_looksAt_L1 v0 v1 v2 K m) : am_Z F 2 [] [(2, v0), (0, v1), (0, v2), (9, 0), (9, 0), (9, 0), (9, 0), (9, 0)] m 200 := by
  obtain ⟨I, ⟨j, hj⟩, hI⟩ := h
  have key : ∀ j v2 m, I j v2 m → am_Bt m → am_Z F 2 [] [(2, v0), (0, v1), (0, v2), (9, 0), (9, 0), (9, 0), (9, 0), (9, 0)] m 200 := by
    intro j
    induction j using Nat.strongRecOn with
    | ind j ih =>
      intro v2 m hj hB
      exact S_X12_looksAt_L1B X hp_v0 (fun v2' m' hc hB' => by
        obtain ⟨j', g1, g2⟩ := hc
        exact ih j' g1 v2' m' g2 hB') hB (hI j v2 m hj)
  exact key j _ _ hj hB
set_option maxRecDepth 20000 in
set_option maxHeartbeats 4000000 in
theorem S_X12_looksAt {F : am_F} {K : am_KK} {v0 : Int} {v1 : Int} {m : am_M} (X : am_Cx F cX12_looksAt RX12 none 1 9 K) (hp_v0 : am_ob v0 12) (hB : am_Bt m) (h : M_X12_looksAt v0 v1 K m) : am_Z F 0 [] [(2, v0), (0, v1), (9, 0), (9, 0), (9, 0), (9, 0), (9, 0), (9, 0)] m 200 := by
  have G := X.G
  unfold M_X12_looksAt at h
  refine z_iconst (nx := 1) (z := 0) G (R32c rfl) dX12_looksAt_0 rfl (b_storeE_n (nx := 2) (a := 2) (loc2 := [(2, v0), (0, v1), (0, 0), (9, 0), (9, 0), (9, 0), (9, 0), (9, 0)]) G rfl (Nat.le_of_ble_eq_true rfl) (am_pl1 rfl (fun h => nomatch h)) dX12_looksAt_1 rfl ?_)
  exact b_fewer (loc2 := [(2, v0), (0, v1), (0, 0), (9, 0), (9, 0), (9, 0), (9, 0), (9, 0)]) (am_lk (am_lk (am_lk (am_lk (am_lk (am_lk (am_lk (am_lk am_ln)))))))) (S_X12_looksAt_L1 X hp_v0 hB h)
theorem NM_X12_looksAt {v0 : Int} {v1 : Int} {K : am_KK} {m : am_M} (hp_v0 : am_ob v0 12) (h : M_X12_looksAt v0 v1 K m) : N_X12_looksAt [v0, v1] K m := ⟨hp_v0, h⟩
theorem SS_X12_looksAt : am_Snd yX12_looksAt cX12_looksAt 8 none 0 1 (am_L [2, 0] 9 N_X12_looksAt) := by
  refine am_SB (by decide +kernel) (Nat.le_of_ble_eq_true rfl) (fun F zs as K m X ht hB hM => ?_)
  obtain ⟨v0, zs, as, rfl, rfl, hz0, ht⟩ := am_inv ht
  obtain ⟨v1, zs, as, rfl, rfl, hz1, ht⟩ := am_inv ht
  obtain ⟨rfl, rfl⟩ := am_inv0 ht
  obtain ⟨hp_v0, hM⟩ := hM
  exact S_X12_looksAt X hp_v0 hB hM
