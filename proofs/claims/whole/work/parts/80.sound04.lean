/-! the machine does what the forms say, 4 -/
def H_X12_sumOf (k : Nat) (R : Nat → am_PT) : Prop := am_Snd yX12_sumOf cX12_sumOf 7 (some .long) 0 (2 + k) (am_L [2, 5] 1 (R 0)) ∧ am_Snd yX12_termOf cX12_termOf 7 (some .long) 0 (2 + k) (am_L [2, 5] 1 (R 1)) ∧ am_Snd yX12_partOf cX12_partOf 4 (some .long) 0 (2 + k) (am_L [2, 5] 1 (R 2))
set_option maxRecDepth 20000 in
set_option maxHeartbeats 4000000 in
theorem S_X12_sumOf_J3 {F : am_F} {K : am_KK} {k : Nat} {R : Nat → am_PT} {v0 : Int} {v1 : Int} {s0 : Int} {s1 : Int} {C6 : Int → am_M → Prop} {m : am_M} (X : am_Cx F cX12_sumOf RX12 (some .long) (2 + (k + 1)) 1 K) (HR : H_X12_sumOf k R) (hp_v0 : am_ob v0 12) (hp_v1 : v1 = 0 ∨ v1 = 1) (hp_s0 : am_ob s0 12) (hC6 : ∀ w2 m, C6 w2 m → am_Bt m → am_Z F 6 [] [(2, v0), (0, v1), (1, w2), (9, 0), (9, 0), (9, 0), (9, 0)] m 200) (hB : am_Bt m) (h : M_X12_sumOf_J3 R v0 v1 s0 s1 C6 K m) : am_Z F 95 [(1, s1), (2, s0)] [(2, v0), (0, v1), (9, 0), (9, 0), (9, 0), (9, 0), (9, 0)] m 200 := by
  have G := X.G
  obtain ⟨HR_X12_sumOf, HR_X12_termOf, HR_X12_partOf⟩ := id HR
  unfold M_X12_sumOf_J3 at h
  refine z_iload_n (nx := 96) (a := 1) G rfl dX12_sumOf_95 rfl ?_
  refine b_callV1 (nx := 99) (zs := [s0, s1, v1]) (as := [(1, s1), (0, v1)]) X hB (by decide) rfl hp_s0 SS_X12_bounded (am_ta (am_tj (am_tz hp_v1 am_tn))) (by omega) (Nat.le_of_ble_eq_true rfl) ml_RX12_298 iw_X12_bounded vw_X12_bounded cw_X12_bounded nw_RX12 pp_X12_bounded (Nat.le_of_ble_eq_true rfl) dX12_sumOf_96 rfl (NM_X12_bounded hp_s0 hp_v1 h) (fun r_1 m_2 h hB => ?_)
  refine b_lstoreE_n (nx := 100) (a := 2) (loc2 := [(2, v0), (0, v1), (1, r_1), (9, 0), (9, 0), (9, 0), (9, 0)]) G rfl (Nat.le_of_ble_eq_true rfl) (am_pl1 rfl (fun h => nomatch h)) (am_nx9 rfl rfl) dX12_sumOf_99 rfl (z_goto (tgt := 6) G dX12_sumOf_100 (by decide) ?_)
  exact b_fewer (loc2 := [(2, v0), (0, v1), (1, r_1), (9, 0), (9, 0), (9, 0), (9, 0)]) (am_lk (am_lk (am_lk (am_lk (am_lk (am_lk (am_lk am_ln))))))) (hC6 _ _ h hB)
set_option maxRecDepth 20000 in
set_option maxHeartbeats 4000000 in
theorem S_X12_sumOf_J2 {F : am_F} {K : am_KK} {k : Nat} {R : Nat → am_PT} {v0 : Int} {v1 : Int} {v2 : Int} {s0 : Int} {C6 : Int → am_M → Prop} {m : am_M} (X : am_Cx F cX12_sumOf RX12 (some .long) (2 + (k + 1)) 1 K) (HR : H_X12_sumOf k R) (hp_v0 : am_ob v0 12) (hp_v1 : v1 = 0 ∨ v1 = 1) (hp_s0 : s0 = 0 ∨ s0 = 1) (hC6 : ∀ w2 m, C6 w2 m → am_Bt m → am_Z F 6 [] [(2, v0), (0, v1), (1, w2), (9, 0), (9, 0), (9, 0), (9, 0)] m 200) (hB : am_Bt m) (h : M_X12_sumOf_J2 R v0 v1 v2 s0 C6 K m) : am_Z F 59 [(0, s0)] [(2, v0), (0, v1), (1, v2), (9, 0), (9, 0), (9, 0), (9, 0)] m 200 := by
  have G := X.G
  obtain ⟨HR_X12_sumOf, HR_X12_termOf, HR_X12_partOf⟩ := id HR
  unfold M_X12_sumOf_J2 at h
  refine b_storeE (nx := 61) (a := 4) (loc2 := [(2, v0), (0, v1), (1, v2), (9, 0), (0, s0), (9, 0), (9, 0)]) G rfl (Nat.le_of_ble_eq_true rfl) (am_pl1 rfl (fun h => nomatch h)) dX12_sumOf_59 rfl (z_aload_n (nx := 62) (a := 0) G rfl (Or.inl rfl) dX12_sumOf_61 rfl (z_dup (nx := 63) G (fun h => nomatch h) dX12_sumOf_62 rfl (b_getI (nx := 66) (k0 := 22) (t := 0) G fl_RX12_281 (Nat.le_of_ble_eq_true rfl) (Nat.le_of_ble_eq_true rfl) rfl hp_v0 dX12_sumOf_63 rfl (z_iconst (nx := 67) (z := 1) G (R32c rfl) dX12_sumOf_66 rfl (z_iadd (nx := 68) G dX12_sumOf_67 rfl ?_)))))
  refine b_put (nx := 71) (k0 := 22) (t := 0) G hB fl_RX12_281 (Nat.le_of_ble_eq_true rfl) (Nat.le_of_ble_eq_true rfl) rfl (fun h => nomatch h) rfl hp_v0 dX12_sumOf_68 rfl (fun m_3 e_m_3 hB => ?_)
  have h := h m_3 e_m_3
  refine z_aload_n (nx := 72) (a := 0) G rfl (Or.inl rfl) dX12_sumOf_71 rfl (z_iload_n (nx := 73) (a := 1) G rfl dX12_sumOf_72 rfl ?_)
  refine b_callV1 (nx := 76) (zs := [v0, v1]) (as := [(0, v1)]) X hB (by decide) rfl hp_v0 (HR_X12_termOf) (am_ta (am_tz hp_v1 am_tn)) (Nat.le_refl _) (Nat.le_of_ble_eq_true rfl) ml_RX12_294 iw_X12_termOf vw_X12_termOf cw_X12_termOf nw_RX12 pp_X12_termOf (Nat.le_of_ble_eq_true rfl) dX12_sumOf_73 rfl h (fun r_4 m_5 h hB => ?_)
  refine b_lstoreE (nx := 78) (a := 5) (loc2 := [(2, v0), (0, v1), (1, v2), (9, 0), (0, s0), (1, r_4), (9, 0)]) G rfl (Nat.le_of_ble_eq_true rfl) (am_pl1 rfl (fun h => nomatch h)) (am_nx9 rfl rfl) dX12_sumOf_76 rfl (z_aload_n (nx := 79) (a := 0) G rfl (Or.inl rfl) dX12_sumOf_78 rfl (z_iload (nx := 81) (a := 4) G rfl dX12_sumOf_79 rfl ?_))
  refine z_if_eq (nx := 84) (tgt := 91) G dX12_sumOf_81 (by decide) rfl (fun c => ?_) (fun c => ?_)
  · have h := h.1 c
    refine z_lload_n (nx := 92) (a := 2) G rfl dX12_sumOf_91 rfl (z_lload (nx := 94) (a := 5) G rfl dX12_sumOf_92 rfl (z_lsub (nx := 95) G dX12_sumOf_94 rfl ?_))
    exact b_fewer (loc2 := [(2, v0), (0, v1), (9, 0), (9, 0), (9, 0), (9, 0), (9, 0)]) (am_lk (am_lk (am_lf (am_lk (am_lf (am_lf (am_lk am_ln))))))) (S_X12_sumOf_J3 X HR hp_v0 hp_v1 hp_v0 hC6 hB h)
  · have h := h.2 c
    refine z_lload_n (nx := 85) (a := 2) G rfl dX12_sumOf_84 rfl (z_lload (nx := 87) (a := 5) G rfl dX12_sumOf_85 rfl (z_ladd (nx := 88) G dX12_sumOf_87 rfl (z_goto (tgt := 95) G dX12_sumOf_88 (by decide) ?_)))
    exact b_fewer (loc2 := [(2, v0), (0, v1), (9, 0), (9, 0), (9, 0), (9, 0), (9, 0)]) (am_lk (am_lk (am_lf (am_lk (am_lf (am_lf (am_lk am_ln))))))) (S_X12_sumOf_J3 X HR hp_v0 hp_v1 hp_v0 hC6 hB h)
set_option maxRecDepth 20000 in
set_option maxHeartbeats 4000000 in
theorem S_X12_sumOf_J1 {F : am_F} {K : am_KK} {k : Nat} {R : Nat → am_PT} {v0 : Int} {v1 : Int} {v2 : Int} {C6 : Int → am_M → Prop} {m : am_M} (X : am_Cx F cX12_sumOf RX12 (some .long) (2 + (k + 1)) 1 K) (HR : H_X12_sumOf k R) (hp_v0 : am_ob v0 12) (hp_v1 : v1 = 0 ∨ v1 = 1) (hC6 : ∀ w2 m, C6 w2 m → am_Bt m → am_Z F 6 [] [(2, v0), (0, v1), (1, w2), (9, 0), (9, 0), (9, 0), (9, 0)] m 200) (hB : am_Bt m) (h : M_X12_sumOf_J1 R v0 v1 v2 C6 K m) : am_Z F 38 [] [(2, v0), (0, v1), (1, v2), (9, 0), (9, 0), (9, 0), (9, 0)] m 200 := by
  have G := X.G
  obtain ⟨HR_X12_sumOf, HR_X12_termOf, HR_X12_partOf⟩ := id HR
  unfold M_X12_sumOf_J1 at h
  refine z_aload_n (nx := 39) (a := 0) G rfl (Or.inl rfl) dX12_sumOf_38 rfl (z_aload_n (nx := 40) (a := 0) G rfl (Or.inl rfl) dX12_sumOf_39 rfl (b_getI (nx := 43) (k0 := 22) (t := 0) G fl_RX12_281 (Nat.le_of_ble_eq_true rfl) (Nat.le_of_ble_eq_true rfl) rfl hp_v0 dX12_sumOf_40 rfl ?_))
  refine b_callV0 (nx := 46) (zs := [v0, m v0 22]) (as := [(0, m v0 22)]) X hB (by decide) rfl hp_v0 SS_X12_codeAt (am_ta (am_ti am_tn)) (by omega) (Nat.le_of_ble_eq_true rfl) ml_RX12_284 iw_X12_codeAt vw_X12_codeAt cw_X12_codeAt nw_RX12 pp_X12_codeAt (Nat.le_of_ble_eq_true rfl) dX12_sumOf_43 rfl (NM_X12_codeAt hp_v0 h) (fun r_6 m_7 h hB => ?_)
  refine z_bipush (nx := 48) (z := 43) G (R32c rfl) rfl dX12_sumOf_46 rfl ?_
  refine b_callS0 (nx := 51) (zs := [43]) (as := [(0, 43)]) X hB SS_X12_sign (am_ti am_tn) (by omega) (Nat.le_of_ble_eq_true rfl) ml_RX12_243 sw_X12_sign (am_plainC 12 (by decide)) cw_X12_sign nw_RX12 pp_X12_sign (Nat.le_of_ble_eq_true rfl) dX12_sumOf_48 rfl (NM_X12_sign h) (fun r_8 m_9 h hB => ?_)
  refine z_icmp_ne (nx := 54) (tgt := 58) G dX12_sumOf_51 (by decide) rfl (fun c => ?_) (fun c => ?_)
  · have h := h.1 c
    refine z_iconst (nx := 59) (z := 0) G (R32c rfl) dX12_sumOf_58 rfl ?_
    exact b_fewer (loc2 := [(2, v0), (0, v1), (1, v2), (9, 0), (9, 0), (9, 0), (9, 0)]) (am_lk (am_lk (am_lk (am_lk (am_lk (am_lk (am_lk am_ln))))))) (S_X12_sumOf_J2 X HR hp_v0 hp_v1 (Or.inl rfl) hC6 hB h)
  · have h := h.2 c
    refine z_iconst (nx := 55) (z := 1) G (R32c rfl) dX12_sumOf_54 rfl (z_goto (tgt := 59) G dX12_sumOf_55 (by decide) ?_)
    exact b_fewer (loc2 := [(2, v0), (0, v1), (1, v2), (9, 0), (9, 0), (9, 0), (9, 0)]) (am_lk (am_lk (am_lk (am_lk (am_lk (am_lk (am_lk am_ln))))))) (S_X12_sumOf_J2 X HR hp_v0 hp_v1 (Or.inr rfl) hC6 hB h)
set_option maxRecDepth 20000 in
set_option maxHeartbeats 4000000 in
theorem S_X12_sumOf_L1B {F : am_F} {K : am_KK} {k : Nat} {R : Nat → am_PT} {v0 : Int} {v1 : Int} {v2 : Int} {C6 : Int → am_M → Prop} {m : am_M} (X : am_Cx F cX12_sumOf RX12 (some .long) (2 + (k + 1)) 1 K) (HR : H_X12_sumOf k R) (hp_v0 : am_ob v0 12) (hp_v1 : v1 = 0 ∨ v1 = 1) (hC6 : ∀ w2 m, C6 w2 m → am_Bt m → am_Z F 6 [] [(2, v0), (0, v1), (1, w2), (9, 0), (9, 0), (9, 0), (9, 0)] m 200) (hB : am_Bt m) (h : M_X12_sumOf_L1B R v0 v1 v2 C6 K m) : am_Z F 6 [] [(2, v0), (0, v1), (1, v2), (9, 0), (9, 0), (9, 0), (9, 0)] m 200 := by
  have G := X.G
  obtain ⟨HR_X12_sumOf, HR_X12_termOf, HR_X12_partOf⟩ := id HR
  unfold M_X12_sumOf_L1B at h
  refine z_aload_n (nx := 7) (a := 0) G rfl (Or.inl rfl) dX12_sumOf_6 rfl (z_aload_n (nx := 8) (a := 0) G rfl (Or.inl rfl) dX12_sumOf_7 rfl (b_getI (nx := 11) (k0 := 22) (t := 0) G fl_RX12_281 (Nat.le_of_ble_eq_true rfl) (Nat.le_of_ble_eq_true rfl) rfl hp_v0 dX12_sumOf_8 rfl ?_))
  refine b_callV0 (nx := 14) (zs := [v0, m v0 22]) (as := [(0, m v0 22)]) X hB (by decide) rfl hp_v0 SS_X12_codeAt (am_ta (am_ti am_tn)) (by omega) (Nat.le_of_ble_eq_true rfl) ml_RX12_284 iw_X12_codeAt vw_X12_codeAt cw_X12_codeAt nw_RX12 pp_X12_codeAt (Nat.le_of_ble_eq_true rfl) dX12_sumOf_11 rfl (NM_X12_codeAt hp_v0 h) (fun r_10 m_11 h hB => ?_)
  refine z_bipush (nx := 16) (z := 43) G (R32c rfl) rfl dX12_sumOf_14 rfl ?_
  refine b_callS0 (nx := 19) (zs := [43]) (as := [(0, 43)]) X hB SS_X12_sign (am_ti am_tn) (by omega) (Nat.le_of_ble_eq_true rfl) ml_RX12_243 sw_X12_sign (am_plainC 12 (by decide)) cw_X12_sign nw_RX12 pp_X12_sign (Nat.le_of_ble_eq_true rfl) dX12_sumOf_16 rfl (NM_X12_sign h) (fun r_12 m_13 h hB => ?_)
  refine z_icmp_eq (nx := 22) (tgt := 38) G dX12_sumOf_19 (by decide) rfl (fun c => ?_) (fun c => ?_)
  · have h := h.1 c
    exact b_fewer (loc2 := [(2, v0), (0, v1), (1, v2), (9, 0), (9, 0), (9, 0), (9, 0)]) (am_lk (am_lk (am_lk (am_lk (am_lk (am_lk (am_lk am_ln))))))) (S_X12_sumOf_J1 X HR hp_v0 hp_v1 hC6 hB h)
  · have h := h.2 c
    refine z_aload_n (nx := 23) (a := 0) G rfl (Or.inl rfl) dX12_sumOf_22 rfl (z_aload_n (nx := 24) (a := 0) G rfl (Or.inl rfl) dX12_sumOf_23 rfl (b_getI (nx := 27) (k0 := 22) (t := 0) G fl_RX12_281 (Nat.le_of_ble_eq_true rfl) (Nat.le_of_ble_eq_true rfl) rfl hp_v0 dX12_sumOf_24 rfl ?_))
    refine b_callV0 (nx := 30) (zs := [v0, m_13 v0 22]) (as := [(0, m_13 v0 22)]) X hB (by decide) rfl hp_v0 SS_X12_codeAt (am_ta (am_ti am_tn)) (by omega) (Nat.le_of_ble_eq_true rfl) ml_RX12_284 iw_X12_codeAt vw_X12_codeAt cw_X12_codeAt nw_RX12 pp_X12_codeAt (Nat.le_of_ble_eq_true rfl) dX12_sumOf_27 rfl (NM_X12_codeAt hp_v0 h) (fun r_14 m_15 h hB => ?_)
    refine z_bipush (nx := 32) (z := 45) G (R32c rfl) rfl dX12_sumOf_30 rfl ?_
    refine b_callS0 (nx := 35) (zs := [45]) (as := [(0, 45)]) X hB SS_X12_sign (am_ti am_tn) (by omega) (Nat.le_of_ble_eq_true rfl) ml_RX12_243 sw_X12_sign (am_plainC 12 (by decide)) cw_X12_sign nw_RX12 pp_X12_sign (Nat.le_of_ble_eq_true rfl) dX12_sumOf_32 rfl (NM_X12_sign h) (fun r_16 m_17 h hB => ?_)
    refine z_icmp_ne (nx := 38) (tgt := 103) G dX12_sumOf_35 (by decide) rfl (fun c => ?_) (fun c => ?_)
    · have h := h.1 c
      refine z_lload_n (nx := 104) (a := 2) G rfl dX12_sumOf_103 rfl ?_
      exact b_lreturn X hB dX12_sumOf_104 h
    · have h := h.2 c
      exact b_fewer (loc2 := [(2, v0), (0, v1), (1, v2), (9, 0), (9, 0), (9, 0), (9, 0)]) (am_lk (am_lk (am_lk (am_lk (am_lk (am_lk (am_lk am_ln))))))) (S_X12_sumOf_J1 X HR hp_v0 hp_v1 hC6 hB h)
theorem S_X12_sumOf_L1 {F : am_F} {K : am_KK} {k : Nat} {R : Nat → am_PT} {v0 : Int} {v1 : Int} {v2 : Int} {m : am_M} (X : am_Cx F cX12_sumOf RX12 (some .long) (2 + (k + 1)) 1 K) (HR : H_X12_sumOf k R) (hp_v0 : am_ob v0 12) (hp_v1 : v1 = 0 ∨ v1 = 1) (hB : am_Bt m) (h : M_X12_sumOf_L1 R v0 v1 v2 K m) : am_Z F 6 [] [(2, v0), (0, v1), (1, v2), (9, 0), (9, 0), (9, 0), (9, 0)] m 200 := by
  obtain ⟨I, ⟨j, hj⟩, hI⟩ := h
  have key : ∀ j v2 m, I j v2 m → am_Bt m → am_Z F 6 [] [(2, v0), (0, v1), (1, v2), (9, 0), (9, 0), (9, 0), (9, 0)] m 200 := by
    intro j
    induction j using Nat.strongRecOn with
    | ind j ih =>
      intro v2 m hj hB
      exact S_X12_sumOf_L1B X HR hp_v0 hp_v1 (fun v2' m' hc hB' => by
        obtain ⟨j', g1, g2⟩ := hc
        exact ih j' g1 v2' m' g2 hB') hB (hI j v2 m hj)
  exact key j _ _ hj hB
set_option maxRecDepth 20000 in
set_option maxHeartbeats 4000000 in
theorem S_X12_sumOf {F : am_F} {K : am_KK} {k : Nat} {R : Nat → am_PT} {v0 : Int} {v1 : Int} {m : am_M} (X : am_Cx F cX12_sumOf RX12 (some .long) (2 + (k + 1)) 1 K) (HR : H_X12_sumOf k R) (hp_v0 : am_ob v0 12) (hp_v1 : (v1 = 0 ∨ v1 = 1)) (hB : am_Bt m) (h : M_X12_sumOf R v0 v1 K m) : am_Z F 0 [] [(2, v0), (0, v1), (9, 0), (9, 0), (9, 0), (9, 0), (9, 0)] m 200 := by
  have G := X.G
  obtain ⟨HR_X12_sumOf, HR_X12_termOf, HR_X12_partOf⟩ := id HR
  unfold M_X12_sumOf at h
  refine z_aload_n (nx := 1) (a := 0) G rfl (Or.inl rfl) dX12_sumOf_0 rfl (z_iload_n (nx := 2) (a := 1) G rfl dX12_sumOf_1 rfl ?_)
  refine b_callV1 (nx := 5) (zs := [v0, v1]) (as := [(0, v1)]) X hB (by decide) rfl hp_v0 (HR_X12_termOf) (am_ta (am_tz hp_v1 am_tn)) (Nat.le_refl _) (Nat.le_of_ble_eq_true rfl) ml_RX12_294 iw_X12_termOf vw_X12_termOf cw_X12_termOf nw_RX12 pp_X12_termOf (Nat.le_of_ble_eq_true rfl) dX12_sumOf_2 rfl h (fun r_18 m_19 h hB => ?_)
  refine b_lstoreE_n (nx := 6) (a := 2) (loc2 := [(2, v0), (0, v1), (1, r_18), (9, 0), (9, 0), (9, 0), (9, 0)]) G rfl (Nat.le_of_ble_eq_true rfl) (am_pl1 rfl (fun h => nomatch h)) (am_nx9 rfl rfl) dX12_sumOf_5 rfl ?_
  exact b_fewer (loc2 := [(2, v0), (0, v1), (1, r_18), (9, 0), (9, 0), (9, 0), (9, 0)]) (am_lk (am_lk (am_lk (am_lk (am_lk (am_lk (am_lk am_ln))))))) (S_X12_sumOf_L1 X HR hp_v0 hp_v1 hB h)
theorem SR_X12_sumOf {k : Nat} {R : Nat → am_PT} (HR : H_X12_sumOf k R) : am_Snd yX12_sumOf cX12_sumOf 7 (some .long) 0 (2 + (k + 1)) (am_L [2, 5] 1 (N_X12_sumOf R)) := by
  refine am_SB (by decide +kernel) (Nat.le_of_ble_eq_true rfl) (fun F zs as K m X ht hB hM => ?_)
  obtain ⟨v0, zs, as, rfl, rfl, hz0, ht⟩ := am_inv ht
  obtain ⟨v1, zs, as, rfl, rfl, hz1, ht⟩ := am_inv ht
  obtain ⟨rfl, rfl⟩ := am_inv0 ht
  obtain ⟨hp_v0, hp_v1, hM⟩ := hM
  exact S_X12_sumOf X HR hp_v0 hp_v1 hB hM
set_option maxRecDepth 20000 in
set_option maxHeartbeats 4000000 in
theorem S_X12_termOf_J5 {F : am_F} {K : am_KK} {k : Nat} {R : Nat → am_PT} {v0 : Int} {v1 : Int} {s0 : Int} {s1 : Int} {C6 : Int → am_M → Prop} {m : am_M} (X : am_Cx F cX12_termOf RX12 (some .long) (2 + (k + 1)) 1 K) (HR : H_X12_sumOf k R) (hp_v0 : am_ob v0 12) (hp_v1 : v1 = 0 ∨ v1 = 1) (hp_s0 : am_ob s0 12) (hC6 : ∀ w2 m, C6 w2 m → am_Bt m → am_Z F 6 [] [(2, v0), (0, v1), (1, w2), (9, 0), (9, 0), (9, 0), (9, 0)] m 200) (hB : am_Bt m) (h : M_X12_termOf_J5 R v0 v1 s0 s1 C6 K m) : am_Z F 160 [(1, s1), (2, s0)] [(2, v0), (0, v1), (9, 0), (9, 0), (9, 0), (9, 0), (9, 0)] m 200 := by
  have G := X.G
  obtain ⟨HR_X12_sumOf, HR_X12_termOf, HR_X12_partOf⟩ := id HR
  unfold M_X12_termOf_J5 at h
  refine z_iload_n (nx := 161) (a := 1) G rfl dX12_termOf_160 rfl ?_
  refine b_callV1 (nx := 164) (zs := [s0, s1, v1]) (as := [(1, s1), (0, v1)]) X hB (by decide) rfl hp_s0 SS_X12_bounded (am_ta (am_tj (am_tz hp_v1 am_tn))) (by omega) (Nat.le_of_ble_eq_true rfl) ml_RX12_298 iw_X12_bounded vw_X12_bounded cw_X12_bounded nw_RX12 pp_X12_bounded (Nat.le_of_ble_eq_true rfl) dX12_termOf_161 rfl (NM_X12_bounded hp_s0 hp_v1 h) (fun r_1 m_2 h hB => ?_)
  refine b_lstoreE_n (nx := 165) (a := 2) (loc2 := [(2, v0), (0, v1), (1, r_1), (9, 0), (9, 0), (9, 0), (9, 0)]) G rfl (Nat.le_of_ble_eq_true rfl) (am_pl1 rfl (fun h => nomatch h)) (am_nx9 rfl rfl) dX12_termOf_164 rfl (z_goto (tgt := 6) G dX12_termOf_165 (by decide) ?_)
  exact b_fewer (loc2 := [(2, v0), (0, v1), (1, r_1), (9, 0), (9, 0), (9, 0), (9, 0)]) (am_lk (am_lk (am_lk (am_lk (am_lk (am_lk (am_lk am_ln))))))) (hC6 _ _ h hB)
set_option maxRecDepth 20000 in
set_option maxHeartbeats 4000000 in
theorem S_X12_termOf_J4 {F : am_F} {K : am_KK} {k : Nat} {R : Nat → am_PT} {v0 : Int} {v1 : Int} {v2 : Int} {v4 : Int} {v5 : Int} {C6 : Int → am_M → Prop} {m : am_M} (X : am_Cx F cX12_termOf RX12 (some .long) (2 + (k + 1)) 1 K) (HR : H_X12_sumOf k R) (hp_v0 : am_ob v0 12) (hp_v1 : v1 = 0 ∨ v1 = 1) (hC6 : ∀ w2 m, C6 w2 m → am_Bt m → am_Z F 6 [] [(2, v0), (0, v1), (1, w2), (9, 0), (9, 0), (9, 0), (9, 0)] m 200) (hB : am_Bt m) (h : M_X12_termOf_J4 R v0 v1 v2 v4 v5 C6 K m) : am_Z F 121 [] [(2, v0), (0, v1), (1, v2), (9, 0), (0, v4), (1, v5), (9, 0)] m 200 := by
  have G := X.G
  obtain ⟨HR_X12_sumOf, HR_X12_termOf, HR_X12_partOf⟩ := id HR
  unfold M_X12_termOf_J4 at h
  refine z_aload_n (nx := 122) (a := 0) G rfl (Or.inl rfl) dX12_termOf_121 rfl (z_iload (nx := 124) (a := 4) G rfl dX12_termOf_122 rfl (z_bipush (nx := 126) (z := 42) G (R32c rfl) rfl dX12_termOf_124 rfl ?_))
  refine b_callS0 (nx := 129) (zs := [42]) (as := [(0, 42)]) X hB SS_X12_sign (am_ti am_tn) (by omega) (Nat.le_of_ble_eq_true rfl) ml_RX12_243 sw_X12_sign (am_plainC 12 (by decide)) cw_X12_sign nw_RX12 pp_X12_sign (Nat.le_of_ble_eq_true rfl) dX12_termOf_126 rfl (NM_X12_sign h) (fun r_3 m_4 h hB => ?_)
  refine z_icmp_ne (nx := 132) (tgt := 139) G dX12_termOf_129 (by decide) rfl (fun c => ?_) (fun c => ?_)
  · have h := h.1 c
    refine z_iload (nx := 141) (a := 4) G rfl dX12_termOf_139 rfl (z_bipush (nx := 143) (z := 47) G (R32c rfl) rfl dX12_termOf_141 rfl ?_)
    refine b_callS0 (nx := 146) (zs := [47]) (as := [(0, 47)]) X hB SS_X12_sign (am_ti am_tn) (by omega) (Nat.le_of_ble_eq_true rfl) ml_RX12_243 sw_X12_sign (am_plainC 12 (by decide)) cw_X12_sign nw_RX12 pp_X12_sign (Nat.le_of_ble_eq_true rfl) dX12_termOf_143 rfl (NM_X12_sign h) (fun r_5 m_6 h hB => ?_)
    refine z_icmp_ne (nx := 149) (tgt := 156) G dX12_termOf_146 (by decide) rfl (fun c => ?_) (fun c => ?_)
    · have h := h.1 c
      refine z_lload_n (nx := 157) (a := 2) G rfl dX12_termOf_156 rfl (z_lload (nx := 159) (a := 5) G rfl dX12_termOf_157 rfl ?_)
      obtain ⟨hb, h⟩ := h
      refine z_lrem (nx := 160) G hb dX12_termOf_159 rfl ?_
      exact b_fewer (loc2 := [(2, v0), (0, v1), (9, 0), (9, 0), (9, 0), (9, 0), (9, 0)]) (am_lk (am_lk (am_lf (am_lk (am_lf (am_lf (am_lk am_ln))))))) (S_X12_termOf_J5 X HR hp_v0 hp_v1 hp_v0 hC6 hB h)
    · have h := h.2 c
      refine z_lload_n (nx := 150) (a := 2) G rfl dX12_termOf_149 rfl (z_lload (nx := 152) (a := 5) G rfl dX12_termOf_150 rfl ?_)
      obtain ⟨hb, h⟩ := h
      refine z_ldiv (nx := 153) G hb dX12_termOf_152 rfl ?_
      refine z_goto (tgt := 160) G dX12_termOf_153 (by decide) ?_
      exact b_fewer (loc2 := [(2, v0), (0, v1), (9, 0), (9, 0), (9, 0), (9, 0), (9, 0)]) (am_lk (am_lk (am_lf (am_lk (am_lf (am_lf (am_lk am_ln))))))) (S_X12_termOf_J5 X HR hp_v0 hp_v1 hp_v0 hC6 hB h)
  · have h := h.2 c
    refine z_lload_n (nx := 133) (a := 2) G rfl dX12_termOf_132 rfl (z_lload (nx := 135) (a := 5) G rfl dX12_termOf_133 rfl (z_lmul (nx := 136) G dX12_termOf_135 rfl (z_goto (tgt := 160) G dX12_termOf_136 (by decide) ?_)))
    exact b_fewer (loc2 := [(2, v0), (0, v1), (9, 0), (9, 0), (9, 0), (9, 0), (9, 0)]) (am_lk (am_lk (am_lf (am_lk (am_lf (am_lf (am_lk am_ln))))))) (S_X12_termOf_J5 X HR hp_v0 hp_v1 hp_v0 hC6 hB h)
set_option maxRecDepth 20000 in
set_option maxHeartbeats 4000000 in
theorem S_X12_termOf_J3 {F : am_F} {K : am_KK} {k : Nat} {R : Nat → am_PT} {v0 : Int} {v1 : Int} {v2 : Int} {v4 : Int} {s0 : Int} {s1 : Int} {C6 : Int → am_M → Prop} {m : am_M} (X : am_Cx F cX12_termOf RX12 (some .long) (2 + (k + 1)) 1 K) (HR : H_X12_sumOf k R) (hp_v0 : am_ob v0 12) (hp_v1 : v1 = 0 ∨ v1 = 1) (hp_s0 : am_ob s0 12) (hp_s1 : s1 = 0 ∨ s1 = 1) (hC6 : ∀ w2 m, C6 w2 m → am_Bt m → am_Z F 6 [] [(2, v0), (0, v1), (1, w2), (9, 0), (9, 0), (9, 0), (9, 0)] m 200) (hB : am_Bt m) (h : M_X12_termOf_J3 R v0 v1 v2 v4 s0 s1 C6 K m) : am_Z F 115 [(0, s1), (2, s0)] [(2, v0), (0, v1), (1, v2), (9, 0), (0, v4), (9, 0), (9, 0)] m 200 := by
  have G := X.G
  obtain ⟨HR_X12_sumOf, HR_X12_termOf, HR_X12_partOf⟩ := id HR
  unfold M_X12_termOf_J3 at h
  refine b_put (nx := 118) (k0 := 24) (t := 0) G hB fl_RX12_291 (Nat.le_of_ble_eq_true rfl) (Nat.le_of_ble_eq_true rfl) rfl (fun h => nomatch h) ⟨rfl, hp_s1⟩ hp_s0 dX12_termOf_115 rfl (fun m_7 e_m_7 hB => ?_)
  have h := h m_7 e_m_7
  refine z_lconst (nx := 119) (z := 1) G (R64c rfl) rfl dX12_termOf_118 rfl (b_lstoreE (nx := 121) (a := 5) (loc2 := [(2, v0), (0, v1), (1, v2), (9, 0), (0, v4), (1, 1), (9, 0)]) G rfl (Nat.le_of_ble_eq_true rfl) (am_pl1 rfl (fun h => nomatch h)) (am_nx9 rfl rfl) dX12_termOf_119 rfl ?_)
  exact b_fewer (loc2 := [(2, v0), (0, v1), (1, v2), (9, 0), (0, v4), (1, 1), (9, 0)]) (am_lk (am_lk (am_lk (am_lk (am_lk (am_lk (am_lk am_ln))))))) (S_X12_termOf_J4 X HR hp_v0 hp_v1 hC6 hB h)
set_option maxRecDepth 20000 in
set_option maxHeartbeats 4000000 in
theorem S_X12_termOf_J2 {F : am_F} {K : am_KK} {k : Nat} {R : Nat → am_PT} {v0 : Int} {v1 : Int} {v2 : Int} {v4 : Int} {s0 : Int} {C6 : Int → am_M → Prop} {m : am_M} (X : am_Cx F cX12_termOf RX12 (some .long) (2 + (k + 1)) 1 K) (HR : H_X12_sumOf k R) (hp_v0 : am_ob v0 12) (hp_v1 : v1 = 0 ∨ v1 = 1) (hp_s0 : am_ob s0 12) (hC6 : ∀ w2 m, C6 w2 m → am_Bt m → am_Z F 6 [] [(2, v0), (0, v1), (1, w2), (9, 0), (9, 0), (9, 0), (9, 0)] m 200) (hB : am_Bt m) (h : M_X12_termOf_J2 R v0 v1 v2 v4 s0 C6 K m) : am_Z F 110 [(2, s0)] [(2, v0), (0, v1), (1, v2), (9, 0), (0, v4), (9, 0), (9, 0)] m 200 := by
  have G := X.G
  obtain ⟨HR_X12_sumOf, HR_X12_termOf, HR_X12_partOf⟩ := id HR
  unfold M_X12_termOf_J2 at h
  refine z_iconst (nx := 111) (z := 1) G (R32c rfl) dX12_termOf_110 rfl (z_goto (tgt := 115) G dX12_termOf_111 (by decide) ?_)
  exact b_fewer (loc2 := [(2, v0), (0, v1), (1, v2), (9, 0), (0, v4), (9, 0), (9, 0)]) (am_lk (am_lk (am_lk (am_lk (am_lk (am_lk (am_lk am_ln))))))) (S_X12_termOf_J3 X HR hp_v0 hp_v1 hp_s0 (Or.inr rfl) hC6 hB h)
set_option maxRecDepth 20000 in
set_option maxHeartbeats 4000000 in
theorem S_X12_termOf_J1 {F : am_F} {K : am_KK} {k : Nat} {R : Nat → am_PT} {v0 : Int} {v1 : Int} {v2 : Int} {C6 : Int → am_M → Prop} {m : am_M} (X : am_Cx F cX12_termOf RX12 (some .long) (2 + (k + 1)) 1 K) (HR : H_X12_sumOf k R) (hp_v0 : am_ob v0 12) (hp_v1 : v1 = 0 ∨ v1 = 1) (hC6 : ∀ w2 m, C6 w2 m → am_Bt m → am_Z F 6 [] [(2, v0), (0, v1), (1, w2), (9, 0), (9, 0), (9, 0), (9, 0)] m 200) (hB : am_Bt m) (h : M_X12_termOf_J1 R v0 v1 v2 C6 K m) : am_Z F 54 [] [(2, v0), (0, v1), (1, v2), (9, 0), (9, 0), (9, 0), (9, 0)] m 200 := by
  have G := X.G
  obtain ⟨HR_X12_sumOf, HR_X12_termOf, HR_X12_partOf⟩ := id HR
  unfold M_X12_termOf_J1 at h
  refine z_aload_n (nx := 55) (a := 0) G rfl (Or.inl rfl) dX12_termOf_54 rfl (z_aload_n (nx := 56) (a := 0) G rfl (Or.inl rfl) dX12_termOf_55 rfl (b_getI (nx := 59) (k0 := 22) (t := 0) G fl_RX12_281 (Nat.le_of_ble_eq_true rfl) (Nat.le_of_ble_eq_true rfl) rfl hp_v0 dX12_termOf_56 rfl ?_))
  refine b_callV0 (nx := 62) (zs := [v0, m v0 22]) (as := [(0, m v0 22)]) X hB (by decide) rfl hp_v0 SS_X12_codeAt (am_ta (am_ti am_tn)) (by omega) (Nat.le_of_ble_eq_true rfl) ml_RX12_284 iw_X12_codeAt vw_X12_codeAt cw_X12_codeAt nw_RX12 pp_X12_codeAt (Nat.le_of_ble_eq_true rfl) dX12_termOf_59 rfl (NM_X12_codeAt hp_v0 h) (fun r_8 m_9 h hB => ?_)
  refine b_storeE (nx := 64) (a := 4) (loc2 := [(2, v0), (0, v1), (1, v2), (9, 0), (0, r_8), (9, 0), (9, 0)]) G rfl (Nat.le_of_ble_eq_true rfl) (am_pl1 rfl (fun h => nomatch h)) dX12_termOf_62 rfl (z_aload_n (nx := 65) (a := 0) G rfl (Or.inl rfl) dX12_termOf_64 rfl (z_dup (nx := 66) G (fun h => nomatch h) dX12_termOf_65 rfl (b_getI (nx := 69) (k0 := 22) (t := 0) G fl_RX12_281 (Nat.le_of_ble_eq_true rfl) (Nat.le_of_ble_eq_true rfl) rfl hp_v0 dX12_termOf_66 rfl (z_iconst (nx := 70) (z := 1) G (R32c rfl) dX12_termOf_69 rfl (z_iadd (nx := 71) G dX12_termOf_70 rfl ?_)))))
  refine b_put (nx := 74) (k0 := 22) (t := 0) G hB fl_RX12_281 (Nat.le_of_ble_eq_true rfl) (Nat.le_of_ble_eq_true rfl) rfl (fun h => nomatch h) rfl hp_v0 dX12_termOf_71 rfl (fun m_10 e_m_10 hB => ?_)
  have h := h m_10 e_m_10
  refine z_aload_n (nx := 75) (a := 0) G rfl (Or.inl rfl) dX12_termOf_74 rfl (z_iload_n (nx := 76) (a := 1) G rfl dX12_termOf_75 rfl ?_)
  refine b_callV1 (nx := 79) (zs := [v0, v1]) (as := [(0, v1)]) X hB (by decide) rfl hp_v0 (HR_X12_partOf) (am_ta (am_tz hp_v1 am_tn)) (Nat.le_refl _) (Nat.le_of_ble_eq_true rfl) ml_RX12_302 iw_X12_partOf vw_X12_partOf cw_X12_partOf nw_RX12 pp_X12_partOf (Nat.le_of_ble_eq_true rfl) dX12_termOf_76 rfl h (fun r_11 m_12 h hB => ?_)
  refine b_lstoreE (nx := 81) (a := 5) (loc2 := [(2, v0), (0, v1), (1, v2), (9, 0), (0, r_8), (1, r_11), (9, 0)]) G rfl (Nat.le_of_ble_eq_true rfl) (am_pl1 rfl (fun h => nomatch h)) (am_nx9 rfl rfl) dX12_termOf_79 rfl (z_iload (nx := 83) (a := 4) G rfl dX12_termOf_81 rfl (z_bipush (nx := 85) (z := 42) G (R32c rfl) rfl dX12_termOf_83 rfl ?_))
  refine b_callS0 (nx := 88) (zs := [42]) (as := [(0, 42)]) X hB SS_X12_sign (am_ti am_tn) (by omega) (Nat.le_of_ble_eq_true rfl) ml_RX12_243 sw_X12_sign (am_plainC 12 (by decide)) cw_X12_sign nw_RX12 pp_X12_sign (Nat.le_of_ble_eq_true rfl) dX12_termOf_85 rfl (NM_X12_sign h) (fun r_13 m_14 h hB => ?_)
  refine z_icmp_eq (nx := 91) (tgt := 121) G dX12_termOf_88 (by decide) rfl (fun c => ?_) (fun c => ?_)
  · have h := h.1 c
    exact b_fewer (loc2 := [(2, v0), (0, v1), (1, v2), (9, 0), (0, r_8), (1, r_11), (9, 0)]) (am_lk (am_lk (am_lk (am_lk (am_lk (am_lk (am_lk am_ln))))))) (S_X12_termOf_J4 X HR hp_v0 hp_v1 hC6 hB h)
  · have h := h.2 c
    refine z_lload (nx := 93) (a := 5) G rfl dX12_termOf_91 rfl (z_lconst (nx := 94) (z := 0) G (R64c rfl) rfl dX12_termOf_93 rfl (z_lcmp (nx := 95) G dX12_termOf_94 rfl ?_))
    refine z_if_ne (nx := 98) (tgt := 121) G dX12_termOf_95 (by decide) rfl (fun c => ?_) (fun c => ?_)
    · have h := h.1 c
      exact b_fewer (loc2 := [(2, v0), (0, v1), (1, v2), (9, 0), (0, r_8), (1, r_11), (9, 0)]) (am_lk (am_lk (am_lk (am_lk (am_lk (am_lk (am_lk am_ln))))))) (S_X12_termOf_J4 X HR hp_v0 hp_v1 hC6 hB h)
    · have h := h.2 c
      refine z_aload_n (nx := 99) (a := 0) G rfl (Or.inl rfl) dX12_termOf_98 rfl (z_aload_n (nx := 100) (a := 0) G rfl (Or.inl rfl) dX12_termOf_99 rfl (b_getI (nx := 103) (k0 := 24) (t := 0) G fl_RX12_291 (Nat.le_of_ble_eq_true rfl) (Nat.le_of_ble_eq_true rfl) rfl hp_v0 dX12_termOf_100 rfl ?_))
      refine z_if_ne (nx := 106) (tgt := 110) G dX12_termOf_103 (by decide) rfl (fun c => ?_) (fun c => ?_)
      · have h := h.1 c
        exact b_fewer (loc2 := [(2, v0), (0, v1), (1, v2), (9, 0), (0, r_8), (9, 0), (9, 0)]) (am_lk (am_lk (am_lk (am_lk (am_lk (am_lf (am_lk am_ln))))))) (S_X12_termOf_J2 X HR hp_v0 hp_v1 hp_v0 hC6 hB h)
      · have h := h.2 c
        refine z_iload_n (nx := 107) (a := 1) G rfl dX12_termOf_106 rfl ?_
        refine z_if_eq (nx := 110) (tgt := 114) G dX12_termOf_107 (by decide) rfl (fun c => ?_) (fun c => ?_)
        · have h := h.1 c
          refine z_iconst (nx := 115) (z := 0) G (R32c rfl) dX12_termOf_114 rfl ?_
          exact b_fewer (loc2 := [(2, v0), (0, v1), (1, v2), (9, 0), (0, r_8), (9, 0), (9, 0)]) (am_lk (am_lk (am_lk (am_lk (am_lk (am_lf (am_lk am_ln))))))) (S_X12_termOf_J3 X HR hp_v0 hp_v1 hp_v0 (Or.inl rfl) hC6 hB h)
        · have h := h.2 c
          exact b_fewer (loc2 := [(2, v0), (0, v1), (1, v2), (9, 0), (0, r_8), (9, 0), (9, 0)]) (am_lk (am_lk (am_lk (am_lk (am_lk (am_lf (am_lk am_ln))))))) (S_X12_termOf_J2 X HR hp_v0 hp_v1 hp_v0 hC6 hB h)
set_option maxRecDepth 20000 in
set_option maxHeartbeats 4000000 in
theorem S_X12_termOf_L1B {F : am_F} {K : am_KK} {k : Nat} {R : Nat → am_PT} {v0 : Int} {v1 : Int} {v2 : Int} {C6 : Int → am_M → Prop} {m : am_M} (X : am_Cx F cX12_termOf RX12 (some .long) (2 + (k + 1)) 1 K) (HR : H_X12_sumOf k R) (hp_v0 : am_ob v0 12) (hp_v1 : v1 = 0 ∨ v1 = 1) (hC6 : ∀ w2 m, C6 w2 m → am_Bt m → am_Z F 6 [] [(2, v0), (0, v1), (1, w2), (9, 0), (9, 0), (9, 0), (9, 0)] m 200) (hB : am_Bt m) (h : M_X12_termOf_L1B R v0 v1 v2 C6 K m) : am_Z F 6 [] [(2, v0), (0, v1), (1, v2), (9, 0), (9, 0), (9, 0), (9, 0)] m 200 := by
  have G := X.G
  obtain ⟨HR_X12_sumOf, HR_X12_termOf, HR_X12_partOf⟩ := id HR
  unfold M_X12_termOf_L1B at h
  refine z_aload_n (nx := 7) (a := 0) G rfl (Or.inl rfl) dX12_termOf_6 rfl (z_aload_n (nx := 8) (a := 0) G rfl (Or.inl rfl) dX12_termOf_7 rfl (b_getI (nx := 11) (k0 := 22) (t := 0) G fl_RX12_281 (Nat.le_of_ble_eq_true rfl) (Nat.le_of_ble_eq_true rfl) rfl hp_v0 dX12_termOf_8 rfl ?_))
  refine b_callV0 (nx := 14) (zs := [v0, m v0 22]) (as := [(0, m v0 22)]) X hB (by decide) rfl hp_v0 SS_X12_codeAt (am_ta (am_ti am_tn)) (by omega) (Nat.le_of_ble_eq_true rfl) ml_RX12_284 iw_X12_codeAt vw_X12_codeAt cw_X12_codeAt nw_RX12 pp_X12_codeAt (Nat.le_of_ble_eq_true rfl) dX12_termOf_11 rfl (NM_X12_codeAt hp_v0 h) (fun r_15 m_16 h hB => ?_)
  refine z_bipush (nx := 16) (z := 42) G (R32c rfl) rfl dX12_termOf_14 rfl ?_
  refine b_callS0 (nx := 19) (zs := [42]) (as := [(0, 42)]) X hB SS_X12_sign (am_ti am_tn) (by omega) (Nat.le_of_ble_eq_true rfl) ml_RX12_243 sw_X12_sign (am_plainC 12 (by decide)) cw_X12_sign nw_RX12 pp_X12_sign (Nat.le_of_ble_eq_true rfl) dX12_termOf_16 rfl (NM_X12_sign h) (fun r_17 m_18 h hB => ?_)
  refine z_icmp_eq (nx := 22) (tgt := 54) G dX12_termOf_19 (by decide) rfl (fun c => ?_) (fun c => ?_)
  · have h := h.1 c
    exact b_fewer (loc2 := [(2, v0), (0, v1), (1, v2), (9, 0), (9, 0), (9, 0), (9, 0)]) (am_lk (am_lk (am_lk (am_lk (am_lk (am_lk (am_lk am_ln))))))) (S_X12_termOf_J1 X HR hp_v0 hp_v1 hC6 hB h)
  · have h := h.2 c
    refine z_aload_n (nx := 23) (a := 0) G rfl (Or.inl rfl) dX12_termOf_22 rfl (z_aload_n (nx := 24) (a := 0) G rfl (Or.inl rfl) dX12_termOf_23 rfl (b_getI (nx := 27) (k0 := 22) (t := 0) G fl_RX12_281 (Nat.le_of_ble_eq_true rfl) (Nat.le_of_ble_eq_true rfl) rfl hp_v0 dX12_termOf_24 rfl ?_))
    refine b_callV0 (nx := 30) (zs := [v0, m_18 v0 22]) (as := [(0, m_18 v0 22)]) X hB (by decide) rfl hp_v0 SS_X12_codeAt (am_ta (am_ti am_tn)) (by omega) (Nat.le_of_ble_eq_true rfl) ml_RX12_284 iw_X12_codeAt vw_X12_codeAt cw_X12_codeAt nw_RX12 pp_X12_codeAt (Nat.le_of_ble_eq_true rfl) dX12_termOf_27 rfl (NM_X12_codeAt hp_v0 h) (fun r_19 m_20 h hB => ?_)
    refine z_bipush (nx := 32) (z := 47) G (R32c rfl) rfl dX12_termOf_30 rfl ?_
    refine b_callS0 (nx := 35) (zs := [47]) (as := [(0, 47)]) X hB SS_X12_sign (am_ti am_tn) (by omega) (Nat.le_of_ble_eq_true rfl) ml_RX12_243 sw_X12_sign (am_plainC 12 (by decide)) cw_X12_sign nw_RX12 pp_X12_sign (Nat.le_of_ble_eq_true rfl) dX12_termOf_32 rfl (NM_X12_sign h) (fun r_21 m_22 h hB => ?_)
    refine z_icmp_eq (nx := 38) (tgt := 54) G dX12_termOf_35 (by decide) rfl (fun c => ?_) (fun c => ?_)
    · have h := h.1 c
      exact b_fewer (loc2 := [(2, v0), (0, v1), (1, v2), (9, 0), (9, 0), (9, 0), (9, 0)]) (am_lk (am_lk (am_lk (am_lk (am_lk (am_lk (am_lk am_ln))))))) (S_X12_termOf_J1 X HR hp_v0 hp_v1 hC6 hB h)
    · have h := h.2 c
      refine z_aload_n (nx := 39) (a := 0) G rfl (Or.inl rfl) dX12_termOf_38 rfl (z_aload_n (nx := 40) (a := 0) G rfl (Or.inl rfl) dX12_termOf_39 rfl (b_getI (nx := 43) (k0 := 22) (t := 0) G fl_RX12_281 (Nat.le_of_ble_eq_true rfl) (Nat.le_of_ble_eq_true rfl) rfl hp_v0 dX12_termOf_40 rfl ?_))
      refine b_callV0 (nx := 46) (zs := [v0, m_22 v0 22]) (as := [(0, m_22 v0 22)]) X hB (by decide) rfl hp_v0 SS_X12_codeAt (am_ta (am_ti am_tn)) (by omega) (Nat.le_of_ble_eq_true rfl) ml_RX12_284 iw_X12_codeAt vw_X12_codeAt cw_X12_codeAt nw_RX12 pp_X12_codeAt (Nat.le_of_ble_eq_true rfl) dX12_termOf_43 rfl (NM_X12_codeAt hp_v0 h) (fun r_23 m_24 h hB => ?_)
      refine z_bipush (nx := 48) (z := 37) G (R32c rfl) rfl dX12_termOf_46 rfl ?_
      refine b_callS0 (nx := 51) (zs := [37]) (as := [(0, 37)]) X hB SS_X12_sign (am_ti am_tn) (by omega) (Nat.le_of_ble_eq_true rfl) ml_RX12_243 sw_X12_sign (am_plainC 12 (by decide)) cw_X12_sign nw_RX12 pp_X12_sign (Nat.le_of_ble_eq_true rfl) dX12_termOf_48 rfl (NM_X12_sign h) (fun r_25 m_26 h hB => ?_)
      refine z_icmp_ne (nx := 54) (tgt := 168) G dX12_termOf_51 (by decide) rfl (fun c => ?_) (fun c => ?_)
      · have h := h.1 c
        refine z_lload_n (nx := 169) (a := 2) G rfl dX12_termOf_168 rfl ?_
        exact b_lreturn X hB dX12_termOf_169 h
      · have h := h.2 c
        exact b_fewer (loc2 := [(2, v0), (0, v1), (1, v2), (9, 0), (9, 0), (9, 0), (9, 0)]) (am_lk (am_lk (am_lk (am_lk (am_lk (am_lk (am_lk am_ln))))))) (S_X12_termOf_J1 X HR hp_v0 hp_v1 hC6 hB h)
theorem S_X12_termOf_L1 {F : am_F} {K : am_KK} {k : Nat} {R : Nat → am_PT} {v0 : Int} {v1 : Int} {v2 : Int} {m : am_M} (X : am_Cx F cX12_termOf RX12 (some .long) (2 + (k + 1)) 1 K) (HR : H_X12_sumOf k R) (hp_v0 : am_ob v0 12) (hp_v1 : v1 = 0 ∨ v1 = 1) (hB : am_Bt m) (h : M_X12_termOf_L1 R v0 v1 v2 K m) : am_Z F 6 [] [(2, v0), (0, v1), (1, v2), (9, 0), (9, 0), (9, 0), (9, 0)] m 200 := by
  obtain ⟨I, ⟨j, hj⟩, hI⟩ := h
  have key : ∀ j v2 m, I j v2 m → am_Bt m → am_Z F 6 [] [(2, v0), (0, v1), (1, v2), (9, 0), (9, 0), (9, 0), (9, 0)] m 200 := by
    intro j
    induction j using Nat.strongRecOn with
    | ind j ih =>
      intro v2 m hj hB
      exact S_X12_termOf_L1B X HR hp_v0 hp_v1 (fun v2' m' hc hB' => by
        obtain ⟨j', g1, g2⟩ := hc
        exact ih j' g1 v2' m' g2 hB') hB (hI j v2 m hj)
  exact key j _ _ hj hB
set_option maxRecDepth 20000 in
set_option maxHeartbeats 4000000 in
theorem S_X12_termOf {F : am_F} {K : am_KK} {k : Nat} {R : Nat → am_PT} {v0 : Int} {v1 : Int} {m : am_M} (X : am_Cx F cX12_termOf RX12 (some .long) (2 + (k + 1)) 1 K) (HR : H_X12_sumOf k R) (hp_v0 : am_ob v0 12) (hp_v1 : (v1 = 0 ∨ v1 = 1)) (hB : am_Bt m) (h : M_X12_termOf R v0 v1 K m) : am_Z F 0 [] [(2, v0), (0, v1), (9, 0), (9, 0), (9, 0), (9, 0), (9, 0)] m 200 := by
  have G := X.G
  obtain ⟨HR_X12_sumOf, HR_X12_termOf, HR_X12_partOf⟩ := id HR
  unfold M_X12_termOf at h
  refine z_aload_n (nx := 1) (a := 0) G rfl (Or.inl rfl) dX12_termOf_0 rfl (z_iload_n (nx := 2) (a := 1) G rfl dX12_termOf_1 rfl ?_)
  refine b_callV1 (nx := 5) (zs := [v0, v1]) (as := [(0, v1)]) X hB (by decide) rfl hp_v0 (HR_X12_partOf) (am_ta (am_tz hp_v1 am_tn)) (Nat.le_refl _) (Nat.le_of_ble_eq_true rfl) ml_RX12_302 iw_X12_partOf vw_X12_partOf cw_X12_partOf nw_RX12 pp_X12_partOf (Nat.le_of_ble_eq_true rfl) dX12_termOf_2 rfl h (fun r_27 m_28 h hB => ?_)
  refine b_lstoreE_n (nx := 6) (a := 2) (loc2 := [(2, v0), (0, v1), (1, r_27), (9, 0), (9, 0), (9, 0), (9, 0)]) G rfl (Nat.le_of_ble_eq_true rfl) (am_pl1 rfl (fun h => nomatch h)) (am_nx9 rfl rfl) dX12_termOf_5 rfl ?_
  exact b_fewer (loc2 := [(2, v0), (0, v1), (1, r_27), (9, 0), (9, 0), (9, 0), (9, 0)]) (am_lk (am_lk (am_lk (am_lk (am_lk (am_lk (am_lk am_ln))))))) (S_X12_termOf_L1 X HR hp_v0 hp_v1 hB h)
theorem SR_X12_termOf {k : Nat} {R : Nat → am_PT} (HR : H_X12_sumOf k R) : am_Snd yX12_termOf cX12_termOf 7 (some .long) 0 (2 + (k + 1)) (am_L [2, 5] 1 (N_X12_termOf R)) := by
  refine am_SB (by decide +kernel) (Nat.le_of_ble_eq_true rfl) (fun F zs as K m X ht hB hM => ?_)
  obtain ⟨v0, zs, as, rfl, rfl, hz0, ht⟩ := am_inv ht
  obtain ⟨v1, zs, as, rfl, rfl, hz1, ht⟩ := am_inv ht
  obtain ⟨rfl, rfl⟩ := am_inv0 ht
  obtain ⟨hp_v0, hp_v1, hM⟩ := hM
  exact S_X12_termOf X HR hp_v0 hp_v1 hB hM
set_option maxRecDepth 20000 in
set_option maxHeartbeats 4000000 in
theorem S_X12_partOf_J4 {F : am_F} {K : am_KK} {k : Nat} {R : Nat → am_PT} {v0 : Int} {v2 : Int} {v3 : Int} {m : am_M} (X : am_Cx F cX12_partOf RX12 (some .long) (2 + (k + 1)) 1 K) (HR : H_X12_sumOf k R) (hp_v0 : am_ob v0 12) (hB : am_Bt m) (h : M_X12_partOf_J4 R v0 v2 v3 K m) : am_Z F 112 [] [(2, v0), (9, 0), (0, v2), (0, v3)] m 200 := by
  have G := X.G
  obtain ⟨HR_X12_sumOf, HR_X12_termOf, HR_X12_partOf⟩ := id HR
  unfold M_X12_partOf_J4 at h
  refine z_iload_n (nx := 113) (a := 2) G rfl dX12_partOf_112 rfl (z_bipush (nx := 115) (z := 19) G (R32c rfl) rfl dX12_partOf_113 rfl ?_)
  refine z_icmp_ne (nx := 118) (tgt := 128) G dX12_partOf_115 (by decide) rfl (fun c => ?_) (fun c => ?_)
  · have h := h.1 c
    refine z_aload_n (nx := 129) (a := 0) G rfl (Or.inl rfl) dX12_partOf_128 rfl (b_getA (nx := 132) (k0 := 27) G hB fl_RX12_65 (Nat.le_of_ble_eq_true rfl) (Nat.le_of_ble_eq_true rfl) rfl hp_v0 dX12_partOf_129 rfl (z_iload_n (nx := 133) (a := 3) G rfl dX12_partOf_132 rfl ?_))
    obtain ⟨hb, h⟩ := h
    refine z_iald (nx := 134) G (sh_12_27 _ hp_v0) hb.1 hb.2 dX12_partOf_133 rfl ?_
    refine z_i2l (nx := 135) G dX12_partOf_134 rfl ?_
    exact b_lreturn X hB dX12_partOf_135 h
  · have h := h.2 c
    refine z_aload_n (nx := 119) (a := 0) G rfl (Or.inl rfl) dX12_partOf_118 rfl (b_getA (nx := 122) (k0 := 26) G hB fl_RX12_62 (Nat.le_of_ble_eq_true rfl) (Nat.le_of_ble_eq_true rfl) rfl hp_v0 dX12_partOf_119 rfl (z_iload_n (nx := 123) (a := 3) G rfl dX12_partOf_122 rfl ?_))
    obtain ⟨hb, h⟩ := h
    refine z_iald (nx := 124) G (sh_12_26 _ hp_v0) hb.1 hb.2 dX12_partOf_123 rfl ?_
    refine z_i2l (nx := 125) G dX12_partOf_124 rfl (z_goto (tgt := 135) G dX12_partOf_125 (by decide) ?_)
    exact b_lreturn X hB dX12_partOf_135 h
set_option maxRecDepth 20000 in
set_option maxHeartbeats 4000000 in
theorem S_X12_partOf_J3 {F : am_F} {K : am_KK} {k : Nat} {R : Nat → am_PT} {m : am_M} (X : am_Cx F cX12_partOf RX12 (some .long) (2 + (k + 1)) 1 K) (HR : H_X12_sumOf k R) (hB : am_Bt m) (h : M_X12_partOf_J3 R  K m) : am_Z F 98 [] [(9, 0), (9, 0), (9, 0), (9, 0)] m 200 := by
  have G := X.G
  obtain ⟨HR_X12_sumOf, HR_X12_termOf, HR_X12_partOf⟩ := id HR
  unfold M_X12_partOf_J3 at h
  refine z_lconst (nx := 99) (z := 0) G (R64c rfl) rfl dX12_partOf_98 rfl ?_
  exact b_lreturn X hB dX12_partOf_99 h
set_option maxRecDepth 20000 in
set_option maxHeartbeats 4000000 in
theorem S_X12_partOf_J2 {F : am_F} {K : am_KK} {k : Nat} {R : Nat → am_PT} {v0 : Int} {v1 : Int} {v2 : Int} {v3 : Int} {m : am_M} (X : am_Cx F cX12_partOf RX12 (some .long) (2 + (k + 1)) 1 K) (HR : H_X12_sumOf k R) (hp_v0 : am_ob v0 12) (hp_v1 : v1 = 0 ∨ v1 = 1) (hB : am_Bt m) (h : M_X12_partOf_J2 R v0 v1 v2 v3 K m) : am_Z F 87 [] [(2, v0), (0, v1), (0, v2), (0, v3)] m 200 := by
  have G := X.G
  obtain ⟨HR_X12_sumOf, HR_X12_termOf, HR_X12_partOf⟩ := id HR
  unfold M_X12_partOf_J2 at h
  refine z_iload_n (nx := 88) (a := 1) G rfl dX12_partOf_87 rfl ?_
  refine z_if_eq (nx := 91) (tgt := 98) G dX12_partOf_88 (by decide) rfl (fun c => ?_) (fun c => ?_)
  · have h := h.1 c
    exact b_fewer (loc2 := [(9, 0), (9, 0), (9, 0), (9, 0)]) (am_lf (am_lf (am_lf (am_lf am_ln)))) (S_X12_partOf_J3 X HR hB h)
  · have h := h.2 c
    refine z_aload_n (nx := 92) (a := 0) G rfl (Or.inl rfl) dX12_partOf_91 rfl (b_getI (nx := 95) (k0 := 24) (t := 0) G fl_RX12_291 (Nat.le_of_ble_eq_true rfl) (Nat.le_of_ble_eq_true rfl) rfl hp_v0 dX12_partOf_92 rfl ?_)
    refine z_if_eq (nx := 98) (tgt := 100) G dX12_partOf_95 (by decide) rfl (fun c => ?_) (fun c => ?_)
    · have h := h.1 c
      refine z_iload_n (nx := 101) (a := 2) G rfl dX12_partOf_100 rfl (z_bipush (nx := 103) (z := 19) G (R32c rfl) rfl dX12_partOf_101 rfl ?_)
      refine z_icmp_eq (nx := 106) (tgt := 112) G dX12_partOf_103 (by decide) rfl (fun c => ?_) (fun c => ?_)
      · have h := h.1 c
        exact b_fewer (loc2 := [(2, v0), (9, 0), (0, v2), (0, v3)]) (am_lk (am_lf (am_lk (am_lk am_ln)))) (S_X12_partOf_J4 X HR hp_v0 hB h)
      · have h := h.2 c
        refine z_iload_n (nx := 107) (a := 2) G rfl dX12_partOf_106 rfl (z_bipush (nx := 109) (z := 20) G (R32c rfl) rfl dX12_partOf_107 rfl ?_)
        refine z_icmp_ne (nx := 112) (tgt := 136) G dX12_partOf_109 (by decide) rfl (fun c => ?_) (fun c => ?_)
        · have h := h.1 c
          refine z_iload_n (nx := 137) (a := 2) G rfl dX12_partOf_136 rfl (z_bipush (nx := 139) (z := 50) G (R32c rfl) rfl dX12_partOf_137 rfl ?_)
          refine z_icmp_ne (nx := 142) (tgt := 161) G dX12_partOf_139 (by decide) rfl (fun c => ?_) (fun c => ?_)
          · have h := h.1 c
            refine z_aload_n (nx := 162) (a := 0) G rfl (Or.inl rfl) dX12_partOf_161 rfl (b_getA (nx := 165) (k0 := 25) G hB fl_RX12_59 (Nat.le_of_ble_eq_true rfl) (Nat.le_of_ble_eq_true rfl) rfl hp_v0 dX12_partOf_162 rfl (z_iload_n (nx := 166) (a := 2) G rfl dX12_partOf_165 rfl (z_aload_n (nx := 167) (a := 0) G rfl (Or.inl rfl) dX12_partOf_166 rfl (b_getI (nx := 170) (k0 := 8) (t := 0) G fl_RX12_253 (Nat.le_of_ble_eq_true rfl) (Nat.le_of_ble_eq_true rfl) rfl hp_v0 dX12_partOf_167 rfl (z_isub (nx := 171) G dX12_partOf_170 rfl ?_)))))
            obtain ⟨hb, h⟩ := h
            refine z_iald (nx := 172) G (sh_12_25 _ hp_v0) hb.1 hb.2 dX12_partOf_171 rfl ?_
            refine z_i2l (nx := 173) G dX12_partOf_172 rfl ?_
            exact b_lreturn X hB dX12_partOf_173 h
          · have h := h.2 c
            refine z_aload_n (nx := 143) (a := 0) G rfl (Or.inl rfl) dX12_partOf_142 rfl (b_getA (nx := 146) (k0 := 2) G hB fl_RX12_24 (Nat.le_of_ble_eq_true rfl) (Nat.le_of_ble_eq_true rfl) rfl hp_v0 dX12_partOf_143 rfl (z_sipush (nx := 149) (z := 3177) G (R32c rfl) rfl dX12_partOf_146 rfl (z_aload_n (nx := 150) (a := 0) G rfl (Or.inl rfl) dX12_partOf_149 rfl (b_getI (nx := 153) (k0 := 22) (t := 0) G fl_RX12_281 (Nat.le_of_ble_eq_true rfl) (Nat.le_of_ble_eq_true rfl) rfl hp_v0 dX12_partOf_150 rfl (z_iadd (nx := 154) G dX12_partOf_153 rfl (z_iconst (nx := 155) (z := 1) G (R32c rfl) dX12_partOf_154 rfl (z_isub (nx := 156) G dX12_partOf_155 rfl ?_)))))))
            obtain ⟨hb, h⟩ := h
            refine z_iald (nx := 157) G (sh_12_2 _ hp_v0) hb.1 hb.2 dX12_partOf_156 rfl ?_
            refine z_i2l (nx := 158) G dX12_partOf_157 rfl (z_goto (tgt := 173) G dX12_partOf_158 (by decide) ?_)
            exact b_lreturn X hB dX12_partOf_173 h
        · have h := h.2 c
          exact b_fewer (loc2 := [(2, v0), (9, 0), (0, v2), (0, v3)]) (am_lk (am_lf (am_lk (am_lk am_ln)))) (S_X12_partOf_J4 X HR hp_v0 hB h)
    · have h := h.2 c
      exact b_fewer (loc2 := [(9, 0), (9, 0), (9, 0), (9, 0)]) (am_lf (am_lf (am_lf (am_lf am_ln)))) (S_X12_partOf_J3 X HR hB h)
set_option maxRecDepth 20000 in
set_option maxHeartbeats 4000000 in
theorem S_X12_partOf_J1 {F : am_F} {K : am_KK} {k : Nat} {R : Nat → am_PT} {v0 : Int} {v1 : Int} {v2 : Int} {m : am_M} (X : am_Cx F cX12_partOf RX12 (some .long) (2 + (k + 1)) 1 K) (HR : H_X12_sumOf k R) (hp_v0 : am_ob v0 12) (hp_v1 : v1 = 0 ∨ v1 = 1) (hB : am_Bt m) (h : M_X12_partOf_J1 R v0 v1 v2 K m) : am_Z F 63 [] [(2, v0), (0, v1), (0, v2), (9, 0)] m 200 := by
  have G := X.G
  obtain ⟨HR_X12_sumOf, HR_X12_termOf, HR_X12_partOf⟩ := id HR
  unfold M_X12_partOf_J1 at h
  refine z_aload_n (nx := 64) (a := 0) G rfl (Or.inl rfl) dX12_partOf_63 rfl (b_getA (nx := 67) (k0 := 2) G hB fl_RX12_24 (Nat.le_of_ble_eq_true rfl) (Nat.le_of_ble_eq_true rfl) rfl hp_v0 dX12_partOf_64 rfl (z_sipush (nx := 70) (z := 3177) G (R32c rfl) rfl dX12_partOf_67 rfl (z_aload_n (nx := 71) (a := 0) G rfl (Or.inl rfl) dX12_partOf_70 rfl (b_getI (nx := 74) (k0 := 22) (t := 0) G fl_RX12_281 (Nat.le_of_ble_eq_true rfl) (Nat.le_of_ble_eq_true rfl) rfl hp_v0 dX12_partOf_71 rfl (z_iadd (nx := 75) G dX12_partOf_74 rfl ?_)))))
  obtain ⟨hb, h⟩ := h
  refine z_iald (nx := 76) G (sh_12_2 _ hp_v0) hb.1 hb.2 dX12_partOf_75 rfl ?_
  refine b_store_n (nx := 77) (a := 3) (loc2 := fun v3_1 => [(2, v0), (0, v1), (0, v2), (0, v3_1)]) G (fun _ => rfl) (Nat.le_of_ble_eq_true rfl) (am_pl1 rfl (fun h => nomatch h)) dX12_partOf_76 rfl (fun v3_1 e_v3_1 => ?_)
  have h := h v3_1 e_v3_1
  refine z_aload_n (nx := 78) (a := 0) G rfl (Or.inl rfl) dX12_partOf_77 rfl (z_dup (nx := 79) G (fun h => nomatch h) dX12_partOf_78 rfl (b_getI (nx := 82) (k0 := 22) (t := 0) G fl_RX12_281 (Nat.le_of_ble_eq_true rfl) (Nat.le_of_ble_eq_true rfl) rfl hp_v0 dX12_partOf_79 rfl (z_iconst (nx := 83) (z := 1) G (R32c rfl) dX12_partOf_82 rfl (z_iadd (nx := 84) G dX12_partOf_83 rfl ?_))))
  refine b_put (nx := 87) (k0 := 22) (t := 0) G hB fl_RX12_281 (Nat.le_of_ble_eq_true rfl) (Nat.le_of_ble_eq_true rfl) rfl (fun h => nomatch h) rfl hp_v0 dX12_partOf_84 rfl (fun m_2 e_m_2 hB => ?_)
  have h := h m_2 e_m_2
  exact b_fewer (loc2 := [(2, v0), (0, v1), (0, v2), (0, v3_1)]) (am_lk (am_lk (am_lk (am_lk am_ln)))) (S_X12_partOf_J2 X HR hp_v0 hp_v1 hB h)
set_option maxRecDepth 20000 in
set_option maxHeartbeats 4000000 in
theorem S_X12_partOf {F : am_F} {K : am_KK} {k : Nat} {R : Nat → am_PT} {v0 : Int} {v1 : Int} {m : am_M} (X : am_Cx F cX12_partOf RX12 (some .long) (2 + (k + 1)) 1 K) (HR : H_X12_sumOf k R) (hp_v0 : am_ob v0 12) (hp_v1 : (v1 = 0 ∨ v1 = 1)) (hB : am_Bt m) (h : M_X12_partOf R v0 v1 K m) : am_Z F 0 [] [(2, v0), (0, v1), (9, 0), (9, 0)] m 200 := by
  have G := X.G
  obtain ⟨HR_X12_sumOf, HR_X12_termOf, HR_X12_partOf⟩ := id HR
  unfold M_X12_partOf at h
  refine z_aload_n (nx := 1) (a := 0) G rfl (Or.inl rfl) dX12_partOf_0 rfl (z_bipush (nx := 3) (z := 91) G (R32c rfl) rfl dX12_partOf_1 rfl ?_)
  refine b_callS0 (nx := 6) (zs := [91]) (as := [(0, 91)]) X hB SS_X12_sign (am_ti am_tn) (by omega) (Nat.le_of_ble_eq_true rfl) ml_RX12_243 sw_X12_sign (am_plainC 12 (by decide)) cw_X12_sign nw_RX12 pp_X12_sign (Nat.le_of_ble_eq_true rfl) dX12_partOf_3 rfl (NM_X12_sign h) (fun r_3 m_4 h hB => ?_)
  refine b_callV5 (nx := 9) (zs := [v0, r_3]) (as := [(0, r_3)]) X hB (by decide) rfl hp_v0 SS_X12_passes0 (am_ta (am_ti am_tn)) (by omega) (Nat.le_of_ble_eq_true rfl) ml_RX12_305 iw_X12_passes0 vw_X12_passes0 cw_X12_passes0 nw_RX12 pp_X12_passes0 (Nat.le_of_ble_eq_true rfl) dX12_partOf_6 rfl (NM_X12_passes0 hp_v0 h) (fun r_5 m_6 h h01_7 hB => ?_)
  refine z_if_eq (nx := 12) (tgt := 30) G dX12_partOf_9 (by decide) rfl (fun c => ?_) (fun c => ?_)
  · have h := h.1 c
    refine z_aload_n (nx := 31) (a := 0) G rfl (Or.inl rfl) dX12_partOf_30 rfl (z_aload_n (nx := 32) (a := 0) G rfl (Or.inl rfl) dX12_partOf_31 rfl (b_getI (nx := 35) (k0 := 22) (t := 0) G fl_RX12_281 (Nat.le_of_ble_eq_true rfl) (Nat.le_of_ble_eq_true rfl) rfl hp_v0 dX12_partOf_32 rfl ?_))
    refine b_callV0 (nx := 38) (zs := [v0, m_6 v0 22]) (as := [(0, m_6 v0 22)]) X hB (by decide) rfl hp_v0 SS_X12_codeAt (am_ta (am_ti am_tn)) (by omega) (Nat.le_of_ble_eq_true rfl) ml_RX12_284 iw_X12_codeAt vw_X12_codeAt cw_X12_codeAt nw_RX12 pp_X12_codeAt (Nat.le_of_ble_eq_true rfl) dX12_partOf_35 rfl (NM_X12_codeAt hp_v0 h) (fun r_8 m_9 h hB => ?_)
    refine b_storeE_n (nx := 39) (a := 2) (loc2 := [(2, v0), (0, v1), (0, r_8), (9, 0)]) G rfl (Nat.le_of_ble_eq_true rfl) (am_pl1 rfl (fun h => nomatch h)) dX12_partOf_38 rfl (z_iconst (nx := 40) (z := 0) G (R32c rfl) dX12_partOf_39 rfl (b_storeE_n (nx := 41) (a := 3) (loc2 := [(2, v0), (0, v1), (0, r_8), (0, 0)]) G rfl (Nat.le_of_ble_eq_true rfl) (am_pl1 rfl (fun h => nomatch h)) dX12_partOf_40 rfl (z_aload_n (nx := 42) (a := 0) G rfl (Or.inl rfl) dX12_partOf_41 rfl (z_dup (nx := 43) G (fun h => nomatch h) dX12_partOf_42 rfl (b_getI (nx := 46) (k0 := 22) (t := 0) G fl_RX12_281 (Nat.le_of_ble_eq_true rfl) (Nat.le_of_ble_eq_true rfl) rfl hp_v0 dX12_partOf_43 rfl (z_iconst (nx := 47) (z := 1) G (R32c rfl) dX12_partOf_46 rfl (z_iadd (nx := 48) G dX12_partOf_47 rfl ?_)))))))
    refine b_put (nx := 51) (k0 := 22) (t := 0) G hB fl_RX12_281 (Nat.le_of_ble_eq_true rfl) (Nat.le_of_ble_eq_true rfl) rfl (fun h => nomatch h) rfl hp_v0 dX12_partOf_48 rfl (fun m_10 e_m_10 hB => ?_)
    have h := h m_10 e_m_10
    refine z_iload_n (nx := 52) (a := 2) G rfl dX12_partOf_51 rfl (z_bipush (nx := 54) (z := 19) G (R32c rfl) rfl dX12_partOf_52 rfl ?_)
    refine z_icmp_eq (nx := 57) (tgt := 63) G dX12_partOf_54 (by decide) rfl (fun c => ?_) (fun c => ?_)
    · have h := h.1 c
      exact b_fewer (loc2 := [(2, v0), (0, v1), (0, r_8), (9, 0)]) (am_lk (am_lk (am_lk (am_lf am_ln)))) (S_X12_partOf_J1 X HR hp_v0 hp_v1 hB h)
    · have h := h.2 c
      refine z_iload_n (nx := 58) (a := 2) G rfl dX12_partOf_57 rfl (z_bipush (nx := 60) (z := 20) G (R32c rfl) rfl dX12_partOf_58 rfl ?_)
      refine z_icmp_ne (nx := 63) (tgt := 87) G dX12_partOf_60 (by decide) rfl (fun c => ?_) (fun c => ?_)
      · have h := h.1 c
        exact b_fewer (loc2 := [(2, v0), (0, v1), (0, r_8), (0, 0)]) (am_lk (am_lk (am_lk (am_lk am_ln)))) (S_X12_partOf_J2 X HR hp_v0 hp_v1 hB h)
      · have h := h.2 c
        exact b_fewer (loc2 := [(2, v0), (0, v1), (0, r_8), (9, 0)]) (am_lk (am_lk (am_lk (am_lf am_ln)))) (S_X12_partOf_J1 X HR hp_v0 hp_v1 hB h)
  · have h := h.2 c
    refine z_aload_n (nx := 13) (a := 0) G rfl (Or.inl rfl) dX12_partOf_12 rfl (z_iload_n (nx := 14) (a := 1) G rfl dX12_partOf_13 rfl ?_)
    refine b_callV1 (nx := 17) (zs := [v0, v1]) (as := [(0, v1)]) X hB (by decide) rfl hp_v0 (HR_X12_sumOf) (am_ta (am_tz hp_v1 am_tn)) (Nat.le_refl _) (Nat.le_of_ble_eq_true rfl) ml_RX12_308 iw_X12_sumOf vw_X12_sumOf cw_X12_sumOf nw_RX12 pp_X12_sumOf (Nat.le_of_ble_eq_true rfl) dX12_partOf_14 rfl h (fun r_11 m_12 h hB => ?_)
    refine b_lstoreE_n (nx := 18) (a := 2) (loc2 := [(2, v0), (0, v1), (1, r_11), (9, 0)]) G rfl (Nat.le_of_ble_eq_true rfl) (am_pl1 rfl (fun h => nomatch h)) (am_nx9 rfl rfl) dX12_partOf_17 rfl (z_aload_n (nx := 19) (a := 0) G rfl (Or.inl rfl) dX12_partOf_18 rfl (z_dup (nx := 20) G (fun h => nomatch h) dX12_partOf_19 rfl (b_getI (nx := 23) (k0 := 22) (t := 0) G fl_RX12_281 (Nat.le_of_ble_eq_true rfl) (Nat.le_of_ble_eq_true rfl) rfl hp_v0 dX12_partOf_20 rfl (z_iconst (nx := 24) (z := 1) G (R32c rfl) dX12_partOf_23 rfl (z_iadd (nx := 25) G dX12_partOf_24 rfl ?_)))))
    refine b_put (nx := 28) (k0 := 22) (t := 0) G hB fl_RX12_281 (Nat.le_of_ble_eq_true rfl) (Nat.le_of_ble_eq_true rfl) rfl (fun h => nomatch h) rfl hp_v0 dX12_partOf_25 rfl (fun m_13 e_m_13 hB => ?_)
    have h := h m_13 e_m_13
    refine z_lload_n (nx := 29) (a := 2) G rfl dX12_partOf_28 rfl ?_
    exact b_lreturn X hB dX12_partOf_29 h
theorem SR_X12_partOf {k : Nat} {R : Nat → am_PT} (HR : H_X12_sumOf k R) : am_Snd yX12_partOf cX12_partOf 4 (some .long) 0 (2 + (k + 1)) (am_L [2, 5] 1 (N_X12_partOf R)) := by
  refine am_SB (by decide +kernel) (Nat.le_of_ble_eq_true rfl) (fun F zs as K m X ht hB hM => ?_)
  obtain ⟨v0, zs, as, rfl, rfl, hz0, ht⟩ := am_inv ht
  obtain ⟨v1, zs, as, rfl, rfl, hz1, ht⟩ := am_inv ht
  obtain ⟨rfl, rfl⟩ := am_inv0 ht
  obtain ⟨hp_v0, hp_v1, hM⟩ := hM
  exact S_X12_partOf X HR hp_v0 hp_v1 hB hM
theorem HH_X12_sumOf : ∀ k, H_X12_sumOf k (R_X12_sumOf k) := by
  intro k
  induction k with
  | zero => exact ⟨am_Snd_false, am_Snd_false, am_Snd_false⟩
  | succ k ih => exact ⟨SR_X12_sumOf ih, SR_X12_termOf ih, SR_X12_partOf ih⟩
theorem SS_X12_sumOf : am_Snd yX12_sumOf cX12_sumOf 7 (some .long) 0 303 (am_L [2, 5] 1 (R_X12_sumOf 301 0)) := (HH_X12_sumOf 301).1
theorem SS_X12_termOf : am_Snd yX12_termOf cX12_termOf 7 (some .long) 0 303 (am_L [2, 5] 1 (R_X12_sumOf 301 1)) := (HH_X12_sumOf 301).2.1
theorem SS_X12_partOf : am_Snd yX12_partOf cX12_partOf 4 (some .long) 0 303 (am_L [2, 5] 1 (R_X12_sumOf 301 2)) := (HH_X12_sumOf 301).2.2
def H_X12_testOf (k : Nat) (R : Nat → am_PT) : Prop := am_Snd yX12_testOf cX12_testOf 4 (some .boolean) 0 (303 + k) (am_L [2, 5] 5 (R 0)) ∧ am_Snd yX12_bothOf cX12_bothOf 4 (some .boolean) 0 (303 + k) (am_L [2, 5] 5 (R 1)) ∧ am_Snd yX12_plainOf cX12_plainOf 3 (some .boolean) 0 (303 + k) (am_L [2, 5] 5 (R 2)) ∧ am_Snd yX12_positiveOf cX12_positiveOf 7 (some .boolean) 0 (303 + k) (am_L [2, 5] 5 (R 3))
set_option maxRecDepth 20000 in
set_option maxHeartbeats 4000000 in
theorem S_X12_testOf_J4 {F : am_F} {K : am_KK} {k : Nat} {R : Nat → am_PT} {v0 : Int} {v1 : Int} {s0 : Int} {C6 : Int → am_M → Prop} {m : am_M} (X : am_Cx F cX12_testOf RX12 (some .boolean) (303 + (k + 1)) 5 K) (HR : H_X12_testOf k R) (hp_v0 : am_ob v0 12) (hp_v1 : v1 = 0 ∨ v1 = 1) (hp_s0 : s0 = 0 ∨ s0 = 1) (hC6 : ∀ w2 m, C6 w2 m → am_Bt m → am_Z F 6 [] [(2, v0), (0, v1), (0, w2), (9, 0)] m 200) (hB : am_Bt m) (h : M_X12_testOf_J4 R v0 v1 s0 C6 K m) : am_Z F 45 [(0, s0)] [(2, v0), (0, v1), (9, 0), (9, 0)] m 200 := by
  have G := X.G
  obtain ⟨HR_X12_testOf, HR_X12_bothOf, HR_X12_plainOf, HR_X12_positiveOf⟩ := id HR
  unfold M_X12_testOf_J4 at h
  refine b_storeE_n (nx := 46) (a := 2) (loc2 := [(2, v0), (0, v1), (0, s0), (9, 0)]) G rfl (Nat.le_of_ble_eq_true rfl) (am_pl1 rfl (fun h => nomatch h)) dX12_testOf_45 rfl (z_goto (tgt := 6) G dX12_testOf_46 (by decide) ?_)
  exact b_fewer (loc2 := [(2, v0), (0, v1), (0, s0), (9, 0)]) (am_lk (am_lk (am_lk (am_lk am_ln)))) (hC6 _ _ h hB)
set_option maxRecDepth 20000 in
set_option maxHeartbeats 4000000 in
theorem S_X12_testOf_J3 {F : am_F} {K : am_KK} {k : Nat} {R : Nat → am_PT} {v0 : Int} {v1 : Int} {C6 : Int → am_M → Prop} {m : am_M} (X : am_Cx F cX12_testOf RX12 (some .boolean) (303 + (k + 1)) 5 K) (HR : H_X12_testOf k R) (hp_v0 : am_ob v0 12) (hp_v1 : v1 = 0 ∨ v1 = 1) (hC6 : ∀ w2 m, C6 w2 m → am_Bt m → am_Z F 6 [] [(2, v0), (0, v1), (0, w2), (9, 0)] m 200) (hB : am_Bt m) (h : M_X12_testOf_J3 R v0 v1 C6 K m) : am_Z F 40 [] [(2, v0), (0, v1), (9, 0), (9, 0)] m 200 := by
  have G := X.G
  obtain ⟨HR_X12_testOf, HR_X12_bothOf, HR_X12_plainOf, HR_X12_positiveOf⟩ := id HR
  unfold M_X12_testOf_J3 at h
  refine z_iconst (nx := 41) (z := 1) G (R32c rfl) dX12_testOf_40 rfl (z_goto (tgt := 45) G dX12_testOf_41 (by decide) ?_)
  exact b_fewer (loc2 := [(2, v0), (0, v1), (9, 0), (9, 0)]) (am_lk (am_lk (am_lk (am_lk am_ln)))) (S_X12_testOf_J4 X HR hp_v0 hp_v1 (Or.inr rfl) hC6 hB h)
set_option maxRecDepth 20000 in
set_option maxHeartbeats 4000000 in
theorem S_X12_testOf_J2 {F : am_F} {K : am_KK} {k : Nat} {R : Nat → am_PT} {v0 : Int} {v1 : Int} {v2 : Int} {s0 : Int} {s1 : Int} {C6 : Int → am_M → Prop} {m : am_M} (X : am_Cx F cX12_testOf RX12 (some .boolean) (303 + (k + 1)) 5 K) (HR : H_X12_testOf k R) (hp_v0 : am_ob v0 12) (hp_v1 : v1 = 0 ∨ v1 = 1) (hp_s0 : am_ob s0 12) (hp_s1 : s1 = 0 ∨ s1 = 1) (hC6 : ∀ w2 m, C6 w2 m → am_Bt m → am_Z F 6 [] [(2, v0), (0, v1), (0, w2), (9, 0)] m 200) (hB : am_Bt m) (h : M_X12_testOf_J2 R v0 v1 v2 s0 s1 C6 K m) : am_Z F 28 [(0, s1), (2, s0)] [(2, v0), (0, v1), (0, v2), (9, 0)] m 200 := by
  have G := X.G
  obtain ⟨HR_X12_testOf, HR_X12_bothOf, HR_X12_plainOf, HR_X12_positiveOf⟩ := id HR
  unfold M_X12_testOf_J2 at h
  refine b_callV5 (nx := 31) (zs := [s0, s1]) (as := [(0, s1)]) X hB (by decide) rfl hp_s0 (HR_X12_bothOf) (am_ta (am_tz hp_s1 am_tn)) (Nat.le_refl _) (Nat.le_of_ble_eq_true rfl) ml_RX12_311 iw_X12_bothOf vw_X12_bothOf cw_X12_bothOf nw_RX12 pp_X12_bothOf (Nat.le_of_ble_eq_true rfl) dX12_testOf_28 rfl h (fun r_1 m_2 h h01_3 hB => ?_)
  refine b_storeE_n (nx := 32) (a := 3) (loc2 := [(2, v0), (0, v1), (0, v2), (0, r_1)]) G rfl (Nat.le_of_ble_eq_true rfl) (am_pl1 rfl (fun h => nomatch h)) dX12_testOf_31 rfl (z_iload_n (nx := 33) (a := 2) G rfl dX12_testOf_32 rfl ?_)
  refine z_if_ne (nx := 36) (tgt := 40) G dX12_testOf_33 (by decide) rfl (fun c => ?_) (fun c => ?_)
  · have h := h.1 c
    exact b_fewer (loc2 := [(2, v0), (0, v1), (9, 0), (9, 0)]) (am_lk (am_lk (am_lf (am_lf am_ln)))) (S_X12_testOf_J3 X HR hp_v0 hp_v1 hC6 hB h)
  · have h := h.2 c
    refine z_iload_n (nx := 37) (a := 3) G rfl dX12_testOf_36 rfl ?_
    refine z_if_eq (nx := 40) (tgt := 44) G dX12_testOf_37 (by decide) rfl (fun c => ?_) (fun c => ?_)
    · have h := h.1 c
      refine z_iconst (nx := 45) (z := 0) G (R32c rfl) dX12_testOf_44 rfl ?_
      exact b_fewer (loc2 := [(2, v0), (0, v1), (9, 0), (9, 0)]) (am_lk (am_lk (am_lf (am_lf am_ln)))) (S_X12_testOf_J4 X HR hp_v0 hp_v1 (Or.inl rfl) hC6 hB h)
    · have h := h.2 c
      exact b_fewer (loc2 := [(2, v0), (0, v1), (9, 0), (9, 0)]) (am_lk (am_lk (am_lf (am_lf am_ln)))) (S_X12_testOf_J3 X HR hp_v0 hp_v1 hC6 hB h)
set_option maxRecDepth 20000 in
set_option maxHeartbeats 4000000 in
theorem S_X12_testOf_J1 {F : am_F} {K : am_KK} {k : Nat} {R : Nat → am_PT} {v0 : Int} {v1 : Int} {v2 : Int} {s0 : Int} {C6 : Int → am_M → Prop} {m : am_M} (X : am_Cx F cX12_testOf RX12 (some .boolean) (303 + (k + 1)) 5 K) (HR : H_X12_testOf k R) (hp_v0 : am_ob v0 12) (hp_v1 : v1 = 0 ∨ v1 = 1) (hp_s0 : am_ob s0 12) (hC6 : ∀ w2 m, C6 w2 m → am_Bt m → am_Z F 6 [] [(2, v0), (0, v1), (0, w2), (9, 0)] m 200) (hB : am_Bt m) (h : M_X12_testOf_J1 R v0 v1 v2 s0 C6 K m) : am_Z F 27 [(2, s0)] [(2, v0), (0, v1), (0, v2), (9, 0)] m 200 := by
  have G := X.G
  obtain ⟨HR_X12_testOf, HR_X12_bothOf, HR_X12_plainOf, HR_X12_positiveOf⟩ := id HR
  unfold M_X12_testOf_J1 at h
  refine z_iconst (nx := 28) (z := 0) G (R32c rfl) dX12_testOf_27 rfl ?_
  exact b_fewer (loc2 := [(2, v0), (0, v1), (0, v2), (9, 0)]) (am_lk (am_lk (am_lk (am_lk am_ln)))) (S_X12_testOf_J2 X HR hp_v0 hp_v1 hp_s0 (Or.inl rfl) hC6 hB h)
set_option maxRecDepth 20000 in
set_option maxHeartbeats 4000000 in
theorem S_X12_testOf_L1B {F : am_F} {K : am_KK} {k : Nat} {R : Nat → am_PT} {v0 : Int} {v1 : Int} {v2 : Int} {C6 : Int → am_M → Prop} {m : am_M} (X : am_Cx F cX12_testOf RX12 (some .boolean) (303 + (k + 1)) 5 K) (HR : H_X12_testOf k R) (hp_v0 : am_ob v0 12) (hp_v1 : v1 = 0 ∨ v1 = 1) (hC6 : ∀ w2 m, C6 w2 m → am_Bt m → am_Z F 6 [] [(2, v0), (0, v1), (0, w2), (9, 0)] m 200) (hB : am_Bt m) (h : M_X12_testOf_L1B R v0 v1 v2 C6 K m) : am_Z F 6 [] [(2, v0), (0, v1), (0, v2), (9, 0)] m 200 := by
  have G := X.G
  obtain ⟨HR_X12_testOf, HR_X12_bothOf, HR_X12_plainOf, HR_X12_positiveOf⟩ := id HR
  unfold M_X12_testOf_L1B at h
  refine z_aload_n (nx := 7) (a := 0) G rfl (Or.inl rfl) dX12_testOf_6 rfl (z_iconst (nx := 8) (z := 5) G (R32c rfl) dX12_testOf_7 rfl ?_)
  refine b_callV5 (nx := 11) (zs := [v0, 5]) (as := [(0, 5)]) X hB (by decide) rfl hp_v0 SS_X12_passes0 (am_ta (am_ti am_tn)) (by omega) (Nat.le_of_ble_eq_true rfl) ml_RX12_305 iw_X12_passes0 vw_X12_passes0 cw_X12_passes0 nw_RX12 pp_X12_passes0 (Nat.le_of_ble_eq_true rfl) dX12_testOf_8 rfl (NM_X12_passes0 hp_v0 h) (fun r_4 m_5 h h01_6 hB => ?_)
  refine z_if_eq (nx := 14) (tgt := 49) G dX12_testOf_11 (by decide) rfl (fun c => ?_) (fun c => ?_)
  · have h := h.1 c
    refine z_iload_n (nx := 50) (a := 2) G rfl dX12_testOf_49 rfl ?_
    obtain ⟨hb, h⟩ := h
    exact b_zreturn X hB hb dX12_testOf_50 h
  · have h := h.2 c
    refine z_aload_n (nx := 15) (a := 0) G rfl (Or.inl rfl) dX12_testOf_14 rfl (z_iload_n (nx := 16) (a := 1) G rfl dX12_testOf_15 rfl ?_)
    refine z_if_eq (nx := 19) (tgt := 27) G dX12_testOf_16 (by decide) rfl (fun c => ?_) (fun c => ?_)
    · have h := h.1 c
      exact b_fewer (loc2 := [(2, v0), (0, v1), (0, v2), (9, 0)]) (am_lk (am_lk (am_lk (am_lk am_ln)))) (S_X12_testOf_J1 X HR hp_v0 hp_v1 hp_v0 hC6 hB h)
    · have h := h.2 c
      refine z_iload_n (nx := 20) (a := 2) G rfl dX12_testOf_19 rfl ?_
      refine z_if_ne (nx := 23) (tgt := 27) G dX12_testOf_20 (by decide) rfl (fun c => ?_) (fun c => ?_)
      · have h := h.1 c
        exact b_fewer (loc2 := [(2, v0), (0, v1), (0, v2), (9, 0)]) (am_lk (am_lk (am_lk (am_lk am_ln)))) (S_X12_testOf_J1 X HR hp_v0 hp_v1 hp_v0 hC6 hB h)
      · have h := h.2 c
        refine z_iconst (nx := 24) (z := 1) G (R32c rfl) dX12_testOf_23 rfl (z_goto (tgt := 28) G dX12_testOf_24 (by decide) ?_)
        exact b_fewer (loc2 := [(2, v0), (0, v1), (0, v2), (9, 0)]) (am_lk (am_lk (am_lk (am_lk am_ln)))) (S_X12_testOf_J2 X HR hp_v0 hp_v1 hp_v0 (Or.inr rfl) hC6 hB h)
theorem S_X12_testOf_L1 {F : am_F} {K : am_KK} {k : Nat} {R : Nat → am_PT} {v0 : Int} {v1 : Int} {v2 : Int} {m : am_M} (X : am_Cx F cX12_testOf RX12 (some .boolean) (303 + (k + 1)) 5 K) (HR : H_X12_testOf k R) (hp_v0 : am_ob v0 12) (hp_v1 : v1 = 0 ∨ v1 = 1) (hB : am_Bt m) (h : M_X12_testOf_L1 R v0 v1 v2 K m) : am_Z F 6 [] [(2, v0), (0, v1), (0, v2), (9, 0)] m 200 := by
  obtain ⟨I, ⟨j, hj⟩, hI⟩ := h
  have key : ∀ j v2 m, I j v2 m → am_Bt m → am_Z F 6 [] [(2, v0), (0, v1), (0, v2), (9, 0)] m 200 := by
    intro j
    induction j using Nat.strongRecOn with
    | ind j ih =>
      intro v2 m hj hB
      exact S_X12_testOf_L1B X HR hp_v0 hp_v1 (fun v2' m' hc hB' => by
        obtain ⟨j', g1, g2⟩ := hc
        exact ih j' g1 v2' m' g2 hB') hB (hI j v2 m hj)
  exact key j _ _ hj hB
set_option maxRecDepth 20000 in
set_option maxHeartbeats 4000000 in
theorem S_X12_testOf {F : am_F} {K : am_KK} {k : Nat} {R : Nat → am_PT} {v0 : Int} {v1 : Int} {m : am_M} (X : am_Cx F cX12_testOf RX12 (some .boolean) (303 + (k + 1)) 5 K) (HR : H_X12_testOf k R) (hp_v0 : am_ob v0 12) (hp_v1 : (v1 = 0 ∨ v1 = 1)) (hB : am_Bt m) (h : M_X12_testOf R v0 v1 K m) : am_Z F 0 [] [(2, v0), (0, v1), (9, 0), (9, 0)] m 200 := by
  have G := X.G
  obtain ⟨HR_X12_testOf, HR_X12_bothOf, HR_X12_plainOf, HR_X12_positiveOf⟩ := id HR
  unfold M_X12_testOf at h
  refine z_aload_n (nx := 1) (a := 0) G rfl (Or.inl rfl) dX12_testOf_0 rfl (z_iload_n (nx := 2) (a := 1) G rfl dX12_testOf_1 rfl ?_)
  refine b_callV5 (nx := 5) (zs := [v0, v1]) (as := [(0, v1)]) X hB (by decide) rfl hp_v0 (HR_X12_bothOf) (am_ta (am_tz hp_v1 am_tn)) (Nat.le_refl _) (Nat.le_of_ble_eq_true rfl) ml_RX12_311 iw_X12_bothOf vw_X12_bothOf cw_X12_bothOf nw_RX12 pp_X12_bothOf (Nat.le_of_ble_eq_true rfl) dX12_testOf_2 rfl h (fun r_7 m_8 h h01_9 hB => ?_)
  refine b_storeE_n (nx := 6) (a := 2) (loc2 := [(2, v0), (0, v1), (0, r_7), (9, 0)]) G rfl (Nat.le_of_ble_eq_true rfl) (am_pl1 rfl (fun h => nomatch h)) dX12_testOf_5 rfl ?_
  exact b_fewer (loc2 := [(2, v0), (0, v1), (0, r_7), (9, 0)]) (am_lk (am_lk (am_lk (am_lk am_ln)))) (S_X12_testOf_L1 X HR hp_v0 hp_v1 hB h)
theorem SR_X12_testOf {k : Nat} {R : Nat → am_PT} (HR : H_X12_testOf k R) : am_Snd yX12_testOf cX12_testOf 4 (some .boolean) 0 (303 + (k + 1)) (am_L [2, 5] 5 (N_X12_testOf R)) := by
  refine am_SB (by decide +kernel) (Nat.le_of_ble_eq_true rfl) (fun F zs as K m X ht hB hM => ?_)
  obtain ⟨v0, zs, as, rfl, rfl, hz0, ht⟩ := am_inv ht
  obtain ⟨v1, zs, as, rfl, rfl, hz1, ht⟩ := am_inv ht
  obtain ⟨rfl, rfl⟩ := am_inv0 ht
  obtain ⟨hp_v0, hp_v1, hM⟩ := hM
  exact S_X12_testOf X HR hp_v0 hp_v1 hB hM
set_option maxRecDepth 20000 in
set_option maxHeartbeats 4000000 in
theorem S_X12_bothOf_J4 {F : am_F} {K : am_KK} {k : Nat} {R : Nat → am_PT} {v0 : Int} {v1 : Int} {s0 : Int} {C6 : Int → am_M → Prop} {m : am_M} (X : am_Cx F cX12_bothOf RX12 (some .boolean) (303 + (k + 1)) 5 K) (HR : H_X12_testOf k R) (hp_v0 : am_ob v0 12) (hp_v1 : v1 = 0 ∨ v1 = 1) (hp_s0 : s0 = 0 ∨ s0 = 1) (hC6 : ∀ w2 m, C6 w2 m → am_Bt m → am_Z F 6 [] [(2, v0), (0, v1), (0, w2), (9, 0)] m 200) (hB : am_Bt m) (h : M_X12_bothOf_J4 R v0 v1 s0 C6 K m) : am_Z F 46 [(0, s0)] [(2, v0), (0, v1), (9, 0), (9, 0)] m 200 := by
  have G := X.G
  obtain ⟨HR_X12_testOf, HR_X12_bothOf, HR_X12_plainOf, HR_X12_positiveOf⟩ := id HR
  unfold M_X12_bothOf_J4 at h
  refine b_storeE_n (nx := 47) (a := 2) (loc2 := [(2, v0), (0, v1), (0, s0), (9, 0)]) G rfl (Nat.le_of_ble_eq_true rfl) (am_pl1 rfl (fun h => nomatch h)) dX12_bothOf_46 rfl (z_goto (tgt := 6) G dX12_bothOf_47 (by decide) ?_)
  exact b_fewer (loc2 := [(2, v0), (0, v1), (0, s0), (9, 0)]) (am_lk (am_lk (am_lk (am_lk am_ln)))) (hC6 _ _ h hB)
set_option maxRecDepth 20000 in
set_option maxHeartbeats 4000000 in
theorem S_X12_bothOf_J3 {F : am_F} {K : am_KK} {k : Nat} {R : Nat → am_PT} {v0 : Int} {v1 : Int} {C6 : Int → am_M → Prop} {m : am_M} (X : am_Cx F cX12_bothOf RX12 (some .boolean) (303 + (k + 1)) 5 K) (HR : H_X12_testOf k R) (hp_v0 : am_ob v0 12) (hp_v1 : v1 = 0 ∨ v1 = 1) (hC6 : ∀ w2 m, C6 w2 m → am_Bt m → am_Z F 6 [] [(2, v0), (0, v1), (0, w2), (9, 0)] m 200) (hB : am_Bt m) (h : M_X12_bothOf_J3 R v0 v1 C6 K m) : am_Z F 45 [] [(2, v0), (0, v1), (9, 0), (9, 0)] m 200 := by
  have G := X.G
  obtain ⟨HR_X12_testOf, HR_X12_bothOf, HR_X12_plainOf, HR_X12_positiveOf⟩ := id HR
  unfold M_X12_bothOf_J3 at h
  refine z_iconst (nx := 46) (z := 0) G (R32c rfl) dX12_bothOf_45 rfl ?_
  exact b_fewer (loc2 := [(2, v0), (0, v1), (9, 0), (9, 0)]) (am_lk (am_lk (am_lk (am_lk am_ln)))) (S_X12_bothOf_J4 X HR hp_v0 hp_v1 (Or.inl rfl) hC6 hB h)
set_option maxRecDepth 20000 in
set_option maxHeartbeats 4000000 in
theorem S_X12_bothOf_J2 {F : am_F} {K : am_KK} {k : Nat} {R : Nat → am_PT} {v0 : Int} {v1 : Int} {v2 : Int} {s0 : Int} {s1 : Int} {C6 : Int → am_M → Prop} {m : am_M} (X : am_Cx F cX12_bothOf RX12 (some .boolean) (303 + (k + 1)) 5 K) (HR : H_X12_testOf k R) (hp_v0 : am_ob v0 12) (hp_v1 : v1 = 0 ∨ v1 = 1) (hp_s0 : am_ob s0 12) (hp_s1 : s1 = 0 ∨ s1 = 1) (hC6 : ∀ w2 m, C6 w2 m → am_Bt m → am_Z F 6 [] [(2, v0), (0, v1), (0, w2), (9, 0)] m 200) (hB : am_Bt m) (h : M_X12_bothOf_J2 R v0 v1 v2 s0 s1 C6 K m) : am_Z F 29 [(0, s1), (2, s0)] [(2, v0), (0, v1), (0, v2), (9, 0)] m 200 := by
  have G := X.G
  obtain ⟨HR_X12_testOf, HR_X12_bothOf, HR_X12_plainOf, HR_X12_positiveOf⟩ := id HR
  unfold M_X12_bothOf_J2 at h
  refine b_callV5 (nx := 32) (zs := [s0, s1]) (as := [(0, s1)]) X hB (by decide) rfl hp_s0 (HR_X12_plainOf) (am_ta (am_tz hp_s1 am_tn)) (Nat.le_refl _) (Nat.le_of_ble_eq_true rfl) ml_RX12_314 iw_X12_plainOf vw_X12_plainOf cw_X12_plainOf nw_RX12 pp_X12_plainOf (Nat.le_of_ble_eq_true rfl) dX12_bothOf_29 rfl h (fun r_1 m_2 h h01_3 hB => ?_)
  refine b_storeE_n (nx := 33) (a := 3) (loc2 := [(2, v0), (0, v1), (0, v2), (0, r_1)]) G rfl (Nat.le_of_ble_eq_true rfl) (am_pl1 rfl (fun h => nomatch h)) dX12_bothOf_32 rfl (z_iload_n (nx := 34) (a := 2) G rfl dX12_bothOf_33 rfl ?_)
  refine z_if_eq (nx := 37) (tgt := 45) G dX12_bothOf_34 (by decide) rfl (fun c => ?_) (fun c => ?_)
  · have h := h.1 c
    exact b_fewer (loc2 := [(2, v0), (0, v1), (9, 0), (9, 0)]) (am_lk (am_lk (am_lf (am_lf am_ln)))) (S_X12_bothOf_J3 X HR hp_v0 hp_v1 hC6 hB h)
  · have h := h.2 c
    refine z_iload_n (nx := 38) (a := 3) G rfl dX12_bothOf_37 rfl ?_
    refine z_if_eq (nx := 41) (tgt := 45) G dX12_bothOf_38 (by decide) rfl (fun c => ?_) (fun c => ?_)
    · have h := h.1 c
      exact b_fewer (loc2 := [(2, v0), (0, v1), (9, 0), (9, 0)]) (am_lk (am_lk (am_lf (am_lf am_ln)))) (S_X12_bothOf_J3 X HR hp_v0 hp_v1 hC6 hB h)
    · have h := h.2 c
      refine z_iconst (nx := 42) (z := 1) G (R32c rfl) dX12_bothOf_41 rfl (z_goto (tgt := 46) G dX12_bothOf_42 (by decide) ?_)
      exact b_fewer (loc2 := [(2, v0), (0, v1), (9, 0), (9, 0)]) (am_lk (am_lk (am_lf (am_lf am_ln)))) (S_X12_bothOf_J4 X HR hp_v0 hp_v1 (Or.inr rfl) hC6 hB h)
set_option maxRecDepth 20000 in
set_option maxHeartbeats 4000000 in
theorem S_X12_bothOf_J1 {F : am_F} {K : am_KK} {k : Nat} {R : Nat → am_PT} {v0 : Int} {v1 : Int} {v2 : Int} {s0 : Int} {C6 : Int → am_M → Prop} {m : am_M} (X : am_Cx F cX12_bothOf RX12 (some .boolean) (303 + (k + 1)) 5 K) (HR : H_X12_testOf k R) (hp_v0 : am_ob v0 12) (hp_v1 : v1 = 0 ∨ v1 = 1) (hp_s0 : am_ob s0 12) (hC6 : ∀ w2 m, C6 w2 m → am_Bt m → am_Z F 6 [] [(2, v0), (0, v1), (0, w2), (9, 0)] m 200) (hB : am_Bt m) (h : M_X12_bothOf_J1 R v0 v1 v2 s0 C6 K m) : am_Z F 28 [(2, s0)] [(2, v0), (0, v1), (0, v2), (9, 0)] m 200 := by
  have G := X.G
  obtain ⟨HR_X12_testOf, HR_X12_bothOf, HR_X12_plainOf, HR_X12_positiveOf⟩ := id HR
  unfold M_X12_bothOf_J1 at h
  refine z_iconst (nx := 29) (z := 0) G (R32c rfl) dX12_bothOf_28 rfl ?_
  exact b_fewer (loc2 := [(2, v0), (0, v1), (0, v2), (9, 0)]) (am_lk (am_lk (am_lk (am_lk am_ln)))) (S_X12_bothOf_J2 X HR hp_v0 hp_v1 hp_s0 (Or.inl rfl) hC6 hB h)
set_option maxRecDepth 20000 in
set_option maxHeartbeats 4000000 in
theorem S_X12_bothOf_L1B {F : am_F} {K : am_KK} {k : Nat} {R : Nat → am_PT} {v0 : Int} {v1 : Int} {v2 : Int} {C6 : Int → am_M → Prop} {m : am_M} (X : am_Cx F cX12_bothOf RX12 (some .boolean) (303 + (k + 1)) 5 K) (HR : H_X12_testOf k R) (hp_v0 : am_ob v0 12) (hp_v1 : v1 = 0 ∨ v1 = 1) (hC6 : ∀ w2 m, C6 w2 m → am_Bt m → am_Z F 6 [] [(2, v0), (0, v1), (0, w2), (9, 0)] m 200) (hB : am_Bt m) (h : M_X12_bothOf_L1B R v0 v1 v2 C6 K m) : am_Z F 6 [] [(2, v0), (0, v1), (0, v2), (9, 0)] m 200 := by
  have G := X.G
  obtain ⟨HR_X12_testOf, HR_X12_bothOf, HR_X12_plainOf, HR_X12_positiveOf⟩ := id HR
  unfold M_X12_bothOf_L1B at h
  refine z_aload_n (nx := 7) (a := 0) G rfl (Or.inl rfl) dX12_bothOf_6 rfl (z_bipush (nx := 9) (z := 6) G (R32c rfl) rfl dX12_bothOf_7 rfl ?_)
  refine b_callV5 (nx := 12) (zs := [v0, 6]) (as := [(0, 6)]) X hB (by decide) rfl hp_v0 SS_X12_passes0 (am_ta (am_ti am_tn)) (by omega) (Nat.le_of_ble_eq_true rfl) ml_RX12_305 iw_X12_passes0 vw_X12_passes0 cw_X12_passes0 nw_RX12 pp_X12_passes0 (Nat.le_of_ble_eq_true rfl) dX12_bothOf_9 rfl (NM_X12_passes0 hp_v0 h) (fun r_4 m_5 h h01_6 hB => ?_)
  refine z_if_eq (nx := 15) (tgt := 50) G dX12_bothOf_12 (by decide) rfl (fun c => ?_) (fun c => ?_)
  · have h := h.1 c
    refine z_iload_n (nx := 51) (a := 2) G rfl dX12_bothOf_50 rfl ?_
    obtain ⟨hb, h⟩ := h
    exact b_zreturn X hB hb dX12_bothOf_51 h
  · have h := h.2 c
    refine z_aload_n (nx := 16) (a := 0) G rfl (Or.inl rfl) dX12_bothOf_15 rfl (z_iload_n (nx := 17) (a := 1) G rfl dX12_bothOf_16 rfl ?_)
    refine z_if_eq (nx := 20) (tgt := 28) G dX12_bothOf_17 (by decide) rfl (fun c => ?_) (fun c => ?_)
    · have h := h.1 c
      exact b_fewer (loc2 := [(2, v0), (0, v1), (0, v2), (9, 0)]) (am_lk (am_lk (am_lk (am_lk am_ln)))) (S_X12_bothOf_J1 X HR hp_v0 hp_v1 hp_v0 hC6 hB h)
    · have h := h.2 c
      refine z_iload_n (nx := 21) (a := 2) G rfl dX12_bothOf_20 rfl ?_
      refine z_if_eq (nx := 24) (tgt := 28) G dX12_bothOf_21 (by decide) rfl (fun c => ?_) (fun c => ?_)
      · have h := h.1 c
        exact b_fewer (loc2 := [(2, v0), (0, v1), (0, v2), (9, 0)]) (am_lk (am_lk (am_lk (am_lk am_ln)))) (S_X12_bothOf_J1 X HR hp_v0 hp_v1 hp_v0 hC6 hB h)
      · have h := h.2 c
        refine z_iconst (nx := 25) (z := 1) G (R32c rfl) dX12_bothOf_24 rfl (z_goto (tgt := 29) G dX12_bothOf_25 (by decide) ?_)
        exact b_fewer (loc2 := [(2, v0), (0, v1), (0, v2), (9, 0)]) (am_lk (am_lk (am_lk (am_lk am_ln)))) (S_X12_bothOf_J2 X HR hp_v0 hp_v1 hp_v0 (Or.inr rfl) hC6 hB h)
theorem S_X12_bothOf_L1 {F : am_F} {K : am_KK} {k : Nat} {R : Nat → am_PT} {v0 : Int} {v1 : Int} {v2 : Int} {m : am_M} (X : am_Cx F cX12_bothOf RX12 (some .boolean) (303 + (k + 1)) 5 K) (HR : H_X12_testOf k R) (hp_v0 : am_ob v0 12) (hp_v1 : v1 = 0 ∨ v1 = 1) (hB : am_Bt m) (h : M_X12_bothOf_L1 R v0 v1 v2 K m) : am_Z F 6 [] [(2, v0), (0, v1), (0, v2), (9, 0)] m 200 := by
  obtain ⟨I, ⟨j, hj⟩, hI⟩ := h
  have key : ∀ j v2 m, I j v2 m → am_Bt m → am_Z F 6 [] [(2, v0), (0, v1), (0, v2), (9, 0)] m 200 := by
    intro j
    induction j using Nat.strongRecOn with
    | ind j ih =>
      intro v2 m hj hB
      exact S_X12_bothOf_L1B X HR hp_v0 hp_v1 (fun v2' m' hc hB' => by
        obtain ⟨j', g1, g2⟩ := hc
        exact ih j' g1 v2' m' g2 hB') hB (hI j v2 m hj)
  exact key j _ _ hj hB
set_option maxRecDepth 20000 in
set_option maxHeartbeats 4000000 in
theorem S_X12_bothOf {F : am_F} {K : am_KK} {k : Nat} {R : Nat → am_PT} {v0 : Int} {v1 : Int} {m : am_M} (X : am_Cx F cX12_bothOf RX12 (some .boolean) (303 + (k + 1)) 5 K) (HR : H_X12_testOf k R) (hp_v0 : am_ob v0 12) (hp_v1 : (v1 = 0 ∨ v1 = 1)) (hB : am_Bt m) (h : M_X12_bothOf R v0 v1 K m) : am_Z F 0 [] [(2, v0), (0, v1), (9, 0), (9, 0)] m 200 := by
  have G := X.G
  obtain ⟨HR_X12_testOf, HR_X12_bothOf, HR_X12_plainOf, HR_X12_positiveOf⟩ := id HR
  unfold M_X12_bothOf at h
  refine z_aload_n (nx := 1) (a := 0) G rfl (Or.inl rfl) dX12_bothOf_0 rfl (z_iload_n (nx := 2) (a := 1) G rfl dX12_bothOf_1 rfl ?_)
  refine b_callV5 (nx := 5) (zs := [v0, v1]) (as := [(0, v1)]) X hB (by decide) rfl hp_v0 (HR_X12_plainOf) (am_ta (am_tz hp_v1 am_tn)) (Nat.le_refl _) (Nat.le_of_ble_eq_true rfl) ml_RX12_314 iw_X12_plainOf vw_X12_plainOf cw_X12_plainOf nw_RX12 pp_X12_plainOf (Nat.le_of_ble_eq_true rfl) dX12_bothOf_2 rfl h (fun r_7 m_8 h h01_9 hB => ?_)
  refine b_storeE_n (nx := 6) (a := 2) (loc2 := [(2, v0), (0, v1), (0, r_7), (9, 0)]) G rfl (Nat.le_of_ble_eq_true rfl) (am_pl1 rfl (fun h => nomatch h)) dX12_bothOf_5 rfl ?_
  exact b_fewer (loc2 := [(2, v0), (0, v1), (0, r_7), (9, 0)]) (am_lk (am_lk (am_lk (am_lk am_ln)))) (S_X12_bothOf_L1 X HR hp_v0 hp_v1 hB h)
theorem SR_X12_bothOf {k : Nat} {R : Nat → am_PT} (HR : H_X12_testOf k R) : am_Snd yX12_bothOf cX12_bothOf 4 (some .boolean) 0 (303 + (k + 1)) (am_L [2, 5] 5 (N_X12_bothOf R)) := by
  refine am_SB (by decide +kernel) (Nat.le_of_ble_eq_true rfl) (fun F zs as K m X ht hB hM => ?_)
  obtain ⟨v0, zs, as, rfl, rfl, hz0, ht⟩ := am_inv ht
  obtain ⟨v1, zs, as, rfl, rfl, hz1, ht⟩ := am_inv ht
  obtain ⟨rfl, rfl⟩ := am_inv0 ht
  obtain ⟨hp_v0, hp_v1, hM⟩ := hM
  exact S_X12_bothOf X HR hp_v0 hp_v1 hB hM
set_option maxRecDepth 20000 in
set_option maxHeartbeats 4000000 in
theorem S_X12_plainOf_J1 {F : am_F} {K : am_KK} {k : Nat} {R : Nat → am_PT} {v0 : Int} {v1 : Int} {s0 : Int} {C2 : Int → am_M → Prop} {m : am_M} (X : am_Cx F cX12_plainOf RX12 (some .boolean) (303 + (k + 1)) 5 K) (HR : H_X12_testOf k R) (hp_v0 : am_ob v0 12) (hp_v1 : v1 = 0 ∨ v1 = 1) (hp_s0 : s0 = 0 ∨ s0 = 1) (hC2 : ∀ w2 m, C2 w2 m → am_Bt m → am_Z F 2 [] [(2, v0), (0, v1), (0, w2)] m 200) (hB : am_Bt m) (h : M_X12_plainOf_J1 R v0 v1 s0 C2 K m) : am_Z F 20 [(0, s0)] [(2, v0), (0, v1), (9, 0)] m 200 := by
  have G := X.G
  obtain ⟨HR_X12_testOf, HR_X12_bothOf, HR_X12_plainOf, HR_X12_positiveOf⟩ := id HR
  unfold M_X12_plainOf_J1 at h
  refine b_storeE_n (nx := 21) (a := 2) (loc2 := [(2, v0), (0, v1), (0, s0)]) G rfl (Nat.le_of_ble_eq_true rfl) (am_pl1 rfl (fun h => nomatch h)) dX12_plainOf_20 rfl (z_goto (tgt := 2) G dX12_plainOf_21 (by decide) ?_)
  exact b_fewer (loc2 := [(2, v0), (0, v1), (0, s0)]) (am_lk (am_lk (am_lk am_ln))) (hC2 _ _ h hB)
set_option maxRecDepth 20000 in
set_option maxHeartbeats 4000000 in
theorem S_X12_plainOf_L1B {F : am_F} {K : am_KK} {k : Nat} {R : Nat → am_PT} {v0 : Int} {v1 : Int} {v2 : Int} {C2 : Int → am_M → Prop} {m : am_M} (X : am_Cx F cX12_plainOf RX12 (some .boolean) (303 + (k + 1)) 5 K) (HR : H_X12_testOf k R) (hp_v0 : am_ob v0 12) (hp_v1 : v1 = 0 ∨ v1 = 1) (hC2 : ∀ w2 m, C2 w2 m → am_Bt m → am_Z F 2 [] [(2, v0), (0, v1), (0, w2)] m 200) (hB : am_Bt m) (h : M_X12_plainOf_L1B R v0 v1 v2 C2 K m) : am_Z F 2 [] [(2, v0), (0, v1), (0, v2)] m 200 := by
  have G := X.G
  obtain ⟨HR_X12_testOf, HR_X12_bothOf, HR_X12_plainOf, HR_X12_positiveOf⟩ := id HR
  unfold M_X12_plainOf_L1B at h
  refine z_aload_n (nx := 3) (a := 0) G rfl (Or.inl rfl) dX12_plainOf_2 rfl (z_bipush (nx := 5) (z := 7) G (R32c rfl) rfl dX12_plainOf_3 rfl ?_)
  refine b_callV5 (nx := 8) (zs := [v0, 7]) (as := [(0, 7)]) X hB (by decide) rfl hp_v0 SS_X12_passes0 (am_ta (am_ti am_tn)) (by omega) (Nat.le_of_ble_eq_true rfl) ml_RX12_305 iw_X12_passes0 vw_X12_passes0 cw_X12_passes0 nw_RX12 pp_X12_passes0 (Nat.le_of_ble_eq_true rfl) dX12_plainOf_5 rfl (NM_X12_passes0 hp_v0 h) (fun r_1 m_2 h h01_3 hB => ?_)
  refine z_if_eq (nx := 11) (tgt := 24) G dX12_plainOf_8 (by decide) rfl (fun c => ?_) (fun c => ?_)
  · have h := h.1 c
    refine z_aload_n (nx := 25) (a := 0) G rfl (Or.inl rfl) dX12_plainOf_24 rfl (z_iload_n (nx := 26) (a := 1) G rfl dX12_plainOf_25 rfl ?_)
    refine b_callV5 (nx := 29) (zs := [v0, v1]) (as := [(0, v1)]) X hB (by decide) rfl hp_v0 (HR_X12_positiveOf) (am_ta (am_tz hp_v1 am_tn)) (Nat.le_refl _) (Nat.le_of_ble_eq_true rfl) ml_RX12_317 iw_X12_positiveOf vw_X12_positiveOf cw_X12_positiveOf nw_RX12 pp_X12_positiveOf (Nat.le_of_ble_eq_true rfl) dX12_plainOf_26 rfl h (fun r_4 m_5 h h01_6 hB => ?_)
    refine z_iload_n (nx := 30) (a := 2) G rfl dX12_plainOf_29 rfl ?_
    refine z_icmp_eq (nx := 33) (tgt := 37) G dX12_plainOf_30 (by decide) rfl (fun c => ?_) (fun c => ?_)
    · have h := h.1 c
      refine z_iconst (nx := 38) (z := 0) G (R32c rfl) dX12_plainOf_37 rfl ?_
      exact b_zreturn X hB (Or.inl rfl) dX12_plainOf_38 h
    · have h := h.2 c
      refine z_iconst (nx := 34) (z := 1) G (R32c rfl) dX12_plainOf_33 rfl (z_goto (tgt := 38) G dX12_plainOf_34 (by decide) ?_)
      exact b_zreturn X hB (Or.inr rfl) dX12_plainOf_38 h
  · have h := h.2 c
    refine z_iload_n (nx := 12) (a := 2) G rfl dX12_plainOf_11 rfl ?_
    refine z_if_ne (nx := 15) (tgt := 19) G dX12_plainOf_12 (by decide) rfl (fun c => ?_) (fun c => ?_)
    · have h := h.1 c
      refine z_iconst (nx := 20) (z := 0) G (R32c rfl) dX12_plainOf_19 rfl ?_
      exact b_fewer (loc2 := [(2, v0), (0, v1), (9, 0)]) (am_lk (am_lk (am_lf am_ln))) (S_X12_plainOf_J1 X HR hp_v0 hp_v1 (Or.inl rfl) hC2 hB h)
    · have h := h.2 c
      refine z_iconst (nx := 16) (z := 1) G (R32c rfl) dX12_plainOf_15 rfl (z_goto (tgt := 20) G dX12_plainOf_16 (by decide) ?_)
      exact b_fewer (loc2 := [(2, v0), (0, v1), (9, 0)]) (am_lk (am_lk (am_lf am_ln))) (S_X12_plainOf_J1 X HR hp_v0 hp_v1 (Or.inr rfl) hC2 hB h)
theorem S_X12_plainOf_L1 {F : am_F} {K : am_KK} {k : Nat} {R : Nat → am_PT} {v0 : Int} {v1 : Int} {v2 : Int} {m : am_M} (X : am_Cx F cX12_plainOf RX12 (some .boolean) (303 + (k + 1)) 5 K) (HR : H_X12_testOf k R) (hp_v0 : am_ob v0 12) (hp_v1 : v1 = 0 ∨ v1 = 1) (hB : am_Bt m) (h : M_X12_plainOf_L1 R v0 v1 v2 K m) : am_Z F 2 [] [(2, v0), (0, v1), (0, v2)] m 200 := by
  obtain ⟨I, ⟨j, hj⟩, hI⟩ := h
  have key : ∀ j v2 m, I j v2 m → am_Bt m → am_Z F 2 [] [(2, v0), (0, v1), (0, v2)] m 200 := by
    intro j
    induction j using Nat.strongRecOn with
    | ind j ih =>
      intro v2 m hj hB
      exact S_X12_plainOf_L1B X HR hp_v0 hp_v1 (fun v2' m' hc hB' => by
        obtain ⟨j', g1, g2⟩ := hc
        exact ih j' g1 v2' m' g2 hB') hB (hI j v2 m hj)
  exact key j _ _ hj hB
set_option maxRecDepth 20000 in
set_option maxHeartbeats 4000000 in
theorem S_X12_plainOf {F : am_F} {K : am_KK} {k : Nat} {R : Nat → am_PT} {v0 : Int} {v1 : Int} {m : am_M} (X : am_Cx F cX12_plainOf RX12 (some .boolean) (303 + (k + 1)) 5 K) (HR : H_X12_testOf k R) (hp_v0 : am_ob v0 12) (hp_v1 : (v1 = 0 ∨ v1 = 1)) (hB : am_Bt m) (h : M_X12_plainOf R v0 v1 K m) : am_Z F 0 [] [(2, v0), (0, v1), (9, 0)] m 200 := by
  have G := X.G
  obtain ⟨HR_X12_testOf, HR_X12_bothOf, HR_X12_plainOf, HR_X12_positiveOf⟩ := id HR
  unfold M_X12_plainOf at h
  refine z_iconst (nx := 1) (z := 0) G (R32c rfl) dX12_plainOf_0 rfl (b_storeE_n (nx := 2) (a := 2) (loc2 := [(2, v0), (0, v1), (0, 0)]) G rfl (Nat.le_of_ble_eq_true rfl) (am_pl1 rfl (fun h => nomatch h)) dX12_plainOf_1 rfl ?_)
  exact b_fewer (loc2 := [(2, v0), (0, v1), (0, 0)]) (am_lk (am_lk (am_lk am_ln))) (S_X12_plainOf_L1 X HR hp_v0 hp_v1 hB h)
theorem SR_X12_plainOf {k : Nat} {R : Nat → am_PT} (HR : H_X12_testOf k R) : am_Snd yX12_plainOf cX12_plainOf 3 (some .boolean) 0 (303 + (k + 1)) (am_L [2, 5] 5 (N_X12_plainOf R)) := by
  refine am_SB (by decide +kernel) (Nat.le_of_ble_eq_true rfl) (fun F zs as K m X ht hB hM => ?_)
  obtain ⟨v0, zs, as, rfl, rfl, hz0, ht⟩ := am_inv ht
  obtain ⟨v1, zs, as, rfl, rfl, hz1, ht⟩ := am_inv ht
  obtain ⟨rfl, rfl⟩ := am_inv0 ht
  obtain ⟨hp_v0, hp_v1, hM⟩ := hM
  exact S_X12_plainOf X HR hp_v0 hp_v1 hB hM
set_option maxRecDepth 20000 in
set_option maxHeartbeats 4000000 in
theorem S_X12_positiveOf {F : am_F} {K : am_KK} {k : Nat} {R : Nat → am_PT} {v0 : Int} {v1 : Int} {m : am_M} (X : am_Cx F cX12_positiveOf RX12 (some .boolean) (303 + (k + 1)) 5 K) (HR : H_X12_testOf k R) (hp_v0 : am_ob v0 12) (hp_v1 : (v1 = 0 ∨ v1 = 1)) (hB : am_Bt m) (h : M_X12_positiveOf R v0 v1 K m) : am_Z F 0 [] [(2, v0), (0, v1), (9, 0), (9, 0), (9, 0), (9, 0), (9, 0)] m 200 := by
  have G := X.G
  obtain ⟨HR_X12_testOf, HR_X12_bothOf, HR_X12_plainOf, HR_X12_positiveOf⟩ := id HR
  unfold M_X12_positiveOf at h
  refine z_aload_n (nx := 1) (a := 0) G rfl (Or.inl rfl) dX12_positiveOf_0 rfl (z_bipush (nx := 3) (z := 40) G (R32c rfl) rfl dX12_positiveOf_1 rfl ?_)
  refine b_callS0 (nx := 6) (zs := [40]) (as := [(0, 40)]) X hB SS_X12_sign (am_ti am_tn) (by omega) (Nat.le_of_ble_eq_true rfl) ml_RX12_243 sw_X12_sign (am_plainC 12 (by decide)) cw_X12_sign nw_RX12 pp_X12_sign (Nat.le_of_ble_eq_true rfl) dX12_positiveOf_3 rfl (NM_X12_sign h) (fun r_1 m_2 h hB => ?_)
  refine b_callV5 (nx := 9) (zs := [v0, r_1]) (as := [(0, r_1)]) X hB (by decide) rfl hp_v0 SS_X12_passes0 (am_ta (am_ti am_tn)) (by omega) (Nat.le_of_ble_eq_true rfl) ml_RX12_305 iw_X12_passes0 vw_X12_passes0 cw_X12_passes0 nw_RX12 pp_X12_passes0 (Nat.le_of_ble_eq_true rfl) dX12_positiveOf_6 rfl (NM_X12_passes0 hp_v0 h) (fun r_3 m_4 h h01_5 hB => ?_)
  refine z_if_eq (nx := 12) (tgt := 30) G dX12_positiveOf_9 (by decide) rfl (fun c => ?_) (fun c => ?_)
  · have h := h.1 c
    refine z_aload_n (nx := 31) (a := 0) G rfl (Or.inl rfl) dX12_positiveOf_30 rfl (z_iload_n (nx := 32) (a := 1) G rfl dX12_positiveOf_31 rfl ?_)
    refine b_callV1 (nx := 35) (zs := [v0, v1]) (as := [(0, v1)]) X hB (by decide) rfl hp_v0 SS_X12_sumOf (am_ta (am_tz hp_v1 am_tn)) (by omega) (Nat.le_of_ble_eq_true rfl) ml_RX12_308 iw_X12_sumOf vw_X12_sumOf cw_X12_sumOf nw_RX12 pp_X12_sumOf (Nat.le_of_ble_eq_true rfl) dX12_positiveOf_32 rfl h (fun r_6 m_7 h hB => ?_)
    refine b_lstoreE_n (nx := 36) (a := 2) (loc2 := [(2, v0), (0, v1), (1, r_6), (9, 0), (9, 0), (9, 0), (9, 0)]) G rfl (Nat.le_of_ble_eq_true rfl) (am_pl1 rfl (fun h => nomatch h)) (am_nx9 rfl rfl) dX12_positiveOf_35 rfl (z_aload_n (nx := 37) (a := 0) G rfl (Or.inl rfl) dX12_positiveOf_36 rfl (z_aload_n (nx := 38) (a := 0) G rfl (Or.inl rfl) dX12_positiveOf_37 rfl (b_getI (nx := 41) (k0 := 22) (t := 0) G fl_RX12_281 (Nat.le_of_ble_eq_true rfl) (Nat.le_of_ble_eq_true rfl) rfl hp_v0 dX12_positiveOf_38 rfl ?_)))
    refine b_callV0 (nx := 44) (zs := [v0, m_7 v0 22]) (as := [(0, m_7 v0 22)]) X hB (by decide) rfl hp_v0 SS_X12_codeAt (am_ta (am_ti am_tn)) (by omega) (Nat.le_of_ble_eq_true rfl) ml_RX12_284 iw_X12_codeAt vw_X12_codeAt cw_X12_codeAt nw_RX12 pp_X12_codeAt (Nat.le_of_ble_eq_true rfl) dX12_positiveOf_41 rfl (NM_X12_codeAt hp_v0 h) (fun r_8 m_9 h hB => ?_)
    refine b_storeE (nx := 46) (a := 4) (loc2 := [(2, v0), (0, v1), (1, r_6), (9, 0), (0, r_8), (9, 0), (9, 0)]) G rfl (Nat.le_of_ble_eq_true rfl) (am_pl1 rfl (fun h => nomatch h)) dX12_positiveOf_44 rfl (z_aload_n (nx := 47) (a := 0) G rfl (Or.inl rfl) dX12_positiveOf_46 rfl (z_dup (nx := 48) G (fun h => nomatch h) dX12_positiveOf_47 rfl (b_getI (nx := 51) (k0 := 22) (t := 0) G fl_RX12_281 (Nat.le_of_ble_eq_true rfl) (Nat.le_of_ble_eq_true rfl) rfl hp_v0 dX12_positiveOf_48 rfl (z_iconst (nx := 52) (z := 1) G (R32c rfl) dX12_positiveOf_51 rfl (z_iadd (nx := 53) G dX12_positiveOf_52 rfl ?_)))))
    refine b_put (nx := 56) (k0 := 22) (t := 0) G hB fl_RX12_281 (Nat.le_of_ble_eq_true rfl) (Nat.le_of_ble_eq_true rfl) rfl (fun h => nomatch h) rfl hp_v0 dX12_positiveOf_53 rfl (fun m_10 e_m_10 hB => ?_)
    have h := h m_10 e_m_10
    refine z_aload_n (nx := 57) (a := 0) G rfl (Or.inl rfl) dX12_positiveOf_56 rfl (z_iload_n (nx := 58) (a := 1) G rfl dX12_positiveOf_57 rfl ?_)
    refine b_callV1 (nx := 61) (zs := [v0, v1]) (as := [(0, v1)]) X hB (by decide) rfl hp_v0 SS_X12_sumOf (am_ta (am_tz hp_v1 am_tn)) (by omega) (Nat.le_of_ble_eq_true rfl) ml_RX12_308 iw_X12_sumOf vw_X12_sumOf cw_X12_sumOf nw_RX12 pp_X12_sumOf (Nat.le_of_ble_eq_true rfl) dX12_positiveOf_58 rfl h (fun r_11 m_12 h hB => ?_)
    refine b_lstoreE (nx := 63) (a := 5) (loc2 := [(2, v0), (0, v1), (1, r_6), (9, 0), (0, r_8), (1, r_11), (9, 0)]) G rfl (Nat.le_of_ble_eq_true rfl) (am_pl1 rfl (fun h => nomatch h)) (am_nx9 rfl rfl) dX12_positiveOf_61 rfl (z_iload_n (nx := 64) (a := 1) G rfl dX12_positiveOf_63 rfl ?_)
    refine z_if_eq (nx := 67) (tgt := 125) G dX12_positiveOf_64 (by decide) rfl (fun c => ?_) (fun c => ?_)
    · have h := h.1 c
      refine z_iconst (nx := 126) (z := 0) G (R32c rfl) dX12_positiveOf_125 rfl ?_
      exact b_zreturn X hB (Or.inl rfl) dX12_positiveOf_126 h
    · have h := h.2 c
      refine z_aload_n (nx := 68) (a := 0) G rfl (Or.inl rfl) dX12_positiveOf_67 rfl (b_getI (nx := 71) (k0 := 24) (t := 0) G fl_RX12_291 (Nat.le_of_ble_eq_true rfl) (Nat.le_of_ble_eq_true rfl) rfl hp_v0 dX12_positiveOf_68 rfl ?_)
      refine z_if_ne (nx := 74) (tgt := 125) G dX12_positiveOf_71 (by decide) rfl (fun c => ?_) (fun c => ?_)
      · have h := h.1 c
        refine z_iconst (nx := 126) (z := 0) G (R32c rfl) dX12_positiveOf_125 rfl ?_
        exact b_zreturn X hB (Or.inl rfl) dX12_positiveOf_126 h
      · have h := h.2 c
        refine z_iload (nx := 76) (a := 4) G rfl dX12_positiveOf_74 rfl (z_bipush (nx := 78) (z := 60) G (R32c rfl) rfl dX12_positiveOf_76 rfl ?_)
        refine b_callS0 (nx := 81) (zs := [60]) (as := [(0, 60)]) X hB SS_X12_sign (am_ti am_tn) (by omega) (Nat.le_of_ble_eq_true rfl) ml_RX12_243 sw_X12_sign (am_plainC 12 (by decide)) cw_X12_sign nw_RX12 pp_X12_sign (Nat.le_of_ble_eq_true rfl) dX12_positiveOf_78 rfl (NM_X12_sign h) (fun r_13 m_14 h hB => ?_)
        refine z_icmp_ne (nx := 84) (tgt := 94) G dX12_positiveOf_81 (by decide) rfl (fun c => ?_) (fun c => ?_)
        · have h := h.1 c
          refine z_iload (nx := 96) (a := 4) G rfl dX12_positiveOf_94 rfl (z_bipush (nx := 98) (z := 62) G (R32c rfl) rfl dX12_positiveOf_96 rfl ?_)
          refine b_callS0 (nx := 101) (zs := [62]) (as := [(0, 62)]) X hB SS_X12_sign (am_ti am_tn) (by omega) (Nat.le_of_ble_eq_true rfl) ml_RX12_243 sw_X12_sign (am_plainC 12 (by decide)) cw_X12_sign nw_RX12 pp_X12_sign (Nat.le_of_ble_eq_true rfl) dX12_positiveOf_98 rfl (NM_X12_sign h) (fun r_15 m_16 h hB => ?_)
          refine z_icmp_ne (nx := 104) (tgt := 114) G dX12_positiveOf_101 (by decide) rfl (fun c => ?_) (fun c => ?_)
          · have h := h.1 c
            refine z_lload_n (nx := 115) (a := 2) G rfl dX12_positiveOf_114 rfl (z_lload (nx := 117) (a := 5) G rfl dX12_positiveOf_115 rfl (z_lcmp (nx := 118) G dX12_positiveOf_117 rfl ?_))
            refine z_if_ne (nx := 121) (tgt := 125) G dX12_positiveOf_118 (by decide) rfl (fun c => ?_) (fun c => ?_)
            · have h := h.1 c
              refine z_iconst (nx := 126) (z := 0) G (R32c rfl) dX12_positiveOf_125 rfl ?_
              exact b_zreturn X hB (Or.inl rfl) dX12_positiveOf_126 h
            · have h := h.2 c
              refine z_iconst (nx := 122) (z := 1) G (R32c rfl) dX12_positiveOf_121 rfl (z_goto (tgt := 126) G dX12_positiveOf_122 (by decide) ?_)
              exact b_zreturn X hB (Or.inr rfl) dX12_positiveOf_126 h
          · have h := h.2 c
            refine z_lload_n (nx := 105) (a := 2) G rfl dX12_positiveOf_104 rfl (z_lload (nx := 107) (a := 5) G rfl dX12_positiveOf_105 rfl (z_lcmp (nx := 108) G dX12_positiveOf_107 rfl ?_))
            refine z_if_le (nx := 111) (tgt := 125) G dX12_positiveOf_108 (by decide) rfl (fun c => ?_) (fun c => ?_)
            · have h := h.1 c
              refine z_iconst (nx := 126) (z := 0) G (R32c rfl) dX12_positiveOf_125 rfl ?_
              exact b_zreturn X hB (Or.inl rfl) dX12_positiveOf_126 h
            · have h := h.2 c
              refine z_goto (tgt := 121) G dX12_positiveOf_111 (by decide) (z_iconst (nx := 122) (z := 1) G (R32c rfl) dX12_positiveOf_121 rfl (z_goto (tgt := 126) G dX12_positiveOf_122 (by decide) ?_))
              exact b_zreturn X hB (Or.inr rfl) dX12_positiveOf_126 h
        · have h := h.2 c
          refine z_lload_n (nx := 85) (a := 2) G rfl dX12_positiveOf_84 rfl (z_lload (nx := 87) (a := 5) G rfl dX12_positiveOf_85 rfl (z_lcmp (nx := 88) G dX12_positiveOf_87 rfl ?_))
          refine z_if_ge (nx := 91) (tgt := 125) G dX12_positiveOf_88 (by decide) rfl (fun c => ?_) (fun c => ?_)
          · have h := h.1 c
            refine z_iconst (nx := 126) (z := 0) G (R32c rfl) dX12_positiveOf_125 rfl ?_
            exact b_zreturn X hB (Or.inl rfl) dX12_positiveOf_126 h
          · have h := h.2 c
            refine z_goto (tgt := 121) G dX12_positiveOf_91 (by decide) (z_iconst (nx := 122) (z := 1) G (R32c rfl) dX12_positiveOf_121 rfl (z_goto (tgt := 126) G dX12_positiveOf_122 (by decide) ?_))
            exact b_zreturn X hB (Or.inr rfl) dX12_positiveOf_126 h
  · have h := h.2 c
    refine z_aload_n (nx := 13) (a := 0) G rfl (Or.inl rfl) dX12_positiveOf_12 rfl (z_iload_n (nx := 14) (a := 1) G rfl dX12_positiveOf_13 rfl ?_)
    refine b_callV5 (nx := 17) (zs := [v0, v1]) (as := [(0, v1)]) X hB (by decide) rfl hp_v0 (HR_X12_testOf) (am_ta (am_tz hp_v1 am_tn)) (Nat.le_refl _) (Nat.le_of_ble_eq_true rfl) ml_RX12_320 iw_X12_testOf vw_X12_testOf cw_X12_testOf nw_RX12 pp_X12_testOf (Nat.le_of_ble_eq_true rfl) dX12_positiveOf_14 rfl h (fun r_17 m_18 h h01_19 hB => ?_)
    refine b_storeE_n (nx := 18) (a := 2) (loc2 := [(2, v0), (0, v1), (0, r_17), (9, 0), (9, 0), (9, 0), (9, 0)]) G rfl (Nat.le_of_ble_eq_true rfl) (am_pl1 rfl (fun h => nomatch h)) dX12_positiveOf_17 rfl (z_aload_n (nx := 19) (a := 0) G rfl (Or.inl rfl) dX12_positiveOf_18 rfl (z_dup (nx := 20) G (fun h => nomatch h) dX12_positiveOf_19 rfl (b_getI (nx := 23) (k0 := 22) (t := 0) G fl_RX12_281 (Nat.le_of_ble_eq_true rfl) (Nat.le_of_ble_eq_true rfl) rfl hp_v0 dX12_positiveOf_20 rfl (z_iconst (nx := 24) (z := 1) G (R32c rfl) dX12_positiveOf_23 rfl (z_iadd (nx := 25) G dX12_positiveOf_24 rfl ?_)))))
    refine b_put (nx := 28) (k0 := 22) (t := 0) G hB fl_RX12_281 (Nat.le_of_ble_eq_true rfl) (Nat.le_of_ble_eq_true rfl) rfl (fun h => nomatch h) rfl hp_v0 dX12_positiveOf_25 rfl (fun m_20 e_m_20 hB => ?_)
    have h := h m_20 e_m_20
    refine z_iload_n (nx := 29) (a := 2) G rfl dX12_positiveOf_28 rfl ?_
    exact b_zreturn X hB h01_19 dX12_positiveOf_29 h
theorem SR_X12_positiveOf {k : Nat} {R : Nat → am_PT} (HR : H_X12_testOf k R) : am_Snd yX12_positiveOf cX12_positiveOf 7 (some .boolean) 0 (303 + (k + 1)) (am_L [2, 5] 5 (N_X12_positiveOf R)) := by
  refine am_SB (by decide +kernel) (Nat.le_of_ble_eq_true rfl) (fun F zs as K m X ht hB hM => ?_)
  obtain ⟨v0, zs, as, rfl, rfl, hz0, ht⟩ := am_inv ht
  obtain ⟨v1, zs, as, rfl, rfl, hz1, ht⟩ := am_inv ht
  obtain ⟨rfl, rfl⟩ := am_inv0 ht
  obtain ⟨hp_v0, hp_v1, hM⟩ := hM
  exact S_X12_positiveOf X HR hp_v0 hp_v1 hB hM
theorem HH_X12_testOf : ∀ k, H_X12_testOf k (R_X12_testOf k) := by
  intro k
  induction k with
  | zero => exact ⟨am_Snd_false, am_Snd_false, am_Snd_false, am_Snd_false⟩
  | succ k ih => exact ⟨SR_X12_testOf ih, SR_X12_bothOf ih, SR_X12_plainOf ih, SR_X12_positiveOf ih⟩
theorem SS_X12_testOf : am_Snd yX12_testOf cX12_testOf 4 (some .boolean) 0 604 (am_L [2, 5] 5 (R_X12_testOf 301 0)) := (HH_X12_testOf 301).1
theorem SS_X12_bothOf : am_Snd yX12_bothOf cX12_bothOf 4 (some .boolean) 0 604 (am_L [2, 5] 5 (R_X12_testOf 301 1)) := (HH_X12_testOf 301).2.1
theorem SS_X12_plainOf : am_Snd yX12_plainOf cX12_plainOf 3 (some .boolean) 0 604 (am_L [2, 5] 5 (R_X12_testOf 301 2)) := (HH_X12_testOf 301).2.2.1
theorem SS_X12_positiveOf : am_Snd yX12_positiveOf cX12_positiveOf 7 (some .boolean) 0 604 (am_L [2, 5] 5 (R_X12_testOf 301 3)) := (HH_X12_testOf 301).2.2.2
set_option maxRecDepth 20000 in
set_option maxHeartbeats 4000000 in
theorem S_X12_tells_J5 {F : am_F} {K : am_KK} {v0 : Int} {v1 : Int} {v2 : Int} {v3 : Int} {v5 : Int} {C68 : Int → am_M → Prop} {m : am_M} (X : am_Cx F cX12_tells RX12 (some .int) 605 0 K) (hp_v0 : am_ob v0 12) (hC68 : ∀ w5 m, C68 w5 m → am_Bt m → am_Z F 68 [] [(2, v0), (0, v1), (0, v2), (0, v3), (9, 0), (1, w5), (9, 0), (9, 0), (9, 0), (9, 0), (9, 0), (9, 0)] m 200) (hB : am_Bt m) (h : M_X12_tells_J5 v0 v1 v2 v3 v5 C68 K m) : am_Z F 208 [] [(2, v0), (0, v1), (0, v2), (0, v3), (9, 0), (1, v5), (9, 0), (9, 0), (9, 0), (9, 0), (9, 0), (9, 0)] m 200 := by
  have G := X.G
  unfold M_X12_tells_J5 at h
  refine z_aload_n (nx := 209) (a := 0) G rfl (Or.inl rfl) dX12_tells_208 rfl (z_dup (nx := 210) G (fun h => nomatch h) dX12_tells_209 rfl (b_getI (nx := 213) (k0 := 22) (t := 0) G fl_RX12_281 (Nat.le_of_ble_eq_true rfl) (Nat.le_of_ble_eq_true rfl) rfl hp_v0 dX12_tells_210 rfl (z_iconst (nx := 214) (z := 1) G (R32c rfl) dX12_tells_213 rfl (z_iadd (nx := 215) G dX12_tells_214 rfl ?_))))
  refine b_put (nx := 218) (k0 := 22) (t := 0) G hB fl_RX12_281 (Nat.le_of_ble_eq_true rfl) (Nat.le_of_ble_eq_true rfl) rfl (fun h => nomatch h) rfl hp_v0 dX12_tells_215 rfl (fun m_1 e_m_1 hB => ?_)
  have h := h m_1 e_m_1
  refine z_goto (tgt := 68) G dX12_tells_218 (by decide) ?_
  exact b_fewer (loc2 := [(2, v0), (0, v1), (0, v2), (0, v3), (9, 0), (1, v5), (9, 0), (9, 0), (9, 0), (9, 0), (9, 0), (9, 0)]) (am_lk (am_lk (am_lk (am_lk (am_lk (am_lk (am_lk (am_lk (am_lk (am_lk (am_lk (am_lk am_ln)))))))))))) (hC68 _ _ h hB)
set_option maxRecDepth 20000 in
set_option maxHeartbeats 4000000 in
theorem S_X12_tells_J4 {F : am_F} {K : am_KK} {v0 : Int} {v1 : Int} {v2 : Int} {v3 : Int} {s0 : Int} {C68 : Int → am_M → Prop} {m : am_M} (X : am_Cx F cX12_tells RX12 (some .int) 605 0 K) (hp_v0 : am_ob v0 12) (hC68 : ∀ w5 m, C68 w5 m → am_Bt m → am_Z F 68 [] [(2, v0), (0, v1), (0, v2), (0, v3), (9, 0), (1, w5), (9, 0), (9, 0), (9, 0), (9, 0), (9, 0), (9, 0)] m 200) (hB : am_Bt m) (h : M_X12_tells_J4 v0 v1 v2 v3 s0 C68 K m) : am_Z F 206 [(1, s0)] [(2, v0), (0, v1), (0, v2), (0, v3), (9, 0), (9, 0), (9, 0), (9, 0), (9, 0), (9, 0), (9, 0), (9, 0)] m 200 := by
  have G := X.G
  unfold M_X12_tells_J4 at h
  refine b_lstoreE (nx := 208) (a := 5) (loc2 := [(2, v0), (0, v1), (0, v2), (0, v3), (9, 0), (1, s0), (9, 0), (9, 0), (9, 0), (9, 0), (9, 0), (9, 0)]) G rfl (Nat.le_of_ble_eq_true rfl) (am_pl1 rfl (fun h => nomatch h)) (am_nx9 rfl rfl) dX12_tells_206 rfl ?_
  exact b_fewer (loc2 := [(2, v0), (0, v1), (0, v2), (0, v3), (9, 0), (1, s0), (9, 0), (9, 0), (9, 0), (9, 0), (9, 0), (9, 0)]) (am_lk (am_lk (am_lk (am_lk (am_lk (am_lk (am_lk (am_lk (am_lk (am_lk (am_lk (am_lk am_ln)))))))))))) (S_X12_tells_J5 X hp_v0 hC68 hB h)
set_option maxRecDepth 20000 in
set_option maxHeartbeats 4000000 in
theorem S_X12_tells_J3 {F : am_F} {K : am_KK} {v0 : Int} {v1 : Int} {v2 : Int} {v3 : Int} {v5 : Int} {v7 : Int} {v8 : Int} {v10 : Int} {s0 : Int} {C68 : Int → am_M → Prop} {m : am_M} (X : am_Cx F cX12_tells RX12 (some .int) 605 0 K) (hp_v0 : am_ob v0 12) (hp_s0 : s0 = 0 ∨ s0 = 1) (hC68 : ∀ w5 m, C68 w5 m → am_Bt m → am_Z F 68 [] [(2, v0), (0, v1), (0, v2), (0, v3), (9, 0), (1, w5), (9, 0), (9, 0), (9, 0), (9, 0), (9, 0), (9, 0)] m 200) (hB : am_Bt m) (h : M_X12_tells_J3 v0 v1 v2 v3 v5 v7 v8 v10 s0 C68 K m) : am_Z F 153 [(0, s0)] [(2, v0), (0, v1), (0, v2), (0, v3), (9, 0), (1, v5), (9, 0), (0, v7), (1, v8), (9, 0), (0, v10), (9, 0)] m 200 := by
  have G := X.G
  unfold M_X12_tells_J3 at h
  refine b_storeE (nx := 155) (a := 11) (loc2 := [(2, v0), (0, v1), (0, v2), (0, v3), (9, 0), (1, v5), (9, 0), (0, v7), (1, v8), (9, 0), (0, v10), (0, s0)]) G rfl (Nat.le_of_ble_eq_true rfl) (am_pl1 rfl (fun h => nomatch h)) dX12_tells_153 rfl (z_iload (nx := 157) (a := 7) G rfl dX12_tells_155 rfl (z_iload_n (nx := 158) (a := 1) G rfl dX12_tells_157 rfl ?_))
  refine z_icmp_ne (nx := 161) (tgt := 208) G dX12_tells_158 (by decide) rfl (fun c => ?_) (fun c => ?_)
  · have h := h.1 c
    exact b_fewer (loc2 := [(2, v0), (0, v1), (0, v2), (0, v3), (9, 0), (1, v5), (9, 0), (9, 0), (9, 0), (9, 0), (9, 0), (9, 0)]) (am_lk (am_lk (am_lk (am_lk (am_lk (am_lk (am_lk (am_lf (am_lf (am_lk (am_lf (am_lf am_ln)))))))))))) (S_X12_tells_J5 X hp_v0 hC68 hB h)
  · have h := h.2 c
    refine z_iload (nx := 163) (a := 11) G rfl dX12_tells_161 rfl ?_
    refine z_if_eq (nx := 166) (tgt := 208) G dX12_tells_163 (by decide) rfl (fun c => ?_) (fun c => ?_)
    · have h := h.1 c
      exact b_fewer (loc2 := [(2, v0), (0, v1), (0, v2), (0, v3), (9, 0), (1, v5), (9, 0), (9, 0), (9, 0), (9, 0), (9, 0), (9, 0)]) (am_lk (am_lk (am_lk (am_lk (am_lk (am_lk (am_lk (am_lf (am_lf (am_lk (am_lf (am_lf am_ln)))))))))))) (S_X12_tells_J5 X hp_v0 hC68 hB h)
    · have h := h.2 c
      refine z_aload_n (nx := 167) (a := 0) G rfl (Or.inl rfl) dX12_tells_166 rfl (b_getI (nx := 170) (k0 := 24) (t := 0) G fl_RX12_291 (Nat.le_of_ble_eq_true rfl) (Nat.le_of_ble_eq_true rfl) rfl hp_v0 dX12_tells_167 rfl ?_)
      refine z_if_ne (nx := 173) (tgt := 208) G dX12_tells_170 (by decide) rfl (fun c => ?_) (fun c => ?_)
      · have h := h.1 c
        exact b_fewer (loc2 := [(2, v0), (0, v1), (0, v2), (0, v3), (9, 0), (1, v5), (9, 0), (9, 0), (9, 0), (9, 0), (9, 0), (9, 0)]) (am_lk (am_lk (am_lk (am_lk (am_lk (am_lk (am_lk (am_lf (am_lf (am_lk (am_lf (am_lf am_ln)))))))))))) (S_X12_tells_J5 X hp_v0 hC68 hB h)
      · have h := h.2 c
        refine z_iload (nx := 175) (a := 10) G rfl dX12_tells_173 rfl ?_
        refine z_if_ne (nx := 178) (tgt := 208) G dX12_tells_175 (by decide) rfl (fun c => ?_) (fun c => ?_)
        · have h := h.1 c
          exact b_fewer (loc2 := [(2, v0), (0, v1), (0, v2), (0, v3), (9, 0), (1, v5), (9, 0), (9, 0), (9, 0), (9, 0), (9, 0), (9, 0)]) (am_lk (am_lk (am_lk (am_lk (am_lk (am_lk (am_lk (am_lf (am_lf (am_lk (am_lf (am_lf am_ln)))))))))))) (S_X12_tells_J5 X hp_v0 hC68 hB h)
        · have h := h.2 c
          refine z_lload (nx := 180) (a := 8) G rfl dX12_tells_178 rfl (z_iload_n (nx := 181) (a := 2) G rfl dX12_tells_180 rfl (z_i2l (nx := 182) G dX12_tells_181 rfl (z_lcmp (nx := 183) G dX12_tells_182 rfl ?_)))
          refine z_if_ge (nx := 186) (tgt := 191) G dX12_tells_183 (by decide) rfl (fun c => ?_) (fun c => ?_)
          · have h := h.1 c
            refine z_lload (nx := 193) (a := 8) G rfl dX12_tells_191 rfl (z_iload_n (nx := 194) (a := 3) G rfl dX12_tells_193 rfl (z_i2l (nx := 195) G dX12_tells_194 rfl (z_lcmp (nx := 196) G dX12_tells_195 rfl ?_)))
            refine z_if_le (nx := 199) (tgt := 204) G dX12_tells_196 (by decide) rfl (fun c => ?_) (fun c => ?_)
            · have h := h.1 c
              refine z_lload (nx := 206) (a := 8) G rfl dX12_tells_204 rfl ?_
              exact b_fewer (loc2 := [(2, v0), (0, v1), (0, v2), (0, v3), (9, 0), (9, 0), (9, 0), (9, 0), (9, 0), (9, 0), (9, 0), (9, 0)]) (am_lk (am_lk (am_lk (am_lk (am_lk (am_lf (am_lk (am_lf (am_lf (am_lk (am_lf (am_lf am_ln)))))))))))) (S_X12_tells_J4 X hp_v0 hC68 hB h)
            · have h := h.2 c
              refine z_iload_n (nx := 200) (a := 3) G rfl dX12_tells_199 rfl (z_i2l (nx := 201) G dX12_tells_200 rfl (z_goto (tgt := 206) G dX12_tells_201 (by decide) ?_))
              exact b_fewer (loc2 := [(2, v0), (0, v1), (0, v2), (0, v3), (9, 0), (9, 0), (9, 0), (9, 0), (9, 0), (9, 0), (9, 0), (9, 0)]) (am_lk (am_lk (am_lk (am_lk (am_lk (am_lf (am_lk (am_lf (am_lf (am_lk (am_lf (am_lf am_ln)))))))))))) (S_X12_tells_J4 X hp_v0 hC68 hB h)
          · have h := h.2 c
            refine z_iload_n (nx := 187) (a := 2) G rfl dX12_tells_186 rfl (z_i2l (nx := 188) G dX12_tells_187 rfl (z_goto (tgt := 206) G dX12_tells_188 (by decide) ?_))
            exact b_fewer (loc2 := [(2, v0), (0, v1), (0, v2), (0, v3), (9, 0), (9, 0), (9, 0), (9, 0), (9, 0), (9, 0), (9, 0), (9, 0)]) (am_lk (am_lk (am_lk (am_lk (am_lk (am_lf (am_lk (am_lf (am_lf (am_lk (am_lf (am_lf am_ln)))))))))))) (S_X12_tells_J4 X hp_v0 hC68 hB h)
set_option maxRecDepth 20000 in
set_option maxHeartbeats 4000000 in
theorem S_X12_tells_J2 {F : am_F} {K : am_KK} {v0 : Int} {v1 : Int} {v2 : Int} {v3 : Int} {v5 : Int} {v7 : Int} {v8 : Int} {v10 : Int} {C68 : Int → am_M → Prop} {m : am_M} (X : am_Cx F cX12_tells RX12 (some .int) 605 0 K) (hp_v0 : am_ob v0 12) (hC68 : ∀ w5 m, C68 w5 m → am_Bt m → am_Z F 68 [] [(2, v0), (0, v1), (0, v2), (0, v3), (9, 0), (1, w5), (9, 0), (9, 0), (9, 0), (9, 0), (9, 0), (9, 0)] m 200) (hB : am_Bt m) (h : M_X12_tells_J2 v0 v1 v2 v3 v5 v7 v8 v10 C68 K m) : am_Z F 148 [] [(2, v0), (0, v1), (0, v2), (0, v3), (9, 0), (1, v5), (9, 0), (0, v7), (1, v8), (9, 0), (0, v10), (9, 0)] m 200 := by
  have G := X.G
  unfold M_X12_tells_J2 at h
  refine z_iconst (nx := 149) (z := 1) G (R32c rfl) dX12_tells_148 rfl (z_goto (tgt := 153) G dX12_tells_149 (by decide) ?_)
  exact b_fewer (loc2 := [(2, v0), (0, v1), (0, v2), (0, v3), (9, 0), (1, v5), (9, 0), (0, v7), (1, v8), (9, 0), (0, v10), (9, 0)]) (am_lk (am_lk (am_lk (am_lk (am_lk (am_lk (am_lk (am_lk (am_lk (am_lk (am_lk (am_lk am_ln)))))))))))) (S_X12_tells_J3 X hp_v0 (Or.inr rfl) hC68 hB h)
set_option maxRecDepth 20000 in
set_option maxHeartbeats 4000000 in
theorem S_X12_tells_J1 {F : am_F} {K : am_KK} {v0 : Int} {v1 : Int} {v2 : Int} {v3 : Int} {v5 : Int} {v7 : Int} {s0 : Int} {C68 : Int → am_M → Prop} {m : am_M} (X : am_Cx F cX12_tells RX12 (some .int) 605 0 K) (hp_v0 : am_ob v0 12) (hC68 : ∀ w5 m, C68 w5 m → am_Bt m → am_Z F 68 [] [(2, v0), (0, v1), (0, v2), (0, v3), (9, 0), (1, w5), (9, 0), (9, 0), (9, 0), (9, 0), (9, 0), (9, 0)] m 200) (hB : am_Bt m) (h : M_X12_tells_J1 v0 v1 v2 v3 v5 v7 s0 C68 K m) : am_Z F 119 [(1, s0)] [(2, v0), (0, v1), (0, v2), (0, v3), (9, 0), (1, v5), (9, 0), (0, v7), (9, 0), (9, 0), (9, 0), (9, 0)] m 200 := by
  have G := X.G
  unfold M_X12_tells_J1 at h
  refine b_lstoreE (nx := 121) (a := 8) (loc2 := [(2, v0), (0, v1), (0, v2), (0, v3), (9, 0), (1, v5), (9, 0), (0, v7), (1, s0), (9, 0), (9, 0), (9, 0)]) G rfl (Nat.le_of_ble_eq_true rfl) (am_pl1 rfl (fun h => nomatch h)) (am_nx9 rfl rfl) dX12_tells_119 rfl (z_aload_n (nx := 122) (a := 0) G rfl (Or.inl rfl) dX12_tells_121 rfl (b_getI (nx := 125) (k0 := 24) (t := 0) G fl_RX12_291 (Nat.le_of_ble_eq_true rfl) (Nat.le_of_ble_eq_true rfl) rfl hp_v0 dX12_tells_122 rfl ?_))
  refine b_store (nx := 127) (a := 10) (loc2 := fun v10_2 => [(2, v0), (0, v1), (0, v2), (0, v3), (9, 0), (1, v5), (9, 0), (0, v7), (1, s0), (9, 0), (0, v10_2), (9, 0)]) G (fun _ => rfl) (Nat.le_of_ble_eq_true rfl) (am_pl1 rfl (fun h => nomatch h)) dX12_tells_125 rfl (fun v10_2 e_v10_2 => ?_)
  have h := h v10_2 e_v10_2
  refine z_aload_n (nx := 128) (a := 0) G rfl (Or.inl rfl) dX12_tells_127 rfl (z_iconst (nx := 129) (z := 0) G (R32c rfl) dX12_tells_128 rfl ?_)
  refine b_put (nx := 132) (k0 := 24) (t := 0) G hB fl_RX12_291 (Nat.le_of_ble_eq_true rfl) (Nat.le_of_ble_eq_true rfl) rfl (fun h => nomatch h) ⟨rfl, (Or.inl rfl)⟩ hp_v0 dX12_tells_129 rfl (fun m_3 e_m_3 hB => ?_)
  have h := h m_3 e_m_3
  refine z_aload_n (nx := 133) (a := 0) G rfl (Or.inl rfl) dX12_tells_132 rfl (z_iconst (nx := 134) (z := 4) G (R32c rfl) dX12_tells_133 rfl ?_)
  refine b_callV5 (nx := 137) (zs := [v0, 4]) (as := [(0, 4)]) X hB (by decide) rfl hp_v0 SS_X12_passes0 (am_ta (am_ti am_tn)) (Nat.le_of_ble_eq_true rfl) (Nat.le_of_ble_eq_true rfl) ml_RX12_305 iw_X12_passes0 vw_X12_passes0 cw_X12_passes0 nw_RX12 pp_X12_passes0 (Nat.le_of_ble_eq_true rfl) dX12_tells_134 rfl (NM_X12_passes0 hp_v0 h) (fun r_4 m_5 h h01_6 hB => ?_)
  refine z_if_eq (nx := 140) (tgt := 148) G dX12_tells_137 (by decide) rfl (fun c => ?_) (fun c => ?_)
  · have h := h.1 c
    exact b_fewer (loc2 := [(2, v0), (0, v1), (0, v2), (0, v3), (9, 0), (1, v5), (9, 0), (0, v7), (1, s0), (9, 0), (0, v10_2), (9, 0)]) (am_lk (am_lk (am_lk (am_lk (am_lk (am_lk (am_lk (am_lk (am_lk (am_lk (am_lk (am_lk am_ln)))))))))))) (S_X12_tells_J2 X hp_v0 hC68 hB h)
  · have h := h.2 c
    refine z_aload_n (nx := 141) (a := 0) G rfl (Or.inl rfl) dX12_tells_140 rfl (z_iconst (nx := 142) (z := 1) G (R32c rfl) dX12_tells_141 rfl ?_)
    refine b_callV5 (nx := 145) (zs := [v0, 1]) (as := [(0, 1)]) X hB (by decide) rfl hp_v0 SS_X12_testOf (am_ta (am_tz (Or.inr rfl) am_tn)) (Nat.le_of_ble_eq_true rfl) (Nat.le_of_ble_eq_true rfl) ml_RX12_320 iw_X12_testOf vw_X12_testOf cw_X12_testOf nw_RX12 pp_X12_testOf (Nat.le_of_ble_eq_true rfl) dX12_tells_142 rfl h (fun r_7 m_8 h h01_9 hB => ?_)
    refine z_if_eq (nx := 148) (tgt := 152) G dX12_tells_145 (by decide) rfl (fun c => ?_) (fun c => ?_)
    · have h := h.1 c
      refine z_iconst (nx := 153) (z := 0) G (R32c rfl) dX12_tells_152 rfl ?_
      exact b_fewer (loc2 := [(2, v0), (0, v1), (0, v2), (0, v3), (9, 0), (1, v5), (9, 0), (0, v7), (1, s0), (9, 0), (0, v10_2), (9, 0)]) (am_lk (am_lk (am_lk (am_lk (am_lk (am_lk (am_lk (am_lk (am_lk (am_lk (am_lk (am_lk am_ln)))))))))))) (S_X12_tells_J3 X hp_v0 (Or.inl rfl) hC68 hB h)
    · have h := h.2 c
      exact b_fewer (loc2 := [(2, v0), (0, v1), (0, v2), (0, v3), (9, 0), (1, v5), (9, 0), (0, v7), (1, s0), (9, 0), (0, v10_2), (9, 0)]) (am_lk (am_lk (am_lk (am_lk (am_lk (am_lk (am_lk (am_lk (am_lk (am_lk (am_lk (am_lk am_ln)))))))))))) (S_X12_tells_J2 X hp_v0 hC68 hB h)
set_option maxRecDepth 20000 in
set_option maxHeartbeats 4000000 in
theorem S_X12_tells_L1B {F : am_F} {K : am_KK} {v0 : Int} {v1 : Int} {v2 : Int} {v3 : Int} {v5 : Int} {C68 : Int → am_M → Prop} {m : am_M} (X : am_Cx F cX12_tells RX12 (some .int) 605 0 K) (hp_v0 : am_ob v0 12) (hC68 : ∀ w5 m, C68 w5 m → am_Bt m → am_Z F 68 [] [(2, v0), (0, v1), (0, v2), (0, v3), (9, 0), (1, w5), (9, 0), (9, 0), (9, 0), (9, 0), (9, 0), (9, 0)] m 200) (hB : am_Bt m) (h : M_X12_tells_L1B v0 v1 v2 v3 v5 C68 K m) : am_Z F 68 [] [(2, v0), (0, v1), (0, v2), (0, v3), (9, 0), (1, v5), (9, 0), (9, 0), (9, 0), (9, 0), (9, 0), (9, 0)] m 200 := by
  have G := X.G
  unfold M_X12_tells_L1B at h
  refine z_aload_n (nx := 69) (a := 0) G rfl (Or.inl rfl) dX12_tells_68 rfl (b_getI (nx := 72) (k0 := 22) (t := 0) G fl_RX12_281 (Nat.le_of_ble_eq_true rfl) (Nat.le_of_ble_eq_true rfl) rfl hp_v0 dX12_tells_69 rfl (z_aload_n (nx := 73) (a := 0) G rfl (Or.inl rfl) dX12_tells_72 rfl (b_getI (nx := 76) (k0 := 23) (t := 0) G fl_RX12_278 (Nat.le_of_ble_eq_true rfl) (Nat.le_of_ble_eq_true rfl) rfl hp_v0 dX12_tells_73 rfl ?_)))
  refine z_icmp_ge (nx := 79) (tgt := 221) G dX12_tells_76 (by decide) rfl (fun c => ?_) (fun c => ?_)
  · have h := h.1 c
    refine z_lload (nx := 223) (a := 5) G rfl dX12_tells_221 rfl (z_l2i (nx := 224) G dX12_tells_223 rfl ?_)
    exact b_ireturn X hB dX12_tells_224 h
  · have h := h.2 c
    refine z_aload_n (nx := 80) (a := 0) G rfl (Or.inl rfl) dX12_tells_79 rfl (z_aload_n (nx := 81) (a := 0) G rfl (Or.inl rfl) dX12_tells_80 rfl (b_getI (nx := 84) (k0 := 22) (t := 0) G fl_RX12_281 (Nat.le_of_ble_eq_true rfl) (Nat.le_of_ble_eq_true rfl) rfl hp_v0 dX12_tells_81 rfl ?_))
    refine b_callV0 (nx := 87) (zs := [v0, m v0 22]) (as := [(0, m v0 22)]) X hB (by decide) rfl hp_v0 SS_X12_codeAt (am_ta (am_ti am_tn)) (Nat.le_of_ble_eq_true rfl) (Nat.le_of_ble_eq_true rfl) ml_RX12_284 iw_X12_codeAt vw_X12_codeAt cw_X12_codeAt nw_RX12 pp_X12_codeAt (Nat.le_of_ble_eq_true rfl) dX12_tells_84 rfl (NM_X12_codeAt hp_v0 h) (fun r_10 m_11 h hB => ?_)
    refine b_storeE (nx := 89) (a := 7) (loc2 := [(2, v0), (0, v1), (0, v2), (0, v3), (9, 0), (1, v5), (9, 0), (0, r_10), (9, 0), (9, 0), (9, 0), (9, 0)]) G rfl (Nat.le_of_ble_eq_true rfl) (am_pl1 rfl (fun h => nomatch h)) dX12_tells_87 rfl (z_aload_n (nx := 90) (a := 0) G rfl (Or.inl rfl) dX12_tells_89 rfl (z_iconst (nx := 91) (z := 0) G (R32c rfl) dX12_tells_90 rfl ?_))
    refine b_put (nx := 94) (k0 := 24) (t := 0) G hB fl_RX12_291 (Nat.le_of_ble_eq_true rfl) (Nat.le_of_ble_eq_true rfl) rfl (fun h => nomatch h) ⟨rfl, (Or.inl rfl)⟩ hp_v0 dX12_tells_91 rfl (fun m_12 e_m_12 hB => ?_)
    have h := h m_12 e_m_12
    refine z_aload_n (nx := 95) (a := 0) G rfl (Or.inl rfl) dX12_tells_94 rfl (z_dup (nx := 96) G (fun h => nomatch h) dX12_tells_95 rfl (b_getI (nx := 99) (k0 := 22) (t := 0) G fl_RX12_281 (Nat.le_of_ble_eq_true rfl) (Nat.le_of_ble_eq_true rfl) rfl hp_v0 dX12_tells_96 rfl (z_iconst (nx := 100) (z := 1) G (R32c rfl) dX12_tells_99 rfl (z_iadd (nx := 101) G dX12_tells_100 rfl ?_))))
    refine b_put (nx := 104) (k0 := 22) (t := 0) G hB fl_RX12_281 (Nat.le_of_ble_eq_true rfl) (Nat.le_of_ble_eq_true rfl) rfl (fun h => nomatch h) rfl hp_v0 dX12_tells_101 rfl (fun m_13 e_m_13 hB => ?_)
    have h := h m_13 e_m_13
    refine z_iload (nx := 106) (a := 7) G rfl dX12_tells_104 rfl (z_iconst (nx := 107) (z := 3) G (R32c rfl) dX12_tells_106 rfl ?_)
    refine z_icmp_ne (nx := 110) (tgt := 114) G dX12_tells_107 (by decide) rfl (fun c => ?_) (fun c => ?_)
    · have h := h.1 c
      refine z_aload_n (nx := 115) (a := 0) G rfl (Or.inl rfl) dX12_tells_114 rfl (z_iconst (nx := 116) (z := 1) G (R32c rfl) dX12_tells_115 rfl ?_)
      refine b_callV1 (nx := 119) (zs := [v0, 1]) (as := [(0, 1)]) X hB (by decide) rfl hp_v0 SS_X12_sumOf (am_ta (am_tz (Or.inr rfl) am_tn)) (Nat.le_of_ble_eq_true rfl) (Nat.le_of_ble_eq_true rfl) ml_RX12_308 iw_X12_sumOf vw_X12_sumOf cw_X12_sumOf nw_RX12 pp_X12_sumOf (Nat.le_of_ble_eq_true rfl) dX12_tells_116 rfl h (fun r_14 m_15 h hB => ?_)
      exact b_fewer (loc2 := [(2, v0), (0, v1), (0, v2), (0, v3), (9, 0), (1, v5), (9, 0), (0, r_10), (9, 0), (9, 0), (9, 0), (9, 0)]) (am_lk (am_lk (am_lk (am_lk (am_lk (am_lk (am_lk (am_lk (am_lk (am_lk (am_lk (am_lk am_ln)))))))))))) (S_X12_tells_J1 X hp_v0 hC68 hB h)
    · have h := h.2 c
      refine z_lconst (nx := 111) (z := 1) G (R64c rfl) rfl dX12_tells_110 rfl (z_goto (tgt := 119) G dX12_tells_111 (by decide) ?_)
      exact b_fewer (loc2 := [(2, v0), (0, v1), (0, v2), (0, v3), (9, 0), (1, v5), (9, 0), (0, r_10), (9, 0), (9, 0), (9, 0), (9, 0)]) (am_lk (am_lk (am_lk (am_lk (am_lk (am_lk (am_lk (am_lk (am_lk (am_lk (am_lk (am_lk am_ln)))))))))))) (S_X12_tells_J1 X hp_v0 hC68 hB h)
theorem S_X12_tells_L1 {F : am_F} {K : am_KK} {v0 : Int} {v1 : Int} {v2 : Int} {v3 : Int} {v5 : Int} {m : am_M} (X : am_Cx F cX12_tells RX12 (some .int) 605 0 K) (hp_v0 : am_ob v0 12) (hB : am_Bt m) (h : M_X12_tells_L1 v0 v1 v2 v3 v5 K m) : am_Z F 68 [] [(2, v0), (0, v1), (0, v2), (0, v3), (9, 0), (1, v5), (9, 0), (9, 0), (9, 0), (9, 0), (9, 0), (9, 0)] m 200 := by
  obtain ⟨I, ⟨j, hj⟩, hI⟩ := h
  have key : ∀ j v5 m, I j v5 m → am_Bt m → am_Z F 68 [] [(2, v0), (0, v1), (0, v2), (0, v3), (9, 0), (1, v5), (9, 0), (9, 0), (9, 0), (9, 0), (9, 0), (9, 0)] m 200 := by
    intro j
    induction j using Nat.strongRecOn with
    | ind j ih =>
      intro v5 m hj hB
      exact S_X12_tells_L1B X hp_v0 (fun v5' m' hc hB' => by
        obtain ⟨j', g1, g2⟩ := hc
        exact ih j' g1 v5' m' g2 hB') hB (hI j v5 m hj)
  exact key j _ _ hj hB
set_option maxRecDepth 20000 in
set_option maxHeartbeats 4000000 in
theorem S_X12_tells {F : am_F} {K : am_KK} {v0 : Int} {v1 : Int} {v2 : Int} {v3 : Int} {v4 : Int} {m : am_M} (X : am_Cx F cX12_tells RX12 (some .int) 605 0 K) (hp_v0 : am_ob v0 12) (hB : am_Bt m) (h : M_X12_tells v0 v1 v2 v3 v4 K m) : am_Z F 0 [] [(2, v0), (0, v1), (0, v2), (0, v3), (0, v4), (9, 0), (9, 0), (9, 0), (9, 0), (9, 0), (9, 0), (9, 0)] m 200 := by
  have G := X.G
  unfold M_X12_tells at h
  refine z_aload_n (nx := 1) (a := 0) G rfl (Or.inl rfl) dX12_tells_0 rfl (b_getA (nx := 4) (k0 := 2) G hB fl_RX12_24 (Nat.le_of_ble_eq_true rfl) (Nat.le_of_ble_eq_true rfl) rfl hp_v0 dX12_tells_1 rfl (z_sipush (nx := 7) (z := 369) G (R32c rfl) rfl dX12_tells_4 rfl ?_))
  obtain ⟨hb, h⟩ := h
  refine z_iald (nx := 8) G (sh_12_2 _ hp_v0) hb.1 hb.2 dX12_tells_7 rfl ?_
  refine z_iconst (nx := 9) (z := (-1)) G (R32c rfl) dX12_tells_8 rfl ?_
  refine z_icmp_ne (nx := 12) (tgt := 15) G dX12_tells_9 (by decide) rfl (fun c => ?_) (fun c => ?_)
  · have h := h.1 c
    refine z_aload_n (nx := 16) (a := 0) G rfl (Or.inl rfl) dX12_tells_15 rfl (z_bipush (nx := 18) (z := 8) G (R32c rfl) rfl dX12_tells_16 rfl ?_)
    refine b_put (nx := 21) (k0 := 8) (t := 0) G hB fl_RX12_253 (Nat.le_of_ble_eq_true rfl) (Nat.le_of_ble_eq_true rfl) rfl (fun h => nomatch h) rfl hp_v0 dX12_tells_18 rfl (fun m_16 e_m_16 hB => ?_)
    have h := h m_16 e_m_16
    refine z_iload (nx := 23) (a := 4) G rfl dX12_tells_21 rfl (z_i2l (nx := 24) G dX12_tells_23 rfl (b_lstoreE (nx := 26) (a := 5) (loc2 := [(2, v0), (0, v1), (0, v2), (0, v3), (0, v4), (1, v4), (9, 0), (9, 0), (9, 0), (9, 0), (9, 0), (9, 0)]) G rfl (Nat.le_of_ble_eq_true rfl) (am_pl1 rfl (fun h => nomatch h)) (am_nx9 rfl rfl) dX12_tells_24 rfl (z_aload_n (nx := 27) (a := 0) G rfl (Or.inl rfl) dX12_tells_26 rfl (z_sipush (nx := 30) (z := 400) G (R32c rfl) rfl dX12_tells_27 rfl (z_aload_n (nx := 31) (a := 0) G rfl (Or.inl rfl) dX12_tells_30 rfl (b_getA (nx := 34) (k0 := 2) G hB fl_RX12_24 (Nat.le_of_ble_eq_true rfl) (Nat.le_of_ble_eq_true rfl) rfl hp_v0 dX12_tells_31 rfl (z_sipush (nx := 37) (z := 369) G (R32c rfl) rfl dX12_tells_34 rfl ?_)))))))
    obtain ⟨hb, h⟩ := h
    refine z_iald (nx := 38) G (sh_12_2 _ hp_v0) hb.1 hb.2 dX12_tells_37 rfl ?_
    refine z_imul (nx := 39) G dX12_tells_38 rfl ?_
    refine b_put (nx := 42) (k0 := 22) (t := 0) G hB fl_RX12_281 (Nat.le_of_ble_eq_true rfl) (Nat.le_of_ble_eq_true rfl) rfl (fun h => nomatch h) rfl hp_v0 dX12_tells_39 rfl (fun m_17 e_m_17 hB => ?_)
    have h := h m_17 e_m_17
    refine z_aload_n (nx := 43) (a := 0) G rfl (Or.inl rfl) dX12_tells_42 rfl (z_aload_n (nx := 44) (a := 0) G rfl (Or.inl rfl) dX12_tells_43 rfl (b_getI (nx := 47) (k0 := 22) (t := 0) G fl_RX12_281 (Nat.le_of_ble_eq_true rfl) (Nat.le_of_ble_eq_true rfl) rfl hp_v0 dX12_tells_44 rfl (z_aload_n (nx := 48) (a := 0) G rfl (Or.inl rfl) dX12_tells_47 rfl (b_getA (nx := 51) (k0 := 2) G hB fl_RX12_24 (Nat.le_of_ble_eq_true rfl) (Nat.le_of_ble_eq_true rfl) rfl hp_v0 dX12_tells_48 rfl (z_sipush (nx := 54) (z := 370) G (R32c rfl) rfl dX12_tells_51 rfl (z_aload_n (nx := 55) (a := 0) G rfl (Or.inl rfl) dX12_tells_54 rfl (b_getA (nx := 58) (k0 := 2) G hB fl_RX12_24 (Nat.le_of_ble_eq_true rfl) (Nat.le_of_ble_eq_true rfl) rfl hp_v0 dX12_tells_55 rfl (z_sipush (nx := 61) (z := 369) G (R32c rfl) rfl dX12_tells_58 rfl ?_))))))))
    obtain ⟨hb, h⟩ := h
    refine z_iald (nx := 62) G (sh_12_2 _ hp_v0) hb.1 hb.2 dX12_tells_61 rfl ?_
    refine z_iadd (nx := 63) G dX12_tells_62 rfl ?_
    obtain ⟨hb, h⟩ := h
    refine z_iald (nx := 64) G (sh_12_2 _ hp_v0) hb.1 hb.2 dX12_tells_63 rfl ?_
    refine z_iadd (nx := 65) G dX12_tells_64 rfl ?_
    refine b_put (nx := 68) (k0 := 23) (t := 0) G hB fl_RX12_278 (Nat.le_of_ble_eq_true rfl) (Nat.le_of_ble_eq_true rfl) rfl (fun h => nomatch h) rfl hp_v0 dX12_tells_65 rfl (fun m_18 e_m_18 hB => ?_)
    have h := h m_18 e_m_18
    exact b_fewer (loc2 := [(2, v0), (0, v1), (0, v2), (0, v3), (9, 0), (1, v4), (9, 0), (9, 0), (9, 0), (9, 0), (9, 0), (9, 0)]) (am_lk (am_lk (am_lk (am_lk (am_lf (am_lk (am_lk (am_lk (am_lk (am_lk (am_lk (am_lk am_ln)))))))))))) (S_X12_tells_L1 X hp_v0 hB h)
  · have h := h.2 c
    refine z_iload (nx := 14) (a := 4) G rfl dX12_tells_12 rfl ?_
    exact b_ireturn X hB dX12_tells_14 h
theorem NM_X12_tells {v0 : Int} {v1 : Int} {v2 : Int} {v3 : Int} {v4 : Int} {K : am_KK} {m : am_M} (hp_v0 : am_ob v0 12) (h : M_X12_tells v0 v1 v2 v3 v4 K m) : N_X12_tells [v0, v1, v2, v3, v4] K m := ⟨hp_v0, h⟩
theorem SS_X12_tells : am_Snd yX12_tells cX12_tells 12 (some .int) 0 605 (am_L [2, 0, 0, 0, 0] 0 N_X12_tells) := by
  refine am_SB (by decide +kernel) (Nat.le_of_ble_eq_true rfl) (fun F zs as K m X ht hB hM => ?_)
  obtain ⟨v0, zs, as, rfl, rfl, hz0, ht⟩ := am_inv ht
  obtain ⟨v1, zs, as, rfl, rfl, hz1, ht⟩ := am_inv ht
  obtain ⟨v2, zs, as, rfl, rfl, hz2, ht⟩ := am_inv ht
  obtain ⟨v3, zs, as, rfl, rfl, hz3, ht⟩ := am_inv ht
  obtain ⟨v4, zs, as, rfl, rfl, hz4, ht⟩ := am_inv ht
  obtain ⟨rfl, rfl⟩ := am_inv0 ht
  obtain ⟨hp_v0, hM⟩ := hM
  exact S_X12_tells X hp_v0 hB hM
set_option maxRecDepth 20000 in
set_option maxHeartbeats 4000000 in
theorem S_X12_breathOf_L1B {F : am_F} {K : am_KK} {v0 : Int} {v1 : Int} {v2 : Int} {C2 : Int → am_M → Prop} {m : am_M} (X : am_Cx F cX12_breathOf RX12 (some .int) 606 0 K) (hp_v0 : am_ob v0 12) (hC2 : ∀ w2 m, C2 w2 m → am_Bt m → am_Z F 2 [] [(2, v0), (0, v1), (0, w2)] m 200) (hB : am_Bt m) (h : M_X12_breathOf_L1B v0 v1 v2 C2 K m) : am_Z F 2 [] [(2, v0), (0, v1), (0, v2)] m 200 := by
  have G := X.G
  unfold M_X12_breathOf_L1B at h
  refine z_iload_n (nx := 3) (a := 2) G rfl dX12_breathOf_2 rfl (z_bipush (nx := 5) (z := 8) G (R32c rfl) rfl dX12_breathOf_3 rfl ?_)
  refine z_icmp_ge (nx := 8) (tgt := 21) G dX12_breathOf_5 (by decide) rfl (fun c => ?_) (fun c => ?_)
  · have h := h.1 c
    refine z_aload_n (nx := 22) (a := 0) G rfl (Or.inl rfl) dX12_breathOf_21 rfl (b_getA (nx := 25) (k0 := 25) G hB fl_RX12_59 (Nat.le_of_ble_eq_true rfl) (Nat.le_of_ble_eq_true rfl) rfl hp_v0 dX12_breathOf_22 rfl (z_iconst (nx := 26) (z := 2) G (R32c rfl) dX12_breathOf_25 rfl (z_iload_n (nx := 27) (a := 1) G rfl dX12_breathOf_26 rfl ?_)))
    obtain ⟨hb, h⟩ := h
    refine b_iast (nx := 28) G hB (sh_12_25 _ hp_v0) hb.1 hb.2 dX12_breathOf_27 rfl (fun m_1 e_m_1 hB => ?_)
    have h := h m_1 e_m_1
    refine z_aload_n (nx := 29) (a := 0) G rfl (Or.inl rfl) dX12_breathOf_28 rfl (b_getA (nx := 32) (k0 := 25) G hB fl_RX12_59 (Nat.le_of_ble_eq_true rfl) (Nat.le_of_ble_eq_true rfl) rfl hp_v0 dX12_breathOf_29 rfl (z_iconst (nx := 33) (z := 3) G (R32c rfl) dX12_breathOf_32 rfl (z_aload_n (nx := 34) (a := 0) G rfl (Or.inl rfl) dX12_breathOf_33 rfl (b_getA (nx := 37) (k0 := 2) G hB fl_RX12_24 (Nat.le_of_ble_eq_true rfl) (Nat.le_of_ble_eq_true rfl) rfl hp_v0 dX12_breathOf_34 rfl (z_sipush (nx := 40) (z := 316) G (R32c rfl) rfl dX12_breathOf_37 rfl (z_iload_n (nx := 41) (a := 1) G rfl dX12_breathOf_40 rfl (z_iadd (nx := 42) G dX12_breathOf_41 rfl ?_)))))))
    obtain ⟨hb, h⟩ := h
    refine z_iald (nx := 43) G (sh_12_2 _ hp_v0) hb.1 hb.2 dX12_breathOf_42 rfl ?_
    obtain ⟨hb, h⟩ := h
    refine b_iast (nx := 44) G hB (sh_12_25 _ hp_v0) hb.1 hb.2 dX12_breathOf_43 rfl (fun m_2 e_m_2 hB => ?_)
    have h := h m_2 e_m_2
    refine z_aload_n (nx := 45) (a := 0) G rfl (Or.inl rfl) dX12_breathOf_44 rfl (b_getA (nx := 48) (k0 := 25) G hB fl_RX12_59 (Nat.le_of_ble_eq_true rfl) (Nat.le_of_ble_eq_true rfl) rfl hp_v0 dX12_breathOf_45 rfl (z_bipush (nx := 50) (z := 6) G (R32c rfl) rfl dX12_breathOf_48 rfl (z_aload_n (nx := 51) (a := 0) G rfl (Or.inl rfl) dX12_breathOf_50 rfl (b_getA (nx := 54) (k0 := 2) G hB fl_RX12_24 (Nat.le_of_ble_eq_true rfl) (Nat.le_of_ble_eq_true rfl) rfl hp_v0 dX12_breathOf_51 rfl (z_sipush (nx := 57) (z := 362) G (R32c rfl) rfl dX12_breathOf_54 rfl ?_)))))
    obtain ⟨hb, h⟩ := h
    refine z_iald (nx := 58) G (sh_12_2 _ hp_v0) hb.1 hb.2 dX12_breathOf_57 rfl ?_
    obtain ⟨hb, h⟩ := h
    refine b_iast (nx := 59) G hB (sh_12_25 _ hp_v0) hb.1 hb.2 dX12_breathOf_58 rfl (fun m_3 e_m_3 hB => ?_)
    have h := h m_3 e_m_3
    refine z_aload_n (nx := 60) (a := 0) G rfl (Or.inl rfl) dX12_breathOf_59 rfl (b_getA (nx := 63) (k0 := 25) G hB fl_RX12_59 (Nat.le_of_ble_eq_true rfl) (Nat.le_of_ble_eq_true rfl) rfl hp_v0 dX12_breathOf_60 rfl (z_bipush (nx := 65) (z := 7) G (R32c rfl) rfl dX12_breathOf_63 rfl (z_aload_n (nx := 66) (a := 0) G rfl (Or.inl rfl) dX12_breathOf_65 rfl (b_getA (nx := 69) (k0 := 2) G hB fl_RX12_24 (Nat.le_of_ble_eq_true rfl) (Nat.le_of_ble_eq_true rfl) rfl hp_v0 dX12_breathOf_66 rfl (z_sipush (nx := 72) (z := 169) G (R32c rfl) rfl dX12_breathOf_69 rfl ?_)))))
    obtain ⟨hb, h⟩ := h
    refine z_iald (nx := 73) G (sh_12_2 _ hp_v0) hb.1 hb.2 dX12_breathOf_72 rfl ?_
    obtain ⟨hb, h⟩ := h
    refine b_iast (nx := 74) G hB (sh_12_25 _ hp_v0) hb.1 hb.2 dX12_breathOf_73 rfl (fun m_4 e_m_4 hB => ?_)
    have h := h m_4 e_m_4
    refine z_aload_n (nx := 75) (a := 0) G rfl (Or.inl rfl) dX12_breathOf_74 rfl (z_iconst (nx := 76) (z := 2) G (R32c rfl) dX12_breathOf_75 rfl (z_iconst (nx := 77) (z := 0) G (R32c rfl) dX12_breathOf_76 rfl (z_bipush (nx := 79) (z := 99) G (R32c rfl) rfl dX12_breathOf_77 rfl (z_bipush (nx := 81) (z := 99) G (R32c rfl) rfl dX12_breathOf_79 rfl ?_))))
    refine b_callV0 (nx := 84) (zs := [v0, 2, 0, 99, 99]) (as := [(0, 2), (0, 0), (0, 99), (0, 99)]) X hB (by decide) rfl hp_v0 SS_X12_tells (am_ta (am_ti (am_ti (am_ti (am_ti am_tn))))) (Nat.le_of_ble_eq_true rfl) (Nat.le_of_ble_eq_true rfl) ml_RX12_323 iw_X12_tells vw_X12_tells cw_X12_tells nw_RX12 pp_X12_tells (Nat.le_of_ble_eq_true rfl) dX12_breathOf_81 rfl (NM_X12_tells hp_v0 h) (fun r_5 m_6 h hB => ?_)
    exact b_ireturn X hB dX12_breathOf_84 h
  · have h := h.2 c
    refine z_aload_n (nx := 9) (a := 0) G rfl (Or.inl rfl) dX12_breathOf_8 rfl (b_getA (nx := 12) (k0 := 25) G hB fl_RX12_59 (Nat.le_of_ble_eq_true rfl) (Nat.le_of_ble_eq_true rfl) rfl hp_v0 dX12_breathOf_9 rfl (z_iload_n (nx := 13) (a := 2) G rfl dX12_breathOf_12 rfl (z_iconst (nx := 14) (z := (-1)) G (R32c rfl) dX12_breathOf_13 rfl ?_)))
    obtain ⟨hb, h⟩ := h
    refine b_iast (nx := 15) G hB (sh_12_25 _ hp_v0) hb.1 hb.2 dX12_breathOf_14 rfl (fun m_7 e_m_7 hB => ?_)
    have h := h m_7 e_m_7
    refine b_iinc (nx := 18) (a := 2) (loc2 := fun v2_8 => [(2, v0), (0, v1), (0, v2_8)]) G (fun _ => rfl) rfl (am_pl1 rfl (fun h => nomatch h)) dX12_breathOf_15 rfl (fun v2_8 e_v2_8 => ?_)
    have h := h v2_8 e_v2_8
    refine z_goto (tgt := 2) G dX12_breathOf_18 (by decide) ?_
    exact b_fewer (loc2 := [(2, v0), (0, v1), (0, v2_8)]) (am_lk (am_lk (am_lk am_ln))) (hC2 _ _ h hB)
theorem S_X12_breathOf_L1 {F : am_F} {K : am_KK} {v0 : Int} {v1 : Int} {v2 : Int} {m : am_M} (X : am_Cx F cX12_breathOf RX12 (some .int) 606 0 K) (hp_v0 : am_ob v0 12) (hB : am_Bt m) (h : M_X12_breathOf_L1 v0 v1 v2 K m) : am_Z F 2 [] [(2, v0), (0, v1), (0, v2)] m 200 := by
  obtain ⟨I, ⟨j, hj⟩, hI⟩ := h
  have key : ∀ j v2 m, I j v2 m → am_Bt m → am_Z F 2 [] [(2, v0), (0, v1), (0, v2)] m 200 := by
    intro j
    induction j using Nat.strongRecOn with
    | ind j ih =>
      intro v2 m hj hB
      exact S_X12_breathOf_L1B X hp_v0 (fun v2' m' hc hB' => by
        obtain ⟨j', g1, g2⟩ := hc
        exact ih j' g1 v2' m' g2 hB') hB (hI j v2 m hj)
  exact key j _ _ hj hB
set_option maxRecDepth 20000 in
set_option maxHeartbeats 4000000 in
theorem S_X12_breathOf {F : am_F} {K : am_KK} {v0 : Int} {v1 : Int} {m : am_M} (X : am_Cx F cX12_breathOf RX12 (some .int) 606 0 K) (hp_v0 : am_ob v0 12) (hB : am_Bt m) (h : M_X12_breathOf v0 v1 K m) : am_Z F 0 [] [(2, v0), (0, v1), (9, 0)] m 200 := by
  have G := X.G
  unfold M_X12_breathOf at h
  refine z_iconst (nx := 1) (z := 0) G (R32c rfl) dX12_breathOf_0 rfl (b_storeE_n (nx := 2) (a := 2) (loc2 := [(2, v0), (0, v1), (0, 0)]) G rfl (Nat.le_of_ble_eq_true rfl) (am_pl1 rfl (fun h => nomatch h)) dX12_breathOf_1 rfl ?_)
  exact b_fewer (loc2 := [(2, v0), (0, v1), (0, 0)]) (am_lk (am_lk (am_lk am_ln))) (S_X12_breathOf_L1 X hp_v0 hB h)
theorem NM_X12_breathOf {v0 : Int} {v1 : Int} {K : am_KK} {m : am_M} (hp_v0 : am_ob v0 12) (h : M_X12_breathOf v0 v1 K m) : N_X12_breathOf [v0, v1] K m := ⟨hp_v0, h⟩
theorem SS_X12_breathOf : am_Snd yX12_breathOf cX12_breathOf 3 (some .int) 0 606 (am_L [2, 0] 0 N_X12_breathOf) := by
  refine am_SB (by decide +kernel) (Nat.le_of_ble_eq_true rfl) (fun F zs as K m X ht hB hM => ?_)
  obtain ⟨v0, zs, as, rfl, rfl, hz0, ht⟩ := am_inv ht
  obtain ⟨v1, zs, as, rfl, rfl, hz1, ht⟩ := am_inv ht
  obtain ⟨rfl, rfl⟩ := am_inv0 ht
  obtain ⟨hp_v0, hM⟩ := hM
  exact S_X12_breathOf X hp_v0 hB hM
set_option maxRecDepth 20000 in
set_option maxHeartbeats 4000000 in
theorem S_X12_whyNot {F : am_F} {K : am_KK} {v0 : Int} {v1 : Int} {v2 : Int} {v3 : Int} {v4 : Int} {m : am_M} (X : am_Cx F cX12_whyNot RX12 (some .int) 607 0 K) (hp_v0 : am_ob v0 12) (hB : am_Bt m) (h : M_X12_whyNot v0 v1 v2 v3 v4 K m) : am_Z F 0 [] [(2, v0), (0, v1), (0, v2), (0, v3), (0, v4)] m 200 := by
  have G := X.G
  unfold M_X12_whyNot at h
  refine z_iload_n (nx := 1) (a := 2) G rfl dX12_whyNot_0 rfl ?_
  refine b_callS5 (nx := 4) (zs := [v2]) (as := [(0, v2)]) X hB SS_X12_isThing (am_ti am_tn) (Nat.le_of_ble_eq_true rfl) (Nat.le_of_ble_eq_true rfl) ml_RX12_148 sw_X12_isThing (am_plainC 12 (by decide)) cw_X12_isThing nw_RX12 pp_X12_isThing (Nat.le_of_ble_eq_true rfl) dX12_whyNot_1 rfl (NM_X12_isThing h) (fun r_1 m_2 h h01_3 hB => ?_)
  refine z_if_eq (nx := 7) (tgt := 28) G dX12_whyNot_4 (by decide) rfl (fun c => ?_) (fun c => ?_)
  · have h := h.1 c
    refine z_iconst (nx := 29) (z := (-1)) G (R32c rfl) dX12_whyNot_28 rfl ?_
    exact b_ireturn X hB dX12_whyNot_29 h
  · have h := h.2 c
    refine z_iload_n (nx := 8) (a := 3) G rfl dX12_whyNot_7 rfl (z_iconst (nx := 9) (z := 1) G (R32c rfl) dX12_whyNot_8 rfl (z_bipush (nx := 11) (z := 99) G (R32c rfl) rfl dX12_whyNot_9 rfl ?_))
    refine b_callS5 (nx := 14) (zs := [v3, 1, 99]) (as := [(0, v3), (0, 1), (0, 99)]) X hB SS_X12_lies (am_ti (am_ti (am_ti am_tn))) (Nat.le_of_ble_eq_true rfl) (Nat.le_of_ble_eq_true rfl) ml_RX12_123 sw_X12_lies (am_plainC 12 (by decide)) cw_X12_lies nw_RX12 pp_X12_lies (Nat.le_of_ble_eq_true rfl) dX12_whyNot_11 rfl (NM_X12_lies h) (fun r_4 m_5 h h01_6 hB => ?_)
    refine z_if_eq (nx := 17) (tgt := 28) G dX12_whyNot_14 (by decide) rfl (fun c => ?_) (fun c => ?_)
    · have h := h.1 c
      refine z_iconst (nx := 29) (z := (-1)) G (R32c rfl) dX12_whyNot_28 rfl ?_
      exact b_ireturn X hB dX12_whyNot_29 h
    · have h := h.2 c
      refine z_iload (nx := 19) (a := 4) G rfl dX12_whyNot_17 rfl (z_iconst (nx := 20) (z := 1) G (R32c rfl) dX12_whyNot_19 rfl (z_bipush (nx := 22) (z := 6) G (R32c rfl) rfl dX12_whyNot_20 rfl ?_))
      refine b_callS5 (nx := 25) (zs := [v4, 1, 6]) (as := [(0, v4), (0, 1), (0, 6)]) X hB SS_X12_lies (am_ti (am_ti (am_ti am_tn))) (Nat.le_of_ble_eq_true rfl) (Nat.le_of_ble_eq_true rfl) ml_RX12_123 sw_X12_lies (am_plainC 12 (by decide)) cw_X12_lies nw_RX12 pp_X12_lies (Nat.le_of_ble_eq_true rfl) dX12_whyNot_22 rfl (NM_X12_lies h) (fun r_7 m_8 h h01_9 hB => ?_)
      refine z_if_ne (nx := 28) (tgt := 30) G dX12_whyNot_25 (by decide) rfl (fun c => ?_) (fun c => ?_)
      · have h := h.1 c
        refine z_aload_n (nx := 31) (a := 0) G rfl (Or.inl rfl) dX12_whyNot_30 rfl (z_iload_n (nx := 32) (a := 1) G rfl dX12_whyNot_31 rfl ?_)
        refine b_callV5 (nx := 35) (zs := [v0, v1]) (as := [(0, v1)]) X hB (by decide) rfl hp_v0 SS_X12_isPerson (am_ta (am_ti am_tn)) (Nat.le_of_ble_eq_true rfl) (Nat.le_of_ble_eq_true rfl) ml_RX12_161 iw_X12_isPerson vw_X12_isPerson cw_X12_isPerson nw_RX12 pp_X12_isPerson (Nat.le_of_ble_eq_true rfl) dX12_whyNot_32 rfl (NM_X12_isPerson hp_v0 h) (fun r_10 m_11 h h01_12 hB => ?_)
        refine z_if_ne (nx := 38) (tgt := 41) G dX12_whyNot_35 (by decide) rfl (fun c => ?_) (fun c => ?_)
        · have h := h.1 c
          refine z_iload_n (nx := 42) (a := 3) G rfl dX12_whyNot_41 rfl (z_aload_n (nx := 43) (a := 0) G rfl (Or.inl rfl) dX12_whyNot_42 rfl (z_iload_n (nx := 44) (a := 1) G rfl dX12_whyNot_43 rfl ?_))
          refine b_callV0 (nx := 47) (zs := [v0, v1]) (as := [(0, v1)]) X hB (by decide) rfl hp_v0 SS_X12_breathOf (am_ta (am_ti am_tn)) (Nat.le_of_ble_eq_true rfl) (Nat.le_of_ble_eq_true rfl) ml_RX12_164 iw_X12_breathOf vw_X12_breathOf cw_X12_breathOf nw_RX12 pp_X12_breathOf (Nat.le_of_ble_eq_true rfl) dX12_whyNot_44 rfl (NM_X12_breathOf hp_v0 h) (fun r_13 m_14 h hB => ?_)
          refine z_icmp_le (nx := 50) (tgt := 53) G dX12_whyNot_47 (by decide) rfl (fun c => ?_) (fun c => ?_)
          · have h := h.1 c
            refine z_aload_n (nx := 54) (a := 0) G rfl (Or.inl rfl) dX12_whyNot_53 rfl ?_
            refine b_callV0 (nx := 57) (zs := [v0]) (as := []) X hB (by decide) rfl hp_v0 SS_X12_prayers (am_ta am_tn) (Nat.le_of_ble_eq_true rfl) (Nat.le_of_ble_eq_true rfl) ml_RX12_133 iw_X12_prayers vw_X12_prayers cw_X12_prayers nw_RX12 pp_X12_prayers (Nat.le_of_ble_eq_true rfl) dX12_whyNot_54 rfl (NM_X12_prayers hp_v0 h) (fun r_15 m_16 h hB => ?_)
            refine z_bipush (nx := 59) (z := 16) G (R32c rfl) rfl dX12_whyNot_57 rfl ?_
            refine z_icmp_lt (nx := 62) (tgt := 67) G dX12_whyNot_59 (by decide) rfl (fun c => ?_) (fun c => ?_)
            · have h := h.1 c
              refine z_iconst (nx := 68) (z := 0) G (R32c rfl) dX12_whyNot_67 rfl ?_
              exact b_ireturn X hB dX12_whyNot_68 h
            · have h := h.2 c
              refine z_bipush (nx := 64) (z := (-5)) G (R32c rfl) rfl dX12_whyNot_62 rfl (z_goto (tgt := 68) G dX12_whyNot_64 (by decide) ?_)
              exact b_ireturn X hB dX12_whyNot_68 h
          · have h := h.2 c
            refine z_bipush (nx := 52) (z := (-3)) G (R32c rfl) rfl dX12_whyNot_50 rfl ?_
            exact b_ireturn X hB dX12_whyNot_52 h
        · have h := h.2 c
          refine z_bipush (nx := 40) (z := (-2)) G (R32c rfl) rfl dX12_whyNot_38 rfl ?_
          exact b_ireturn X hB dX12_whyNot_40 h
      · have h := h.2 c
        refine z_iconst (nx := 29) (z := (-1)) G (R32c rfl) dX12_whyNot_28 rfl ?_
        exact b_ireturn X hB dX12_whyNot_29 h
theorem NM_X12_whyNot {v0 : Int} {v1 : Int} {v2 : Int} {v3 : Int} {v4 : Int} {K : am_KK} {m : am_M} (hp_v0 : am_ob v0 12) (h : M_X12_whyNot v0 v1 v2 v3 v4 K m) : N_X12_whyNot [v0, v1, v2, v3, v4] K m := ⟨hp_v0, h⟩
theorem SS_X12_whyNot : am_Snd yX12_whyNot cX12_whyNot 5 (some .int) 0 607 (am_L [2, 0, 0, 0, 0] 0 N_X12_whyNot) := by
  refine am_SB (by decide +kernel) (Nat.le_of_ble_eq_true rfl) (fun F zs as K m X ht hB hM => ?_)
  obtain ⟨v0, zs, as, rfl, rfl, hz0, ht⟩ := am_inv ht
  obtain ⟨v1, zs, as, rfl, rfl, hz1, ht⟩ := am_inv ht
  obtain ⟨v2, zs, as, rfl, rfl, hz2, ht⟩ := am_inv ht
  obtain ⟨v3, zs, as, rfl, rfl, hz3, ht⟩ := am_inv ht
  obtain ⟨v4, zs, as, rfl, rfl, hz4, ht⟩ := am_inv ht
  obtain ⟨rfl, rfl⟩ := am_inv0 ht
  obtain ⟨hp_v0, hM⟩ := hM
  exact S_X12_whyNot X hp_v0 hB hM
set_option maxRecDepth 20000 in
set_option maxHeartbeats 4000000 in
theorem S_X12_row_J5 {F : am_F} {K : am_KK} {v0 : Int} {v1 : Int} {v2 : Int} {v3 : Int} {s0 : Int} {s1 : Int} {s2 : Int} {C40 : Int → Int → am_M → Prop} {m : am_M} (X : am_Cx F cX12_row RX12 (some .int) 608 0 K) (hp_v0 : am_ob v0 12) (hp_s0 : am_ob s0 12) (hp_s2 : s2 = 0 ∨ s2 = 1) (hC40 : ∀ w2 w3 m, C40 w2 w3 m → am_Bt m → am_Z F 40 [] [(2, v0), (0, v1), (0, w2), (0, w3), (9, 0)] m 200) (hB : am_Bt m) (h : M_X12_row_J5 v0 v1 v2 v3 s0 s1 s2 C40 K m) : am_Z F 144 [(0, s2), (0, s1), (2, s0)] [(2, v0), (0, v1), (0, v2), (0, v3), (9, 0)] m 200 := by
  have G := X.G
  unfold M_X12_row_J5 at h
  refine z_iadd (nx := 145) G dX12_row_144 rfl ?_
  refine b_put (nx := 148) (k0 := 6) (t := 0) G hB fl_RX12_170 (Nat.le_of_ble_eq_true rfl) (Nat.le_of_ble_eq_true rfl) rfl (fun h => nomatch h) rfl hp_s0 dX12_row_145 rfl (fun m_1 e_m_1 hB => ?_)
  have h := h m_1 e_m_1
  refine b_iinc (nx := 151) (a := 3) (loc2 := fun v3_2 => [(2, v0), (0, v1), (0, v2), (0, v3_2), (9, 0)]) G (fun _ => rfl) rfl (am_pl1 rfl (fun h => nomatch h)) dX12_row_148 rfl (fun v3_2 e_v3_2 => ?_)
  have h := h v3_2 e_v3_2
  refine z_goto (tgt := 40) G dX12_row_151 (by decide) ?_
  exact b_fewer (loc2 := [(2, v0), (0, v1), (0, v2), (0, v3_2), (9, 0)]) (am_lk (am_lk (am_lk (am_lk (am_lk am_ln))))) (hC40 _ _ _ h hB)
set_option maxRecDepth 20000 in
set_option maxHeartbeats 4000000 in
theorem S_X12_row_J4 {F : am_F} {K : am_KK} {v0 : Int} {v1 : Int} {v3 : Int} {v4 : Int} {s0 : Int} {s1 : Int} {C40 : Int → Int → am_M → Prop} {m : am_M} (X : am_Cx F cX12_row RX12 (some .int) 608 0 K) (hp_v0 : am_ob v0 12) (hp_s1 : s1 = 0 ∨ s1 = 1) (hC40 : ∀ w2 w3 m, C40 w2 w3 m → am_Bt m → am_Z F 40 [] [(2, v0), (0, v1), (0, w2), (0, w3), (9, 0)] m 200) (hB : am_Bt m) (h : M_X12_row_J4 v0 v1 v3 v4 s0 s1 C40 K m) : am_Z F 127 [(0, s1), (0, s0)] [(2, v0), (0, v1), (9, 0), (0, v3), (0, v4)] m 200 := by
  have G := X.G
  unfold M_X12_row_J4 at h
  refine z_iadd (nx := 128) G dX12_row_127 rfl ?_
  refine b_store_n (nx := 129) (a := 2) (loc2 := fun v2_3 => [(2, v0), (0, v1), (0, v2_3), (0, v3), (0, v4)]) G (fun _ => rfl) (Nat.le_of_ble_eq_true rfl) (am_pl1 rfl (fun h => nomatch h)) dX12_row_128 rfl (fun v2_3 e_v2_3 => ?_)
  have h := h v2_3 e_v2_3
  refine z_aload_n (nx := 130) (a := 0) G rfl (Or.inl rfl) dX12_row_129 rfl (z_dup (nx := 131) G (fun h => nomatch h) dX12_row_130 rfl (b_getI (nx := 134) (k0 := 6) (t := 0) G fl_RX12_170 (Nat.le_of_ble_eq_true rfl) (Nat.le_of_ble_eq_true rfl) rfl hp_v0 dX12_row_131 rfl (z_iload (nx := 136) (a := 4) G rfl dX12_row_134 rfl ?_)))
  refine z_if_eq (nx := 139) (tgt := 143) G dX12_row_136 (by decide) rfl (fun c => ?_) (fun c => ?_)
  · have h := h.1 c
    refine z_iconst (nx := 144) (z := 1) G (R32c rfl) dX12_row_143 rfl ?_
    exact b_fewer (loc2 := [(2, v0), (0, v1), (0, v2_3), (0, v3), (9, 0)]) (am_lk (am_lk (am_lk (am_lk (am_lf am_ln))))) (S_X12_row_J5 X hp_v0 hp_v0 (Or.inr rfl) hC40 hB h)
  · have h := h.2 c
    refine z_iconst (nx := 140) (z := 0) G (R32c rfl) dX12_row_139 rfl (z_goto (tgt := 144) G dX12_row_140 (by decide) ?_)
    exact b_fewer (loc2 := [(2, v0), (0, v1), (0, v2_3), (0, v3), (9, 0)]) (am_lk (am_lk (am_lk (am_lk (am_lf am_ln))))) (S_X12_row_J5 X hp_v0 hp_v0 (Or.inl rfl) hC40 hB h)
set_option maxRecDepth 20000 in
set_option maxHeartbeats 4000000 in
theorem S_X12_row_J3 {F : am_F} {K : am_KK} {v0 : Int} {v1 : Int} {v2 : Int} {v3 : Int} {v4 : Int} {C40 : Int → Int → am_M → Prop} {m : am_M} (X : am_Cx F cX12_row RX12 (some .int) 608 0 K) (hp_v0 : am_ob v0 12) (hC40 : ∀ w2 w3 m, C40 w2 w3 m → am_Bt m → am_Z F 40 [] [(2, v0), (0, v1), (0, w2), (0, w3), (9, 0)] m 200) (hB : am_Bt m) (h : M_X12_row_J3 v0 v1 v2 v3 v4 C40 K m) : am_Z F 116 [] [(2, v0), (0, v1), (0, v2), (0, v3), (0, v4)] m 200 := by
  have G := X.G
  unfold M_X12_row_J3 at h
  refine z_iload_n (nx := 117) (a := 2) G rfl dX12_row_116 rfl (z_iload (nx := 119) (a := 4) G rfl dX12_row_117 rfl ?_)
  refine z_if_eq (nx := 122) (tgt := 126) G dX12_row_119 (by decide) rfl (fun c => ?_) (fun c => ?_)
  · have h := h.1 c
    refine z_iconst (nx := 127) (z := 0) G (R32c rfl) dX12_row_126 rfl ?_
    exact b_fewer (loc2 := [(2, v0), (0, v1), (9, 0), (0, v3), (0, v4)]) (am_lk (am_lk (am_lf (am_lk (am_lk am_ln))))) (S_X12_row_J4 X hp_v0 (Or.inl rfl) hC40 hB h)
  · have h := h.2 c
    refine z_iconst (nx := 123) (z := 1) G (R32c rfl) dX12_row_122 rfl (z_goto (tgt := 127) G dX12_row_123 (by decide) ?_)
    exact b_fewer (loc2 := [(2, v0), (0, v1), (9, 0), (0, v3), (0, v4)]) (am_lk (am_lk (am_lf (am_lk (am_lk am_ln))))) (S_X12_row_J4 X hp_v0 (Or.inr rfl) hC40 hB h)
set_option maxRecDepth 20000 in
set_option maxHeartbeats 4000000 in
theorem S_X12_row_J2 {F : am_F} {K : am_KK} {v0 : Int} {v1 : Int} {v2 : Int} {v3 : Int} {s0 : Int} {C40 : Int → Int → am_M → Prop} {m : am_M} (X : am_Cx F cX12_row RX12 (some .int) 608 0 K) (hp_v0 : am_ob v0 12) (hp_s0 : s0 = 0 ∨ s0 = 1) (hC40 : ∀ w2 w3 m, C40 w2 w3 m → am_Bt m → am_Z F 40 [] [(2, v0), (0, v1), (0, w2), (0, w3), (9, 0)] m 200) (hB : am_Bt m) (h : M_X12_row_J2 v0 v1 v2 v3 s0 C40 K m) : am_Z F 82 [(0, s0)] [(2, v0), (0, v1), (0, v2), (0, v3), (9, 0)] m 200 := by
  have G := X.G
  unfold M_X12_row_J2 at h
  refine b_storeE (nx := 84) (a := 4) (loc2 := [(2, v0), (0, v1), (0, v2), (0, v3), (0, s0)]) G rfl (Nat.le_of_ble_eq_true rfl) (am_pl1 rfl (fun h => nomatch h)) dX12_row_82 rfl (z_iload (nx := 86) (a := 4) G rfl dX12_row_84 rfl ?_)
  refine z_if_eq (nx := 89) (tgt := 116) G dX12_row_86 (by decide) rfl (fun c => ?_) (fun c => ?_)
  · have h := h.1 c
    exact b_fewer (loc2 := [(2, v0), (0, v1), (0, v2), (0, v3), (0, s0)]) (am_lk (am_lk (am_lk (am_lk (am_lk am_ln))))) (S_X12_row_J3 X hp_v0 hC40 hB h)
  · have h := h.2 c
    refine z_aload_n (nx := 90) (a := 0) G rfl (Or.inl rfl) dX12_row_89 rfl (z_aload_n (nx := 91) (a := 0) G rfl (Or.inl rfl) dX12_row_90 rfl (b_getA (nx := 94) (k0 := 11) G hB fl_RX12_41 (Nat.le_of_ble_eq_true rfl) (Nat.le_of_ble_eq_true rfl) rfl hp_v0 dX12_row_91 rfl (z_iload_n (nx := 95) (a := 3) G rfl dX12_row_94 rfl ?_)))
    obtain ⟨hb, h⟩ := h
    refine z_bald (nx := 96) G (sh_12_11 _ hp_v0) hb.1 hb.2 dX12_row_95 rfl ?_
    refine z_aload_n (nx := 97) (a := 0) G rfl (Or.inl rfl) dX12_row_96 rfl (b_getA (nx := 100) (k0 := 11) G hB fl_RX12_41 (Nat.le_of_ble_eq_true rfl) (Nat.le_of_ble_eq_true rfl) rfl hp_v0 dX12_row_97 rfl (z_iload_n (nx := 101) (a := 3) G rfl dX12_row_100 rfl (z_iconst (nx := 102) (z := 1) G (R32c rfl) dX12_row_101 rfl (z_iadd (nx := 103) G dX12_row_102 rfl ?_))))
    obtain ⟨hb, h⟩ := h
    refine z_bald (nx := 104) G (sh_12_11 _ hp_v0) hb.1 hb.2 dX12_row_103 rfl ?_
    refine z_aload_n (nx := 105) (a := 0) G rfl (Or.inl rfl) dX12_row_104 rfl (b_getA (nx := 108) (k0 := 11) G hB fl_RX12_41 (Nat.le_of_ble_eq_true rfl) (Nat.le_of_ble_eq_true rfl) rfl hp_v0 dX12_row_105 rfl (z_iload_n (nx := 109) (a := 3) G rfl dX12_row_108 rfl (z_iconst (nx := 110) (z := 2) G (R32c rfl) dX12_row_109 rfl (z_iadd (nx := 111) G dX12_row_110 rfl ?_))))
    obtain ⟨hb, h⟩ := h
    refine z_bald (nx := 112) G (sh_12_11 _ hp_v0) hb.1 hb.2 dX12_row_111 rfl ?_
    refine z_iconst (nx := 113) (z := 1) G (R32c rfl) dX12_row_112 rfl ?_
    refine b_callV9 (nx := 116) (zs := [v0, m (am_rfv v0 11) v3, m (am_rfv v0 11) (w32 (v3 + 1)), m (am_rfv v0 11) (w32 (v3 + 2)), 1]) (as := [(0, m (am_rfv v0 11) v3), (0, m (am_rfv v0 11) (w32 (v3 + 1))), (0, m (am_rfv v0 11) (w32 (v3 + 2))), (0, 1)]) X hB (by decide) rfl hp_v0 SS_X12_says (am_ta (am_ti (am_ti (am_ti (am_ti am_tn))))) (Nat.le_of_ble_eq_true rfl) (Nat.le_of_ble_eq_true rfl) ml_RX12_177 iw_X12_says vw_X12_says cw_X12_says nw_RX12 pp_X12_says (Nat.le_of_ble_eq_true rfl) dX12_row_113 rfl (NM_X12_says hp_v0 h) (fun r_4 m_5 h hB => ?_)
    exact b_fewer (loc2 := [(2, v0), (0, v1), (0, v2), (0, v3), (0, s0)]) (am_lk (am_lk (am_lk (am_lk (am_lk am_ln))))) (S_X12_row_J3 X hp_v0 hC40 hB h)
set_option maxRecDepth 20000 in
set_option maxHeartbeats 4000000 in
theorem S_X12_row_L1B {F : am_F} {K : am_KK} {v0 : Int} {v1 : Int} {v2 : Int} {v3 : Int} {C40 : Int → Int → am_M → Prop} {m : am_M} (X : am_Cx F cX12_row RX12 (some .int) 608 0 K) (hp_v0 : am_ob v0 12) (hC40 : ∀ w2 w3 m, C40 w2 w3 m → am_Bt m → am_Z F 40 [] [(2, v0), (0, v1), (0, w2), (0, w3), (9, 0)] m 200) (hB : am_Bt m) (h : M_X12_row_L1B v0 v1 v2 v3 C40 K m) : am_Z F 40 [] [(2, v0), (0, v1), (0, v2), (0, v3), (9, 0)] m 200 := by
  have G := X.G
  unfold M_X12_row_L1B at h
  refine z_iload_n (nx := 41) (a := 3) G rfl dX12_row_40 rfl (z_iconst (nx := 42) (z := 3) G (R32c rfl) dX12_row_41 rfl (z_iadd (nx := 43) G dX12_row_42 rfl (z_iload_n (nx := 44) (a := 1) G rfl dX12_row_43 rfl ?_)))
  refine z_icmp_gt (nx := 47) (tgt := 154) G dX12_row_44 (by decide) rfl (fun c => ?_) (fun c => ?_)
  · have h := h.1 c
    refine z_aload_n (nx := 155) (a := 0) G rfl (Or.inl rfl) dX12_row_154 rfl (z_iload_n (nx := 156) (a := 2) G rfl dX12_row_155 rfl ?_)
    refine b_callV0 (nx := 159) (zs := [v0, v2]) (as := [(0, v2)]) X hB (by decide) rfl hp_v0 SS_X12_settled (am_ta (am_ti am_tn)) (Nat.le_of_ble_eq_true rfl) (Nat.le_of_ble_eq_true rfl) ml_RX12_130 iw_X12_settled vw_X12_settled cw_X12_settled nw_RX12 pp_X12_settled (Nat.le_of_ble_eq_true rfl) dX12_row_156 rfl (NM_X12_settled hp_v0 h) (fun r_6 m_7 h hB => ?_)
    exact b_ireturn X hB dX12_row_159 h
  · have h := h.2 c
    refine z_aload_n (nx := 48) (a := 0) G rfl (Or.inl rfl) dX12_row_47 rfl (z_aload_n (nx := 49) (a := 0) G rfl (Or.inl rfl) dX12_row_48 rfl (b_getA (nx := 52) (k0 := 11) G hB fl_RX12_41 (Nat.le_of_ble_eq_true rfl) (Nat.le_of_ble_eq_true rfl) rfl hp_v0 dX12_row_49 rfl (z_iload_n (nx := 53) (a := 3) G rfl dX12_row_52 rfl ?_)))
    obtain ⟨hb, h⟩ := h
    refine z_bald (nx := 54) G (sh_12_11 _ hp_v0) hb.1 hb.2 dX12_row_53 rfl ?_
    refine z_aload_n (nx := 55) (a := 0) G rfl (Or.inl rfl) dX12_row_54 rfl (b_getA (nx := 58) (k0 := 11) G hB fl_RX12_41 (Nat.le_of_ble_eq_true rfl) (Nat.le_of_ble_eq_true rfl) rfl hp_v0 dX12_row_55 rfl (z_iload_n (nx := 59) (a := 3) G rfl dX12_row_58 rfl (z_iconst (nx := 60) (z := 1) G (R32c rfl) dX12_row_59 rfl (z_iadd (nx := 61) G dX12_row_60 rfl ?_))))
    obtain ⟨hb, h⟩ := h
    refine z_bald (nx := 62) G (sh_12_11 _ hp_v0) hb.1 hb.2 dX12_row_61 rfl ?_
    refine z_aload_n (nx := 63) (a := 0) G rfl (Or.inl rfl) dX12_row_62 rfl (b_getA (nx := 66) (k0 := 11) G hB fl_RX12_41 (Nat.le_of_ble_eq_true rfl) (Nat.le_of_ble_eq_true rfl) rfl hp_v0 dX12_row_63 rfl (z_iload_n (nx := 67) (a := 3) G rfl dX12_row_66 rfl (z_iconst (nx := 68) (z := 2) G (R32c rfl) dX12_row_67 rfl (z_iadd (nx := 69) G dX12_row_68 rfl ?_))))
    obtain ⟨hb, h⟩ := h
    refine z_bald (nx := 70) G (sh_12_11 _ hp_v0) hb.1 hb.2 dX12_row_69 rfl ?_
    refine z_iconst (nx := 71) (z := 1) G (R32c rfl) dX12_row_70 rfl ?_
    refine b_callV0 (nx := 74) (zs := [v0, m (am_rfv v0 11) v3, m (am_rfv v0 11) (w32 (v3 + 1)), m (am_rfv v0 11) (w32 (v3 + 2)), 1]) (as := [(0, m (am_rfv v0 11) v3), (0, m (am_rfv v0 11) (w32 (v3 + 1))), (0, m (am_rfv v0 11) (w32 (v3 + 2))), (0, 1)]) X hB (by decide) rfl hp_v0 SS_X12_whyNot (am_ta (am_ti (am_ti (am_ti (am_ti am_tn))))) (Nat.le_of_ble_eq_true rfl) (Nat.le_of_ble_eq_true rfl) ml_RX12_173 iw_X12_whyNot vw_X12_whyNot cw_X12_whyNot nw_RX12 pp_X12_whyNot (Nat.le_of_ble_eq_true rfl) dX12_row_71 rfl (NM_X12_whyNot hp_v0 h) (fun r_8 m_9 h hB => ?_)
    refine z_if_ne (nx := 77) (tgt := 81) G dX12_row_74 (by decide) rfl (fun c => ?_) (fun c => ?_)
    · have h := h.1 c
      refine z_iconst (nx := 82) (z := 0) G (R32c rfl) dX12_row_81 rfl ?_
      exact b_fewer (loc2 := [(2, v0), (0, v1), (0, v2), (0, v3), (9, 0)]) (am_lk (am_lk (am_lk (am_lk (am_lk am_ln))))) (S_X12_row_J2 X hp_v0 (Or.inl rfl) hC40 hB h)
    · have h := h.2 c
      refine z_iconst (nx := 78) (z := 1) G (R32c rfl) dX12_row_77 rfl (z_goto (tgt := 82) G dX12_row_78 (by decide) ?_)
      exact b_fewer (loc2 := [(2, v0), (0, v1), (0, v2), (0, v3), (9, 0)]) (am_lk (am_lk (am_lk (am_lk (am_lk am_ln))))) (S_X12_row_J2 X hp_v0 (Or.inr rfl) hC40 hB h)
theorem S_X12_row_L1 {F : am_F} {K : am_KK} {v0 : Int} {v1 : Int} {v2 : Int} {v3 : Int} {m : am_M} (X : am_Cx F cX12_row RX12 (some .int) 608 0 K) (hp_v0 : am_ob v0 12) (hB : am_Bt m) (h : M_X12_row_L1 v0 v1 v2 v3 K m) : am_Z F 40 [] [(2, v0), (0, v1), (0, v2), (0, v3), (9, 0)] m 200 := by
  obtain ⟨I, ⟨j, hj⟩, hI⟩ := h
  have key : ∀ j v2 v3 m, I j v2 v3 m → am_Bt m → am_Z F 40 [] [(2, v0), (0, v1), (0, v2), (0, v3), (9, 0)] m 200 := by
    intro j
    induction j using Nat.strongRecOn with
    | ind j ih =>
      intro v2 v3 m hj hB
      exact S_X12_row_L1B X hp_v0 (fun v2' v3' m' hc hB' => by
        obtain ⟨j', g1, g2⟩ := hc
        exact ih j' g1 v2' v3' m' g2 hB') hB (hI j v2 v3 m hj)
  exact key j _ _ _ hj hB
set_option maxRecDepth 20000 in
set_option maxHeartbeats 4000000 in
theorem S_X12_row_J1 {F : am_F} {K : am_KK} {v0 : Int} {v1 : Int} {v2 : Int} {s0 : Int} {s1 : Int} {m : am_M} (X : am_Cx F cX12_row RX12 (some .int) 608 0 K) (hp_v0 : am_ob v0 12) (hp_s0 : am_ob s0 12) (hp_s1 : s1 = 0 ∨ s1 = 1) (hB : am_Bt m) (h : M_X12_row_J1 v0 v1 v2 s0 s1 K m) : am_Z F 35 [(0, s1), (2, s0)] [(2, v0), (0, v1), (0, v2), (9, 0), (9, 0)] m 200 := by
  have G := X.G
  unfold M_X12_row_J1 at h
  refine b_put (nx := 38) (k0 := 6) (t := 0) G hB fl_RX12_170 (Nat.le_of_ble_eq_true rfl) (Nat.le_of_ble_eq_true rfl) rfl (fun h => nomatch h) rfl hp_s0 dX12_row_35 rfl (fun m_10 e_m_10 hB => ?_)
  have h := h m_10 e_m_10
  refine z_iconst (nx := 39) (z := 0) G (R32c rfl) dX12_row_38 rfl (b_storeE_n (nx := 40) (a := 3) (loc2 := [(2, v0), (0, v1), (0, v2), (0, 0), (9, 0)]) G rfl (Nat.le_of_ble_eq_true rfl) (am_pl1 rfl (fun h => nomatch h)) dX12_row_39 rfl ?_)
  exact b_fewer (loc2 := [(2, v0), (0, v1), (0, v2), (0, 0), (9, 0)]) (am_lk (am_lk (am_lk (am_lk (am_lk am_ln))))) (S_X12_row_L1 X hp_v0 hB h)
set_option maxRecDepth 20000 in
set_option maxHeartbeats 4000000 in
theorem S_X12_row {F : am_F} {K : am_KK} {v0 : Int} {m : am_M} (X : am_Cx F cX12_row RX12 (some .int) 608 0 K) (hp_v0 : am_ob v0 12) (hB : am_Bt m) (h : M_X12_row v0 K m) : am_Z F 0 [] [(2, v0), (9, 0), (9, 0), (9, 0), (9, 0)] m 200 := by
  have G := X.G
  unfold M_X12_row at h
  refine z_aload_n (nx := 1) (a := 0) G rfl (Or.inl rfl) dX12_row_0 rfl (b_getI (nx := 4) (k0 := 13) (t := 0) G fl_RX12_167 (Nat.le_of_ble_eq_true rfl) (Nat.le_of_ble_eq_true rfl) rfl hp_v0 dX12_row_1 rfl ?_)
  refine b_store_n (nx := 5) (a := 1) (loc2 := fun v1_11 => [(2, v0), (0, v1_11), (9, 0), (9, 0), (9, 0)]) G (fun _ => rfl) (Nat.le_of_ble_eq_true rfl) (am_pl1 rfl (fun h => nomatch h)) dX12_row_4 rfl (fun v1_11 e_v1_11 => ?_)
  have h := h v1_11 e_v1_11
  refine z_aload_n (nx := 6) (a := 0) G rfl (Or.inl rfl) dX12_row_5 rfl (z_iconst (nx := 7) (z := 0) G (R32c rfl) dX12_row_6 rfl ?_)
  refine b_put (nx := 10) (k0 := 13) (t := 0) G hB fl_RX12_167 (Nat.le_of_ble_eq_true rfl) (Nat.le_of_ble_eq_true rfl) rfl (fun h => nomatch h) rfl hp_v0 dX12_row_7 rfl (fun m_12 e_m_12 hB => ?_)
  have h := h m_12 e_m_12
  refine z_iload_n (nx := 11) (a := 1) G rfl dX12_row_10 rfl ?_
  refine z_if_ne (nx := 14) (tgt := 21) G dX12_row_11 (by decide) rfl (fun c => ?_) (fun c => ?_)
  · have h := h.1 c
    refine z_iconst (nx := 22) (z := 0) G (R32c rfl) dX12_row_21 rfl (b_storeE_n (nx := 23) (a := 2) (loc2 := [(2, v0), (0, v1_11), (0, 0), (9, 0), (9, 0)]) G rfl (Nat.le_of_ble_eq_true rfl) (am_pl1 rfl (fun h => nomatch h)) dX12_row_22 rfl (z_aload_n (nx := 24) (a := 0) G rfl (Or.inl rfl) dX12_row_23 rfl (z_iload_n (nx := 25) (a := 1) G rfl dX12_row_24 rfl (z_iconst (nx := 26) (z := 3) G (R32c rfl) dX12_row_25 rfl (z_irem (nx := 27) G (by decide) dX12_row_26 rfl ?_)))))
    refine z_if_ne (nx := 30) (tgt := 34) G dX12_row_27 (by decide) rfl (fun c => ?_) (fun c => ?_)
    · have h := h.1 c
      refine z_iconst (nx := 35) (z := 1) G (R32c rfl) dX12_row_34 rfl ?_
      exact b_fewer (loc2 := [(2, v0), (0, v1_11), (0, 0), (9, 0), (9, 0)]) (am_lk (am_lk (am_lk (am_lk (am_lk am_ln))))) (S_X12_row_J1 X hp_v0 hp_v0 (Or.inr rfl) hB h)
    · have h := h.2 c
      refine z_iconst (nx := 31) (z := 0) G (R32c rfl) dX12_row_30 rfl (z_goto (tgt := 35) G dX12_row_31 (by decide) ?_)
      exact b_fewer (loc2 := [(2, v0), (0, v1_11), (0, 0), (9, 0), (9, 0)]) (am_lk (am_lk (am_lk (am_lk (am_lk am_ln))))) (S_X12_row_J1 X hp_v0 hp_v0 (Or.inl rfl) hB h)
  · have h := h.2 c
    refine z_aload_n (nx := 15) (a := 0) G rfl (Or.inl rfl) dX12_row_14 rfl (z_bipush (nx := 17) (z := (-6)) G (R32c rfl) rfl dX12_row_15 rfl ?_)
    refine b_callV0 (nx := 20) (zs := [v0, (-6)]) (as := [(0, (-6))]) X hB (by decide) rfl hp_v0 SS_X12_refuses (am_ta (am_ti am_tn)) (Nat.le_of_ble_eq_true rfl) (Nat.le_of_ble_eq_true rfl) ml_RX12_127 iw_X12_refuses vw_X12_refuses cw_X12_refuses nw_RX12 pp_X12_refuses (Nat.le_of_ble_eq_true rfl) dX12_row_17 rfl (NM_X12_refuses hp_v0 h) (fun r_13 m_14 h hB => ?_)
    exact b_ireturn X hB dX12_row_20 h
theorem NM_X12_row {v0 : Int} {K : am_KK} {m : am_M} (hp_v0 : am_ob v0 12) (h : M_X12_row v0 K m) : N_X12_row [v0] K m := ⟨hp_v0, h⟩
theorem SS_X12_row : am_Snd yX12_row cX12_row 5 (some .int) 0 608 (am_L [2] 0 N_X12_row) := by
  refine am_SB (by decide +kernel) (Nat.le_of_ble_eq_true rfl) (fun F zs as K m X ht hB hM => ?_)
  obtain ⟨v0, zs, as, rfl, rfl, hz0, ht⟩ := am_inv ht
  obtain ⟨rfl, rfl⟩ := am_inv0 ht
  obtain ⟨hp_v0, hM⟩ := hM
  exact S_X12_row X hp_v0 hB hM
set_option maxRecDepth 20000 in
set_option maxHeartbeats 4000000 in
theorem S_X12_coughs {F : am_F} {K : am_KK} {v0 : Int} {m : am_M} (X : am_Cx F cX12_coughs RX12 (some .int) 1 0 K) (hp_v0 : am_ob v0 12) (hB : am_Bt m) (h : M_X12_coughs v0 K m) : am_Z F 0 [] [(2, v0)] m 200 := by
  have G := X.G
  unfold M_X12_coughs at h
  refine z_aload_n (nx := 1) (a := 0) G rfl (Or.inl rfl) dX12_coughs_0 rfl (b_getI (nx := 4) (k0 := 6) (t := 0) G fl_RX12_170 (Nat.le_of_ble_eq_true rfl) (Nat.le_of_ble_eq_true rfl) rfl hp_v0 dX12_coughs_1 rfl ?_)
  exact b_ireturn X hB dX12_coughs_4 h
theorem NM_X12_coughs {v0 : Int} {K : am_KK} {m : am_M} (hp_v0 : am_ob v0 12) (h : M_X12_coughs v0 K m) : N_X12_coughs [v0] K m := ⟨hp_v0, h⟩
theorem SS_X12_coughs : am_Snd yX12_coughs cX12_coughs 1 (some .int) 0 1 (am_L [2] 0 N_X12_coughs) := by
  refine am_SB (by decide +kernel) (Nat.le_of_ble_eq_true rfl) (fun F zs as K m X ht hB hM => ?_)
  obtain ⟨v0, zs, as, rfl, rfl, hz0, ht⟩ := am_inv ht
  obtain ⟨rfl, rfl⟩ := am_inv0 ht
  obtain ⟨hp_v0, hM⟩ := hM
  exact S_X12_coughs X hp_v0 hB hM
set_option maxRecDepth 20000 in
set_option maxHeartbeats 4000000 in
theorem S_X12_feed_L1B {F : am_F} {K : am_KK} {v0 : Int} {v6 : Int} {C55 : Int → am_M → Prop} {m : am_M} (X : am_Cx F cX12_feed RX12 (some .int) 1 0 K) (hp_v0 : am_ob v0 12) (hC55 : ∀ w6 m, C55 w6 m → am_Bt m → am_Z F 55 [] [(2, v0), (9, 0), (9, 0), (9, 0), (9, 0), (9, 0), (0, w6)] m 200) (hB : am_Bt m) (h : M_X12_feed_L1B v0 v6 C55 K m) : am_Z F 55 [] [(2, v0), (9, 0), (9, 0), (9, 0), (9, 0), (9, 0), (0, v6)] m 200 := by
  have G := X.G
  unfold M_X12_feed_L1B at h
  refine z_iload (nx := 57) (a := 6) G rfl dX12_feed_55 rfl (z_bipush (nx := 59) (z := 20) G (R32c rfl) rfl dX12_feed_57 rfl ?_)
  refine z_icmp_ge (nx := 62) (tgt := 101) G dX12_feed_59 (by decide) rfl (fun c => ?_) (fun c => ?_)
  · have h := h.1 c
    refine z_aload_n (nx := 102) (a := 0) G rfl (Or.inl rfl) dX12_feed_101 rfl (z_dup (nx := 103) G (fun h => nomatch h) dX12_feed_102 rfl (b_getI (nx := 106) (k0 := 13) (t := 0) G fl_RX12_167 (Nat.le_of_ble_eq_true rfl) (Nat.le_of_ble_eq_true rfl) rfl hp_v0 dX12_feed_103 rfl (z_bipush (nx := 108) (z := 20) G (R32c rfl) rfl dX12_feed_106 rfl (z_iadd (nx := 109) G dX12_feed_108 rfl ?_))))
    refine b_put (nx := 112) (k0 := 13) (t := 0) G hB fl_RX12_167 (Nat.le_of_ble_eq_true rfl) (Nat.le_of_ble_eq_true rfl) rfl (fun h => nomatch h) rfl hp_v0 dX12_feed_109 rfl (fun m_1 e_m_1 hB => ?_)
    have h := h m_1 e_m_1
    refine z_aload_n (nx := 113) (a := 0) G rfl (Or.inl rfl) dX12_feed_112 rfl (b_getI (nx := 116) (k0 := 13) (t := 0) G fl_RX12_167 (Nat.le_of_ble_eq_true rfl) (Nat.le_of_ble_eq_true rfl) rfl hp_v0 dX12_feed_113 rfl ?_)
    exact b_ireturn X hB dX12_feed_116 h
  · have h := h.2 c
    refine z_aload_n (nx := 63) (a := 0) G rfl (Or.inl rfl) dX12_feed_62 rfl (b_getA (nx := 66) (k0 := 11) G hB fl_RX12_41 (Nat.le_of_ble_eq_true rfl) (Nat.le_of_ble_eq_true rfl) rfl hp_v0 dX12_feed_63 rfl (z_aload_n (nx := 67) (a := 0) G rfl (Or.inl rfl) dX12_feed_66 rfl (b_getI (nx := 70) (k0 := 13) (t := 0) G fl_RX12_167 (Nat.le_of_ble_eq_true rfl) (Nat.le_of_ble_eq_true rfl) rfl hp_v0 dX12_feed_67 rfl (z_iload (nx := 72) (a := 6) G rfl dX12_feed_70 rfl (z_iadd (nx := 73) G dX12_feed_72 rfl (z_aload_n (nx := 74) (a := 0) G rfl (Or.inl rfl) dX12_feed_73 rfl (b_getA (nx := 77) (k0 := 12) G hB fl_RX12_44 (Nat.le_of_ble_eq_true rfl) (Nat.le_of_ble_eq_true rfl) rfl hp_v0 dX12_feed_74 rfl (z_iload (nx := 79) (a := 6) G rfl dX12_feed_77 rfl (z_iconst (nx := 80) (z := 4) G (R32c rfl) dX12_feed_79 rfl (z_idiv (nx := 81) G (by decide) dX12_feed_80 rfl ?_))))))))))
    obtain ⟨hb, h⟩ := h
    refine z_iald (nx := 82) G (sh_12_12 _ hp_v0) hb.1 hb.2 dX12_feed_81 rfl ?_
    refine z_bipush (nx := 84) (z := 24) G (R32c rfl) rfl dX12_feed_82 rfl (z_bipush (nx := 86) (z := 8) G (R32c rfl) rfl dX12_feed_84 rfl (z_iload (nx := 88) (a := 6) G rfl dX12_feed_86 rfl (z_iconst (nx := 89) (z := 4) G (R32c rfl) dX12_feed_88 rfl (z_irem (nx := 90) G (by decide) dX12_feed_89 rfl (z_imul (nx := 91) G dX12_feed_90 rfl (z_isub (nx := 92) G dX12_feed_91 rfl (z_ishr (nx := 93) G dX12_feed_92 rfl (z_i2b (nx := 94) G dX12_feed_93 rfl ?_))))))))
    obtain ⟨hb, h⟩ := h
    obtain ⟨hbv, h⟩ := h
    refine b_bast (nx := 95) G hB hbv (sh_12_11 _ hp_v0) hb.1 hb.2 dX12_feed_94 rfl (fun m_2 e_m_2 hB => ?_)
    have h := h m_2 e_m_2
    refine b_iinc (nx := 98) (a := 6) (loc2 := fun v6_3 => [(2, v0), (9, 0), (9, 0), (9, 0), (9, 0), (9, 0), (0, v6_3)]) G (fun _ => rfl) rfl (am_pl1 rfl (fun h => nomatch h)) dX12_feed_95 rfl (fun v6_3 e_v6_3 => ?_)
    have h := h v6_3 e_v6_3
    refine z_goto (tgt := 55) G dX12_feed_98 (by decide) ?_
    exact b_fewer (loc2 := [(2, v0), (9, 0), (9, 0), (9, 0), (9, 0), (9, 0), (0, v6_3)]) (am_lk (am_lk (am_lk (am_lk (am_lk (am_lk (am_lk am_ln))))))) (hC55 _ _ h hB)
theorem S_X12_feed_L1 {F : am_F} {K : am_KK} {v0 : Int} {v6 : Int} {m : am_M} (X : am_Cx F cX12_feed RX12 (some .int) 1 0 K) (hp_v0 : am_ob v0 12) (hB : am_Bt m) (h : M_X12_feed_L1 v0 v6 K m) : am_Z F 55 [] [(2, v0), (9, 0), (9, 0), (9, 0), (9, 0), (9, 0), (0, v6)] m 200 := by
  obtain ⟨I, ⟨j, hj⟩, hI⟩ := h
  have key : ∀ j v6 m, I j v6 m → am_Bt m → am_Z F 55 [] [(2, v0), (9, 0), (9, 0), (9, 0), (9, 0), (9, 0), (0, v6)] m 200 := by
    intro j
    induction j using Nat.strongRecOn with
    | ind j ih =>
      intro v6 m hj hB
      exact S_X12_feed_L1B X hp_v0 (fun v6' m' hc hB' => by
        obtain ⟨j', g1, g2⟩ := hc
        exact ih j' g1 v6' m' g2 hB') hB (hI j v6 m hj)
  exact key j _ _ hj hB
set_option maxRecDepth 20000 in
set_option maxHeartbeats 4000000 in
theorem S_X12_feed {F : am_F} {K : am_KK} {v0 : Int} {v1 : Int} {v2 : Int} {v3 : Int} {v4 : Int} {v5 : Int} {m : am_M} (X : am_Cx F cX12_feed RX12 (some .int) 1 0 K) (hp_v0 : am_ob v0 12) (hB : am_Bt m) (h : M_X12_feed v0 v1 v2 v3 v4 v5 K m) : am_Z F 0 [] [(2, v0), (0, v1), (0, v2), (0, v3), (0, v4), (0, v5), (9, 0)] m 200 := by
  have G := X.G
  unfold M_X12_feed at h
  refine z_aload_n (nx := 1) (a := 0) G rfl (Or.inl rfl) dX12_feed_0 rfl (b_getI (nx := 4) (k0 := 13) (t := 0) G fl_RX12_167 (Nat.le_of_ble_eq_true rfl) (Nat.le_of_ble_eq_true rfl) rfl hp_v0 dX12_feed_1 rfl (z_bipush (nx := 6) (z := 20) G (R32c rfl) rfl dX12_feed_4 rfl (z_iadd (nx := 7) G dX12_feed_6 rfl (z_sipush (nx := 10) (z := 400) G (R32c rfl) rfl dX12_feed_7 rfl ?_))))
  refine z_icmp_le (nx := 13) (tgt := 15) G dX12_feed_10 (by decide) rfl (fun c => ?_) (fun c => ?_)
  · have h := h.1 c
    refine z_aload_n (nx := 16) (a := 0) G rfl (Or.inl rfl) dX12_feed_15 rfl (b_getA (nx := 19) (k0 := 12) G hB fl_RX12_44 (Nat.le_of_ble_eq_true rfl) (Nat.le_of_ble_eq_true rfl) rfl hp_v0 dX12_feed_16 rfl (z_iconst (nx := 20) (z := 0) G (R32c rfl) dX12_feed_19 rfl (z_iload_n (nx := 21) (a := 1) G rfl dX12_feed_20 rfl ?_)))
    obtain ⟨hb, h⟩ := h
    refine b_iast (nx := 22) G hB (sh_12_12 _ hp_v0) hb.1 hb.2 dX12_feed_21 rfl (fun m_4 e_m_4 hB => ?_)
    have h := h m_4 e_m_4
    refine z_aload_n (nx := 23) (a := 0) G rfl (Or.inl rfl) dX12_feed_22 rfl (b_getA (nx := 26) (k0 := 12) G hB fl_RX12_44 (Nat.le_of_ble_eq_true rfl) (Nat.le_of_ble_eq_true rfl) rfl hp_v0 dX12_feed_23 rfl (z_iconst (nx := 27) (z := 1) G (R32c rfl) dX12_feed_26 rfl (z_iload_n (nx := 28) (a := 2) G rfl dX12_feed_27 rfl ?_)))
    obtain ⟨hb, h⟩ := h
    refine b_iast (nx := 29) G hB (sh_12_12 _ hp_v0) hb.1 hb.2 dX12_feed_28 rfl (fun m_5 e_m_5 hB => ?_)
    have h := h m_5 e_m_5
    refine z_aload_n (nx := 30) (a := 0) G rfl (Or.inl rfl) dX12_feed_29 rfl (b_getA (nx := 33) (k0 := 12) G hB fl_RX12_44 (Nat.le_of_ble_eq_true rfl) (Nat.le_of_ble_eq_true rfl) rfl hp_v0 dX12_feed_30 rfl (z_iconst (nx := 34) (z := 2) G (R32c rfl) dX12_feed_33 rfl (z_iload_n (nx := 35) (a := 3) G rfl dX12_feed_34 rfl ?_)))
    obtain ⟨hb, h⟩ := h
    refine b_iast (nx := 36) G hB (sh_12_12 _ hp_v0) hb.1 hb.2 dX12_feed_35 rfl (fun m_6 e_m_6 hB => ?_)
    have h := h m_6 e_m_6
    refine z_aload_n (nx := 37) (a := 0) G rfl (Or.inl rfl) dX12_feed_36 rfl (b_getA (nx := 40) (k0 := 12) G hB fl_RX12_44 (Nat.le_of_ble_eq_true rfl) (Nat.le_of_ble_eq_true rfl) rfl hp_v0 dX12_feed_37 rfl (z_iconst (nx := 41) (z := 3) G (R32c rfl) dX12_feed_40 rfl (z_iload (nx := 43) (a := 4) G rfl dX12_feed_41 rfl ?_)))
    obtain ⟨hb, h⟩ := h
    refine b_iast (nx := 44) G hB (sh_12_12 _ hp_v0) hb.1 hb.2 dX12_feed_43 rfl (fun m_7 e_m_7 hB => ?_)
    have h := h m_7 e_m_7
    refine z_aload_n (nx := 45) (a := 0) G rfl (Or.inl rfl) dX12_feed_44 rfl (b_getA (nx := 48) (k0 := 12) G hB fl_RX12_44 (Nat.le_of_ble_eq_true rfl) (Nat.le_of_ble_eq_true rfl) rfl hp_v0 dX12_feed_45 rfl (z_iconst (nx := 49) (z := 4) G (R32c rfl) dX12_feed_48 rfl (z_iload (nx := 51) (a := 5) G rfl dX12_feed_49 rfl ?_)))
    obtain ⟨hb, h⟩ := h
    refine b_iast (nx := 52) G hB (sh_12_12 _ hp_v0) hb.1 hb.2 dX12_feed_51 rfl (fun m_8 e_m_8 hB => ?_)
    have h := h m_8 e_m_8
    refine z_iconst (nx := 53) (z := 0) G (R32c rfl) dX12_feed_52 rfl (b_storeE (nx := 55) (a := 6) (loc2 := [(2, v0), (0, v1), (0, v2), (0, v3), (0, v4), (0, v5), (0, 0)]) G rfl (Nat.le_of_ble_eq_true rfl) (am_pl1 rfl (fun h => nomatch h)) dX12_feed_53 rfl ?_)
    exact b_fewer (loc2 := [(2, v0), (9, 0), (9, 0), (9, 0), (9, 0), (9, 0), (0, 0)]) (am_lk (am_lf (am_lf (am_lf (am_lf (am_lf (am_lk am_ln))))))) (S_X12_feed_L1 X hp_v0 hB h)
  · have h := h.2 c
    refine z_iconst (nx := 14) (z := (-1)) G (R32c rfl) dX12_feed_13 rfl ?_
    exact b_ireturn X hB dX12_feed_14 h
theorem NM_X12_feed {v0 : Int} {v1 : Int} {v2 : Int} {v3 : Int} {v4 : Int} {v5 : Int} {K : am_KK} {m : am_M} (hp_v0 : am_ob v0 12) (h : M_X12_feed v0 v1 v2 v3 v4 v5 K m) : N_X12_feed [v0, v1, v2, v3, v4, v5] K m := ⟨hp_v0, h⟩
theorem SS_X12_feed : am_Snd yX12_feed cX12_feed 7 (some .int) 0 1 (am_L [2, 0, 0, 0, 0, 0] 0 N_X12_feed) := by
  refine am_SB (by decide +kernel) (Nat.le_of_ble_eq_true rfl) (fun F zs as K m X ht hB hM => ?_)
  obtain ⟨v0, zs, as, rfl, rfl, hz0, ht⟩ := am_inv ht
  obtain ⟨v1, zs, as, rfl, rfl, hz1, ht⟩ := am_inv ht
  obtain ⟨v2, zs, as, rfl, rfl, hz2, ht⟩ := am_inv ht
  obtain ⟨v3, zs, as, rfl, rfl, hz3, ht⟩ := am_inv ht
  obtain ⟨v4, zs, as, rfl, rfl, hz4, ht⟩ := am_inv ht
  obtain ⟨v5, zs, as, rfl, rfl, hz5, ht⟩ := am_inv ht
  obtain ⟨rfl, rfl⟩ := am_inv0 ht
  obtain ⟨hp_v0, hM⟩ := hM
  exact S_X12_feed X hp_v0 hB hM
set_option maxRecDepth 20000 in
set_option maxHeartbeats 4000000 in
theorem S_X12_end {F : am_F} {K : am_KK} {v0 : Int} {v1 : Int} {m : am_M} (X : am_Cx F cX12_end RX12 (some .int) 2 0 K) (hp_v0 : am_ob v0 12) (hB : am_Bt m) (h : M_X12_end v0 v1 K m) : am_Z F 0 [] [(2, v0), (0, v1)] m 200 := by
  have G := X.G
  unfold M_X12_end at h
  refine z_iload_n (nx := 1) (a := 1) G rfl dX12_end_0 rfl (z_iconst (nx := 2) (z := 0) G (R32c rfl) dX12_end_1 rfl (z_aload_n (nx := 3) (a := 0) G rfl (Or.inl rfl) dX12_end_2 rfl (b_getI (nx := 6) (k0 := 13) (t := 0) G fl_RX12_167 (Nat.le_of_ble_eq_true rfl) (Nat.le_of_ble_eq_true rfl) rfl hp_v0 dX12_end_3 rfl ?_)))
  refine b_callS5 (nx := 9) (zs := [v1, 0, m v0 13]) (as := [(0, v1), (0, 0), (0, m v0 13)]) X hB SS_X12_lies (am_ti (am_ti (am_ti am_tn))) (Nat.le_of_ble_eq_true rfl) (Nat.le_of_ble_eq_true rfl) ml_RX12_123 sw_X12_lies (am_plainC 12 (by decide)) cw_X12_lies nw_RX12 pp_X12_lies (Nat.le_of_ble_eq_true rfl) dX12_end_6 rfl (NM_X12_lies h) (fun r_1 m_2 h h01_3 hB => ?_)
  refine z_if_ne (nx := 12) (tgt := 14) G dX12_end_9 (by decide) rfl (fun c => ?_) (fun c => ?_)
  · have h := h.1 c
    refine z_aload_n (nx := 15) (a := 0) G rfl (Or.inl rfl) dX12_end_14 rfl (z_iload_n (nx := 16) (a := 1) G rfl dX12_end_15 rfl ?_)
    refine b_put (nx := 19) (k0 := 13) (t := 0) G hB fl_RX12_167 (Nat.le_of_ble_eq_true rfl) (Nat.le_of_ble_eq_true rfl) rfl (fun h => nomatch h) rfl hp_v0 dX12_end_16 rfl (fun m_4 e_m_4 hB => ?_)
    have h := h m_4 e_m_4
    refine z_iload_n (nx := 20) (a := 1) G rfl dX12_end_19 rfl ?_
    exact b_ireturn X hB dX12_end_20 h
  · have h := h.2 c
    refine z_iconst (nx := 13) (z := (-1)) G (R32c rfl) dX12_end_12 rfl ?_
    exact b_ireturn X hB dX12_end_13 h
theorem NM_X12_end {v0 : Int} {v1 : Int} {K : am_KK} {m : am_M} (hp_v0 : am_ob v0 12) (h : M_X12_end v0 v1 K m) : N_X12_end [v0, v1] K m := ⟨hp_v0, h⟩
theorem SS_X12_end : am_Snd yX12_end cX12_end 2 (some .int) 0 2 (am_L [2, 0] 0 N_X12_end) := by
  refine am_SB (by decide +kernel) (Nat.le_of_ble_eq_true rfl) (fun F zs as K m X ht hB hM => ?_)
  obtain ⟨v0, zs, as, rfl, rfl, hz0, ht⟩ := am_inv ht
  obtain ⟨v1, zs, as, rfl, rfl, hz1, ht⟩ := am_inv ht
  obtain ⟨rfl, rfl⟩ := am_inv0 ht
  obtain ⟨hp_v0, hM⟩ := hM
  exact S_X12_end X hp_v0 hB hM
set_option maxRecDepth 20000 in
set_option maxHeartbeats 4000000 in
theorem S_X12_isSmall {F : am_F} {K : am_KK} {v0 : Int} {m : am_M} (X : am_Cx F cX12_isSmall RX12 (some .boolean) 1 5 K) (hB : am_Bt m) (h : M_X12_isSmall v0 K m) : am_Z F 0 [] [(0, v0)] m 200 := by
  have G := X.G
  unfold M_X12_isSmall at h
  refine z_iload_n (nx := 1) (a := 0) G rfl dX12_isSmall_0 rfl (z_bipush (nx := 3) (z := 97) G (R32c rfl) rfl dX12_isSmall_1 rfl ?_)
  refine z_icmp_lt (nx := 6) (tgt := 16) G dX12_isSmall_3 (by decide) rfl (fun c => ?_) (fun c => ?_)
  · have h := h.1 c
    refine z_iconst (nx := 17) (z := 0) G (R32c rfl) dX12_isSmall_16 rfl ?_
    exact b_zreturn X hB (Or.inl rfl) dX12_isSmall_17 h
  · have h := h.2 c
    refine z_iload_n (nx := 7) (a := 0) G rfl dX12_isSmall_6 rfl (z_bipush (nx := 9) (z := 122) G (R32c rfl) rfl dX12_isSmall_7 rfl ?_)
    refine z_icmp_gt (nx := 12) (tgt := 16) G dX12_isSmall_9 (by decide) rfl (fun c => ?_) (fun c => ?_)
    · have h := h.1 c
      refine z_iconst (nx := 17) (z := 0) G (R32c rfl) dX12_isSmall_16 rfl ?_
      exact b_zreturn X hB (Or.inl rfl) dX12_isSmall_17 h
    · have h := h.2 c
      refine z_iconst (nx := 13) (z := 1) G (R32c rfl) dX12_isSmall_12 rfl (z_goto (tgt := 17) G dX12_isSmall_13 (by decide) ?_)
      exact b_zreturn X hB (Or.inr rfl) dX12_isSmall_17 h
theorem NM_X12_isSmall {v0 : Int} {K : am_KK} {m : am_M} (h : M_X12_isSmall v0 K m) : N_X12_isSmall [v0] K m := h
theorem SS_X12_isSmall : am_Snd yX12_isSmall cX12_isSmall 1 (some .boolean) 0 1 (am_L [0] 5 N_X12_isSmall) := by
  refine am_SB (by decide +kernel) (Nat.le_of_ble_eq_true rfl) (fun F zs as K m X ht hB hM => ?_)
  obtain ⟨v0, zs, as, rfl, rfl, hz0, ht⟩ := am_inv ht
  obtain ⟨rfl, rfl⟩ := am_inv0 ht
  exact S_X12_isSmall X hB hM
set_option maxRecDepth 20000 in
set_option maxHeartbeats 4000000 in
theorem S_X12_isDigit {F : am_F} {K : am_KK} {v0 : Int} {m : am_M} (X : am_Cx F cX12_isDigit RX12 (some .boolean) 1 5 K) (hB : am_Bt m) (h : M_X12_isDigit v0 K m) : am_Z F 0 [] [(0, v0)] m 200 := by
  have G := X.G
  unfold M_X12_isDigit at h
  refine z_iload_n (nx := 1) (a := 0) G rfl dX12_isDigit_0 rfl (z_bipush (nx := 3) (z := 48) G (R32c rfl) rfl dX12_isDigit_1 rfl ?_)
  refine z_icmp_lt (nx := 6) (tgt := 16) G dX12_isDigit_3 (by decide) rfl (fun c => ?_) (fun c => ?_)
  · have h := h.1 c
    refine z_iconst (nx := 17) (z := 0) G (R32c rfl) dX12_isDigit_16 rfl ?_
    exact b_zreturn X hB (Or.inl rfl) dX12_isDigit_17 h
  · have h := h.2 c
    refine z_iload_n (nx := 7) (a := 0) G rfl dX12_isDigit_6 rfl (z_bipush (nx := 9) (z := 57) G (R32c rfl) rfl dX12_isDigit_7 rfl ?_)
    refine z_icmp_gt (nx := 12) (tgt := 16) G dX12_isDigit_9 (by decide) rfl (fun c => ?_) (fun c => ?_)
    · have h := h.1 c
      refine z_iconst (nx := 17) (z := 0) G (R32c rfl) dX12_isDigit_16 rfl ?_
      exact b_zreturn X hB (Or.inl rfl) dX12_isDigit_17 h
    · have h := h.2 c
      refine z_iconst (nx := 13) (z := 1) G (R32c rfl) dX12_isDigit_12 rfl (z_goto (tgt := 17) G dX12_isDigit_13 (by decide) ?_)
      exact b_zreturn X hB (Or.inr rfl) dX12_isDigit_17 h
theorem NM_X12_isDigit {v0 : Int} {K : am_KK} {m : am_M} (h : M_X12_isDigit v0 K m) : N_X12_isDigit [v0] K m := h
theorem SS_X12_isDigit : am_Snd yX12_isDigit cX12_isDigit 1 (some .boolean) 0 1 (am_L [0] 5 N_X12_isDigit) := by
  refine am_SB (by decide +kernel) (Nat.le_of_ble_eq_true rfl) (fun F zs as K m X ht hB hM => ?_)
  obtain ⟨v0, zs, as, rfl, rfl, hz0, ht⟩ := am_inv ht
  obtain ⟨rfl, rfl⟩ := am_inv0 ht
  exact S_X12_isDigit X hB hM
set_option maxRecDepth 20000 in
set_option maxHeartbeats 4000000 in
theorem S_X12_wordAt_J3 {F : am_F} {K : am_KK} {v0 : Int} {v1 : Int} {v2 : Int} {v3 : Int} {v4 : Int} {v5 : Int} {v6 : Int} {C5 : Int → Int → am_M → Prop} {m : am_M} (X : am_Cx F cX12_wordAt RX12 (some .int) 1 0 K) (hp_v0 : am_ob v0 12) (hC5 : ∀ w3 w4 m, C5 w3 w4 m → am_Bt m → am_Z F 5 [] [(2, v0), (0, v1), (0, v2), (0, w3), (0, w4), (9, 0), (9, 0), (9, 0)] m 200) (hB : am_Bt m) (h : M_X12_wordAt_J3 v0 v1 v2 v3 v4 v5 v6 C5 K m) : am_Z F 104 [] [(2, v0), (0, v1), (0, v2), (0, v3), (0, v4), (0, v5), (0, v6), (9, 0)] m 200 := by
  have G := X.G
  unfold M_X12_wordAt_J3 at h
  refine z_iload (nx := 106) (a := 6) G rfl dX12_wordAt_104 rfl ?_
  refine z_if_eq (nx := 109) (tgt := 111) G dX12_wordAt_106 (by decide) rfl (fun c => ?_) (fun c => ?_)
  · have h := h.1 c
    refine z_iload (nx := 113) (a := 4) G rfl dX12_wordAt_111 rfl (z_iload (nx := 115) (a := 5) G rfl dX12_wordAt_113 rfl (z_iconst (nx := 116) (z := 1) G (R32c rfl) dX12_wordAt_115 rfl (z_iadd (nx := 117) G dX12_wordAt_116 rfl (z_iadd (nx := 118) G dX12_wordAt_117 rfl ?_))))
    refine b_store (nx := 120) (a := 4) (loc2 := fun v4_1 => [(2, v0), (0, v1), (0, v2), (0, v3), (0, v4_1), (0, v5), (0, v6), (9, 0)]) G (fun _ => rfl) (Nat.le_of_ble_eq_true rfl) (am_pl1 rfl (fun h => nomatch h)) dX12_wordAt_118 rfl (fun v4_1 e_v4_1 => ?_)
    have h := h v4_1 e_v4_1
    refine b_iinc (nx := 123) (a := 3) (loc2 := fun v3_2 => [(2, v0), (0, v1), (0, v2), (0, v3_2), (0, v4_1), (0, v5), (0, v6), (9, 0)]) G (fun _ => rfl) rfl (am_pl1 rfl (fun h => nomatch h)) dX12_wordAt_120 rfl (fun v3_2 e_v3_2 => ?_)
    have h := h v3_2 e_v3_2
    refine z_goto (tgt := 5) G dX12_wordAt_123 (by decide) ?_
    exact b_fewer (loc2 := [(2, v0), (0, v1), (0, v2), (0, v3_2), (0, v4_1), (9, 0), (9, 0), (9, 0)]) (am_lk (am_lk (am_lk (am_lk (am_lk (am_lf (am_lf (am_lk am_ln)))))))) (hC5 _ _ _ h hB)
  · have h := h.2 c
    refine z_iload_n (nx := 110) (a := 3) G rfl dX12_wordAt_109 rfl ?_
    exact b_ireturn X hB dX12_wordAt_110 h
set_option maxRecDepth 20000 in
set_option maxHeartbeats 4000000 in
theorem S_X12_wordAt_J2 {F : am_F} {K : am_KK} {v0 : Int} {v1 : Int} {v2 : Int} {v3 : Int} {v4 : Int} {v5 : Int} {v7 : Int} {s0 : Int} {C57 : Int → Int → am_M → Prop} {C5 : Int → Int → am_M → Prop} {m : am_M} (X : am_Cx F cX12_wordAt RX12 (some .int) 1 0 K) (hp_v0 : am_ob v0 12) (hp_s0 : s0 = 0 ∨ s0 = 1) (hC57 : ∀ w6 w7 m, C57 w6 w7 m → am_Bt m → am_Z F 57 [] [(2, v0), (0, v1), (0, v2), (0, v3), (0, v4), (0, v5), (0, w6), (0, w7)] m 200) (hC5 : ∀ w3 w4 m, C5 w3 w4 m → am_Bt m → am_Z F 5 [] [(2, v0), (0, v1), (0, v2), (0, w3), (0, w4), (9, 0), (9, 0), (9, 0)] m 200) (hB : am_Bt m) (h : M_X12_wordAt_J2 v0 v1 v2 v3 v4 v5 v7 s0 C57 C5 K m) : am_Z F 96 [(0, s0)] [(2, v0), (0, v1), (0, v2), (0, v3), (0, v4), (0, v5), (9, 0), (0, v7)] m 200 := by
  have G := X.G
  unfold M_X12_wordAt_J2 at h
  refine b_storeE (nx := 98) (a := 6) (loc2 := [(2, v0), (0, v1), (0, v2), (0, v3), (0, v4), (0, v5), (0, s0), (0, v7)]) G rfl (Nat.le_of_ble_eq_true rfl) (am_pl1 rfl (fun h => nomatch h)) dX12_wordAt_96 rfl ?_
  refine b_iinc (nx := 101) (a := 7) (loc2 := fun v7_3 => [(2, v0), (0, v1), (0, v2), (0, v3), (0, v4), (0, v5), (0, s0), (0, v7_3)]) G (fun _ => rfl) rfl (am_pl1 rfl (fun h => nomatch h)) dX12_wordAt_98 rfl (fun v7_3 e_v7_3 => ?_)
  have h := h v7_3 e_v7_3
  refine z_goto (tgt := 57) G dX12_wordAt_101 (by decide) ?_
  exact b_fewer (loc2 := [(2, v0), (0, v1), (0, v2), (0, v3), (0, v4), (0, v5), (0, s0), (0, v7_3)]) (am_lk (am_lk (am_lk (am_lk (am_lk (am_lk (am_lk (am_lk am_ln)))))))) (hC57 _ _ _ h hB)
set_option maxRecDepth 20000 in
set_option maxHeartbeats 4000000 in
theorem S_X12_wordAt_L3B {F : am_F} {K : am_KK} {v0 : Int} {v1 : Int} {v2 : Int} {v3 : Int} {v4 : Int} {v5 : Int} {v6 : Int} {v7 : Int} {C57 : Int → Int → am_M → Prop} {C5 : Int → Int → am_M → Prop} {m : am_M} (X : am_Cx F cX12_wordAt RX12 (some .int) 1 0 K) (hp_v0 : am_ob v0 12) (hC57 : ∀ w6 w7 m, C57 w6 w7 m → am_Bt m → am_Z F 57 [] [(2, v0), (0, v1), (0, v2), (0, v3), (0, v4), (0, v5), (0, w6), (0, w7)] m 200) (hC5 : ∀ w3 w4 m, C5 w3 w4 m → am_Bt m → am_Z F 5 [] [(2, v0), (0, v1), (0, v2), (0, w3), (0, w4), (9, 0), (9, 0), (9, 0)] m 200) (hB : am_Bt m) (h : M_X12_wordAt_L3B v0 v1 v2 v3 v4 v5 v6 v7 C57 C5 K m) : am_Z F 57 [] [(2, v0), (0, v1), (0, v2), (0, v3), (0, v4), (0, v5), (0, v6), (0, v7)] m 200 := by
  have G := X.G
  unfold M_X12_wordAt_L3B at h
  refine z_iload (nx := 59) (a := 7) G rfl dX12_wordAt_57 rfl (z_iload (nx := 61) (a := 5) G rfl dX12_wordAt_59 rfl ?_)
  refine z_icmp_ge (nx := 64) (tgt := 104) G dX12_wordAt_61 (by decide) rfl (fun c => ?_) (fun c => ?_)
  · have h := h.1 c
    exact b_fewer (loc2 := [(2, v0), (0, v1), (0, v2), (0, v3), (0, v4), (0, v5), (0, v6), (9, 0)]) (am_lk (am_lk (am_lk (am_lk (am_lk (am_lk (am_lk (am_lf am_ln)))))))) (S_X12_wordAt_J3 X hp_v0 hC5 hB h)
  · have h := h.2 c
    refine z_iload (nx := 66) (a := 6) G rfl dX12_wordAt_64 rfl ?_
    refine z_if_eq (nx := 69) (tgt := 104) G dX12_wordAt_66 (by decide) rfl (fun c => ?_) (fun c => ?_)
    · have h := h.1 c
      exact b_fewer (loc2 := [(2, v0), (0, v1), (0, v2), (0, v3), (0, v4), (0, v5), (0, v6), (9, 0)]) (am_lk (am_lk (am_lk (am_lk (am_lk (am_lk (am_lk (am_lf am_ln)))))))) (S_X12_wordAt_J3 X hp_v0 hC5 hB h)
    · have h := h.2 c
      refine z_aload_n (nx := 70) (a := 0) G rfl (Or.inl rfl) dX12_wordAt_69 rfl (b_getA (nx := 73) (k0 := 7) G hB fl_RX12_37 (Nat.le_of_ble_eq_true rfl) (Nat.le_of_ble_eq_true rfl) rfl hp_v0 dX12_wordAt_70 rfl (z_iload (nx := 75) (a := 4) G rfl dX12_wordAt_73 rfl (z_iload (nx := 77) (a := 7) G rfl dX12_wordAt_75 rfl (z_iadd (nx := 78) G dX12_wordAt_77 rfl ?_))))
      obtain ⟨hb, h⟩ := h
      refine z_bald (nx := 79) G (sh_12_7 _ hp_v0) hb.1 hb.2 dX12_wordAt_78 rfl ?_
      refine z_aload_n (nx := 80) (a := 0) G rfl (Or.inl rfl) dX12_wordAt_79 rfl (b_getA (nx := 83) (k0 := 11) G hB fl_RX12_41 (Nat.le_of_ble_eq_true rfl) (Nat.le_of_ble_eq_true rfl) rfl hp_v0 dX12_wordAt_80 rfl (z_iload_n (nx := 84) (a := 1) G rfl dX12_wordAt_83 rfl (z_iload (nx := 86) (a := 7) G rfl dX12_wordAt_84 rfl (z_iadd (nx := 87) G dX12_wordAt_86 rfl ?_))))
      obtain ⟨hb, h⟩ := h
      refine z_bald (nx := 88) G (sh_12_11 _ hp_v0) hb.1 hb.2 dX12_wordAt_87 rfl ?_
      refine z_icmp_ne (nx := 91) (tgt := 95) G dX12_wordAt_88 (by decide) rfl (fun c => ?_) (fun c => ?_)
      · have h := h.1 c
        refine z_iconst (nx := 96) (z := 0) G (R32c rfl) dX12_wordAt_95 rfl ?_
        exact b_fewer (loc2 := [(2, v0), (0, v1), (0, v2), (0, v3), (0, v4), (0, v5), (9, 0), (0, v7)]) (am_lk (am_lk (am_lk (am_lk (am_lk (am_lk (am_lf (am_lk am_ln)))))))) (S_X12_wordAt_J2 X hp_v0 (Or.inl rfl) hC57 hC5 hB h)
      · have h := h.2 c
        refine z_iconst (nx := 92) (z := 1) G (R32c rfl) dX12_wordAt_91 rfl (z_goto (tgt := 96) G dX12_wordAt_92 (by decide) ?_)
        exact b_fewer (loc2 := [(2, v0), (0, v1), (0, v2), (0, v3), (0, v4), (0, v5), (9, 0), (0, v7)]) (am_lk (am_lk (am_lk (am_lk (am_lk (am_lk (am_lf (am_lk am_ln)))))))) (S_X12_wordAt_J2 X hp_v0 (Or.inr rfl) hC57 hC5 hB h)
theorem S_X12_wordAt_L3 {F : am_F} {K : am_KK} {v0 : Int} {v1 : Int} {v2 : Int} {v3 : Int} {v4 : Int} {v5 : Int} {v6 : Int} {v7 : Int} {C5 : Int → Int → am_M → Prop} {m : am_M} (X : am_Cx F cX12_wordAt RX12 (some .int) 1 0 K) (hp_v0 : am_ob v0 12) (hC5 : ∀ w3 w4 m, C5 w3 w4 m → am_Bt m → am_Z F 5 [] [(2, v0), (0, v1), (0, v2), (0, w3), (0, w4), (9, 0), (9, 0), (9, 0)] m 200) (hB : am_Bt m) (h : M_X12_wordAt_L3 v0 v1 v2 v3 v4 v5 v6 v7 C5 K m) : am_Z F 57 [] [(2, v0), (0, v1), (0, v2), (0, v3), (0, v4), (0, v5), (0, v6), (0, v7)] m 200 := by
  obtain ⟨I, ⟨j, hj⟩, hI⟩ := h
  have key : ∀ j v6 v7 m, I j v6 v7 m → am_Bt m → am_Z F 57 [] [(2, v0), (0, v1), (0, v2), (0, v3), (0, v4), (0, v5), (0, v6), (0, v7)] m 200 := by
    intro j
    induction j using Nat.strongRecOn with
    | ind j ih =>
      intro v6 v7 m hj hB
      exact S_X12_wordAt_L3B X hp_v0 (fun v6' v7' m' hc hB' => by
        obtain ⟨j', g1, g2⟩ := hc
        exact ih j' g1 v6' v7' m' g2 hB') hC5 hB (hI j v6 v7 m hj)
  exact key j _ _ _ hj hB
set_option maxRecDepth 20000 in
set_option maxHeartbeats 4000000 in
theorem S_X12_wordAt_J1 {F : am_F} {K : am_KK} {v0 : Int} {v1 : Int} {v2 : Int} {v3 : Int} {v4 : Int} {v5 : Int} {s0 : Int} {C5 : Int → Int → am_M → Prop} {m : am_M} (X : am_Cx F cX12_wordAt RX12 (some .int) 1 0 K) (hp_v0 : am_ob v0 12) (hp_s0 : s0 = 0 ∨ s0 = 1) (hC5 : ∀ w3 w4 m, C5 w3 w4 m → am_Bt m → am_Z F 5 [] [(2, v0), (0, v1), (0, v2), (0, w3), (0, w4), (9, 0), (9, 0), (9, 0)] m 200) (hB : am_Bt m) (h : M_X12_wordAt_J1 v0 v1 v2 v3 v4 v5 s0 C5 K m) : am_Z F 52 [(0, s0)] [(2, v0), (0, v1), (0, v2), (0, v3), (0, v4), (0, v5), (9, 0), (9, 0)] m 200 := by
  have G := X.G
  unfold M_X12_wordAt_J1 at h
  refine b_storeE (nx := 54) (a := 6) (loc2 := [(2, v0), (0, v1), (0, v2), (0, v3), (0, v4), (0, v5), (0, s0), (9, 0)]) G rfl (Nat.le_of_ble_eq_true rfl) (am_pl1 rfl (fun h => nomatch h)) dX12_wordAt_52 rfl (z_iconst (nx := 55) (z := 0) G (R32c rfl) dX12_wordAt_54 rfl (b_storeE (nx := 57) (a := 7) (loc2 := [(2, v0), (0, v1), (0, v2), (0, v3), (0, v4), (0, v5), (0, s0), (0, 0)]) G rfl (Nat.le_of_ble_eq_true rfl) (am_pl1 rfl (fun h => nomatch h)) dX12_wordAt_55 rfl ?_))
  exact b_fewer (loc2 := [(2, v0), (0, v1), (0, v2), (0, v3), (0, v4), (0, v5), (0, s0), (0, 0)]) (am_lk (am_lk (am_lk (am_lk (am_lk (am_lk (am_lk (am_lk am_ln)))))))) (S_X12_wordAt_L3 X hp_v0 hC5 hB h)
set_option maxRecDepth 20000 in
set_option maxHeartbeats 4000000 in
theorem S_X12_wordAt_L2B {F : am_F} {K : am_KK} {v0 : Int} {v1 : Int} {v2 : Int} {v3 : Int} {v4 : Int} {v5 : Int} {C18 : Int → am_M → Prop} {C5 : Int → Int → am_M → Prop} {m : am_M} (X : am_Cx F cX12_wordAt RX12 (some .int) 1 0 K) (hp_v0 : am_ob v0 12) (hC18 : ∀ w5 m, C18 w5 m → am_Bt m → am_Z F 18 [] [(2, v0), (0, v1), (0, v2), (0, v3), (0, v4), (0, w5), (9, 0), (9, 0)] m 200) (hC5 : ∀ w3 w4 m, C5 w3 w4 m → am_Bt m → am_Z F 5 [] [(2, v0), (0, v1), (0, v2), (0, w3), (0, w4), (9, 0), (9, 0), (9, 0)] m 200) (hB : am_Bt m) (h : M_X12_wordAt_L2B v0 v1 v2 v3 v4 v5 C18 C5 K m) : am_Z F 18 [] [(2, v0), (0, v1), (0, v2), (0, v3), (0, v4), (0, v5), (9, 0), (9, 0)] m 200 := by
  have G := X.G
  unfold M_X12_wordAt_L2B at h
  refine z_aload_n (nx := 19) (a := 0) G rfl (Or.inl rfl) dX12_wordAt_18 rfl (b_getA (nx := 22) (k0 := 7) G hB fl_RX12_37 (Nat.le_of_ble_eq_true rfl) (Nat.le_of_ble_eq_true rfl) rfl hp_v0 dX12_wordAt_19 rfl (z_iload (nx := 24) (a := 4) G rfl dX12_wordAt_22 rfl (z_iload (nx := 26) (a := 5) G rfl dX12_wordAt_24 rfl (z_iadd (nx := 27) G dX12_wordAt_26 rfl ?_))))
  obtain ⟨hb, h⟩ := h
  refine z_bald (nx := 28) G (sh_12_7 _ hp_v0) hb.1 hb.2 dX12_wordAt_27 rfl ?_
  refine z_bipush (nx := 30) (z := 32) G (R32c rfl) rfl dX12_wordAt_28 rfl ?_
  refine z_icmp_eq (nx := 33) (tgt := 39) G dX12_wordAt_30 (by decide) rfl (fun c => ?_) (fun c => ?_)
  · have h := h.1 c
    refine z_iload (nx := 41) (a := 5) G rfl dX12_wordAt_39 rfl (z_iload_n (nx := 42) (a := 2) G rfl dX12_wordAt_41 rfl (z_iload_n (nx := 43) (a := 1) G rfl dX12_wordAt_42 rfl (z_isub (nx := 44) G dX12_wordAt_43 rfl ?_)))
    refine z_icmp_ne (nx := 47) (tgt := 51) G dX12_wordAt_44 (by decide) rfl (fun c => ?_) (fun c => ?_)
    · have h := h.1 c
      refine z_iconst (nx := 52) (z := 0) G (R32c rfl) dX12_wordAt_51 rfl ?_
      exact b_fewer (loc2 := [(2, v0), (0, v1), (0, v2), (0, v3), (0, v4), (0, v5), (9, 0), (9, 0)]) (am_lk (am_lk (am_lk (am_lk (am_lk (am_lk (am_lk (am_lk am_ln)))))))) (S_X12_wordAt_J1 X hp_v0 (Or.inl rfl) hC5 hB h)
    · have h := h.2 c
      refine z_iconst (nx := 48) (z := 1) G (R32c rfl) dX12_wordAt_47 rfl (z_goto (tgt := 52) G dX12_wordAt_48 (by decide) ?_)
      exact b_fewer (loc2 := [(2, v0), (0, v1), (0, v2), (0, v3), (0, v4), (0, v5), (9, 0), (9, 0)]) (am_lk (am_lk (am_lk (am_lk (am_lk (am_lk (am_lk (am_lk am_ln)))))))) (S_X12_wordAt_J1 X hp_v0 (Or.inr rfl) hC5 hB h)
  · have h := h.2 c
    refine b_iinc (nx := 36) (a := 5) (loc2 := fun v5_4 => [(2, v0), (0, v1), (0, v2), (0, v3), (0, v4), (0, v5_4), (9, 0), (9, 0)]) G (fun _ => rfl) rfl (am_pl1 rfl (fun h => nomatch h)) dX12_wordAt_33 rfl (fun v5_4 e_v5_4 => ?_)
    have h := h v5_4 e_v5_4
    refine z_goto (tgt := 18) G dX12_wordAt_36 (by decide) ?_
    exact b_fewer (loc2 := [(2, v0), (0, v1), (0, v2), (0, v3), (0, v4), (0, v5_4), (9, 0), (9, 0)]) (am_lk (am_lk (am_lk (am_lk (am_lk (am_lk (am_lk (am_lk am_ln)))))))) (hC18 _ _ h hB)
theorem S_X12_wordAt_L2 {F : am_F} {K : am_KK} {v0 : Int} {v1 : Int} {v2 : Int} {v3 : Int} {v4 : Int} {v5 : Int} {C5 : Int → Int → am_M → Prop} {m : am_M} (X : am_Cx F cX12_wordAt RX12 (some .int) 1 0 K) (hp_v0 : am_ob v0 12) (hC5 : ∀ w3 w4 m, C5 w3 w4 m → am_Bt m → am_Z F 5 [] [(2, v0), (0, v1), (0, v2), (0, w3), (0, w4), (9, 0), (9, 0), (9, 0)] m 200) (hB : am_Bt m) (h : M_X12_wordAt_L2 v0 v1 v2 v3 v4 v5 C5 K m) : am_Z F 18 [] [(2, v0), (0, v1), (0, v2), (0, v3), (0, v4), (0, v5), (9, 0), (9, 0)] m 200 := by
  obtain ⟨I, ⟨j, hj⟩, hI⟩ := h
  have key : ∀ j v5 m, I j v5 m → am_Bt m → am_Z F 18 [] [(2, v0), (0, v1), (0, v2), (0, v3), (0, v4), (0, v5), (9, 0), (9, 0)] m 200 := by
    intro j
    induction j using Nat.strongRecOn with
    | ind j ih =>
      intro v5 m hj hB
      exact S_X12_wordAt_L2B X hp_v0 (fun v5' m' hc hB' => by
        obtain ⟨j', g1, g2⟩ := hc
        exact ih j' g1 v5' m' g2 hB') hC5 hB (hI j v5 m hj)
  exact key j _ _ hj hB
set_option maxRecDepth 20000 in
set_option maxHeartbeats 4000000 in
theorem S_X12_wordAt_L1B {F : am_F} {K : am_KK} {v0 : Int} {v1 : Int} {v2 : Int} {v3 : Int} {v4 : Int} {C5 : Int → Int → am_M → Prop} {m : am_M} (X : am_Cx F cX12_wordAt RX12 (some .int) 1 0 K) (hp_v0 : am_ob v0 12) (hC5 : ∀ w3 w4 m, C5 w3 w4 m → am_Bt m → am_Z F 5 [] [(2, v0), (0, v1), (0, v2), (0, w3), (0, w4), (9, 0), (9, 0), (9, 0)] m 200) (hB : am_Bt m) (h : M_X12_wordAt_L1B v0 v1 v2 v3 v4 C5 K m) : am_Z F 5 [] [(2, v0), (0, v1), (0, v2), (0, v3), (0, v4), (9, 0), (9, 0), (9, 0)] m 200 := by
  have G := X.G
  unfold M_X12_wordAt_L1B at h
  refine z_iload (nx := 7) (a := 4) G rfl dX12_wordAt_5 rfl (z_aload_n (nx := 8) (a := 0) G rfl (Or.inl rfl) dX12_wordAt_7 rfl (b_getA (nx := 11) (k0 := 7) G hB fl_RX12_37 (Nat.le_of_ble_eq_true rfl) (Nat.le_of_ble_eq_true rfl) rfl hp_v0 dX12_wordAt_8 rfl (b_alen (nx := 12) G (by decide) (by decide) (sh_12_7 _ hp_v0) dX12_wordAt_11 rfl ?_)))
  refine z_icmp_ge (nx := 15) (tgt := 126) G dX12_wordAt_12 (by decide) rfl (fun c => ?_) (fun c => ?_)
  · have h := h.1 c
    refine z_iconst (nx := 127) (z := 0) G (R32c rfl) dX12_wordAt_126 rfl ?_
    exact b_ireturn X hB dX12_wordAt_127 h
  · have h := h.2 c
    refine z_iconst (nx := 16) (z := 0) G (R32c rfl) dX12_wordAt_15 rfl (b_storeE (nx := 18) (a := 5) (loc2 := [(2, v0), (0, v1), (0, v2), (0, v3), (0, v4), (0, 0), (9, 0), (9, 0)]) G rfl (Nat.le_of_ble_eq_true rfl) (am_pl1 rfl (fun h => nomatch h)) dX12_wordAt_16 rfl ?_)
    exact b_fewer (loc2 := [(2, v0), (0, v1), (0, v2), (0, v3), (0, v4), (0, 0), (9, 0), (9, 0)]) (am_lk (am_lk (am_lk (am_lk (am_lk (am_lk (am_lk (am_lk am_ln)))))))) (S_X12_wordAt_L2 X hp_v0 hC5 hB h)
theorem S_X12_wordAt_L1 {F : am_F} {K : am_KK} {v0 : Int} {v1 : Int} {v2 : Int} {v3 : Int} {v4 : Int} {m : am_M} (X : am_Cx F cX12_wordAt RX12 (some .int) 1 0 K) (hp_v0 : am_ob v0 12) (hB : am_Bt m) (h : M_X12_wordAt_L1 v0 v1 v2 v3 v4 K m) : am_Z F 5 [] [(2, v0), (0, v1), (0, v2), (0, v3), (0, v4), (9, 0), (9, 0), (9, 0)] m 200 := by
  obtain ⟨I, ⟨j, hj⟩, hI⟩ := h
  have key : ∀ j v3 v4 m, I j v3 v4 m → am_Bt m → am_Z F 5 [] [(2, v0), (0, v1), (0, v2), (0, v3), (0, v4), (9, 0), (9, 0), (9, 0)] m 200 := by
    intro j
    induction j using Nat.strongRecOn with
    | ind j ih =>
      intro v3 v4 m hj hB
      exact S_X12_wordAt_L1B X hp_v0 (fun v3' v4' m' hc hB' => by
        obtain ⟨j', g1, g2⟩ := hc
        exact ih j' g1 v3' v4' m' g2 hB') hB (hI j v3 v4 m hj)
  exact key j _ _ _ hj hB
set_option maxRecDepth 20000 in
set_option maxHeartbeats 4000000 in
theorem S_X12_wordAt {F : am_F} {K : am_KK} {v0 : Int} {v1 : Int} {v2 : Int} {m : am_M} (X : am_Cx F cX12_wordAt RX12 (some .int) 1 0 K) (hp_v0 : am_ob v0 12) (hB : am_Bt m) (h : M_X12_wordAt v0 v1 v2 K m) : am_Z F 0 [] [(2, v0), (0, v1), (0, v2), (9, 0), (9, 0), (9, 0), (9, 0), (9, 0)] m 200 := by
  have G := X.G
  unfold M_X12_wordAt at h
  refine z_iconst (nx := 1) (z := 1) G (R32c rfl) dX12_wordAt_0 rfl (b_storeE_n (nx := 2) (a := 3) (loc2 := [(2, v0), (0, v1), (0, v2), (0, 1), (9, 0), (9, 0), (9, 0), (9, 0)]) G rfl (Nat.le_of_ble_eq_true rfl) (am_pl1 rfl (fun h => nomatch h)) dX12_wordAt_1 rfl (z_iconst (nx := 3) (z := 0) G (R32c rfl) dX12_wordAt_2 rfl (b_storeE (nx := 5) (a := 4) (loc2 := [(2, v0), (0, v1), (0, v2), (0, 1), (0, 0), (9, 0), (9, 0), (9, 0)]) G rfl (Nat.le_of_ble_eq_true rfl) (am_pl1 rfl (fun h => nomatch h)) dX12_wordAt_3 rfl ?_)))
  exact b_fewer (loc2 := [(2, v0), (0, v1), (0, v2), (0, 1), (0, 0), (9, 0), (9, 0), (9, 0)]) (am_lk (am_lk (am_lk (am_lk (am_lk (am_lk (am_lk (am_lk am_ln)))))))) (S_X12_wordAt_L1 X hp_v0 hB h)
theorem NM_X12_wordAt {v0 : Int} {v1 : Int} {v2 : Int} {K : am_KK} {m : am_M} (hp_v0 : am_ob v0 12) (h : M_X12_wordAt v0 v1 v2 K m) : N_X12_wordAt [v0, v1, v2] K m := ⟨hp_v0, h⟩
theorem SS_X12_wordAt : am_Snd yX12_wordAt cX12_wordAt 8 (some .int) 0 1 (am_L [2, 0, 0] 0 N_X12_wordAt) := by
  refine am_SB (by decide +kernel) (Nat.le_of_ble_eq_true rfl) (fun F zs as K m X ht hB hM => ?_)
  obtain ⟨v0, zs, as, rfl, rfl, hz0, ht⟩ := am_inv ht
  obtain ⟨v1, zs, as, rfl, rfl, hz1, ht⟩ := am_inv ht
  obtain ⟨v2, zs, as, rfl, rfl, hz2, ht⟩ := am_inv ht
  obtain ⟨rfl, rfl⟩ := am_inv0 ht
  obtain ⟨hp_v0, hM⟩ := hM
  exact S_X12_wordAt X hp_v0 hB hM
set_option maxRecDepth 20000 in
set_option maxHeartbeats 4000000 in
theorem S_X12_splits_J5 {F : am_F} {K : am_KK} {v0 : Int} {v1 : Int} {v4 : Int} {C7 : Int → am_M → Prop} {m : am_M} (X : am_Cx F cX12_splits RX12 none 2 9 K) (hp_v0 : am_ob v0 12) (hC7 : ∀ w2 m, C7 w2 m → am_Bt m → am_Z F 7 [] [(2, v0), (0, v1), (0, w2), (9, 0), (9, 0), (9, 0)] m 200) (hB : am_Bt m) (h : M_X12_splits_J5 v0 v1 v4 C7 K m) : am_Z F 247 [] [(2, v0), (0, v1), (9, 0), (9, 0), (0, v4), (9, 0)] m 200 := by
  have G := X.G
  unfold M_X12_splits_J5 at h
  refine z_aload_n (nx := 248) (a := 0) G rfl (Or.inl rfl) dX12_splits_247 rfl (z_dup (nx := 249) G (fun h => nomatch h) dX12_splits_248 rfl (b_getI (nx := 252) (k0 := 18) (t := 0) G fl_RX12_181 (Nat.le_of_ble_eq_true rfl) (Nat.le_of_ble_eq_true rfl) rfl hp_v0 dX12_splits_249 rfl (z_iconst (nx := 253) (z := 1) G (R32c rfl) dX12_splits_252 rfl (z_iadd (nx := 254) G dX12_splits_253 rfl ?_))))
  refine b_put (nx := 257) (k0 := 18) (t := 0) G hB fl_RX12_181 (Nat.le_of_ble_eq_true rfl) (Nat.le_of_ble_eq_true rfl) rfl (fun h => nomatch h) rfl hp_v0 dX12_splits_254 rfl (fun m_1 e_m_1 hB => ?_)
  have h := h m_1 e_m_1
  refine z_iload (nx := 259) (a := 4) G rfl dX12_splits_257 rfl (b_storeE_n (nx := 260) (a := 2) (loc2 := [(2, v0), (0, v1), (0, v4), (9, 0), (0, v4), (9, 0)]) G rfl (Nat.le_of_ble_eq_true rfl) (am_pl1 rfl (fun h => nomatch h)) dX12_splits_259 rfl (z_goto (tgt := 7) G dX12_splits_260 (by decide) ?_))
  exact b_fewer (loc2 := [(2, v0), (0, v1), (0, v4), (9, 0), (9, 0), (9, 0)]) (am_lk (am_lk (am_lk (am_lk (am_lf (am_lk am_ln)))))) (hC7 _ _ h hB)
set_option maxRecDepth 20000 in
set_option maxHeartbeats 4000000 in
theorem S_X12_splits_J4 {F : am_F} {K : am_KK} {v0 : Int} {v1 : Int} {v3 : Int} {v4 : Int} {v5 : Int} {s0 : Int} {s1 : Int} {s2 : Int} {C169 : Int → am_M → Prop} {C7 : Int → am_M → Prop} {m : am_M} (X : am_Cx F cX12_splits RX12 none 2 9 K) (hp_v0 : am_ob v0 12) (hp_s0 : am_ar s0 20) (hC169 : ∀ w5 m, C169 w5 m → am_Bt m → am_Z F 169 [] [(2, v0), (0, v1), (9, 0), (0, v3), (0, v4), (0, w5)] m 200) (hC7 : ∀ w2 m, C7 w2 m → am_Bt m → am_Z F 7 [] [(2, v0), (0, v1), (0, w2), (9, 0), (9, 0), (9, 0)] m 200) (hB : am_Bt m) (h : M_X12_splits_J4 v0 v1 v3 v4 v5 s0 s1 s2 C169 C7 K m) : am_Z F 240 [(0, s2), (0, s1), (2, s0)] [(2, v0), (0, v1), (9, 0), (0, v3), (0, v4), (0, v5)] m 200 := by
  have G := X.G
  unfold M_X12_splits_J4 at h
  obtain ⟨hb, h⟩ := h
  refine b_iast (nx := 241) G hB hp_s0 hb.1 hb.2 dX12_splits_240 rfl (fun m_2 e_m_2 hB => ?_)
  have h := h m_2 e_m_2
  refine b_iinc (nx := 244) (a := 5) (loc2 := fun v5_3 => [(2, v0), (0, v1), (9, 0), (0, v3), (0, v4), (0, v5_3)]) G (fun _ => rfl) rfl (am_pl1 rfl (fun h => nomatch h)) dX12_splits_241 rfl (fun v5_3 e_v5_3 => ?_)
  have h := h v5_3 e_v5_3
  refine z_goto (tgt := 169) G dX12_splits_244 (by decide) ?_
  exact b_fewer (loc2 := [(2, v0), (0, v1), (9, 0), (0, v3), (0, v4), (0, v5_3)]) (am_lk (am_lk (am_lk (am_lk (am_lk (am_lk am_ln)))))) (hC169 _ _ h hB)
set_option maxRecDepth 20000 in
set_option maxHeartbeats 4000000 in
theorem S_X12_splits_L4B {F : am_F} {K : am_KK} {v0 : Int} {v1 : Int} {v3 : Int} {v4 : Int} {v5 : Int} {C169 : Int → am_M → Prop} {C7 : Int → am_M → Prop} {m : am_M} (X : am_Cx F cX12_splits RX12 none 2 9 K) (hp_v0 : am_ob v0 12) (hC169 : ∀ w5 m, C169 w5 m → am_Bt m → am_Z F 169 [] [(2, v0), (0, v1), (9, 0), (0, v3), (0, v4), (0, w5)] m 200) (hC7 : ∀ w2 m, C7 w2 m → am_Bt m → am_Z F 7 [] [(2, v0), (0, v1), (0, w2), (9, 0), (9, 0), (9, 0)] m 200) (hB : am_Bt m) (h : M_X12_splits_L4B v0 v1 v3 v4 v5 C169 C7 K m) : am_Z F 169 [] [(2, v0), (0, v1), (9, 0), (0, v3), (0, v4), (0, v5)] m 200 := by
  have G := X.G
  unfold M_X12_splits_L4B at h
  refine z_iload (nx := 171) (a := 5) G rfl dX12_splits_169 rfl (z_iload (nx := 173) (a := 4) G rfl dX12_splits_171 rfl ?_)
  refine z_icmp_ge (nx := 176) (tgt := 247) G dX12_splits_173 (by decide) rfl (fun c => ?_) (fun c => ?_)
  · have h := h.1 c
    exact b_fewer (loc2 := [(2, v0), (0, v1), (9, 0), (9, 0), (0, v4), (9, 0)]) (am_lk (am_lk (am_lk (am_lf (am_lk (am_lf am_ln)))))) (S_X12_splits_J5 X hp_v0 hC7 hB h)
  · have h := h.2 c
    refine z_iload_n (nx := 177) (a := 3) G rfl dX12_splits_176 rfl ?_
    refine b_callS5 (nx := 180) (zs := [v3]) (as := [(0, v3)]) X hB SS_X12_isDigit (am_ti am_tn) (Nat.le_of_ble_eq_true rfl) (Nat.le_of_ble_eq_true rfl) ml_RX12_187 sw_X12_isDigit (am_plainC 12 (by decide)) cw_X12_isDigit nw_RX12 pp_X12_isDigit (Nat.le_of_ble_eq_true rfl) dX12_splits_177 rfl (NM_X12_isDigit h) (fun r_4 m_5 h h01_6 hB => ?_)
    refine z_if_eq (nx := 183) (tgt := 247) G dX12_splits_180 (by decide) rfl (fun c => ?_) (fun c => ?_)
    · have h := h.1 c
      exact b_fewer (loc2 := [(2, v0), (0, v1), (9, 0), (9, 0), (0, v4), (9, 0)]) (am_lk (am_lk (am_lk (am_lf (am_lk (am_lf am_ln)))))) (S_X12_splits_J5 X hp_v0 hC7 hB h)
    · have h := h.2 c
      refine z_aload_n (nx := 184) (a := 0) G rfl (Or.inl rfl) dX12_splits_183 rfl (b_getA (nx := 187) (k0 := 16) G hB fl_RX12_53 (Nat.le_of_ble_eq_true rfl) (Nat.le_of_ble_eq_true rfl) rfl hp_v0 dX12_splits_184 rfl (z_aload_n (nx := 188) (a := 0) G rfl (Or.inl rfl) dX12_splits_187 rfl (b_getI (nx := 191) (k0 := 18) (t := 0) G fl_RX12_181 (Nat.le_of_ble_eq_true rfl) (Nat.le_of_ble_eq_true rfl) rfl hp_v0 dX12_splits_188 rfl (z_aload_n (nx := 192) (a := 0) G rfl (Or.inl rfl) dX12_splits_191 rfl (b_getA (nx := 195) (k0 := 16) G hB fl_RX12_53 (Nat.le_of_ble_eq_true rfl) (Nat.le_of_ble_eq_true rfl) rfl hp_v0 dX12_splits_192 rfl (z_aload_n (nx := 196) (a := 0) G rfl (Or.inl rfl) dX12_splits_195 rfl (b_getI (nx := 199) (k0 := 18) (t := 0) G fl_RX12_181 (Nat.le_of_ble_eq_true rfl) (Nat.le_of_ble_eq_true rfl) rfl hp_v0 dX12_splits_196 rfl ?_)))))))
      obtain ⟨hb, h⟩ := h
      refine z_iald (nx := 200) G (sh_12_16 _ hp_v0) hb.1 hb.2 dX12_splits_199 rfl ?_
      refine z_ldc (nx := 202) (z := 1000000) G (R32c rfl) rfl kw_RX12_193 dX12_splits_200 rfl ?_
      refine z_icmp_le (nx := 205) (tgt := 217) G dX12_splits_202 (by decide) rfl (fun c => ?_) (fun c => ?_)
      · have h := h.1 c
        refine z_bipush (nx := 219) (z := 10) G (R32c rfl) rfl dX12_splits_217 rfl (z_aload_n (nx := 220) (a := 0) G rfl (Or.inl rfl) dX12_splits_219 rfl (b_getA (nx := 223) (k0 := 16) G hB fl_RX12_53 (Nat.le_of_ble_eq_true rfl) (Nat.le_of_ble_eq_true rfl) rfl hp_v0 dX12_splits_220 rfl (z_aload_n (nx := 224) (a := 0) G rfl (Or.inl rfl) dX12_splits_223 rfl (b_getI (nx := 227) (k0 := 18) (t := 0) G fl_RX12_181 (Nat.le_of_ble_eq_true rfl) (Nat.le_of_ble_eq_true rfl) rfl hp_v0 dX12_splits_224 rfl ?_))))
        obtain ⟨hb, h⟩ := h
        refine z_iald (nx := 228) G (sh_12_16 _ hp_v0) hb.1 hb.2 dX12_splits_227 rfl ?_
        refine z_imul (nx := 229) G dX12_splits_228 rfl (z_aload_n (nx := 230) (a := 0) G rfl (Or.inl rfl) dX12_splits_229 rfl (b_getA (nx := 233) (k0 := 11) G hB fl_RX12_41 (Nat.le_of_ble_eq_true rfl) (Nat.le_of_ble_eq_true rfl) rfl hp_v0 dX12_splits_230 rfl (z_iload (nx := 235) (a := 5) G rfl dX12_splits_233 rfl ?_)))
        obtain ⟨hb, h⟩ := h
        refine z_bald (nx := 236) G (sh_12_11 _ hp_v0) hb.1 hb.2 dX12_splits_235 rfl ?_
        refine z_iadd (nx := 237) G dX12_splits_236 rfl (z_bipush (nx := 239) (z := 48) G (R32c rfl) rfl dX12_splits_237 rfl (z_isub (nx := 240) G dX12_splits_239 rfl ?_))
        exact b_fewer (loc2 := [(2, v0), (0, v1), (9, 0), (0, v3), (0, v4), (0, v5)]) (am_lk (am_lk (am_lk (am_lk (am_lk (am_lk am_ln)))))) (S_X12_splits_J4 X hp_v0 (sh_12_16 _ hp_v0) hC169 hC7 hB h)
      · have h := h.2 c
        refine z_aload_n (nx := 206) (a := 0) G rfl (Or.inl rfl) dX12_splits_205 rfl (b_getA (nx := 209) (k0 := 16) G hB fl_RX12_53 (Nat.le_of_ble_eq_true rfl) (Nat.le_of_ble_eq_true rfl) rfl hp_v0 dX12_splits_206 rfl (z_aload_n (nx := 210) (a := 0) G rfl (Or.inl rfl) dX12_splits_209 rfl (b_getI (nx := 213) (k0 := 18) (t := 0) G fl_RX12_181 (Nat.le_of_ble_eq_true rfl) (Nat.le_of_ble_eq_true rfl) rfl hp_v0 dX12_splits_210 rfl ?_)))
        obtain ⟨hb, h⟩ := h
        refine z_iald (nx := 214) G (sh_12_16 _ hp_v0) hb.1 hb.2 dX12_splits_213 rfl ?_
        refine z_goto (tgt := 240) G dX12_splits_214 (by decide) ?_
        exact b_fewer (loc2 := [(2, v0), (0, v1), (9, 0), (0, v3), (0, v4), (0, v5)]) (am_lk (am_lk (am_lk (am_lk (am_lk (am_lk am_ln)))))) (S_X12_splits_J4 X hp_v0 (sh_12_16 _ hp_v0) hC169 hC7 hB h)
theorem S_X12_splits_L4 {F : am_F} {K : am_KK} {v0 : Int} {v1 : Int} {v3 : Int} {v4 : Int} {v5 : Int} {C7 : Int → am_M → Prop} {m : am_M} (X : am_Cx F cX12_splits RX12 none 2 9 K) (hp_v0 : am_ob v0 12) (hC7 : ∀ w2 m, C7 w2 m → am_Bt m → am_Z F 7 [] [(2, v0), (0, v1), (0, w2), (9, 0), (9, 0), (9, 0)] m 200) (hB : am_Bt m) (h : M_X12_splits_L4 v0 v1 v3 v4 v5 C7 K m) : am_Z F 169 [] [(2, v0), (0, v1), (9, 0), (0, v3), (0, v4), (0, v5)] m 200 := by
  obtain ⟨I, ⟨j, hj⟩, hI⟩ := h
  have key : ∀ j v5 m, I j v5 m → am_Bt m → am_Z F 169 [] [(2, v0), (0, v1), (9, 0), (0, v3), (0, v4), (0, v5)] m 200 := by
    intro j
    induction j using Nat.strongRecOn with
    | ind j ih =>
      intro v5 m hj hB
      exact S_X12_splits_L4B X hp_v0 (fun v5' m' hc hB' => by
        obtain ⟨j', g1, g2⟩ := hc
        exact ih j' g1 v5' m' g2 hB') hC7 hB (hI j v5 m hj)
  exact key j _ _ hj hB
set_option maxRecDepth 20000 in
set_option maxHeartbeats 4000000 in
theorem S_X12_splits_J3 {F : am_F} {K : am_KK} {v0 : Int} {v1 : Int} {v2 : Int} {v3 : Int} {v4 : Int} {s0 : Int} {s1 : Int} {s2 : Int} {C7 : Int → am_M → Prop} {m : am_M} (X : am_Cx F cX12_splits RX12 none 2 9 K) (hp_v0 : am_ob v0 12) (hp_s0 : am_ar s0 20) (hC7 : ∀ w2 m, C7 w2 m → am_Bt m → am_Z F 7 [] [(2, v0), (0, v1), (0, w2), (9, 0), (9, 0), (9, 0)] m 200) (hB : am_Bt m) (h : M_X12_splits_J3 v0 v1 v2 v3 v4 s0 s1 s2 C7 K m) : am_Z F 165 [(0, s2), (0, s1), (2, s0)] [(2, v0), (0, v1), (0, v2), (0, v3), (0, v4), (9, 0)] m 200 := by
  have G := X.G
  unfold M_X12_splits_J3 at h
  obtain ⟨hb, h⟩ := h
  refine b_iast (nx := 166) G hB hp_s0 hb.1 hb.2 dX12_splits_165 rfl (fun m_7 e_m_7 hB => ?_)
  have h := h m_7 e_m_7
  refine z_iload_n (nx := 167) (a := 2) G rfl dX12_splits_166 rfl (b_storeE (nx := 169) (a := 5) (loc2 := [(2, v0), (0, v1), (0, v2), (0, v3), (0, v4), (0, v2)]) G rfl (Nat.le_of_ble_eq_true rfl) (am_pl1 rfl (fun h => nomatch h)) dX12_splits_167 rfl ?_)
  exact b_fewer (loc2 := [(2, v0), (0, v1), (9, 0), (0, v3), (0, v4), (0, v2)]) (am_lk (am_lk (am_lf (am_lk (am_lk (am_lk am_ln)))))) (S_X12_splits_L4 X hp_v0 hC7 hB h)
set_option maxRecDepth 20000 in
set_option maxHeartbeats 4000000 in
theorem S_X12_splits_J2 {F : am_F} {K : am_KK} {v0 : Int} {v1 : Int} {v2 : Int} {v3 : Int} {v4 : Int} {C7 : Int → am_M → Prop} {m : am_M} (X : am_Cx F cX12_splits RX12 none 2 9 K) (hp_v0 : am_ob v0 12) (hC7 : ∀ w2 m, C7 w2 m → am_Bt m → am_Z F 7 [] [(2, v0), (0, v1), (0, w2), (9, 0), (9, 0), (9, 0)] m 200) (hB : am_Bt m) (h : M_X12_splits_J2 v0 v1 v2 v3 v4 C7 K m) : am_Z F 100 [] [(2, v0), (0, v1), (0, v2), (0, v3), (0, v4), (9, 0)] m 200 := by
  have G := X.G
  unfold M_X12_splits_J2 at h
  refine z_aload_n (nx := 101) (a := 0) G rfl (Or.inl rfl) dX12_splits_100 rfl (b_getA (nx := 104) (k0 := 17) G hB fl_RX12_56 (Nat.le_of_ble_eq_true rfl) (Nat.le_of_ble_eq_true rfl) rfl hp_v0 dX12_splits_101 rfl (z_aload_n (nx := 105) (a := 0) G rfl (Or.inl rfl) dX12_splits_104 rfl (b_getI (nx := 108) (k0 := 18) (t := 0) G fl_RX12_181 (Nat.le_of_ble_eq_true rfl) (Nat.le_of_ble_eq_true rfl) rfl hp_v0 dX12_splits_105 rfl (z_iload_n (nx := 109) (a := 2) G rfl dX12_splits_108 rfl ?_))))
  obtain ⟨hb, h⟩ := h
  refine b_iast (nx := 110) G hB (sh_12_17 _ hp_v0) hb.1 hb.2 dX12_splits_109 rfl (fun m_8 e_m_8 hB => ?_)
  have h := h m_8 e_m_8
  refine z_aload_n (nx := 111) (a := 0) G rfl (Or.inl rfl) dX12_splits_110 rfl (b_getA (nx := 114) (k0 := 16) G hB fl_RX12_53 (Nat.le_of_ble_eq_true rfl) (Nat.le_of_ble_eq_true rfl) rfl hp_v0 dX12_splits_111 rfl (z_aload_n (nx := 115) (a := 0) G rfl (Or.inl rfl) dX12_splits_114 rfl (b_getI (nx := 118) (k0 := 18) (t := 0) G fl_RX12_181 (Nat.le_of_ble_eq_true rfl) (Nat.le_of_ble_eq_true rfl) rfl hp_v0 dX12_splits_115 rfl (z_iconst (nx := 119) (z := 0) G (R32c rfl) dX12_splits_118 rfl ?_))))
  obtain ⟨hb, h⟩ := h
  refine b_iast (nx := 120) G hB (sh_12_16 _ hp_v0) hb.1 hb.2 dX12_splits_119 rfl (fun m_9 e_m_9 hB => ?_)
  have h := h m_9 e_m_9
  refine z_aload_n (nx := 121) (a := 0) G rfl (Or.inl rfl) dX12_splits_120 rfl (b_getA (nx := 124) (k0 := 15) G hB fl_RX12_50 (Nat.le_of_ble_eq_true rfl) (Nat.le_of_ble_eq_true rfl) rfl hp_v0 dX12_splits_121 rfl (z_aload_n (nx := 125) (a := 0) G rfl (Or.inl rfl) dX12_splits_124 rfl (b_getI (nx := 128) (k0 := 18) (t := 0) G fl_RX12_181 (Nat.le_of_ble_eq_true rfl) (Nat.le_of_ble_eq_true rfl) rfl hp_v0 dX12_splits_125 rfl (z_iload_n (nx := 129) (a := 3) G rfl dX12_splits_128 rfl ?_))))
  refine b_callS5 (nx := 132) (zs := [v3]) (as := [(0, v3)]) X hB SS_X12_isSmall (am_ti am_tn) (Nat.le_of_ble_eq_true rfl) (Nat.le_of_ble_eq_true rfl) ml_RX12_184 sw_X12_isSmall (am_plainC 12 (by decide)) cw_X12_isSmall nw_RX12 pp_X12_isSmall (Nat.le_of_ble_eq_true rfl) dX12_splits_129 rfl (NM_X12_isSmall h) (fun r_10 m_11 h h01_12 hB => ?_)
  refine z_if_eq (nx := 135) (tgt := 145) G dX12_splits_132 (by decide) rfl (fun c => ?_) (fun c => ?_)
  · have h := h.1 c
    refine z_iload_n (nx := 146) (a := 3) G rfl dX12_splits_145 rfl ?_
    refine b_callS5 (nx := 149) (zs := [v3]) (as := [(0, v3)]) X hB SS_X12_isDigit (am_ti am_tn) (Nat.le_of_ble_eq_true rfl) (Nat.le_of_ble_eq_true rfl) ml_RX12_187 sw_X12_isDigit (am_plainC 12 (by decide)) cw_X12_isDigit nw_RX12 pp_X12_isDigit (Nat.le_of_ble_eq_true rfl) dX12_splits_146 rfl (NM_X12_isDigit h) (fun r_13 m_14 h h01_15 hB => ?_)
    refine z_if_eq (nx := 152) (tgt := 157) G dX12_splits_149 (by decide) rfl (fun c => ?_) (fun c => ?_)
    · have h := h.1 c
      refine z_bipush (nx := 159) (z := 100) G (R32c rfl) rfl dX12_splits_157 rfl (z_iload_n (nx := 160) (a := 3) G rfl dX12_splits_159 rfl (z_sipush (nx := 163) (z := 255) G (R32c rfl) rfl dX12_splits_160 rfl (z_iand (nx := 164) G dX12_splits_163 rfl (z_iadd (nx := 165) G dX12_splits_164 rfl ?_))))
      exact b_fewer (loc2 := [(2, v0), (0, v1), (0, v2), (0, v3), (0, v4), (9, 0)]) (am_lk (am_lk (am_lk (am_lk (am_lk (am_lk am_ln)))))) (S_X12_splits_J3 X hp_v0 (sh_12_15 _ hp_v0) hC7 hB h)
    · have h := h.2 c
      refine z_bipush (nx := 154) (z := 50) G (R32c rfl) rfl dX12_splits_152 rfl (z_goto (tgt := 165) G dX12_splits_154 (by decide) ?_)
      exact b_fewer (loc2 := [(2, v0), (0, v1), (0, v2), (0, v3), (0, v4), (9, 0)]) (am_lk (am_lk (am_lk (am_lk (am_lk (am_lk am_ln)))))) (S_X12_splits_J3 X hp_v0 (sh_12_15 _ hp_v0) hC7 hB h)
  · have h := h.2 c
    refine z_aload_n (nx := 136) (a := 0) G rfl (Or.inl rfl) dX12_splits_135 rfl (z_iload_n (nx := 137) (a := 2) G rfl dX12_splits_136 rfl (z_iload (nx := 139) (a := 4) G rfl dX12_splits_137 rfl ?_))
    refine b_callV0 (nx := 142) (zs := [v0, v2, v4]) (as := [(0, v2), (0, v4)]) X hB (by decide) rfl hp_v0 SS_X12_wordAt (am_ta (am_ti (am_ti am_tn))) (Nat.le_of_ble_eq_true rfl) (Nat.le_of_ble_eq_true rfl) ml_RX12_190 iw_X12_wordAt vw_X12_wordAt cw_X12_wordAt nw_RX12 pp_X12_wordAt (Nat.le_of_ble_eq_true rfl) dX12_splits_139 rfl (NM_X12_wordAt hp_v0 h) (fun r_16 m_17 h hB => ?_)
    refine z_goto (tgt := 165) G dX12_splits_142 (by decide) ?_
    exact b_fewer (loc2 := [(2, v0), (0, v1), (0, v2), (0, v3), (0, v4), (9, 0)]) (am_lk (am_lk (am_lk (am_lk (am_lk (am_lk am_ln)))))) (S_X12_splits_J3 X hp_v0 (sh_12_15 _ hp_v0) hC7 hB h)
set_option maxRecDepth 20000 in
set_option maxHeartbeats 4000000 in
theorem S_X12_splits_L3B {F : am_F} {K : am_KK} {v0 : Int} {v1 : Int} {v2 : Int} {v3 : Int} {v4 : Int} {C75 : Int → am_M → Prop} {C7 : Int → am_M → Prop} {m : am_M} (X : am_Cx F cX12_splits RX12 none 2 9 K) (hp_v0 : am_ob v0 12) (hC75 : ∀ w4 m, C75 w4 m → am_Bt m → am_Z F 75 [] [(2, v0), (0, v1), (0, v2), (0, v3), (0, w4), (9, 0)] m 200) (hC7 : ∀ w2 m, C7 w2 m → am_Bt m → am_Z F 7 [] [(2, v0), (0, v1), (0, w2), (9, 0), (9, 0), (9, 0)] m 200) (hB : am_Bt m) (h : M_X12_splits_L3B v0 v1 v2 v3 v4 C75 C7 K m) : am_Z F 75 [] [(2, v0), (0, v1), (0, v2), (0, v3), (0, v4), (9, 0)] m 200 := by
  have G := X.G
  unfold M_X12_splits_L3B at h
  refine z_iload (nx := 77) (a := 4) G rfl dX12_splits_75 rfl (z_iload_n (nx := 78) (a := 1) G rfl dX12_splits_77 rfl ?_)
  refine z_icmp_ge (nx := 81) (tgt := 100) G dX12_splits_78 (by decide) rfl (fun c => ?_) (fun c => ?_)
  · have h := h.1 c
    exact b_fewer (loc2 := [(2, v0), (0, v1), (0, v2), (0, v3), (0, v4), (9, 0)]) (am_lk (am_lk (am_lk (am_lk (am_lk (am_lk am_ln)))))) (S_X12_splits_J2 X hp_v0 hC7 hB h)
  · have h := h.2 c
    refine z_aload_n (nx := 82) (a := 0) G rfl (Or.inl rfl) dX12_splits_81 rfl (b_getA (nx := 85) (k0 := 11) G hB fl_RX12_41 (Nat.le_of_ble_eq_true rfl) (Nat.le_of_ble_eq_true rfl) rfl hp_v0 dX12_splits_82 rfl (z_iload (nx := 87) (a := 4) G rfl dX12_splits_85 rfl ?_))
    obtain ⟨hb, h⟩ := h
    refine z_bald (nx := 88) G (sh_12_11 _ hp_v0) hb.1 hb.2 dX12_splits_87 rfl ?_
    refine b_callS5 (nx := 91) (zs := [m (am_rfv v0 11) v4]) (as := [(0, m (am_rfv v0 11) v4)]) X hB SS_X12_isDigit (am_ti am_tn) (Nat.le_of_ble_eq_true rfl) (Nat.le_of_ble_eq_true rfl) ml_RX12_187 sw_X12_isDigit (am_plainC 12 (by decide)) cw_X12_isDigit nw_RX12 pp_X12_isDigit (Nat.le_of_ble_eq_true rfl) dX12_splits_88 rfl (NM_X12_isDigit h) (fun r_18 m_19 h h01_20 hB => ?_)
    refine z_if_eq (nx := 94) (tgt := 100) G dX12_splits_91 (by decide) rfl (fun c => ?_) (fun c => ?_)
    · have h := h.1 c
      exact b_fewer (loc2 := [(2, v0), (0, v1), (0, v2), (0, v3), (0, v4), (9, 0)]) (am_lk (am_lk (am_lk (am_lk (am_lk (am_lk am_ln)))))) (S_X12_splits_J2 X hp_v0 hC7 hB h)
    · have h := h.2 c
      refine b_iinc (nx := 97) (a := 4) (loc2 := fun v4_21 => [(2, v0), (0, v1), (0, v2), (0, v3), (0, v4_21), (9, 0)]) G (fun _ => rfl) rfl (am_pl1 rfl (fun h => nomatch h)) dX12_splits_94 rfl (fun v4_21 e_v4_21 => ?_)
      have h := h v4_21 e_v4_21
      refine z_goto (tgt := 75) G dX12_splits_97 (by decide) ?_
      exact b_fewer (loc2 := [(2, v0), (0, v1), (0, v2), (0, v3), (0, v4_21), (9, 0)]) (am_lk (am_lk (am_lk (am_lk (am_lk (am_lk am_ln)))))) (hC75 _ _ h hB)
theorem S_X12_splits_L3 {F : am_F} {K : am_KK} {v0 : Int} {v1 : Int} {v2 : Int} {v3 : Int} {v4 : Int} {C7 : Int → am_M → Prop} {m : am_M} (X : am_Cx F cX12_splits RX12 none 2 9 K) (hp_v0 : am_ob v0 12) (hC7 : ∀ w2 m, C7 w2 m → am_Bt m → am_Z F 7 [] [(2, v0), (0, v1), (0, w2), (9, 0), (9, 0), (9, 0)] m 200) (hB : am_Bt m) (h : M_X12_splits_L3 v0 v1 v2 v3 v4 C7 K m) : am_Z F 75 [] [(2, v0), (0, v1), (0, v2), (0, v3), (0, v4), (9, 0)] m 200 := by
  obtain ⟨I, ⟨j, hj⟩, hI⟩ := h
  have key : ∀ j v4 m, I j v4 m → am_Bt m → am_Z F 75 [] [(2, v0), (0, v1), (0, v2), (0, v3), (0, v4), (9, 0)] m 200 := by
    intro j
    induction j using Nat.strongRecOn with
    | ind j ih =>
      intro v4 m hj hB
      exact S_X12_splits_L3B X hp_v0 (fun v4' m' hc hB' => by
        obtain ⟨j', g1, g2⟩ := hc
        exact ih j' g1 v4' m' g2 hB') hC7 hB (hI j v4 m hj)
  exact key j _ _ hj hB
set_option maxRecDepth 20000 in
set_option maxHeartbeats 4000000 in
theorem S_X12_splits_J1 {F : am_F} {K : am_KK} {v0 : Int} {v1 : Int} {v2 : Int} {v3 : Int} {v4 : Int} {C7 : Int → am_M → Prop} {m : am_M} (X : am_Cx F cX12_splits RX12 none 2 9 K) (hp_v0 : am_ob v0 12) (hC7 : ∀ w2 m, C7 w2 m → am_Bt m → am_Z F 7 [] [(2, v0), (0, v1), (0, w2), (9, 0), (9, 0), (9, 0)] m 200) (hB : am_Bt m) (h : M_X12_splits_J1 v0 v1 v2 v3 v4 C7 K m) : am_Z F 68 [] [(2, v0), (0, v1), (0, v2), (0, v3), (0, v4), (9, 0)] m 200 := by
  have G := X.G
  unfold M_X12_splits_J1 at h
  refine z_iload_n (nx := 69) (a := 3) G rfl dX12_splits_68 rfl ?_
  refine b_callS5 (nx := 72) (zs := [v3]) (as := [(0, v3)]) X hB SS_X12_isDigit (am_ti am_tn) (Nat.le_of_ble_eq_true rfl) (Nat.le_of_ble_eq_true rfl) ml_RX12_187 sw_X12_isDigit (am_plainC 12 (by decide)) cw_X12_isDigit nw_RX12 pp_X12_isDigit (Nat.le_of_ble_eq_true rfl) dX12_splits_69 rfl (NM_X12_isDigit h) (fun r_22 m_23 h h01_24 hB => ?_)
  refine z_if_eq (nx := 75) (tgt := 100) G dX12_splits_72 (by decide) rfl (fun c => ?_) (fun c => ?_)
  · have h := h.1 c
    exact b_fewer (loc2 := [(2, v0), (0, v1), (0, v2), (0, v3), (0, v4), (9, 0)]) (am_lk (am_lk (am_lk (am_lk (am_lk (am_lk am_ln)))))) (S_X12_splits_J2 X hp_v0 hC7 hB h)
  · have h := h.2 c
    exact b_fewer (loc2 := [(2, v0), (0, v1), (0, v2), (0, v3), (0, v4), (9, 0)]) (am_lk (am_lk (am_lk (am_lk (am_lk (am_lk am_ln)))))) (S_X12_splits_L3 X hp_v0 hC7 hB h)
set_option maxRecDepth 20000 in
set_option maxHeartbeats 4000000 in
theorem S_X12_splits_L2B {F : am_F} {K : am_KK} {v0 : Int} {v1 : Int} {v2 : Int} {v3 : Int} {v4 : Int} {C43 : Int → am_M → Prop} {C7 : Int → am_M → Prop} {m : am_M} (X : am_Cx F cX12_splits RX12 none 2 9 K) (hp_v0 : am_ob v0 12) (hC43 : ∀ w4 m, C43 w4 m → am_Bt m → am_Z F 43 [] [(2, v0), (0, v1), (0, v2), (0, v3), (0, w4), (9, 0)] m 200) (hC7 : ∀ w2 m, C7 w2 m → am_Bt m → am_Z F 7 [] [(2, v0), (0, v1), (0, w2), (9, 0), (9, 0), (9, 0)] m 200) (hB : am_Bt m) (h : M_X12_splits_L2B v0 v1 v2 v3 v4 C43 C7 K m) : am_Z F 43 [] [(2, v0), (0, v1), (0, v2), (0, v3), (0, v4), (9, 0)] m 200 := by
  have G := X.G
  unfold M_X12_splits_L2B at h
  refine z_iload (nx := 45) (a := 4) G rfl dX12_splits_43 rfl (z_iload_n (nx := 46) (a := 1) G rfl dX12_splits_45 rfl ?_)
  refine z_icmp_ge (nx := 49) (tgt := 68) G dX12_splits_46 (by decide) rfl (fun c => ?_) (fun c => ?_)
  · have h := h.1 c
    exact b_fewer (loc2 := [(2, v0), (0, v1), (0, v2), (0, v3), (0, v4), (9, 0)]) (am_lk (am_lk (am_lk (am_lk (am_lk (am_lk am_ln)))))) (S_X12_splits_J1 X hp_v0 hC7 hB h)
  · have h := h.2 c
    refine z_aload_n (nx := 50) (a := 0) G rfl (Or.inl rfl) dX12_splits_49 rfl (b_getA (nx := 53) (k0 := 11) G hB fl_RX12_41 (Nat.le_of_ble_eq_true rfl) (Nat.le_of_ble_eq_true rfl) rfl hp_v0 dX12_splits_50 rfl (z_iload (nx := 55) (a := 4) G rfl dX12_splits_53 rfl ?_))
    obtain ⟨hb, h⟩ := h
    refine z_bald (nx := 56) G (sh_12_11 _ hp_v0) hb.1 hb.2 dX12_splits_55 rfl ?_
    refine b_callS5 (nx := 59) (zs := [m (am_rfv v0 11) v4]) (as := [(0, m (am_rfv v0 11) v4)]) X hB SS_X12_isSmall (am_ti am_tn) (Nat.le_of_ble_eq_true rfl) (Nat.le_of_ble_eq_true rfl) ml_RX12_184 sw_X12_isSmall (am_plainC 12 (by decide)) cw_X12_isSmall nw_RX12 pp_X12_isSmall (Nat.le_of_ble_eq_true rfl) dX12_splits_56 rfl (NM_X12_isSmall h) (fun r_25 m_26 h h01_27 hB => ?_)
    refine z_if_eq (nx := 62) (tgt := 68) G dX12_splits_59 (by decide) rfl (fun c => ?_) (fun c => ?_)
    · have h := h.1 c
      exact b_fewer (loc2 := [(2, v0), (0, v1), (0, v2), (0, v3), (0, v4), (9, 0)]) (am_lk (am_lk (am_lk (am_lk (am_lk (am_lk am_ln)))))) (S_X12_splits_J1 X hp_v0 hC7 hB h)
    · have h := h.2 c
      refine b_iinc (nx := 65) (a := 4) (loc2 := fun v4_28 => [(2, v0), (0, v1), (0, v2), (0, v3), (0, v4_28), (9, 0)]) G (fun _ => rfl) rfl (am_pl1 rfl (fun h => nomatch h)) dX12_splits_62 rfl (fun v4_28 e_v4_28 => ?_)
      have h := h v4_28 e_v4_28
      refine z_goto (tgt := 43) G dX12_splits_65 (by decide) ?_
      exact b_fewer (loc2 := [(2, v0), (0, v1), (0, v2), (0, v3), (0, v4_28), (9, 0)]) (am_lk (am_lk (am_lk (am_lk (am_lk (am_lk am_ln)))))) (hC43 _ _ h hB)
theorem S_X12_splits_L2 {F : am_F} {K : am_KK} {v0 : Int} {v1 : Int} {v2 : Int} {v3 : Int} {v4 : Int} {C7 : Int → am_M → Prop} {m : am_M} (X : am_Cx F cX12_splits RX12 none 2 9 K) (hp_v0 : am_ob v0 12) (hC7 : ∀ w2 m, C7 w2 m → am_Bt m → am_Z F 7 [] [(2, v0), (0, v1), (0, w2), (9, 0), (9, 0), (9, 0)] m 200) (hB : am_Bt m) (h : M_X12_splits_L2 v0 v1 v2 v3 v4 C7 K m) : am_Z F 43 [] [(2, v0), (0, v1), (0, v2), (0, v3), (0, v4), (9, 0)] m 200 := by
  obtain ⟨I, ⟨j, hj⟩, hI⟩ := h
  have key : ∀ j v4 m, I j v4 m → am_Bt m → am_Z F 43 [] [(2, v0), (0, v1), (0, v2), (0, v3), (0, v4), (9, 0)] m 200 := by
    intro j
    induction j using Nat.strongRecOn with
    | ind j ih =>
      intro v4 m hj hB
      exact S_X12_splits_L2B X hp_v0 (fun v4' m' hc hB' => by
        obtain ⟨j', g1, g2⟩ := hc
        exact ih j' g1 v4' m' g2 hB') hC7 hB (hI j v4 m hj)
  exact key j _ _ hj hB
set_option maxRecDepth 20000 in
set_option maxHeartbeats 4000000 in
theorem S_X12_splits_L1B {F : am_F} {K : am_KK} {v0 : Int} {v1 : Int} {v2 : Int} {C7 : Int → am_M → Prop} {m : am_M} (X : am_Cx F cX12_splits RX12 none 2 9 K) (hp_v0 : am_ob v0 12) (hC7 : ∀ w2 m, C7 w2 m → am_Bt m → am_Z F 7 [] [(2, v0), (0, v1), (0, w2), (9, 0), (9, 0), (9, 0)] m 200) (hB : am_Bt m) (h : M_X12_splits_L1B v0 v1 v2 C7 K m) : am_Z F 7 [] [(2, v0), (0, v1), (0, v2), (9, 0), (9, 0), (9, 0)] m 200 := by
  have G := X.G
  unfold M_X12_splits_L1B at h
  refine z_iload_n (nx := 8) (a := 2) G rfl dX12_splits_7 rfl (z_iload_n (nx := 9) (a := 1) G rfl dX12_splits_8 rfl ?_)
  refine z_icmp_ge (nx := 12) (tgt := 263) G dX12_splits_9 (by decide) rfl (fun c => ?_) (fun c => ?_)
  · have h := h.1 c
    refine z_aload_n (nx := 264) (a := 0) G rfl (Or.inl rfl) dX12_splits_263 rfl (b_getA (nx := 267) (k0 := 17) G hB fl_RX12_56 (Nat.le_of_ble_eq_true rfl) (Nat.le_of_ble_eq_true rfl) rfl hp_v0 dX12_splits_264 rfl (z_aload_n (nx := 268) (a := 0) G rfl (Or.inl rfl) dX12_splits_267 rfl (b_getI (nx := 271) (k0 := 18) (t := 0) G fl_RX12_181 (Nat.le_of_ble_eq_true rfl) (Nat.le_of_ble_eq_true rfl) rfl hp_v0 dX12_splits_268 rfl (z_iload_n (nx := 272) (a := 1) G rfl dX12_splits_271 rfl ?_))))
    obtain ⟨hb, h⟩ := h
    refine b_iast (nx := 273) G hB (sh_12_17 _ hp_v0) hb.1 hb.2 dX12_splits_272 rfl (fun m_29 e_m_29 hB => ?_)
    have h := h m_29 e_m_29
    refine z_aload_n (nx := 274) (a := 0) G rfl (Or.inl rfl) dX12_splits_273 rfl (b_getA (nx := 277) (k0 := 15) G hB fl_RX12_50 (Nat.le_of_ble_eq_true rfl) (Nat.le_of_ble_eq_true rfl) rfl hp_v0 dX12_splits_274 rfl (z_aload_n (nx := 278) (a := 0) G rfl (Or.inl rfl) dX12_splits_277 rfl (b_getI (nx := 281) (k0 := 18) (t := 0) G fl_RX12_181 (Nat.le_of_ble_eq_true rfl) (Nat.le_of_ble_eq_true rfl) rfl hp_v0 dX12_splits_278 rfl (z_iconst (nx := 282) (z := 0) G (R32c rfl) dX12_splits_281 rfl ?_))))
    obtain ⟨hb, h⟩ := h
    refine b_iast (nx := 283) G hB (sh_12_15 _ hp_v0) hb.1 hb.2 dX12_splits_282 rfl (fun m_30 e_m_30 hB => ?_)
    have h := h m_30 e_m_30
    refine z_aload_n (nx := 284) (a := 0) G rfl (Or.inl rfl) dX12_splits_283 rfl (b_getA (nx := 287) (k0 := 16) G hB fl_RX12_53 (Nat.le_of_ble_eq_true rfl) (Nat.le_of_ble_eq_true rfl) rfl hp_v0 dX12_splits_284 rfl (z_aload_n (nx := 288) (a := 0) G rfl (Or.inl rfl) dX12_splits_287 rfl (b_getI (nx := 291) (k0 := 18) (t := 0) G fl_RX12_181 (Nat.le_of_ble_eq_true rfl) (Nat.le_of_ble_eq_true rfl) rfl hp_v0 dX12_splits_288 rfl (z_iconst (nx := 292) (z := 0) G (R32c rfl) dX12_splits_291 rfl ?_))))
    obtain ⟨hb, h⟩ := h
    refine b_iast (nx := 293) G hB (sh_12_16 _ hp_v0) hb.1 hb.2 dX12_splits_292 rfl (fun m_31 e_m_31 hB => ?_)
    have h := h m_31 e_m_31
    exact b_return X hB dX12_splits_293 h
  · have h := h.2 c
    refine z_aload_n (nx := 13) (a := 0) G rfl (Or.inl rfl) dX12_splits_12 rfl (b_getA (nx := 16) (k0 := 11) G hB fl_RX12_41 (Nat.le_of_ble_eq_true rfl) (Nat.le_of_ble_eq_true rfl) rfl hp_v0 dX12_splits_13 rfl (z_iload_n (nx := 17) (a := 2) G rfl dX12_splits_16 rfl ?_))
    obtain ⟨hb, h⟩ := h
    refine z_bald (nx := 18) G (sh_12_11 _ hp_v0) hb.1 hb.2 dX12_splits_17 rfl ?_
    refine b_store_n (nx := 19) (a := 3) (loc2 := fun v3_32 => [(2, v0), (0, v1), (0, v2), (0, v3_32), (9, 0), (9, 0)]) G (fun _ => rfl) (Nat.le_of_ble_eq_true rfl) (am_pl1 rfl (fun h => nomatch h)) dX12_splits_18 rfl (fun v3_32 e_v3_32 => ?_)
    have h := h v3_32 e_v3_32
    refine z_iload_n (nx := 20) (a := 3) G rfl dX12_splits_19 rfl (z_bipush (nx := 22) (z := 32) G (R32c rfl) rfl dX12_splits_20 rfl ?_)
    refine z_icmp_ne (nx := 25) (tgt := 31) G dX12_splits_22 (by decide) rfl (fun c => ?_) (fun c => ?_)
    · have h := h.1 c
      refine z_iload_n (nx := 32) (a := 2) G rfl dX12_splits_31 rfl (z_iconst (nx := 33) (z := 1) G (R32c rfl) dX12_splits_32 rfl (z_iadd (nx := 34) G dX12_splits_33 rfl ?_))
      refine b_store (nx := 36) (a := 4) (loc2 := fun v4_33 => [(2, v0), (0, v1), (0, v2), (0, v3_32), (0, v4_33), (9, 0)]) G (fun _ => rfl) (Nat.le_of_ble_eq_true rfl) (am_pl1 rfl (fun h => nomatch h)) dX12_splits_34 rfl (fun v4_33 e_v4_33 => ?_)
      have h := h v4_33 e_v4_33
      refine z_iload_n (nx := 37) (a := 3) G rfl dX12_splits_36 rfl ?_
      refine b_callS5 (nx := 40) (zs := [v3_32]) (as := [(0, v3_32)]) X hB SS_X12_isSmall (am_ti am_tn) (Nat.le_of_ble_eq_true rfl) (Nat.le_of_ble_eq_true rfl) ml_RX12_184 sw_X12_isSmall (am_plainC 12 (by decide)) cw_X12_isSmall nw_RX12 pp_X12_isSmall (Nat.le_of_ble_eq_true rfl) dX12_splits_37 rfl (NM_X12_isSmall h) (fun r_34 m_35 h h01_36 hB => ?_)
      refine z_if_eq (nx := 43) (tgt := 68) G dX12_splits_40 (by decide) rfl (fun c => ?_) (fun c => ?_)
      · have h := h.1 c
        exact b_fewer (loc2 := [(2, v0), (0, v1), (0, v2), (0, v3_32), (0, v4_33), (9, 0)]) (am_lk (am_lk (am_lk (am_lk (am_lk (am_lk am_ln)))))) (S_X12_splits_J1 X hp_v0 hC7 hB h)
      · have h := h.2 c
        exact b_fewer (loc2 := [(2, v0), (0, v1), (0, v2), (0, v3_32), (0, v4_33), (9, 0)]) (am_lk (am_lk (am_lk (am_lk (am_lk (am_lk am_ln)))))) (S_X12_splits_L2 X hp_v0 hC7 hB h)
    · have h := h.2 c
      refine b_iinc (nx := 28) (a := 2) (loc2 := fun v2_37 => [(2, v0), (0, v1), (0, v2_37), (0, v3_32), (9, 0), (9, 0)]) G (fun _ => rfl) rfl (am_pl1 rfl (fun h => nomatch h)) dX12_splits_25 rfl (fun v2_37 e_v2_37 => ?_)
      have h := h v2_37 e_v2_37
      refine z_goto (tgt := 7) G dX12_splits_28 (by decide) ?_
      exact b_fewer (loc2 := [(2, v0), (0, v1), (0, v2_37), (9, 0), (9, 0), (9, 0)]) (am_lk (am_lk (am_lk (am_lf (am_lk (am_lk am_ln)))))) (hC7 _ _ h hB)
theorem S_X12_splits_L1 {F : am_F} {K : am_KK} {v0 : Int} {v1 : Int} {v2 : Int} {m : am_M} (X : am_Cx F cX12_splits RX12 none 2 9 K) (hp_v0 : am_ob v0 12) (hB : am_Bt m) (h : M_X12_splits_L1 v0 v1 v2 K m) : am_Z F 7 [] [(2, v0), (0, v1), (0, v2), (9, 0), (9, 0), (9, 0)] m 200 := by
  obtain ⟨I, ⟨j, hj⟩, hI⟩ := h
  have key : ∀ j v2 m, I j v2 m → am_Bt m → am_Z F 7 [] [(2, v0), (0, v1), (0, v2), (9, 0), (9, 0), (9, 0)] m 200 := by
    intro j
    induction j using Nat.strongRecOn with
    | ind j ih =>
      intro v2 m hj hB
      exact S_X12_splits_L1B X hp_v0 (fun v2' m' hc hB' => by
        obtain ⟨j', g1, g2⟩ := hc
        exact ih j' g1 v2' m' g2 hB') hB (hI j v2 m hj)
  exact key j _ _ hj hB
set_option maxRecDepth 20000 in
set_option maxHeartbeats 4000000 in
theorem S_X12_splits {F : am_F} {K : am_KK} {v0 : Int} {v1 : Int} {m : am_M} (X : am_Cx F cX12_splits RX12 none 2 9 K) (hp_v0 : am_ob v0 12) (hB : am_Bt m) (h : M_X12_splits v0 v1 K m) : am_Z F 0 [] [(2, v0), (0, v1), (9, 0), (9, 0), (9, 0), (9, 0)] m 200 := by
  have G := X.G
  unfold M_X12_splits at h
  refine z_aload_n (nx := 1) (a := 0) G rfl (Or.inl rfl) dX12_splits_0 rfl (z_iconst (nx := 2) (z := 0) G (R32c rfl) dX12_splits_1 rfl ?_)
  refine b_put (nx := 5) (k0 := 18) (t := 0) G hB fl_RX12_181 (Nat.le_of_ble_eq_true rfl) (Nat.le_of_ble_eq_true rfl) rfl (fun h => nomatch h) rfl hp_v0 dX12_splits_2 rfl (fun m_38 e_m_38 hB => ?_)
  have h := h m_38 e_m_38
  refine z_iconst (nx := 6) (z := 0) G (R32c rfl) dX12_splits_5 rfl (b_storeE_n (nx := 7) (a := 2) (loc2 := [(2, v0), (0, v1), (0, 0), (9, 0), (9, 0), (9, 0)]) G rfl (Nat.le_of_ble_eq_true rfl) (am_pl1 rfl (fun h => nomatch h)) dX12_splits_6 rfl ?_)
  exact b_fewer (loc2 := [(2, v0), (0, v1), (0, 0), (9, 0), (9, 0), (9, 0)]) (am_lk (am_lk (am_lk (am_lk (am_lk (am_lk am_ln)))))) (S_X12_splits_L1 X hp_v0 hB h)
theorem NM_X12_splits {v0 : Int} {v1 : Int} {K : am_KK} {m : am_M} (hp_v0 : am_ob v0 12) (h : M_X12_splits v0 v1 K m) : N_X12_splits [v0, v1] K m := ⟨hp_v0, h⟩
theorem SS_X12_splits : am_Snd yX12_splits cX12_splits 6 none 0 2 (am_L [2, 0] 9 N_X12_splits) := by
  refine am_SB (by decide +kernel) (Nat.le_of_ble_eq_true rfl) (fun F zs as K m X ht hB hM => ?_)
  obtain ⟨v0, zs, as, rfl, rfl, hz0, ht⟩ := am_inv ht
  obtain ⟨v1, zs, as, rfl, rfl, hz1, ht⟩ := am_inv ht
  obtain ⟨rfl, rfl⟩ := am_inv0 ht
  obtain ⟨hp_v0, hM⟩ := hM
  exact S_X12_splits X hp_v0 hB hM
set_option maxRecDepth 20000 in
set_option maxHeartbeats 4000000 in
theorem S_X12_fine {F : am_F} {K : am_KK} {v0 : Int} {m : am_M} (X : am_Cx F cX12_fine RX12 (some .boolean) 1 5 K) (hp_v0 : am_ob v0 12) (hB : am_Bt m) (h : M_X12_fine v0 K m) : am_Z F 0 [] [(2, v0)] m 200 := by
  have G := X.G
  unfold M_X12_fine at h
  refine z_aload_n (nx := 1) (a := 0) G rfl (Or.inl rfl) dX12_fine_0 rfl (b_getI (nx := 4) (k0 := 21) (t := 0) G fl_RX12_194 (Nat.le_of_ble_eq_true rfl) (Nat.le_of_ble_eq_true rfl) rfl hp_v0 dX12_fine_1 rfl (z_iconst (nx := 5) (z := (-1)) G (R32c rfl) dX12_fine_4 rfl ?_))
  refine z_icmp_ne (nx := 8) (tgt := 12) G dX12_fine_5 (by decide) rfl (fun c => ?_) (fun c => ?_)
  · have h := h.1 c
    refine z_iconst (nx := 13) (z := 0) G (R32c rfl) dX12_fine_12 rfl ?_
    exact b_zreturn X hB (Or.inl rfl) dX12_fine_13 h
  · have h := h.2 c
    refine z_iconst (nx := 9) (z := 1) G (R32c rfl) dX12_fine_8 rfl (z_goto (tgt := 13) G dX12_fine_9 (by decide) ?_)
    exact b_zreturn X hB (Or.inr rfl) dX12_fine_13 h
theorem NM_X12_fine {v0 : Int} {K : am_KK} {m : am_M} (hp_v0 : am_ob v0 12) (h : M_X12_fine v0 K m) : N_X12_fine [v0] K m := ⟨hp_v0, h⟩
theorem SS_X12_fine : am_Snd yX12_fine cX12_fine 1 (some .boolean) 0 1 (am_L [2] 5 N_X12_fine) := by
  refine am_SB (by decide +kernel) (Nat.le_of_ble_eq_true rfl) (fun F zs as K m X ht hB hM => ?_)
  obtain ⟨v0, zs, as, rfl, rfl, hz0, ht⟩ := am_inv ht
  obtain ⟨rfl, rfl⟩ := am_inv0 ht
  obtain ⟨hp_v0, hM⟩ := hM
  exact S_X12_fine X hp_v0 hB hM
set_option maxRecDepth 20000 in
set_option maxHeartbeats 4000000 in
theorem S_X12_faults {F : am_F} {K : am_KK} {v0 : Int} {m : am_M} (X : am_Cx F cX12_faults RX12 none 2 9 K) (hp_v0 : am_ob v0 12) (hB : am_Bt m) (h : M_X12_faults v0 K m) : am_Z F 0 [] [(2, v0)] m 200 := by
  have G := X.G
  unfold M_X12_faults at h
  refine z_aload_n (nx := 1) (a := 0) G rfl (Or.inl rfl) dX12_faults_0 rfl ?_
  refine b_callV5 (nx := 4) (zs := [v0]) (as := []) X hB (by decide) rfl hp_v0 SS_X12_fine (am_ta am_tn) (Nat.le_of_ble_eq_true rfl) (Nat.le_of_ble_eq_true rfl) ml_RX12_197 iw_X12_fine vw_X12_fine cw_X12_fine nw_RX12 pp_X12_fine (Nat.le_of_ble_eq_true rfl) dX12_faults_1 rfl (NM_X12_fine hp_v0 h) (fun r_1 m_2 h h01_3 hB => ?_)
  refine z_if_eq (nx := 7) (tgt := 20) G dX12_faults_4 (by decide) rfl (fun c => ?_) (fun c => ?_)
  · have h := h.1 c
    exact b_return X hB dX12_faults_20 h
  · have h := h.2 c
    refine z_aload_n (nx := 8) (a := 0) G rfl (Or.inl rfl) dX12_faults_7 rfl (z_aload_n (nx := 9) (a := 0) G rfl (Or.inl rfl) dX12_faults_8 rfl (b_getA (nx := 12) (k0 := 17) G hB fl_RX12_56 (Nat.le_of_ble_eq_true rfl) (Nat.le_of_ble_eq_true rfl) rfl hp_v0 dX12_faults_9 rfl (z_aload_n (nx := 13) (a := 0) G rfl (Or.inl rfl) dX12_faults_12 rfl (b_getI (nx := 16) (k0 := 19) (t := 0) G fl_RX12_201 (Nat.le_of_ble_eq_true rfl) (Nat.le_of_ble_eq_true rfl) rfl hp_v0 dX12_faults_13 rfl ?_))))
    obtain ⟨hb, h⟩ := h
    refine z_iald (nx := 17) G (sh_12_17 _ hp_v0) hb.1 hb.2 dX12_faults_16 rfl ?_
    refine b_put (nx := 20) (k0 := 21) (t := 0) G hB fl_RX12_194 (Nat.le_of_ble_eq_true rfl) (Nat.le_of_ble_eq_true rfl) rfl (fun h => nomatch h) rfl hp_v0 dX12_faults_17 rfl (fun m_4 e_m_4 hB => ?_)
    have h := h m_4 e_m_4
    exact b_return X hB dX12_faults_20 h
theorem NM_X12_faults {v0 : Int} {K : am_KK} {m : am_M} (hp_v0 : am_ob v0 12) (h : M_X12_faults v0 K m) : N_X12_faults [v0] K m := ⟨hp_v0, h⟩
theorem SS_X12_faults : am_Snd yX12_faults cX12_faults 1 none 0 2 (am_L [2] 9 N_X12_faults) := by
  refine am_SB (by decide +kernel) (Nat.le_of_ble_eq_true rfl) (fun F zs as K m X ht hB hM => ?_)
  obtain ⟨v0, zs, as, rfl, rfl, hz0, ht⟩ := am_inv ht
  obtain ⟨rfl, rfl⟩ := am_inv0 ht
  obtain ⟨hp_v0, hM⟩ := hM
  exact S_X12_faults X hp_v0 hB hM
set_option maxRecDepth 20000 in
set_option maxHeartbeats 4000000 in
theorem S_X12_takes0_J2 {F : am_F} {K : am_KK} {v0 : Int} {s0 : Int} {m : am_M} (X : am_Cx F cX12_takes0 RX12 (some .boolean) 2 5 K) (hp_v0 : am_ob v0 12) (hp_s0 : s0 = 0 ∨ s0 = 1) (hB : am_Bt m) (h : M_X12_takes0_J2 v0 s0 K m) : am_Z F 25 [(0, s0)] [(2, v0), (9, 0), (9, 0)] m 200 := by
  have G := X.G
  unfold M_X12_takes0_J2 at h
  refine b_storeE_n (nx := 26) (a := 2) (loc2 := [(2, v0), (9, 0), (0, s0)]) G rfl (Nat.le_of_ble_eq_true rfl) (am_pl1 rfl (fun h => nomatch h)) dX12_takes0_25 rfl (z_iload_n (nx := 27) (a := 2) G rfl dX12_takes0_26 rfl ?_)
  refine z_if_eq (nx := 30) (tgt := 40) G dX12_takes0_27 (by decide) rfl (fun c => ?_) (fun c => ?_)
  · have h := h.1 c
    refine z_iload_n (nx := 41) (a := 2) G rfl dX12_takes0_40 rfl ?_
    exact b_zreturn X hB hp_s0 dX12_takes0_41 h
  · have h := h.2 c
    refine z_aload_n (nx := 31) (a := 0) G rfl (Or.inl rfl) dX12_takes0_30 rfl (z_dup (nx := 32) G (fun h => nomatch h) dX12_takes0_31 rfl (b_getI (nx := 35) (k0 := 19) (t := 0) G fl_RX12_201 (Nat.le_of_ble_eq_true rfl) (Nat.le_of_ble_eq_true rfl) rfl hp_v0 dX12_takes0_32 rfl (z_iconst (nx := 36) (z := 1) G (R32c rfl) dX12_takes0_35 rfl (z_iadd (nx := 37) G dX12_takes0_36 rfl ?_))))
    refine b_put (nx := 40) (k0 := 19) (t := 0) G hB fl_RX12_201 (Nat.le_of_ble_eq_true rfl) (Nat.le_of_ble_eq_true rfl) rfl (fun h => nomatch h) rfl hp_v0 dX12_takes0_37 rfl (fun m_1 e_m_1 hB => ?_)
    have h := h m_1 e_m_1
    refine z_iload_n (nx := 41) (a := 2) G rfl dX12_takes0_40 rfl ?_
    exact b_zreturn X hB hp_s0 dX12_takes0_41 h
set_option maxRecDepth 20000 in
set_option maxHeartbeats 4000000 in
theorem S_X12_takes0_J1 {F : am_F} {K : am_KK} {v0 : Int} {m : am_M} (X : am_Cx F cX12_takes0 RX12 (some .boolean) 2 5 K) (hp_v0 : am_ob v0 12) (hB : am_Bt m) (h : M_X12_takes0_J1 v0 K m) : am_Z F 24 [] [(2, v0), (9, 0), (9, 0)] m 200 := by
  have G := X.G
  unfold M_X12_takes0_J1 at h
  refine z_iconst (nx := 25) (z := 0) G (R32c rfl) dX12_takes0_24 rfl ?_
  exact b_fewer (loc2 := [(2, v0), (9, 0), (9, 0)]) (am_lk (am_lk (am_lk am_ln))) (S_X12_takes0_J2 X hp_v0 (Or.inl rfl) hB h)
set_option maxRecDepth 20000 in
set_option maxHeartbeats 4000000 in
theorem S_X12_takes0 {F : am_F} {K : am_KK} {v0 : Int} {v1 : Int} {m : am_M} (X : am_Cx F cX12_takes0 RX12 (some .boolean) 2 5 K) (hp_v0 : am_ob v0 12) (hB : am_Bt m) (h : M_X12_takes0 v0 v1 K m) : am_Z F 0 [] [(2, v0), (0, v1), (9, 0)] m 200 := by
  have G := X.G
  unfold M_X12_takes0 at h
  refine z_aload_n (nx := 1) (a := 0) G rfl (Or.inl rfl) dX12_takes0_0 rfl ?_
  refine b_callV5 (nx := 4) (zs := [v0]) (as := []) X hB (by decide) rfl hp_v0 SS_X12_fine (am_ta am_tn) (Nat.le_of_ble_eq_true rfl) (Nat.le_of_ble_eq_true rfl) ml_RX12_197 iw_X12_fine vw_X12_fine cw_X12_fine nw_RX12 pp_X12_fine (Nat.le_of_ble_eq_true rfl) dX12_takes0_1 rfl (NM_X12_fine hp_v0 h) (fun r_2 m_3 h h01_4 hB => ?_)
  refine z_if_eq (nx := 7) (tgt := 24) G dX12_takes0_4 (by decide) rfl (fun c => ?_) (fun c => ?_)
  · have h := h.1 c
    exact b_fewer (loc2 := [(2, v0), (9, 0), (9, 0)]) (am_lk (am_lf (am_lk am_ln))) (S_X12_takes0_J1 X hp_v0 hB h)
  · have h := h.2 c
    refine z_aload_n (nx := 8) (a := 0) G rfl (Or.inl rfl) dX12_takes0_7 rfl (b_getA (nx := 11) (k0 := 15) G hB fl_RX12_50 (Nat.le_of_ble_eq_true rfl) (Nat.le_of_ble_eq_true rfl) rfl hp_v0 dX12_takes0_8 rfl (z_aload_n (nx := 12) (a := 0) G rfl (Or.inl rfl) dX12_takes0_11 rfl (b_getI (nx := 15) (k0 := 19) (t := 0) G fl_RX12_201 (Nat.le_of_ble_eq_true rfl) (Nat.le_of_ble_eq_true rfl) rfl hp_v0 dX12_takes0_12 rfl ?_)))
    obtain ⟨hb, h⟩ := h
    refine z_iald (nx := 16) G (sh_12_15 _ hp_v0) hb.1 hb.2 dX12_takes0_15 rfl ?_
    refine z_iload_n (nx := 17) (a := 1) G rfl dX12_takes0_16 rfl ?_
    refine z_icmp_ne (nx := 20) (tgt := 24) G dX12_takes0_17 (by decide) rfl (fun c => ?_) (fun c => ?_)
    · have h := h.1 c
      exact b_fewer (loc2 := [(2, v0), (9, 0), (9, 0)]) (am_lk (am_lf (am_lk am_ln))) (S_X12_takes0_J1 X hp_v0 hB h)
    · have h := h.2 c
      refine z_iconst (nx := 21) (z := 1) G (R32c rfl) dX12_takes0_20 rfl (z_goto (tgt := 25) G dX12_takes0_21 (by decide) ?_)
      exact b_fewer (loc2 := [(2, v0), (9, 0), (9, 0)]) (am_lk (am_lf (am_lk am_ln))) (S_X12_takes0_J2 X hp_v0 (Or.inr rfl) hB h)
theorem NM_X12_takes0 {v0 : Int} {v1 : Int} {K : am_KK} {m : am_M} (hp_v0 : am_ob v0 12) (h : M_X12_takes0 v0 v1 K m) : N_X12_takes0 [v0, v1] K m := ⟨hp_v0, h⟩
theorem SS_X12_takes0 : am_Snd yX12_takes0 cX12_takes0 3 (some .boolean) 0 2 (am_L [2, 0] 5 N_X12_takes0) := by
  refine am_SB (by decide +kernel) (Nat.le_of_ble_eq_true rfl) (fun F zs as K m X ht hB hM => ?_)
  obtain ⟨v0, zs, as, rfl, rfl, hz0, ht⟩ := am_inv ht
  obtain ⟨v1, zs, as, rfl, rfl, hz1, ht⟩ := am_inv ht
  obtain ⟨rfl, rfl⟩ := am_inv0 ht
  obtain ⟨hp_v0, hM⟩ := hM
  exact S_X12_takes0 X hp_v0 hB hM
set_option maxRecDepth 20000 in
set_option maxHeartbeats 4000000 in
theorem S_X12_must {F : am_F} {K : am_KK} {v0 : Int} {v1 : Int} {m : am_M} (X : am_Cx F cX12_must RX12 none 3 9 K) (hp_v0 : am_ob v0 12) (hB : am_Bt m) (h : M_X12_must v0 v1 K m) : am_Z F 0 [] [(2, v0), (0, v1)] m 200 := by
  have G := X.G
  unfold M_X12_must at h
  refine z_aload_n (nx := 1) (a := 0) G rfl (Or.inl rfl) dX12_must_0 rfl (z_iload_n (nx := 2) (a := 1) G rfl dX12_must_1 rfl ?_)
  refine b_callV5 (nx := 5) (zs := [v0, v1]) (as := [(0, v1)]) X hB (by decide) rfl hp_v0 SS_X12_takes0 (am_ta (am_ti am_tn)) (Nat.le_of_ble_eq_true rfl) (Nat.le_of_ble_eq_true rfl) ml_RX12_204 iw_X12_takes0 vw_X12_takes0 cw_X12_takes0 nw_RX12 pp_X12_takes0 (Nat.le_of_ble_eq_true rfl) dX12_must_2 rfl (NM_X12_takes0 hp_v0 h) (fun r_1 m_2 h h01_3 hB => ?_)
  refine z_if_ne (nx := 8) (tgt := 12) G dX12_must_5 (by decide) rfl (fun c => ?_) (fun c => ?_)
  · have h := h.1 c
    exact b_return X hB dX12_must_12 h
  · have h := h.2 c
    refine z_aload_n (nx := 9) (a := 0) G rfl (Or.inl rfl) dX12_must_8 rfl ?_
    refine b_callV9 (nx := 12) (zs := [v0]) (as := []) X hB (by decide) rfl hp_v0 SS_X12_faults (am_ta am_tn) (Nat.le_of_ble_eq_true rfl) (Nat.le_of_ble_eq_true rfl) ml_RX12_207 iw_X12_faults vw_X12_faults cw_X12_faults nw_RX12 pp_X12_faults (Nat.le_of_ble_eq_true rfl) dX12_must_9 rfl (NM_X12_faults hp_v0 h) (fun r_4 m_5 h hB => ?_)
    exact b_return X hB dX12_must_12 h
theorem NM_X12_must {v0 : Int} {v1 : Int} {K : am_KK} {m : am_M} (hp_v0 : am_ob v0 12) (h : M_X12_must v0 v1 K m) : N_X12_must [v0, v1] K m := ⟨hp_v0, h⟩
theorem SS_X12_must : am_Snd yX12_must cX12_must 2 none 0 3 (am_L [2, 0] 9 N_X12_must) := by
  refine am_SB (by decide +kernel) (Nat.le_of_ble_eq_true rfl) (fun F zs as K m X ht hB hM => ?_)
  obtain ⟨v0, zs, as, rfl, rfl, hz0, ht⟩ := am_inv ht
  obtain ⟨v1, zs, as, rfl, rfl, hz1, ht⟩ := am_inv ht
  obtain ⟨rfl, rfl⟩ := am_inv0 ht
  obtain ⟨hp_v0, hM⟩ := hM
  exact S_X12_must X hp_v0 hB hM
set_option maxRecDepth 20000 in
set_option maxHeartbeats 4000000 in
theorem S_X12_leaf_J1 {F : am_F} {K : am_KK} {v0 : Int} {m : am_M} (X : am_Cx F cX12_leaf RX12 none 3 9 K) (hp_v0 : am_ob v0 12) (hB : am_Bt m) (h : M_X12_leaf_J1 v0 K m) : am_Z F 13 [] [(2, v0)] m 200 := by
  have G := X.G
  unfold M_X12_leaf_J1 at h
  refine z_aload_n (nx := 14) (a := 0) G rfl (Or.inl rfl) dX12_leaf_13 rfl (z_dup (nx := 15) G (fun h => nomatch h) dX12_leaf_14 rfl (b_getI (nx := 18) (k0 := 20) (t := 0) G fl_RX12_210 (Nat.le_of_ble_eq_true rfl) (Nat.le_of_ble_eq_true rfl) rfl hp_v0 dX12_leaf_15 rfl (z_iconst (nx := 19) (z := 1) G (R32c rfl) dX12_leaf_18 rfl (z_iadd (nx := 20) G dX12_leaf_19 rfl ?_))))
  refine b_put (nx := 23) (k0 := 20) (t := 0) G hB fl_RX12_210 (Nat.le_of_ble_eq_true rfl) (Nat.le_of_ble_eq_true rfl) rfl (fun h => nomatch h) rfl hp_v0 dX12_leaf_20 rfl (fun m_1 e_m_1 hB => ?_)
  have h := h m_1 e_m_1
  refine z_aload_n (nx := 24) (a := 0) G rfl (Or.inl rfl) dX12_leaf_23 rfl ?_
  refine b_callV5 (nx := 27) (zs := [v0]) (as := []) X hB (by decide) rfl hp_v0 SS_X12_fine (am_ta am_tn) (Nat.le_of_ble_eq_true rfl) (Nat.le_of_ble_eq_true rfl) ml_RX12_197 iw_X12_fine vw_X12_fine cw_X12_fine nw_RX12 pp_X12_fine (Nat.le_of_ble_eq_true rfl) dX12_leaf_24 rfl (NM_X12_fine hp_v0 h) (fun r_2 m_3 h h01_4 hB => ?_)
  refine z_if_eq (nx := 30) (tgt := 40) G dX12_leaf_27 (by decide) rfl (fun c => ?_) (fun c => ?_)
  · have h := h.1 c
    exact b_return X hB dX12_leaf_40 h
  · have h := h.2 c
    refine z_aload_n (nx := 31) (a := 0) G rfl (Or.inl rfl) dX12_leaf_30 rfl (z_dup (nx := 32) G (fun h => nomatch h) dX12_leaf_31 rfl (b_getI (nx := 35) (k0 := 19) (t := 0) G fl_RX12_201 (Nat.le_of_ble_eq_true rfl) (Nat.le_of_ble_eq_true rfl) rfl hp_v0 dX12_leaf_32 rfl (z_iconst (nx := 36) (z := 1) G (R32c rfl) dX12_leaf_35 rfl (z_iadd (nx := 37) G dX12_leaf_36 rfl ?_))))
    refine b_put (nx := 40) (k0 := 19) (t := 0) G hB fl_RX12_201 (Nat.le_of_ble_eq_true rfl) (Nat.le_of_ble_eq_true rfl) rfl (fun h => nomatch h) rfl hp_v0 dX12_leaf_37 rfl (fun m_5 e_m_5 hB => ?_)
    have h := h m_5 e_m_5
    exact b_return X hB dX12_leaf_40 h
set_option maxRecDepth 20000 in
set_option maxHeartbeats 4000000 in
theorem S_X12_leaf {F : am_F} {K : am_KK} {v0 : Int} {m : am_M} (X : am_Cx F cX12_leaf RX12 none 3 9 K) (hp_v0 : am_ob v0 12) (hB : am_Bt m) (h : M_X12_leaf v0 K m) : am_Z F 0 [] [(2, v0)] m 200 := by
  have G := X.G
  unfold M_X12_leaf at h
  refine z_aload_n (nx := 1) (a := 0) G rfl (Or.inl rfl) dX12_leaf_0 rfl (b_getI (nx := 4) (k0 := 20) (t := 0) G fl_RX12_210 (Nat.le_of_ble_eq_true rfl) (Nat.le_of_ble_eq_true rfl) rfl hp_v0 dX12_leaf_1 rfl (z_bipush (nx := 6) (z := 50) G (R32c rfl) rfl dX12_leaf_4 rfl ?_))
  refine z_icmp_ne (nx := 9) (tgt := 13) G dX12_leaf_6 (by decide) rfl (fun c => ?_) (fun c => ?_)
  · have h := h.1 c
    exact b_fewer (loc2 := [(2, v0)]) (am_lk am_ln) (S_X12_leaf_J1 X hp_v0 hB h)
  · have h := h.2 c
    refine z_aload_n (nx := 10) (a := 0) G rfl (Or.inl rfl) dX12_leaf_9 rfl ?_
    refine b_callV9 (nx := 13) (zs := [v0]) (as := []) X hB (by decide) rfl hp_v0 SS_X12_faults (am_ta am_tn) (Nat.le_of_ble_eq_true rfl) (Nat.le_of_ble_eq_true rfl) ml_RX12_207 iw_X12_faults vw_X12_faults cw_X12_faults nw_RX12 pp_X12_faults (Nat.le_of_ble_eq_true rfl) dX12_leaf_10 rfl (NM_X12_faults hp_v0 h) (fun r_6 m_7 h hB => ?_)
    exact b_fewer (loc2 := [(2, v0)]) (am_lk am_ln) (S_X12_leaf_J1 X hp_v0 hB h)
theorem NM_X12_leaf {v0 : Int} {K : am_KK} {m : am_M} (hp_v0 : am_ob v0 12) (h : M_X12_leaf v0 K m) : N_X12_leaf [v0] K m := ⟨hp_v0, h⟩
theorem SS_X12_leaf : am_Snd yX12_leaf cX12_leaf 1 none 0 3 (am_L [2] 9 N_X12_leaf) := by
  refine am_SB (by decide +kernel) (Nat.le_of_ble_eq_true rfl) (fun F zs as K m X ht hB hM => ?_)
  obtain ⟨v0, zs, as, rfl, rfl, hz0, ht⟩ := am_inv ht
  obtain ⟨rfl, rfl⟩ := am_inv0 ht
  obtain ⟨hp_v0, hM⟩ := hM
  exact S_X12_leaf X hp_v0 hB hM
set_option maxRecDepth 20000 in
set_option maxHeartbeats 4000000 in
theorem S_X12_mustNumber_J2 {F : am_F} {K : am_KK} {v0 : Int} {m : am_M} (X : am_Cx F cX12_mustNumber RX12 none 3 9 K) (hp_v0 : am_ob v0 12) (hB : am_Bt m) (h : M_X12_mustNumber_J2 v0 K m) : am_Z F 42 [] [(2, v0), (9, 0), (9, 0)] m 200 := by
  have G := X.G
  unfold M_X12_mustNumber_J2 at h
  refine z_aload_n (nx := 43) (a := 0) G rfl (Or.inl rfl) dX12_mustNumber_42 rfl ?_
  refine b_callV5 (nx := 46) (zs := [v0]) (as := []) X hB (by decide) rfl hp_v0 SS_X12_fine (am_ta am_tn) (Nat.le_of_ble_eq_true rfl) (Nat.le_of_ble_eq_true rfl) ml_RX12_197 iw_X12_fine vw_X12_fine cw_X12_fine nw_RX12 pp_X12_fine (Nat.le_of_ble_eq_true rfl) dX12_mustNumber_43 rfl (NM_X12_fine hp_v0 h) (fun r_1 m_2 h h01_3 hB => ?_)
  refine z_if_eq (nx := 49) (tgt := 59) G dX12_mustNumber_46 (by decide) rfl (fun c => ?_) (fun c => ?_)
  · have h := h.1 c
    exact b_return X hB dX12_mustNumber_59 h
  · have h := h.2 c
    refine z_aload_n (nx := 50) (a := 0) G rfl (Or.inl rfl) dX12_mustNumber_49 rfl (z_dup (nx := 51) G (fun h => nomatch h) dX12_mustNumber_50 rfl (b_getI (nx := 54) (k0 := 19) (t := 0) G fl_RX12_201 (Nat.le_of_ble_eq_true rfl) (Nat.le_of_ble_eq_true rfl) rfl hp_v0 dX12_mustNumber_51 rfl (z_iconst (nx := 55) (z := 1) G (R32c rfl) dX12_mustNumber_54 rfl (z_iadd (nx := 56) G dX12_mustNumber_55 rfl ?_))))
    refine b_put (nx := 59) (k0 := 19) (t := 0) G hB fl_RX12_201 (Nat.le_of_ble_eq_true rfl) (Nat.le_of_ble_eq_true rfl) rfl (fun h => nomatch h) rfl hp_v0 dX12_mustNumber_56 rfl (fun m_4 e_m_4 hB => ?_)
    have h := h m_4 e_m_4
    exact b_return X hB dX12_mustNumber_59 h
set_option maxRecDepth 20000 in
set_option maxHeartbeats 4000000 in
theorem S_X12_mustNumber_J1 {F : am_F} {K : am_KK} {v0 : Int} {m : am_M} (X : am_Cx F cX12_mustNumber RX12 none 3 9 K) (hp_v0 : am_ob v0 12) (hB : am_Bt m) (h : M_X12_mustNumber_J1 v0 K m) : am_Z F 38 [] [(2, v0), (9, 0), (9, 0)] m 200 := by
  have G := X.G
  unfold M_X12_mustNumber_J1 at h
  refine z_aload_n (nx := 39) (a := 0) G rfl (Or.inl rfl) dX12_mustNumber_38 rfl ?_
  refine b_callV9 (nx := 42) (zs := [v0]) (as := []) X hB (by decide) rfl hp_v0 SS_X12_faults (am_ta am_tn) (Nat.le_of_ble_eq_true rfl) (Nat.le_of_ble_eq_true rfl) ml_RX12_207 iw_X12_faults vw_X12_faults cw_X12_faults nw_RX12 pp_X12_faults (Nat.le_of_ble_eq_true rfl) dX12_mustNumber_39 rfl (NM_X12_faults hp_v0 h) (fun r_5 m_6 h hB => ?_)
  exact b_fewer (loc2 := [(2, v0), (9, 0), (9, 0)]) (am_lk (am_lk (am_lk am_ln))) (S_X12_mustNumber_J2 X hp_v0 hB h)
set_option maxRecDepth 20000 in
set_option maxHeartbeats 4000000 in
theorem S_X12_mustNumber {F : am_F} {K : am_KK} {v0 : Int} {v1 : Int} {v2 : Int} {m : am_M} (X : am_Cx F cX12_mustNumber RX12 none 3 9 K) (hp_v0 : am_ob v0 12) (hB : am_Bt m) (h : M_X12_mustNumber v0 v1 v2 K m) : am_Z F 0 [] [(2, v0), (0, v1), (0, v2)] m 200 := by
  have G := X.G
  unfold M_X12_mustNumber at h
  refine z_aload_n (nx := 1) (a := 0) G rfl (Or.inl rfl) dX12_mustNumber_0 rfl ?_
  refine b_callV5 (nx := 4) (zs := [v0]) (as := []) X hB (by decide) rfl hp_v0 SS_X12_fine (am_ta am_tn) (Nat.le_of_ble_eq_true rfl) (Nat.le_of_ble_eq_true rfl) ml_RX12_197 iw_X12_fine vw_X12_fine cw_X12_fine nw_RX12 pp_X12_fine (Nat.le_of_ble_eq_true rfl) dX12_mustNumber_1 rfl (NM_X12_fine hp_v0 h) (fun r_7 m_8 h h01_9 hB => ?_)
  refine z_if_eq (nx := 7) (tgt := 42) G dX12_mustNumber_4 (by decide) rfl (fun c => ?_) (fun c => ?_)
  · have h := h.1 c
    exact b_fewer (loc2 := [(2, v0), (9, 0), (9, 0)]) (am_lk (am_lf (am_lf am_ln))) (S_X12_mustNumber_J2 X hp_v0 hB h)
  · have h := h.2 c
    refine z_aload_n (nx := 8) (a := 0) G rfl (Or.inl rfl) dX12_mustNumber_7 rfl (b_getA (nx := 11) (k0 := 15) G hB fl_RX12_50 (Nat.le_of_ble_eq_true rfl) (Nat.le_of_ble_eq_true rfl) rfl hp_v0 dX12_mustNumber_8 rfl (z_aload_n (nx := 12) (a := 0) G rfl (Or.inl rfl) dX12_mustNumber_11 rfl (b_getI (nx := 15) (k0 := 19) (t := 0) G fl_RX12_201 (Nat.le_of_ble_eq_true rfl) (Nat.le_of_ble_eq_true rfl) rfl hp_v0 dX12_mustNumber_12 rfl ?_)))
    obtain ⟨hb, h⟩ := h
    refine z_iald (nx := 16) G (sh_12_15 _ hp_v0) hb.1 hb.2 dX12_mustNumber_15 rfl ?_
    refine z_bipush (nx := 18) (z := 50) G (R32c rfl) rfl dX12_mustNumber_16 rfl ?_
    refine z_icmp_ne (nx := 21) (tgt := 38) G dX12_mustNumber_18 (by decide) rfl (fun c => ?_) (fun c => ?_)
    · have h := h.1 c
      exact b_fewer (loc2 := [(2, v0), (9, 0), (9, 0)]) (am_lk (am_lf (am_lf am_ln))) (S_X12_mustNumber_J1 X hp_v0 hB h)
    · have h := h.2 c
      refine z_aload_n (nx := 22) (a := 0) G rfl (Or.inl rfl) dX12_mustNumber_21 rfl (b_getA (nx := 25) (k0 := 16) G hB fl_RX12_53 (Nat.le_of_ble_eq_true rfl) (Nat.le_of_ble_eq_true rfl) rfl hp_v0 dX12_mustNumber_22 rfl (z_aload_n (nx := 26) (a := 0) G rfl (Or.inl rfl) dX12_mustNumber_25 rfl (b_getI (nx := 29) (k0 := 19) (t := 0) G fl_RX12_201 (Nat.le_of_ble_eq_true rfl) (Nat.le_of_ble_eq_true rfl) rfl hp_v0 dX12_mustNumber_26 rfl ?_)))
      obtain ⟨hb, h⟩ := h
      refine z_iald (nx := 30) G (sh_12_16 _ hp_v0) hb.1 hb.2 dX12_mustNumber_29 rfl ?_
      refine z_iload_n (nx := 31) (a := 1) G rfl dX12_mustNumber_30 rfl (z_iload_n (nx := 32) (a := 2) G rfl dX12_mustNumber_31 rfl ?_)
      refine b_callS5 (nx := 35) (zs := [m_8 (am_rfv v0 16) (m_8 v0 19), v1, v2]) (as := [(0, m_8 (am_rfv v0 16) (m_8 v0 19)), (0, v1), (0, v2)]) X hB SS_X12_lies (am_ti (am_ti (am_ti am_tn))) (Nat.le_of_ble_eq_true rfl) (Nat.le_of_ble_eq_true rfl) ml_RX12_123 sw_X12_lies (am_plainC 12 (by decide)) cw_X12_lies nw_RX12 pp_X12_lies (Nat.le_of_ble_eq_true rfl) dX12_mustNumber_32 rfl (NM_X12_lies h) (fun r_10 m_11 h h01_12 hB => ?_)
      refine z_if_ne (nx := 38) (tgt := 42) G dX12_mustNumber_35 (by decide) rfl (fun c => ?_) (fun c => ?_)
      · have h := h.1 c
        exact b_fewer (loc2 := [(2, v0), (9, 0), (9, 0)]) (am_lk (am_lf (am_lf am_ln))) (S_X12_mustNumber_J2 X hp_v0 hB h)
      · have h := h.2 c
        exact b_fewer (loc2 := [(2, v0), (9, 0), (9, 0)]) (am_lk (am_lf (am_lf am_ln))) (S_X12_mustNumber_J1 X hp_v0 hB h)
theorem NM_X12_mustNumber {v0 : Int} {v1 : Int} {v2 : Int} {K : am_KK} {m : am_M} (hp_v0 : am_ob v0 12) (h : M_X12_mustNumber v0 v1 v2 K m) : N_X12_mustNumber [v0, v1, v2] K m := ⟨hp_v0, h⟩
theorem SS_X12_mustNumber : am_Snd yX12_mustNumber cX12_mustNumber 3 none 0 3 (am_L [2, 0, 0] 9 N_X12_mustNumber) := by
  refine am_SB (by decide +kernel) (Nat.le_of_ble_eq_true rfl) (fun F zs as K m X ht hB hM => ?_)
  obtain ⟨v0, zs, as, rfl, rfl, hz0, ht⟩ := am_inv ht
  obtain ⟨v1, zs, as, rfl, rfl, hz1, ht⟩ := am_inv ht
  obtain ⟨v2, zs, as, rfl, rfl, hz2, ht⟩ := am_inv ht
  obtain ⟨rfl, rfl⟩ := am_inv0 ht
  obtain ⟨hp_v0, hM⟩ := hM
  exact S_X12_mustNumber X hp_v0 hB hM
def H_X12_readSum (k : Nat) (R : Nat → am_PT) : Prop := am_Snd yX12_readSum cX12_readSum 2 none 0 (3 + k) (am_L [2, 0] 9 (R 0)) ∧ am_Snd yX12_readTerm cX12_readTerm 2 none 0 (3 + k) (am_L [2, 0] 9 (R 1)) ∧ am_Snd yX12_readPart cX12_readPart 3 none 0 (3 + k) (am_L [2, 0] 9 (R 2))
set_option maxRecDepth 20000 in
set_option maxHeartbeats 4000000 in
theorem S_X12_readSum_J1 {F : am_F} {K : am_KK} {k : Nat} {R : Nat → am_PT} {v0 : Int} {v1 : Int} {C5 : am_M → Prop} {m : am_M} (X : am_Cx F cX12_readSum RX12 none (3 + (k + 1)) 9 K) (HR : H_X12_readSum k R) (hp_v0 : am_ob v0 12) (hC5 : ∀ m, C5 m → am_Bt m → am_Z F 5 [] [(2, v0), (0, v1)] m 200) (hB : am_Bt m) (h : M_X12_readSum_J1 R v0 v1 C5 K m) : am_Z F 29 [] [(2, v0), (0, v1)] m 200 := by
  have G := X.G
  obtain ⟨HR_X12_readSum, HR_X12_readTerm, HR_X12_readPart⟩ := id HR
  unfold M_X12_readSum_J1 at h
  refine z_aload_n (nx := 30) (a := 0) G rfl (Or.inl rfl) dX12_readSum_29 rfl (z_iload_n (nx := 31) (a := 1) G rfl dX12_readSum_30 rfl ?_)
  refine b_callV9 (nx := 34) (zs := [v0, v1]) (as := [(0, v1)]) X hB (by decide) rfl hp_v0 (HR_X12_readTerm) (am_ta (am_ti am_tn)) (Nat.le_refl _) (Nat.le_of_ble_eq_true rfl) ml_RX12_247 iw_X12_readTerm vw_X12_readTerm cw_X12_readTerm nw_RX12 pp_X12_readTerm (Nat.le_of_ble_eq_true rfl) dX12_readSum_31 rfl h (fun r_1 m_2 h hB => ?_)
  refine z_goto (tgt := 5) G dX12_readSum_34 (by decide) ?_
  exact b_fewer (loc2 := [(2, v0), (0, v1)]) (am_lk (am_lk am_ln)) (hC5 _ h hB)
set_option maxRecDepth 20000 in
set_option maxHeartbeats 4000000 in
theorem S_X12_readSum_L1B {F : am_F} {K : am_KK} {k : Nat} {R : Nat → am_PT} {v0 : Int} {v1 : Int} {C5 : am_M → Prop} {m : am_M} (X : am_Cx F cX12_readSum RX12 none (3 + (k + 1)) 9 K) (HR : H_X12_readSum k R) (hp_v0 : am_ob v0 12) (hC5 : ∀ m, C5 m → am_Bt m → am_Z F 5 [] [(2, v0), (0, v1)] m 200) (hB : am_Bt m) (h : M_X12_readSum_L1B R v0 v1 C5 K m) : am_Z F 5 [] [(2, v0), (0, v1)] m 200 := by
  have G := X.G
  obtain ⟨HR_X12_readSum, HR_X12_readTerm, HR_X12_readPart⟩ := id HR
  unfold M_X12_readSum_L1B at h
  refine z_aload_n (nx := 6) (a := 0) G rfl (Or.inl rfl) dX12_readSum_5 rfl (z_bipush (nx := 8) (z := 43) G (R32c rfl) rfl dX12_readSum_6 rfl ?_)
  refine b_callS0 (nx := 11) (zs := [43]) (as := [(0, 43)]) X hB SS_X12_sign (am_ti am_tn) (by omega) (Nat.le_of_ble_eq_true rfl) ml_RX12_243 sw_X12_sign (am_plainC 12 (by decide)) cw_X12_sign nw_RX12 pp_X12_sign (Nat.le_of_ble_eq_true rfl) dX12_readSum_8 rfl (NM_X12_sign h) (fun r_3 m_4 h hB => ?_)
  refine b_callV5 (nx := 14) (zs := [v0, r_3]) (as := [(0, r_3)]) X hB (by decide) rfl hp_v0 SS_X12_takes0 (am_ta (am_ti am_tn)) (by omega) (Nat.le_of_ble_eq_true rfl) ml_RX12_204 iw_X12_takes0 vw_X12_takes0 cw_X12_takes0 nw_RX12 pp_X12_takes0 (Nat.le_of_ble_eq_true rfl) dX12_readSum_11 rfl (NM_X12_takes0 hp_v0 h) (fun r_5 m_6 h h01_7 hB => ?_)
  refine z_if_ne (nx := 17) (tgt := 29) G dX12_readSum_14 (by decide) rfl (fun c => ?_) (fun c => ?_)
  · have h := h.1 c
    exact b_fewer (loc2 := [(2, v0), (0, v1)]) (am_lk (am_lk am_ln)) (S_X12_readSum_J1 X HR hp_v0 hC5 hB h)
  · have h := h.2 c
    refine z_aload_n (nx := 18) (a := 0) G rfl (Or.inl rfl) dX12_readSum_17 rfl (z_bipush (nx := 20) (z := 45) G (R32c rfl) rfl dX12_readSum_18 rfl ?_)
    refine b_callS0 (nx := 23) (zs := [45]) (as := [(0, 45)]) X hB SS_X12_sign (am_ti am_tn) (by omega) (Nat.le_of_ble_eq_true rfl) ml_RX12_243 sw_X12_sign (am_plainC 12 (by decide)) cw_X12_sign nw_RX12 pp_X12_sign (Nat.le_of_ble_eq_true rfl) dX12_readSum_20 rfl (NM_X12_sign h) (fun r_8 m_9 h hB => ?_)
    refine b_callV5 (nx := 26) (zs := [v0, r_8]) (as := [(0, r_8)]) X hB (by decide) rfl hp_v0 SS_X12_takes0 (am_ta (am_ti am_tn)) (by omega) (Nat.le_of_ble_eq_true rfl) ml_RX12_204 iw_X12_takes0 vw_X12_takes0 cw_X12_takes0 nw_RX12 pp_X12_takes0 (Nat.le_of_ble_eq_true rfl) dX12_readSum_23 rfl (NM_X12_takes0 hp_v0 h) (fun r_10 m_11 h h01_12 hB => ?_)
    refine z_if_eq (nx := 29) (tgt := 37) G dX12_readSum_26 (by decide) rfl (fun c => ?_) (fun c => ?_)
    · have h := h.1 c
      exact b_return X hB dX12_readSum_37 h
    · have h := h.2 c
      exact b_fewer (loc2 := [(2, v0), (0, v1)]) (am_lk (am_lk am_ln)) (S_X12_readSum_J1 X HR hp_v0 hC5 hB h)
theorem S_X12_readSum_L1 {F : am_F} {K : am_KK} {k : Nat} {R : Nat → am_PT} {v0 : Int} {v1 : Int} {m : am_M} (X : am_Cx F cX12_readSum RX12 none (3 + (k + 1)) 9 K) (HR : H_X12_readSum k R) (hp_v0 : am_ob v0 12) (hB : am_Bt m) (h : M_X12_readSum_L1 R v0 v1 K m) : am_Z F 5 [] [(2, v0), (0, v1)] m 200 := by
  obtain ⟨I, ⟨j, hj⟩, hI⟩ := h
  have key : ∀ j  m, I j  m → am_Bt m → am_Z F 5 [] [(2, v0), (0, v1)] m 200 := by
    intro j
    induction j using Nat.strongRecOn with
    | ind j ih =>
      intro  m hj hB
      exact S_X12_readSum_L1B X HR hp_v0 (fun  m' hc hB' => by
        obtain ⟨j', g1, g2⟩ := hc
        exact ih j' g1  m' g2 hB') hB (hI j  m hj)
  exact key j  _ hj hB
set_option maxRecDepth 20000 in
set_option maxHeartbeats 4000000 in
theorem S_X12_readSum {F : am_F} {K : am_KK} {k : Nat} {R : Nat → am_PT} {v0 : Int} {v1 : Int} {m : am_M} (X : am_Cx F cX12_readSum RX12 none (3 + (k + 1)) 9 K) (HR : H_X12_readSum k R) (hp_v0 : am_ob v0 12) (hB : am_Bt m) (h : M_X12_readSum R v0 v1 K m) : am_Z F 0 [] [(2, v0), (0, v1)] m 200 := by
  have G := X.G
  obtain ⟨HR_X12_readSum, HR_X12_readTerm, HR_X12_readPart⟩ := id HR
  unfold M_X12_readSum at h
  refine z_aload_n (nx := 1) (a := 0) G rfl (Or.inl rfl) dX12_readSum_0 rfl (z_iload_n (nx := 2) (a := 1) G rfl dX12_readSum_1 rfl ?_)
  refine b_callV9 (nx := 5) (zs := [v0, v1]) (as := [(0, v1)]) X hB (by decide) rfl hp_v0 (HR_X12_readTerm) (am_ta (am_ti am_tn)) (Nat.le_refl _) (Nat.le_of_ble_eq_true rfl) ml_RX12_247 iw_X12_readTerm vw_X12_readTerm cw_X12_readTerm nw_RX12 pp_X12_readTerm (Nat.le_of_ble_eq_true rfl) dX12_readSum_2 rfl h (fun r_13 m_14 h hB => ?_)
  exact b_fewer (loc2 := [(2, v0), (0, v1)]) (am_lk (am_lk am_ln)) (S_X12_readSum_L1 X HR hp_v0 hB h)
theorem SR_X12_readSum {k : Nat} {R : Nat → am_PT} (HR : H_X12_readSum k R) : am_Snd yX12_readSum cX12_readSum 2 none 0 (3 + (k + 1)) (am_L [2, 0] 9 (N_X12_readSum R)) := by
  refine am_SB (by decide +kernel) (Nat.le_of_ble_eq_true rfl) (fun F zs as K m X ht hB hM => ?_)
  obtain ⟨v0, zs, as, rfl, rfl, hz0, ht⟩ := am_inv ht
  obtain ⟨v1, zs, as, rfl, rfl, hz1, ht⟩ := am_inv ht
  obtain ⟨rfl, rfl⟩ := am_inv0 ht
  obtain ⟨hp_v0, hM⟩ := hM
  exact S_X12_readSum X HR hp_v0 hB hM
set_option maxRecDepth 20000 in
set_option maxHeartbeats 4000000 in
theorem S_X12_readTerm_J1 {F : am_F} {K : am_KK} {k : Nat} {R : Nat → am_PT} {v0 : Int} {v1 : Int} {C5 : am_M → Prop} {m : am_M} (X : am_Cx F cX12_readTerm RX12 none (3 + (k + 1)) 9 K) (HR : H_X12_readSum k R) (hp_v0 : am_ob v0 12) (hC5 : ∀ m, C5 m → am_Bt m → am_Z F 5 [] [(2, v0), (0, v1)] m 200) (hB : am_Bt m) (h : M_X12_readTerm_J1 R v0 v1 C5 K m) : am_Z F 41 [] [(2, v0), (0, v1)] m 200 := by
  have G := X.G
  obtain ⟨HR_X12_readSum, HR_X12_readTerm, HR_X12_readPart⟩ := id HR
  unfold M_X12_readTerm_J1 at h
  refine z_aload_n (nx := 42) (a := 0) G rfl (Or.inl rfl) dX12_readTerm_41 rfl (z_iload_n (nx := 43) (a := 1) G rfl dX12_readTerm_42 rfl ?_)
  refine b_callV9 (nx := 46) (zs := [v0, v1]) (as := [(0, v1)]) X hB (by decide) rfl hp_v0 (HR_X12_readPart) (am_ta (am_ti am_tn)) (Nat.le_refl _) (Nat.le_of_ble_eq_true rfl) ml_RX12_250 iw_X12_readPart vw_X12_readPart cw_X12_readPart nw_RX12 pp_X12_readPart (Nat.le_of_ble_eq_true rfl) dX12_readTerm_43 rfl h (fun r_1 m_2 h hB => ?_)
  refine z_goto (tgt := 5) G dX12_readTerm_46 (by decide) ?_
  exact b_fewer (loc2 := [(2, v0), (0, v1)]) (am_lk (am_lk am_ln)) (hC5 _ h hB)
set_option maxRecDepth 20000 in
set_option maxHeartbeats 4000000 in
theorem S_X12_readTerm_L1B {F : am_F} {K : am_KK} {k : Nat} {R : Nat → am_PT} {v0 : Int} {v1 : Int} {C5 : am_M → Prop} {m : am_M} (X : am_Cx F cX12_readTerm RX12 none (3 + (k + 1)) 9 K) (HR : H_X12_readSum k R) (hp_v0 : am_ob v0 12) (hC5 : ∀ m, C5 m → am_Bt m → am_Z F 5 [] [(2, v0), (0, v1)] m 200) (hB : am_Bt m) (h : M_X12_readTerm_L1B R v0 v1 C5 K m) : am_Z F 5 [] [(2, v0), (0, v1)] m 200 := by
  have G := X.G
  obtain ⟨HR_X12_readSum, HR_X12_readTerm, HR_X12_readPart⟩ := id HR
  unfold M_X12_readTerm_L1B at h
  refine z_aload_n (nx := 6) (a := 0) G rfl (Or.inl rfl) dX12_readTerm_5 rfl (z_bipush (nx := 8) (z := 42) G (R32c rfl) rfl dX12_readTerm_6 rfl ?_)
  refine b_callS0 (nx := 11) (zs := [42]) (as := [(0, 42)]) X hB SS_X12_sign (am_ti am_tn) (by omega) (Nat.le_of_ble_eq_true rfl) ml_RX12_243 sw_X12_sign (am_plainC 12 (by decide)) cw_X12_sign nw_RX12 pp_X12_sign (Nat.le_of_ble_eq_true rfl) dX12_readTerm_8 rfl (NM_X12_sign h) (fun r_3 m_4 h hB => ?_)
  refine b_callV5 (nx := 14) (zs := [v0, r_3]) (as := [(0, r_3)]) X hB (by decide) rfl hp_v0 SS_X12_takes0 (am_ta (am_ti am_tn)) (by omega) (Nat.le_of_ble_eq_true rfl) ml_RX12_204 iw_X12_takes0 vw_X12_takes0 cw_X12_takes0 nw_RX12 pp_X12_takes0 (Nat.le_of_ble_eq_true rfl) dX12_readTerm_11 rfl (NM_X12_takes0 hp_v0 h) (fun r_5 m_6 h h01_7 hB => ?_)
  refine z_if_ne (nx := 17) (tgt := 41) G dX12_readTerm_14 (by decide) rfl (fun c => ?_) (fun c => ?_)
  · have h := h.1 c
    exact b_fewer (loc2 := [(2, v0), (0, v1)]) (am_lk (am_lk am_ln)) (S_X12_readTerm_J1 X HR hp_v0 hC5 hB h)
  · have h := h.2 c
    refine z_aload_n (nx := 18) (a := 0) G rfl (Or.inl rfl) dX12_readTerm_17 rfl (z_bipush (nx := 20) (z := 47) G (R32c rfl) rfl dX12_readTerm_18 rfl ?_)
    refine b_callS0 (nx := 23) (zs := [47]) (as := [(0, 47)]) X hB SS_X12_sign (am_ti am_tn) (by omega) (Nat.le_of_ble_eq_true rfl) ml_RX12_243 sw_X12_sign (am_plainC 12 (by decide)) cw_X12_sign nw_RX12 pp_X12_sign (Nat.le_of_ble_eq_true rfl) dX12_readTerm_20 rfl (NM_X12_sign h) (fun r_8 m_9 h hB => ?_)
    refine b_callV5 (nx := 26) (zs := [v0, r_8]) (as := [(0, r_8)]) X hB (by decide) rfl hp_v0 SS_X12_takes0 (am_ta (am_ti am_tn)) (by omega) (Nat.le_of_ble_eq_true rfl) ml_RX12_204 iw_X12_takes0 vw_X12_takes0 cw_X12_takes0 nw_RX12 pp_X12_takes0 (Nat.le_of_ble_eq_true rfl) dX12_readTerm_23 rfl (NM_X12_takes0 hp_v0 h) (fun r_10 m_11 h h01_12 hB => ?_)
    refine z_if_ne (nx := 29) (tgt := 41) G dX12_readTerm_26 (by decide) rfl (fun c => ?_) (fun c => ?_)
    · have h := h.1 c
      exact b_fewer (loc2 := [(2, v0), (0, v1)]) (am_lk (am_lk am_ln)) (S_X12_readTerm_J1 X HR hp_v0 hC5 hB h)
    · have h := h.2 c
      refine z_aload_n (nx := 30) (a := 0) G rfl (Or.inl rfl) dX12_readTerm_29 rfl (z_bipush (nx := 32) (z := 37) G (R32c rfl) rfl dX12_readTerm_30 rfl ?_)
      refine b_callS0 (nx := 35) (zs := [37]) (as := [(0, 37)]) X hB SS_X12_sign (am_ti am_tn) (by omega) (Nat.le_of_ble_eq_true rfl) ml_RX12_243 sw_X12_sign (am_plainC 12 (by decide)) cw_X12_sign nw_RX12 pp_X12_sign (Nat.le_of_ble_eq_true rfl) dX12_readTerm_32 rfl (NM_X12_sign h) (fun r_13 m_14 h hB => ?_)
      refine b_callV5 (nx := 38) (zs := [v0, r_13]) (as := [(0, r_13)]) X hB (by decide) rfl hp_v0 SS_X12_takes0 (am_ta (am_ti am_tn)) (by omega) (Nat.le_of_ble_eq_true rfl) ml_RX12_204 iw_X12_takes0 vw_X12_takes0 cw_X12_takes0 nw_RX12 pp_X12_takes0 (Nat.le_of_ble_eq_true rfl) dX12_readTerm_35 rfl (NM_X12_takes0 hp_v0 h) (fun r_15 m_16 h h01_17 hB => ?_)
      refine z_if_eq (nx := 41) (tgt := 49) G dX12_readTerm_38 (by decide) rfl (fun c => ?_) (fun c => ?_)
      · have h := h.1 c
        exact b_return X hB dX12_readTerm_49 h
      · have h := h.2 c
        exact b_fewer (loc2 := [(2, v0), (0, v1)]) (am_lk (am_lk am_ln)) (S_X12_readTerm_J1 X HR hp_v0 hC5 hB h)
theorem S_X12_readTerm_L1 {F : am_F} {K : am_KK} {k : Nat} {R : Nat → am_PT} {v0 : Int} {v1 : Int} {m : am_M} (X : am_Cx F cX12_readTerm RX12 none (3 + (k + 1)) 9 K) (HR : H_X12_readSum k R) (hp_v0 : am_ob v0 12) (hB : am_Bt m) (h : M_X12_readTerm_L1 R v0 v1 K m) : am_Z F 5 [] [(2, v0), (0, v1)] m 200 := by
  obtain ⟨I, ⟨j, hj⟩, hI⟩ := h
  have key : ∀ j  m, I j  m → am_Bt m → am_Z F 5 [] [(2, v0), (0, v1)] m 200 := by
    intro j
    induction j using Nat.strongRecOn with
    | ind j ih =>
      intro  m hj hB
      exact S_X12_readTerm_L1B X HR hp_v0 (fun  m' hc hB' => by
        obtain ⟨j', g1, g2⟩ := hc
        exact ih j' g1  m' g2 hB') hB (hI j  m hj)
  exact key j  _ hj hB
set_option maxRecDepth 20000 in
set_option maxHeartbeats 4000000 in
theorem S_X12_readTerm {F : am_F} {K : am_KK} {k : Nat} {R : Nat → am_PT} {v0 : Int} {v1 : Int} {m : am_M} (X : am_Cx F cX12_readTerm RX12 none (3 + (k + 1)) 9 K) (HR : H_X12_readSum k R) (hp_v0 : am_ob v0 12) (hB : am_Bt m) (h : M_X12_readTerm R v0 v1 K m) : am_Z F 0 [] [(2, v0), (0, v1)] m 200 := by
  have G := X.G
  obtain ⟨HR_X12_readSum, HR_X12_readTerm, HR_X12_readPart⟩ := id HR
  unfold M_X12_readTerm at h
  refine z_aload_n (nx := 1) (a := 0) G rfl (Or.inl rfl) dX12_readTerm_0 rfl (z_iload_n (nx := 2) (a := 1) G rfl dX12_readTerm_1 rfl ?_)
  refine b_callV9 (nx := 5) (zs := [v0, v1]) (as := [(0, v1)]) X hB (by decide) rfl hp_v0 (HR_X12_readPart) (am_ta (am_ti am_tn)) (Nat.le_refl _) (Nat.le_of_ble_eq_true rfl) ml_RX12_250 iw_X12_readPart vw_X12_readPart cw_X12_readPart nw_RX12 pp_X12_readPart (Nat.le_of_ble_eq_true rfl) dX12_readTerm_2 rfl h (fun r_18 m_19 h hB => ?_)
  exact b_fewer (loc2 := [(2, v0), (0, v1)]) (am_lk (am_lk am_ln)) (S_X12_readTerm_L1 X HR hp_v0 hB h)
theorem SR_X12_readTerm {k : Nat} {R : Nat → am_PT} (HR : H_X12_readSum k R) : am_Snd yX12_readTerm cX12_readTerm 2 none 0 (3 + (k + 1)) (am_L [2, 0] 9 (N_X12_readTerm R)) := by
  refine am_SB (by decide +kernel) (Nat.le_of_ble_eq_true rfl) (fun F zs as K m X ht hB hM => ?_)
  obtain ⟨v0, zs, as, rfl, rfl, hz0, ht⟩ := am_inv ht
  obtain ⟨v1, zs, as, rfl, rfl, hz1, ht⟩ := am_inv ht
  obtain ⟨rfl, rfl⟩ := am_inv0 ht
  obtain ⟨hp_v0, hM⟩ := hM
  exact S_X12_readTerm X HR hp_v0 hB hM
set_option maxRecDepth 20000 in
set_option maxHeartbeats 4000000 in
theorem S_X12_readPart_J5 {F : am_F} {K : am_KK} {k : Nat} {R : Nat → am_PT} {v0 : Int} {m : am_M} (X : am_Cx F cX12_readPart RX12 none (3 + (k + 1)) 9 K) (HR : H_X12_readSum k R) (hp_v0 : am_ob v0 12) (hB : am_Bt m) (h : M_X12_readPart_J5 R v0 K m) : am_Z F 137 [] [(2, v0), (9, 0), (9, 0)] m 200 := by
  have G := X.G
  obtain ⟨HR_X12_readSum, HR_X12_readTerm, HR_X12_readPart⟩ := id HR
  unfold M_X12_readPart_J5 at h
  refine z_aload_n (nx := 138) (a := 0) G rfl (Or.inl rfl) dX12_readPart_137 rfl ?_
  refine b_callV9 (nx := 141) (zs := [v0]) (as := []) X hB (by decide) rfl hp_v0 SS_X12_faults (am_ta am_tn) (by omega) (Nat.le_of_ble_eq_true rfl) ml_RX12_207 iw_X12_faults vw_X12_faults cw_X12_faults nw_RX12 pp_X12_faults (Nat.le_of_ble_eq_true rfl) dX12_readPart_138 rfl (NM_X12_faults hp_v0 h) (fun r_1 m_2 h hB => ?_)
  exact b_return X hB dX12_readPart_141 h
set_option maxRecDepth 20000 in
set_option maxHeartbeats 4000000 in
theorem S_X12_readPart_J4 {F : am_F} {K : am_KK} {k : Nat} {R : Nat → am_PT} {v0 : Int} {m : am_M} (X : am_Cx F cX12_readPart RX12 none (3 + (k + 1)) 9 K) (HR : H_X12_readSum k R) (hp_v0 : am_ob v0 12) (hB : am_Bt m) (h : M_X12_readPart_J4 R v0 K m) : am_Z F 127 [] [(2, v0), (9, 0), (9, 0)] m 200 := by
  have G := X.G
  obtain ⟨HR_X12_readSum, HR_X12_readTerm, HR_X12_readPart⟩ := id HR
  unfold M_X12_readPart_J4 at h
  refine z_aload_n (nx := 128) (a := 0) G rfl (Or.inl rfl) dX12_readPart_127 rfl (z_iconst (nx := 129) (z := 0) G (R32c rfl) dX12_readPart_128 rfl (z_bipush (nx := 131) (z := 7) G (R32c rfl) rfl dX12_readPart_129 rfl ?_))
  refine b_callV9 (nx := 134) (zs := [v0, 0, 7]) (as := [(0, 0), (0, 7)]) X hB (by decide) rfl hp_v0 SS_X12_mustNumber (am_ta (am_ti (am_ti am_tn))) (by omega) (Nat.le_of_ble_eq_true rfl) ml_RX12_223 iw_X12_mustNumber vw_X12_mustNumber cw_X12_mustNumber nw_RX12 pp_X12_mustNumber (Nat.le_of_ble_eq_true rfl) dX12_readPart_131 rfl (NM_X12_mustNumber hp_v0 h) (fun r_3 m_4 h hB => ?_)
  refine z_goto (tgt := 141) G dX12_readPart_134 (by decide) ?_
  exact b_return X hB dX12_readPart_141 h
set_option maxRecDepth 20000 in
set_option maxHeartbeats 4000000 in
theorem S_X12_readPart_J3 {F : am_F} {K : am_KK} {k : Nat} {R : Nat → am_PT} {v0 : Int} {v2 : Int} {m : am_M} (X : am_Cx F cX12_readPart RX12 none (3 + (k + 1)) 9 K) (HR : H_X12_readSum k R) (hp_v0 : am_ob v0 12) (hB : am_Bt m) (h : M_X12_readPart_J3 R v0 v2 K m) : am_Z F 111 [] [(2, v0), (9, 0), (0, v2)] m 200 := by
  have G := X.G
  obtain ⟨HR_X12_readSum, HR_X12_readTerm, HR_X12_readPart⟩ := id HR
  unfold M_X12_readPart_J3 at h
  refine z_aload_n (nx := 112) (a := 0) G rfl (Or.inl rfl) dX12_readPart_111 rfl ?_
  refine b_callV9 (nx := 115) (zs := [v0]) (as := []) X hB (by decide) rfl hp_v0 SS_X12_leaf (am_ta am_tn) (by omega) (Nat.le_of_ble_eq_true rfl) ml_RX12_259 iw_X12_leaf vw_X12_leaf cw_X12_leaf nw_RX12 pp_X12_leaf (Nat.le_of_ble_eq_true rfl) dX12_readPart_112 rfl (NM_X12_leaf hp_v0 h) (fun r_5 m_6 h hB => ?_)
  refine z_iload_n (nx := 116) (a := 2) G rfl dX12_readPart_115 rfl (z_bipush (nx := 118) (z := 19) G (R32c rfl) rfl dX12_readPart_116 rfl ?_)
  refine z_icmp_eq (nx := 121) (tgt := 127) G dX12_readPart_118 (by decide) rfl (fun c => ?_) (fun c => ?_)
  · have h := h.1 c
    exact b_fewer (loc2 := [(2, v0), (9, 0), (9, 0)]) (am_lk (am_lk (am_lf am_ln))) (S_X12_readPart_J4 X HR hp_v0 hB h)
  · have h := h.2 c
    refine z_iload_n (nx := 122) (a := 2) G rfl dX12_readPart_121 rfl (z_bipush (nx := 124) (z := 20) G (R32c rfl) rfl dX12_readPart_122 rfl ?_)
    refine z_icmp_ne (nx := 127) (tgt := 141) G dX12_readPart_124 (by decide) rfl (fun c => ?_) (fun c => ?_)
    · have h := h.1 c
      exact b_return X hB dX12_readPart_141 h
    · have h := h.2 c
      exact b_fewer (loc2 := [(2, v0), (9, 0), (9, 0)]) (am_lk (am_lk (am_lf am_ln))) (S_X12_readPart_J4 X HR hp_v0 hB h)
set_option maxRecDepth 20000 in
set_option maxHeartbeats 4000000 in
theorem S_X12_readPart_J2 {F : am_F} {K : am_KK} {k : Nat} {R : Nat → am_PT} {v0 : Int} {v2 : Int} {m : am_M} (X : am_Cx F cX12_readPart RX12 none (3 + (k + 1)) 9 K) (HR : H_X12_readSum k R) (hp_v0 : am_ob v0 12) (hB : am_Bt m) (h : M_X12_readPart_J2 R v0 v2 K m) : am_Z F 95 [] [(2, v0), (9, 0), (0, v2)] m 200 := by
  have G := X.G
  obtain ⟨HR_X12_readSum, HR_X12_readTerm, HR_X12_readPart⟩ := id HR
  unfold M_X12_readPart_J2 at h
  refine z_iload_n (nx := 96) (a := 2) G rfl dX12_readPart_95 rfl (z_aload_n (nx := 97) (a := 0) G rfl (Or.inl rfl) dX12_readPart_96 rfl (b_getI (nx := 100) (k0 := 8) (t := 0) G fl_RX12_253 (Nat.le_of_ble_eq_true rfl) (Nat.le_of_ble_eq_true rfl) rfl hp_v0 dX12_readPart_97 rfl ?_))
  refine z_icmp_lt (nx := 103) (tgt := 137) G dX12_readPart_100 (by decide) rfl (fun c => ?_) (fun c => ?_)
  · have h := h.1 c
    exact b_fewer (loc2 := [(2, v0), (9, 0), (9, 0)]) (am_lk (am_lk (am_lf am_ln))) (S_X12_readPart_J5 X HR hp_v0 hB h)
  · have h := h.2 c
    refine z_iload_n (nx := 104) (a := 2) G rfl dX12_readPart_103 rfl (z_aload_n (nx := 105) (a := 0) G rfl (Or.inl rfl) dX12_readPart_104 rfl (b_getI (nx := 108) (k0 := 9) (t := 0) G fl_RX12_256 (Nat.le_of_ble_eq_true rfl) (Nat.le_of_ble_eq_true rfl) rfl hp_v0 dX12_readPart_105 rfl ?_))
    refine z_icmp_gt (nx := 111) (tgt := 137) G dX12_readPart_108 (by decide) rfl (fun c => ?_) (fun c => ?_)
    · have h := h.1 c
      exact b_fewer (loc2 := [(2, v0), (9, 0), (9, 0)]) (am_lk (am_lk (am_lf am_ln))) (S_X12_readPart_J5 X HR hp_v0 hB h)
    · have h := h.2 c
      exact b_fewer (loc2 := [(2, v0), (9, 0), (0, v2)]) (am_lk (am_lk (am_lk am_ln))) (S_X12_readPart_J3 X HR hp_v0 hB h)
set_option maxRecDepth 20000 in
set_option maxHeartbeats 4000000 in
theorem S_X12_readPart_J1 {F : am_F} {K : am_KK} {k : Nat} {R : Nat → am_PT} {v0 : Int} {v1 : Int} {m : am_M} (X : am_Cx F cX12_readPart RX12 none (3 + (k + 1)) 9 K) (HR : H_X12_readSum k R) (hp_v0 : am_ob v0 12) (hB : am_Bt m) (h : M_X12_readPart_J1 R v0 v1 K m) : am_Z F 37 [] [(2, v0), (0, v1), (9, 0)] m 200 := by
  have G := X.G
  obtain ⟨HR_X12_readSum, HR_X12_readTerm, HR_X12_readPart⟩ := id HR
  unfold M_X12_readPart_J1 at h
  refine z_aload_n (nx := 38) (a := 0) G rfl (Or.inl rfl) dX12_readPart_37 rfl ?_
  refine b_callV5 (nx := 41) (zs := [v0]) (as := []) X hB (by decide) rfl hp_v0 SS_X12_fine (am_ta am_tn) (by omega) (Nat.le_of_ble_eq_true rfl) ml_RX12_197 iw_X12_fine vw_X12_fine cw_X12_fine nw_RX12 pp_X12_fine (Nat.le_of_ble_eq_true rfl) dX12_readPart_38 rfl (NM_X12_fine hp_v0 h) (fun r_7 m_8 h h01_9 hB => ?_)
  refine z_if_ne (nx := 44) (tgt := 45) G dX12_readPart_41 (by decide) rfl (fun c => ?_) (fun c => ?_)
  · have h := h.1 c
    refine z_aload_n (nx := 46) (a := 0) G rfl (Or.inl rfl) dX12_readPart_45 rfl (z_dup (nx := 47) G (fun h => nomatch h) dX12_readPart_46 rfl (b_getI (nx := 50) (k0 := 19) (t := 0) G fl_RX12_201 (Nat.le_of_ble_eq_true rfl) (Nat.le_of_ble_eq_true rfl) rfl hp_v0 dX12_readPart_47 rfl (z_iconst (nx := 51) (z := 1) G (R32c rfl) dX12_readPart_50 rfl (z_iadd (nx := 52) G dX12_readPart_51 rfl ?_))))
    refine b_put (nx := 55) (k0 := 19) (t := 0) G hB fl_RX12_201 (Nat.le_of_ble_eq_true rfl) (Nat.le_of_ble_eq_true rfl) rfl (fun h => nomatch h) rfl hp_v0 dX12_readPart_52 rfl (fun m_10 e_m_10 hB => ?_)
    have h := h m_10 e_m_10
    refine z_aload_n (nx := 56) (a := 0) G rfl (Or.inl rfl) dX12_readPart_55 rfl (z_iload_n (nx := 57) (a := 1) G rfl dX12_readPart_56 rfl (z_iconst (nx := 58) (z := 1) G (R32c rfl) dX12_readPart_57 rfl (z_iadd (nx := 59) G dX12_readPart_58 rfl ?_)))
    refine b_callV9 (nx := 62) (zs := [v0, w32 (v1 + 1)]) (as := [(0, w32 (v1 + 1))]) X hB (by decide) rfl hp_v0 (HR_X12_readSum) (am_ta (am_ti am_tn)) (Nat.le_refl _) (Nat.le_of_ble_eq_true rfl) ml_RX12_213 iw_X12_readSum vw_X12_readSum cw_X12_readSum nw_RX12 pp_X12_readSum (Nat.le_of_ble_eq_true rfl) dX12_readPart_59 rfl h (fun r_11 m_12 h hB => ?_)
    refine z_aload_n (nx := 63) (a := 0) G rfl (Or.inl rfl) dX12_readPart_62 rfl (z_bipush (nx := 65) (z := 93) G (R32c rfl) rfl dX12_readPart_63 rfl ?_)
    refine b_callS0 (nx := 68) (zs := [93]) (as := [(0, 93)]) X hB SS_X12_sign (am_ti am_tn) (by omega) (Nat.le_of_ble_eq_true rfl) ml_RX12_243 sw_X12_sign (am_plainC 12 (by decide)) cw_X12_sign nw_RX12 pp_X12_sign (Nat.le_of_ble_eq_true rfl) dX12_readPart_65 rfl (NM_X12_sign h) (fun r_13 m_14 h hB => ?_)
    refine b_callV9 (nx := 71) (zs := [v0, r_13]) (as := [(0, r_13)]) X hB (by decide) rfl hp_v0 SS_X12_must (am_ta (am_ti am_tn)) (by omega) (Nat.le_of_ble_eq_true rfl) ml_RX12_217 iw_X12_must vw_X12_must cw_X12_must nw_RX12 pp_X12_must (Nat.le_of_ble_eq_true rfl) dX12_readPart_68 rfl (NM_X12_must hp_v0 h) (fun r_15 m_16 h hB => ?_)
    refine z_goto (tgt := 141) G dX12_readPart_71 (by decide) ?_
    exact b_return X hB dX12_readPart_141 h
  · have h := h.2 c
    exact b_return X hB dX12_readPart_44 h
set_option maxRecDepth 20000 in
set_option maxHeartbeats 4000000 in
theorem S_X12_readPart {F : am_F} {K : am_KK} {k : Nat} {R : Nat → am_PT} {v0 : Int} {v1 : Int} {m : am_M} (X : am_Cx F cX12_readPart RX12 none (3 + (k + 1)) 9 K) (HR : H_X12_readSum k R) (hp_v0 : am_ob v0 12) (hB : am_Bt m) (h : M_X12_readPart R v0 v1 K m) : am_Z F 0 [] [(2, v0), (0, v1), (9, 0)] m 200 := by
  have G := X.G
  obtain ⟨HR_X12_readSum, HR_X12_readTerm, HR_X12_readPart⟩ := id HR
  unfold M_X12_readPart at h
  refine z_aload_n (nx := 1) (a := 0) G rfl (Or.inl rfl) dX12_readPart_0 rfl ?_
  refine b_callV5 (nx := 4) (zs := [v0]) (as := []) X hB (by decide) rfl hp_v0 SS_X12_fine (am_ta am_tn) (by omega) (Nat.le_of_ble_eq_true rfl) ml_RX12_197 iw_X12_fine vw_X12_fine cw_X12_fine nw_RX12 pp_X12_fine (Nat.le_of_ble_eq_true rfl) dX12_readPart_1 rfl (NM_X12_fine hp_v0 h) (fun r_17 m_18 h h01_19 hB => ?_)
  refine z_if_ne (nx := 7) (tgt := 8) G dX12_readPart_4 (by decide) rfl (fun c => ?_) (fun c => ?_)
  · have h := h.1 c
    refine z_aload_n (nx := 9) (a := 0) G rfl (Or.inl rfl) dX12_readPart_8 rfl (b_getA (nx := 12) (k0 := 15) G hB fl_RX12_50 (Nat.le_of_ble_eq_true rfl) (Nat.le_of_ble_eq_true rfl) rfl hp_v0 dX12_readPart_9 rfl (z_aload_n (nx := 13) (a := 0) G rfl (Or.inl rfl) dX12_readPart_12 rfl (b_getI (nx := 16) (k0 := 19) (t := 0) G fl_RX12_201 (Nat.le_of_ble_eq_true rfl) (Nat.le_of_ble_eq_true rfl) rfl hp_v0 dX12_readPart_13 rfl ?_)))
    obtain ⟨hb, h⟩ := h
    refine z_iald (nx := 17) G (sh_12_15 _ hp_v0) hb.1 hb.2 dX12_readPart_16 rfl ?_
    refine b_store_n (nx := 18) (a := 2) (loc2 := fun v2_20 => [(2, v0), (0, v1), (0, v2_20)]) G (fun _ => rfl) (Nat.le_of_ble_eq_true rfl) (am_pl1 rfl (fun h => nomatch h)) dX12_readPart_17 rfl (fun v2_20 e_v2_20 => ?_)
    have h := h v2_20 e_v2_20
    refine z_iload_n (nx := 19) (a := 2) G rfl dX12_readPart_18 rfl (z_bipush (nx := 21) (z := 91) G (R32c rfl) rfl dX12_readPart_19 rfl ?_)
    refine b_callS0 (nx := 24) (zs := [91]) (as := [(0, 91)]) X hB SS_X12_sign (am_ti am_tn) (by omega) (Nat.le_of_ble_eq_true rfl) ml_RX12_243 sw_X12_sign (am_plainC 12 (by decide)) cw_X12_sign nw_RX12 pp_X12_sign (Nat.le_of_ble_eq_true rfl) dX12_readPart_21 rfl (NM_X12_sign h) (fun r_21 m_22 h hB => ?_)
    refine z_icmp_ne (nx := 27) (tgt := 74) G dX12_readPart_24 (by decide) rfl (fun c => ?_) (fun c => ?_)
    · have h := h.1 c
      refine z_iload_n (nx := 75) (a := 2) G rfl dX12_readPart_74 rfl (z_bipush (nx := 77) (z := 50) G (R32c rfl) rfl dX12_readPart_75 rfl ?_)
      refine z_icmp_ne (nx := 80) (tgt := 95) G dX12_readPart_77 (by decide) rfl (fun c => ?_) (fun c => ?_)
      · have h := h.1 c
        exact b_fewer (loc2 := [(2, v0), (9, 0), (0, v2_20)]) (am_lk (am_lf (am_lk am_ln))) (S_X12_readPart_J2 X HR hp_v0 hB h)
      · have h := h.2 c
        refine z_aload_n (nx := 81) (a := 0) G rfl (Or.inl rfl) dX12_readPart_80 rfl (b_getA (nx := 84) (k0 := 16) G hB fl_RX12_53 (Nat.le_of_ble_eq_true rfl) (Nat.le_of_ble_eq_true rfl) rfl hp_v0 dX12_readPart_81 rfl (z_aload_n (nx := 85) (a := 0) G rfl (Or.inl rfl) dX12_readPart_84 rfl (b_getI (nx := 88) (k0 := 19) (t := 0) G fl_RX12_201 (Nat.le_of_ble_eq_true rfl) (Nat.le_of_ble_eq_true rfl) rfl hp_v0 dX12_readPart_85 rfl ?_)))
        obtain ⟨hb, h⟩ := h
        refine z_iald (nx := 89) G (sh_12_16 _ hp_v0) hb.1 hb.2 dX12_readPart_88 rfl ?_
        refine z_sipush (nx := 92) (z := 1000) G (R32c rfl) rfl dX12_readPart_89 rfl ?_
        refine z_icmp_le (nx := 95) (tgt := 111) G dX12_readPart_92 (by decide) rfl (fun c => ?_) (fun c => ?_)
        · have h := h.1 c
          exact b_fewer (loc2 := [(2, v0), (9, 0), (0, v2_20)]) (am_lk (am_lf (am_lk am_ln))) (S_X12_readPart_J3 X HR hp_v0 hB h)
        · have h := h.2 c
          exact b_fewer (loc2 := [(2, v0), (9, 0), (0, v2_20)]) (am_lk (am_lf (am_lk am_ln))) (S_X12_readPart_J2 X HR hp_v0 hB h)
    · have h := h.2 c
      refine z_iload_n (nx := 28) (a := 1) G rfl dX12_readPart_27 rfl (z_bipush (nx := 30) (z := 8) G (R32c rfl) rfl dX12_readPart_28 rfl ?_)
      refine z_icmp_ne (nx := 33) (tgt := 37) G dX12_readPart_30 (by decide) rfl (fun c => ?_) (fun c => ?_)
      · have h := h.1 c
        exact b_fewer (loc2 := [(2, v0), (0, v1), (9, 0)]) (am_lk (am_lk (am_lf am_ln))) (S_X12_readPart_J1 X HR hp_v0 hB h)
      · have h := h.2 c
        refine z_aload_n (nx := 34) (a := 0) G rfl (Or.inl rfl) dX12_readPart_33 rfl ?_
        refine b_callV9 (nx := 37) (zs := [v0]) (as := []) X hB (by decide) rfl hp_v0 SS_X12_faults (am_ta am_tn) (by omega) (Nat.le_of_ble_eq_true rfl) ml_RX12_207 iw_X12_faults vw_X12_faults cw_X12_faults nw_RX12 pp_X12_faults (Nat.le_of_ble_eq_true rfl) dX12_readPart_34 rfl (NM_X12_faults hp_v0 h) (fun r_23 m_24 h hB => ?_)
        exact b_fewer (loc2 := [(2, v0), (0, v1), (9, 0)]) (am_lk (am_lk (am_lf am_ln))) (S_X12_readPart_J1 X HR hp_v0 hB h)
  · have h := h.2 c
    exact b_return X hB dX12_readPart_7 h
theorem SR_X12_readPart {k : Nat} {R : Nat → am_PT} (HR : H_X12_readSum k R) : am_Snd yX12_readPart cX12_readPart 3 none 0 (3 + (k + 1)) (am_L [2, 0] 9 (N_X12_readPart R)) := by
  refine am_SB (by decide +kernel) (Nat.le_of_ble_eq_true rfl) (fun F zs as K m X ht hB hM => ?_)
  obtain ⟨v0, zs, as, rfl, rfl, hz0, ht⟩ := am_inv ht
  obtain ⟨v1, zs, as, rfl, rfl, hz1, ht⟩ := am_inv ht
  obtain ⟨rfl, rfl⟩ := am_inv0 ht
  obtain ⟨hp_v0, hM⟩ := hM
  exact S_X12_readPart X HR hp_v0 hB hM
theorem HH_X12_readSum : ∀ k, H_X12_readSum k (R_X12_readSum k) := by
  intro k
  induction k with
  | zero => exact ⟨am_Snd_false, am_Snd_false, am_Snd_false⟩
  | succ k ih => exact ⟨SR_X12_readSum ih, SR_X12_readTerm ih, SR_X12_readPart ih⟩
theorem SS_X12_readSum : am_Snd yX12_readSum cX12_readSum 2 none 0 304 (am_L [2, 0] 9 (R_X12_readSum 301 0)) := (HH_X12_readSum 301).1
theorem SS_X12_readTerm : am_Snd yX12_readTerm cX12_readTerm 2 none 0 304 (am_L [2, 0] 9 (R_X12_readSum 301 1)) := (HH_X12_readSum 301).2.1
theorem SS_X12_readPart : am_Snd yX12_readPart cX12_readPart 3 none 0 304 (am_L [2, 0] 9 (R_X12_readSum 301 2)) := (HH_X12_readSum 301).2.2
def H_X12_readTest (k : Nat) (R : Nat → am_PT) : Prop := am_Snd yX12_readTest cX12_readTest 2 none 0 (304 + k) (am_L [2, 0] 9 (R 0)) ∧ am_Snd yX12_readBoth cX12_readBoth 2 none 0 (304 + k) (am_L [2, 0] 9 (R 1)) ∧ am_Snd yX12_readPlain cX12_readPlain 4 none 0 (304 + k) (am_L [2, 0] 9 (R 2))
set_option maxRecDepth 20000 in
set_option maxHeartbeats 4000000 in
theorem S_X12_readTest_L1B {F : am_F} {K : am_KK} {k : Nat} {R : Nat → am_PT} {v0 : Int} {v1 : Int} {C5 : am_M → Prop} {m : am_M} (X : am_Cx F cX12_readTest RX12 none (304 + (k + 1)) 9 K) (HR : H_X12_readTest k R) (hp_v0 : am_ob v0 12) (hC5 : ∀ m, C5 m → am_Bt m → am_Z F 5 [] [(2, v0), (0, v1)] m 200) (hB : am_Bt m) (h : M_X12_readTest_L1B R v0 v1 C5 K m) : am_Z F 5 [] [(2, v0), (0, v1)] m 200 := by
  have G := X.G
  obtain ⟨HR_X12_readTest, HR_X12_readBoth, HR_X12_readPlain⟩ := id HR
  unfold M_X12_readTest_L1B at h
  refine z_aload_n (nx := 6) (a := 0) G rfl (Or.inl rfl) dX12_readTest_5 rfl (z_iconst (nx := 7) (z := 5) G (R32c rfl) dX12_readTest_6 rfl ?_)
  refine b_callV5 (nx := 10) (zs := [v0, 5]) (as := [(0, 5)]) X hB (by decide) rfl hp_v0 SS_X12_takes0 (am_ta (am_ti am_tn)) (by omega) (Nat.le_of_ble_eq_true rfl) ml_RX12_204 iw_X12_takes0 vw_X12_takes0 cw_X12_takes0 nw_RX12 pp_X12_takes0 (Nat.le_of_ble_eq_true rfl) dX12_readTest_7 rfl (NM_X12_takes0 hp_v0 h) (fun r_1 m_2 h h01_3 hB => ?_)
  refine z_if_eq (nx := 13) (tgt := 21) G dX12_readTest_10 (by decide) rfl (fun c => ?_) (fun c => ?_)
  · have h := h.1 c
    exact b_return X hB dX12_readTest_21 h
  · have h := h.2 c
    refine z_aload_n (nx := 14) (a := 0) G rfl (Or.inl rfl) dX12_readTest_13 rfl (z_iload_n (nx := 15) (a := 1) G rfl dX12_readTest_14 rfl ?_)
    refine b_callV9 (nx := 18) (zs := [v0, v1]) (as := [(0, v1)]) X hB (by decide) rfl hp_v0 (HR_X12_readBoth) (am_ta (am_ti am_tn)) (Nat.le_refl _) (Nat.le_of_ble_eq_true rfl) ml_RX12_237 iw_X12_readBoth vw_X12_readBoth cw_X12_readBoth nw_RX12 pp_X12_readBoth (Nat.le_of_ble_eq_true rfl) dX12_readTest_15 rfl h (fun r_4 m_5 h hB => ?_)
    refine z_goto (tgt := 5) G dX12_readTest_18 (by decide) ?_
    exact b_fewer (loc2 := [(2, v0), (0, v1)]) (am_lk (am_lk am_ln)) (hC5 _ h hB)
theorem S_X12_readTest_L1 {F : am_F} {K : am_KK} {k : Nat} {R : Nat → am_PT} {v0 : Int} {v1 : Int} {m : am_M} (X : am_Cx F cX12_readTest RX12 none (304 + (k + 1)) 9 K) (HR : H_X12_readTest k R) (hp_v0 : am_ob v0 12) (hB : am_Bt m) (h : M_X12_readTest_L1 R v0 v1 K m) : am_Z F 5 [] [(2, v0), (0, v1)] m 200 := by
  obtain ⟨I, ⟨j, hj⟩, hI⟩ := h
  have key : ∀ j  m, I j  m → am_Bt m → am_Z F 5 [] [(2, v0), (0, v1)] m 200 := by
    intro j
    induction j using Nat.strongRecOn with
    | ind j ih =>
      intro  m hj hB
      exact S_X12_readTest_L1B X HR hp_v0 (fun  m' hc hB' => by
        obtain ⟨j', g1, g2⟩ := hc
        exact ih j' g1  m' g2 hB') hB (hI j  m hj)
  exact key j  _ hj hB
set_option maxRecDepth 20000 in
set_option maxHeartbeats 4000000 in
theorem S_X12_readTest {F : am_F} {K : am_KK} {k : Nat} {R : Nat → am_PT} {v0 : Int} {v1 : Int} {m : am_M} (X : am_Cx F cX12_readTest RX12 none (304 + (k + 1)) 9 K) (HR : H_X12_readTest k R) (hp_v0 : am_ob v0 12) (hB : am_Bt m) (h : M_X12_readTest R v0 v1 K m) : am_Z F 0 [] [(2, v0), (0, v1)] m 200 := by
  have G := X.G
  obtain ⟨HR_X12_readTest, HR_X12_readBoth, HR_X12_readPlain⟩ := id HR
  unfold M_X12_readTest at h
  refine z_aload_n (nx := 1) (a := 0) G rfl (Or.inl rfl) dX12_readTest_0 rfl (z_iload_n (nx := 2) (a := 1) G rfl dX12_readTest_1 rfl ?_)
  refine b_callV9 (nx := 5) (zs := [v0, v1]) (as := [(0, v1)]) X hB (by decide) rfl hp_v0 (HR_X12_readBoth) (am_ta (am_ti am_tn)) (Nat.le_refl _) (Nat.le_of_ble_eq_true rfl) ml_RX12_237 iw_X12_readBoth vw_X12_readBoth cw_X12_readBoth nw_RX12 pp_X12_readBoth (Nat.le_of_ble_eq_true rfl) dX12_readTest_2 rfl h (fun r_6 m_7 h hB => ?_)
  exact b_fewer (loc2 := [(2, v0), (0, v1)]) (am_lk (am_lk am_ln)) (S_X12_readTest_L1 X HR hp_v0 hB h)
theorem SR_X12_readTest {k : Nat} {R : Nat → am_PT} (HR : H_X12_readTest k R) : am_Snd yX12_readTest cX12_readTest 2 none 0 (304 + (k + 1)) (am_L [2, 0] 9 (N_X12_readTest R)) := by
  refine am_SB (by decide +kernel) (Nat.le_of_ble_eq_true rfl) (fun F zs as K m X ht hB hM => ?_)
  obtain ⟨v0, zs, as, rfl, rfl, hz0, ht⟩ := am_inv ht
  obtain ⟨v1, zs, as, rfl, rfl, hz1, ht⟩ := am_inv ht
  obtain ⟨rfl, rfl⟩ := am_inv0 ht
  obtain ⟨hp_v0, hM⟩ := hM
  exact S_X12_readTest X HR hp_v0 hB hM
set_option maxRecDepth 20000 in
set_option maxHeartbeats 4000000 in
theorem S_X12_readBoth_L1B {F : am_F} {K : am_KK} {k : Nat} {R : Nat → am_PT} {v0 : Int} {v1 : Int} {C5 : am_M → Prop} {m : am_M} (X : am_Cx F cX12_readBoth RX12 none (304 + (k + 1)) 9 K) (HR : H_X12_readTest k R) (hp_v0 : am_ob v0 12) (hC5 : ∀ m, C5 m → am_Bt m → am_Z F 5 [] [(2, v0), (0, v1)] m 200) (hB : am_Bt m) (h : M_X12_readBoth_L1B R v0 v1 C5 K m) : am_Z F 5 [] [(2, v0), (0, v1)] m 200 := by
  have G := X.G
  obtain ⟨HR_X12_readTest, HR_X12_readBoth, HR_X12_readPlain⟩ := id HR
  unfold M_X12_readBoth_L1B at h
  refine z_aload_n (nx := 6) (a := 0) G rfl (Or.inl rfl) dX12_readBoth_5 rfl (z_bipush (nx := 8) (z := 6) G (R32c rfl) rfl dX12_readBoth_6 rfl ?_)
  refine b_callV5 (nx := 11) (zs := [v0, 6]) (as := [(0, 6)]) X hB (by decide) rfl hp_v0 SS_X12_takes0 (am_ta (am_ti am_tn)) (by omega) (Nat.le_of_ble_eq_true rfl) ml_RX12_204 iw_X12_takes0 vw_X12_takes0 cw_X12_takes0 nw_RX12 pp_X12_takes0 (Nat.le_of_ble_eq_true rfl) dX12_readBoth_8 rfl (NM_X12_takes0 hp_v0 h) (fun r_1 m_2 h h01_3 hB => ?_)
  refine z_if_eq (nx := 14) (tgt := 22) G dX12_readBoth_11 (by decide) rfl (fun c => ?_) (fun c => ?_)
  · have h := h.1 c
    exact b_return X hB dX12_readBoth_22 h
  · have h := h.2 c
    refine z_aload_n (nx := 15) (a := 0) G rfl (Or.inl rfl) dX12_readBoth_14 rfl (z_iload_n (nx := 16) (a := 1) G rfl dX12_readBoth_15 rfl ?_)
    refine b_callV9 (nx := 19) (zs := [v0, v1]) (as := [(0, v1)]) X hB (by decide) rfl hp_v0 (HR_X12_readPlain) (am_ta (am_ti am_tn)) (Nat.le_refl _) (Nat.le_of_ble_eq_true rfl) ml_RX12_240 iw_X12_readPlain vw_X12_readPlain cw_X12_readPlain nw_RX12 pp_X12_readPlain (Nat.le_of_ble_eq_true rfl) dX12_readBoth_16 rfl h (fun r_4 m_5 h hB => ?_)
    refine z_goto (tgt := 5) G dX12_readBoth_19 (by decide) ?_
    exact b_fewer (loc2 := [(2, v0), (0, v1)]) (am_lk (am_lk am_ln)) (hC5 _ h hB)
theorem S_X12_readBoth_L1 {F : am_F} {K : am_KK} {k : Nat} {R : Nat → am_PT} {v0 : Int} {v1 : Int} {m : am_M} (X : am_Cx F cX12_readBoth RX12 none (304 + (k + 1)) 9 K) (HR : H_X12_readTest k R) (hp_v0 : am_ob v0 12) (hB : am_Bt m) (h : M_X12_readBoth_L1 R v0 v1 K m) : am_Z F 5 [] [(2, v0), (0, v1)] m 200 := by
  obtain ⟨I, ⟨j, hj⟩, hI⟩ := h
  have key : ∀ j  m, I j  m → am_Bt m → am_Z F 5 [] [(2, v0), (0, v1)] m 200 := by
    intro j
    induction j using Nat.strongRecOn with
    | ind j ih =>
      intro  m hj hB
      exact S_X12_readBoth_L1B X HR hp_v0 (fun  m' hc hB' => by
        obtain ⟨j', g1, g2⟩ := hc
        exact ih j' g1  m' g2 hB') hB (hI j  m hj)
  exact key j  _ hj hB
set_option maxRecDepth 20000 in
set_option maxHeartbeats 4000000 in
theorem S_X12_readBoth {F : am_F} {K : am_KK} {k : Nat} {R : Nat → am_PT} {v0 : Int} {v1 : Int} {m : am_M} (X : am_Cx F cX12_readBoth RX12 none (304 + (k + 1)) 9 K) (HR : H_X12_readTest k R) (hp_v0 : am_ob v0 12) (hB : am_Bt m) (h : M_X12_readBoth R v0 v1 K m) : am_Z F 0 [] [(2, v0), (0, v1)] m 200 := by
  have G := X.G
  obtain ⟨HR_X12_readTest, HR_X12_readBoth, HR_X12_readPlain⟩ := id HR
  unfold M_X12_readBoth at h
  refine z_aload_n (nx := 1) (a := 0) G rfl (Or.inl rfl) dX12_readBoth_0 rfl (z_iload_n (nx := 2) (a := 1) G rfl dX12_readBoth_1 rfl ?_)
  refine b_callV9 (nx := 5) (zs := [v0, v1]) (as := [(0, v1)]) X hB (by decide) rfl hp_v0 (HR_X12_readPlain) (am_ta (am_ti am_tn)) (Nat.le_refl _) (Nat.le_of_ble_eq_true rfl) ml_RX12_240 iw_X12_readPlain vw_X12_readPlain cw_X12_readPlain nw_RX12 pp_X12_readPlain (Nat.le_of_ble_eq_true rfl) dX12_readBoth_2 rfl h (fun r_6 m_7 h hB => ?_)
  exact b_fewer (loc2 := [(2, v0), (0, v1)]) (am_lk (am_lk am_ln)) (S_X12_readBoth_L1 X HR hp_v0 hB h)
theorem SR_X12_readBoth {k : Nat} {R : Nat → am_PT} (HR : H_X12_readTest k R) : am_Snd yX12_readBoth cX12_readBoth 2 none 0 (304 + (k + 1)) (am_L [2, 0] 9 (N_X12_readBoth R)) := by
  refine am_SB (by decide +kernel) (Nat.le_of_ble_eq_true rfl) (fun F zs as K m X ht hB hM => ?_)
  obtain ⟨v0, zs, as, rfl, rfl, hz0, ht⟩ := am_inv ht
  obtain ⟨v1, zs, as, rfl, rfl, hz1, ht⟩ := am_inv ht
  obtain ⟨rfl, rfl⟩ := am_inv0 ht
  obtain ⟨hp_v0, hM⟩ := hM
  exact S_X12_readBoth X HR hp_v0 hB hM
set_option maxRecDepth 20000 in
set_option maxHeartbeats 4000000 in
theorem S_X12_readPlain_J2 {F : am_F} {K : am_KK} {k : Nat} {R : Nat → am_PT} {v0 : Int} {v1 : Int} {m : am_M} (X : am_Cx F cX12_readPlain RX12 none (304 + (k + 1)) 9 K) (HR : H_X12_readTest k R) (hp_v0 : am_ob v0 12) (hB : am_Bt m) (h : M_X12_readPlain_J2 R v0 v1 K m) : am_Z F 128 [] [(2, v0), (0, v1), (9, 0), (9, 0)] m 200 := by
  have G := X.G
  obtain ⟨HR_X12_readTest, HR_X12_readBoth, HR_X12_readPlain⟩ := id HR
  unfold M_X12_readPlain_J2 at h
  refine z_aload_n (nx := 129) (a := 0) G rfl (Or.inl rfl) dX12_readPlain_128 rfl (z_iload_n (nx := 130) (a := 1) G rfl dX12_readPlain_129 rfl ?_)
  refine b_callV9 (nx := 133) (zs := [v0, v1]) (as := [(0, v1)]) X hB (by decide) rfl hp_v0 SS_X12_readSum (am_ta (am_ti am_tn)) (by omega) (Nat.le_of_ble_eq_true rfl) ml_RX12_213 iw_X12_readSum vw_X12_readSum cw_X12_readSum nw_RX12 pp_X12_readSum (Nat.le_of_ble_eq_true rfl) dX12_readPlain_130 rfl h (fun r_1 m_2 h hB => ?_)
  exact b_return X hB dX12_readPlain_133 h
set_option maxRecDepth 20000 in
set_option maxHeartbeats 4000000 in
theorem S_X12_readPlain_J1 {F : am_F} {K : am_KK} {k : Nat} {R : Nat → am_PT} {v0 : Int} {v1 : Int} {m : am_M} (X : am_Cx F cX12_readPlain RX12 none (304 + (k + 1)) 9 K) (HR : H_X12_readTest k R) (hp_v0 : am_ob v0 12) (hB : am_Bt m) (h : M_X12_readPlain_J1 R v0 v1 K m) : am_Z F 53 [] [(2, v0), (0, v1), (9, 0), (9, 0)] m 200 := by
  have G := X.G
  obtain ⟨HR_X12_readTest, HR_X12_readBoth, HR_X12_readPlain⟩ := id HR
  unfold M_X12_readPlain_J1 at h
  refine z_aload_n (nx := 54) (a := 0) G rfl (Or.inl rfl) dX12_readPlain_53 rfl ?_
  refine b_callV5 (nx := 57) (zs := [v0]) (as := []) X hB (by decide) rfl hp_v0 SS_X12_fine (am_ta am_tn) (by omega) (Nat.le_of_ble_eq_true rfl) ml_RX12_197 iw_X12_fine vw_X12_fine cw_X12_fine nw_RX12 pp_X12_fine (Nat.le_of_ble_eq_true rfl) dX12_readPlain_54 rfl (NM_X12_fine hp_v0 h) (fun r_3 m_4 h h01_5 hB => ?_)
  refine z_if_ne (nx := 60) (tgt := 61) G dX12_readPlain_57 (by decide) rfl (fun c => ?_) (fun c => ?_)
  · have h := h.1 c
    refine z_aload_n (nx := 62) (a := 0) G rfl (Or.inl rfl) dX12_readPlain_61 rfl (z_dup (nx := 63) G (fun h => nomatch h) dX12_readPlain_62 rfl (b_getI (nx := 66) (k0 := 19) (t := 0) G fl_RX12_201 (Nat.le_of_ble_eq_true rfl) (Nat.le_of_ble_eq_true rfl) rfl hp_v0 dX12_readPlain_63 rfl (z_iconst (nx := 67) (z := 1) G (R32c rfl) dX12_readPlain_66 rfl (z_iadd (nx := 68) G dX12_readPlain_67 rfl ?_))))
    refine b_put (nx := 71) (k0 := 19) (t := 0) G hB fl_RX12_201 (Nat.le_of_ble_eq_true rfl) (Nat.le_of_ble_eq_true rfl) rfl (fun h => nomatch h) rfl hp_v0 dX12_readPlain_68 rfl (fun m_6 e_m_6 hB => ?_)
    have h := h m_6 e_m_6
    refine z_aload_n (nx := 72) (a := 0) G rfl (Or.inl rfl) dX12_readPlain_71 rfl (z_iload_n (nx := 73) (a := 1) G rfl dX12_readPlain_72 rfl (z_iconst (nx := 74) (z := 1) G (R32c rfl) dX12_readPlain_73 rfl (z_iadd (nx := 75) G dX12_readPlain_74 rfl ?_)))
    refine b_callV9 (nx := 78) (zs := [v0, w32 (v1 + 1)]) (as := [(0, w32 (v1 + 1))]) X hB (by decide) rfl hp_v0 (HR_X12_readTest) (am_ta (am_ti am_tn)) (Nat.le_refl _) (Nat.le_of_ble_eq_true rfl) ml_RX12_220 iw_X12_readTest vw_X12_readTest cw_X12_readTest nw_RX12 pp_X12_readTest (Nat.le_of_ble_eq_true rfl) dX12_readPlain_75 rfl h (fun r_7 m_8 h hB => ?_)
    refine z_aload_n (nx := 79) (a := 0) G rfl (Or.inl rfl) dX12_readPlain_78 rfl (z_bipush (nx := 81) (z := 41) G (R32c rfl) rfl dX12_readPlain_79 rfl ?_)
    refine b_callS0 (nx := 84) (zs := [41]) (as := [(0, 41)]) X hB SS_X12_sign (am_ti am_tn) (by omega) (Nat.le_of_ble_eq_true rfl) ml_RX12_243 sw_X12_sign (am_plainC 12 (by decide)) cw_X12_sign nw_RX12 pp_X12_sign (Nat.le_of_ble_eq_true rfl) dX12_readPlain_81 rfl (NM_X12_sign h) (fun r_9 m_10 h hB => ?_)
    refine b_callV9 (nx := 87) (zs := [v0, r_9]) (as := [(0, r_9)]) X hB (by decide) rfl hp_v0 SS_X12_must (am_ta (am_ti am_tn)) (by omega) (Nat.le_of_ble_eq_true rfl) ml_RX12_217 iw_X12_must vw_X12_must cw_X12_must nw_RX12 pp_X12_must (Nat.le_of_ble_eq_true rfl) dX12_readPlain_84 rfl (NM_X12_must hp_v0 h) (fun r_11 m_12 h hB => ?_)
    refine z_goto (tgt := 133) G dX12_readPlain_87 (by decide) ?_
    exact b_return X hB dX12_readPlain_133 h
  · have h := h.2 c
    exact b_return X hB dX12_readPlain_60 h
set_option maxRecDepth 20000 in
set_option maxHeartbeats 4000000 in
theorem S_X12_readPlain_L1B {F : am_F} {K : am_KK} {k : Nat} {R : Nat → am_PT} {v0 : Int} {v1 : Int} {v2 : Int} {C2 : Int → am_M → Prop} {m : am_M} (X : am_Cx F cX12_readPlain RX12 none (304 + (k + 1)) 9 K) (HR : H_X12_readTest k R) (hp_v0 : am_ob v0 12) (hC2 : ∀ w2 m, C2 w2 m → am_Bt m → am_Z F 2 [] [(2, v0), (0, v1), (0, w2), (9, 0)] m 200) (hB : am_Bt m) (h : M_X12_readPlain_L1B R v0 v1 v2 C2 K m) : am_Z F 2 [] [(2, v0), (0, v1), (0, v2), (9, 0)] m 200 := by
  have G := X.G
  obtain ⟨HR_X12_readTest, HR_X12_readBoth, HR_X12_readPlain⟩ := id HR
  unfold M_X12_readPlain_L1B at h
  refine z_iload_n (nx := 3) (a := 2) G rfl dX12_readPlain_2 rfl ?_
  refine z_if_eq (nx := 6) (tgt := 16) G dX12_readPlain_3 (by decide) rfl (fun c => ?_) (fun c => ?_)
  · have h := h.1 c
    refine z_aload_n (nx := 17) (a := 0) G rfl (Or.inl rfl) dX12_readPlain_16 rfl ?_
    refine b_callV5 (nx := 20) (zs := [v0]) (as := []) X hB (by decide) rfl hp_v0 SS_X12_fine (am_ta am_tn) (by omega) (Nat.le_of_ble_eq_true rfl) ml_RX12_197 iw_X12_fine vw_X12_fine cw_X12_fine nw_RX12 pp_X12_fine (Nat.le_of_ble_eq_true rfl) dX12_readPlain_17 rfl (NM_X12_fine hp_v0 h) (fun r_13 m_14 h h01_15 hB => ?_)
    refine z_if_ne (nx := 23) (tgt := 24) G dX12_readPlain_20 (by decide) rfl (fun c => ?_) (fun c => ?_)
    · have h := h.1 c
      refine z_aload_n (nx := 25) (a := 0) G rfl (Or.inl rfl) dX12_readPlain_24 rfl (b_getA (nx := 28) (k0 := 15) G hB fl_RX12_50 (Nat.le_of_ble_eq_true rfl) (Nat.le_of_ble_eq_true rfl) rfl hp_v0 dX12_readPlain_25 rfl (z_aload_n (nx := 29) (a := 0) G rfl (Or.inl rfl) dX12_readPlain_28 rfl (b_getI (nx := 32) (k0 := 19) (t := 0) G fl_RX12_201 (Nat.le_of_ble_eq_true rfl) (Nat.le_of_ble_eq_true rfl) rfl hp_v0 dX12_readPlain_29 rfl ?_)))
      obtain ⟨hb, h⟩ := h
      refine z_iald (nx := 33) G (sh_12_15 _ hp_v0) hb.1 hb.2 dX12_readPlain_32 rfl ?_
      refine b_store_n (nx := 34) (a := 3) (loc2 := fun v3_16 => [(2, v0), (0, v1), (0, v2), (0, v3_16)]) G (fun _ => rfl) (Nat.le_of_ble_eq_true rfl) (am_pl1 rfl (fun h => nomatch h)) dX12_readPlain_33 rfl (fun v3_16 e_v3_16 => ?_)
      have h := h v3_16 e_v3_16
      refine z_iload_n (nx := 35) (a := 3) G rfl dX12_readPlain_34 rfl (z_bipush (nx := 37) (z := 40) G (R32c rfl) rfl dX12_readPlain_35 rfl ?_)
      refine b_callS0 (nx := 40) (zs := [40]) (as := [(0, 40)]) X hB SS_X12_sign (am_ti am_tn) (by omega) (Nat.le_of_ble_eq_true rfl) ml_RX12_243 sw_X12_sign (am_plainC 12 (by decide)) cw_X12_sign nw_RX12 pp_X12_sign (Nat.le_of_ble_eq_true rfl) dX12_readPlain_37 rfl (NM_X12_sign h) (fun r_17 m_18 h hB => ?_)
      refine z_icmp_ne (nx := 43) (tgt := 90) G dX12_readPlain_40 (by decide) rfl (fun c => ?_) (fun c => ?_)
      · have h := h.1 c
        refine z_aload_n (nx := 91) (a := 0) G rfl (Or.inl rfl) dX12_readPlain_90 rfl (z_iload_n (nx := 92) (a := 1) G rfl dX12_readPlain_91 rfl ?_)
        refine b_callV9 (nx := 95) (zs := [v0, v1]) (as := [(0, v1)]) X hB (by decide) rfl hp_v0 SS_X12_readSum (am_ta (am_ti am_tn)) (by omega) (Nat.le_of_ble_eq_true rfl) ml_RX12_213 iw_X12_readSum vw_X12_readSum cw_X12_readSum nw_RX12 pp_X12_readSum (Nat.le_of_ble_eq_true rfl) dX12_readPlain_92 rfl h (fun r_19 m_20 h hB => ?_)
        refine z_aload_n (nx := 96) (a := 0) G rfl (Or.inl rfl) dX12_readPlain_95 rfl (z_bipush (nx := 98) (z := 60) G (R32c rfl) rfl dX12_readPlain_96 rfl ?_)
        refine b_callS0 (nx := 101) (zs := [60]) (as := [(0, 60)]) X hB SS_X12_sign (am_ti am_tn) (by omega) (Nat.le_of_ble_eq_true rfl) ml_RX12_243 sw_X12_sign (am_plainC 12 (by decide)) cw_X12_sign nw_RX12 pp_X12_sign (Nat.le_of_ble_eq_true rfl) dX12_readPlain_98 rfl (NM_X12_sign h) (fun r_21 m_22 h hB => ?_)
        refine b_callV5 (nx := 104) (zs := [v0, r_21]) (as := [(0, r_21)]) X hB (by decide) rfl hp_v0 SS_X12_takes0 (am_ta (am_ti am_tn)) (by omega) (Nat.le_of_ble_eq_true rfl) ml_RX12_204 iw_X12_takes0 vw_X12_takes0 cw_X12_takes0 nw_RX12 pp_X12_takes0 (Nat.le_of_ble_eq_true rfl) dX12_readPlain_101 rfl (NM_X12_takes0 hp_v0 h) (fun r_23 m_24 h h01_25 hB => ?_)
        refine z_if_ne (nx := 107) (tgt := 128) G dX12_readPlain_104 (by decide) rfl (fun c => ?_) (fun c => ?_)
        · have h := h.1 c
          exact b_fewer (loc2 := [(2, v0), (0, v1), (9, 0), (9, 0)]) (am_lk (am_lk (am_lf (am_lf am_ln)))) (S_X12_readPlain_J2 X HR hp_v0 hB h)
        · have h := h.2 c
          refine z_aload_n (nx := 108) (a := 0) G rfl (Or.inl rfl) dX12_readPlain_107 rfl (z_bipush (nx := 110) (z := 62) G (R32c rfl) rfl dX12_readPlain_108 rfl ?_)
          refine b_callS0 (nx := 113) (zs := [62]) (as := [(0, 62)]) X hB SS_X12_sign (am_ti am_tn) (by omega) (Nat.le_of_ble_eq_true rfl) ml_RX12_243 sw_X12_sign (am_plainC 12 (by decide)) cw_X12_sign nw_RX12 pp_X12_sign (Nat.le_of_ble_eq_true rfl) dX12_readPlain_110 rfl (NM_X12_sign h) (fun r_26 m_27 h hB => ?_)
          refine b_callV5 (nx := 116) (zs := [v0, r_26]) (as := [(0, r_26)]) X hB (by decide) rfl hp_v0 SS_X12_takes0 (am_ta (am_ti am_tn)) (by omega) (Nat.le_of_ble_eq_true rfl) ml_RX12_204 iw_X12_takes0 vw_X12_takes0 cw_X12_takes0 nw_RX12 pp_X12_takes0 (Nat.le_of_ble_eq_true rfl) dX12_readPlain_113 rfl (NM_X12_takes0 hp_v0 h) (fun r_28 m_29 h h01_30 hB => ?_)
          refine z_if_ne (nx := 119) (tgt := 128) G dX12_readPlain_116 (by decide) rfl (fun c => ?_) (fun c => ?_)
          · have h := h.1 c
            exact b_fewer (loc2 := [(2, v0), (0, v1), (9, 0), (9, 0)]) (am_lk (am_lk (am_lf (am_lf am_ln)))) (S_X12_readPlain_J2 X HR hp_v0 hB h)
          · have h := h.2 c
            refine z_aload_n (nx := 120) (a := 0) G rfl (Or.inl rfl) dX12_readPlain_119 rfl (z_bipush (nx := 122) (z := 61) G (R32c rfl) rfl dX12_readPlain_120 rfl ?_)
            refine b_callS0 (nx := 125) (zs := [61]) (as := [(0, 61)]) X hB SS_X12_sign (am_ti am_tn) (by omega) (Nat.le_of_ble_eq_true rfl) ml_RX12_243 sw_X12_sign (am_plainC 12 (by decide)) cw_X12_sign nw_RX12 pp_X12_sign (Nat.le_of_ble_eq_true rfl) dX12_readPlain_122 rfl (NM_X12_sign h) (fun r_31 m_32 h hB => ?_)
            refine b_callV9 (nx := 128) (zs := [v0, r_31]) (as := [(0, r_31)]) X hB (by decide) rfl hp_v0 SS_X12_must (am_ta (am_ti am_tn)) (by omega) (Nat.le_of_ble_eq_true rfl) ml_RX12_217 iw_X12_must vw_X12_must cw_X12_must nw_RX12 pp_X12_must (Nat.le_of_ble_eq_true rfl) dX12_readPlain_125 rfl (NM_X12_must hp_v0 h) (fun r_33 m_34 h hB => ?_)
            exact b_fewer (loc2 := [(2, v0), (0, v1), (9, 0), (9, 0)]) (am_lk (am_lk (am_lf (am_lf am_ln)))) (S_X12_readPlain_J2 X HR hp_v0 hB h)
      · have h := h.2 c
        refine z_iload_n (nx := 44) (a := 1) G rfl dX12_readPlain_43 rfl (z_bipush (nx := 46) (z := 8) G (R32c rfl) rfl dX12_readPlain_44 rfl ?_)
        refine z_icmp_ne (nx := 49) (tgt := 53) G dX12_readPlain_46 (by decide) rfl (fun c => ?_) (fun c => ?_)
        · have h := h.1 c
          exact b_fewer (loc2 := [(2, v0), (0, v1), (9, 0), (9, 0)]) (am_lk (am_lk (am_lf (am_lf am_ln)))) (S_X12_readPlain_J1 X HR hp_v0 hB h)
        · have h := h.2 c
          refine z_aload_n (nx := 50) (a := 0) G rfl (Or.inl rfl) dX12_readPlain_49 rfl ?_
          refine b_callV9 (nx := 53) (zs := [v0]) (as := []) X hB (by decide) rfl hp_v0 SS_X12_faults (am_ta am_tn) (by omega) (Nat.le_of_ble_eq_true rfl) ml_RX12_207 iw_X12_faults vw_X12_faults cw_X12_faults nw_RX12 pp_X12_faults (Nat.le_of_ble_eq_true rfl) dX12_readPlain_50 rfl (NM_X12_faults hp_v0 h) (fun r_35 m_36 h hB => ?_)
          exact b_fewer (loc2 := [(2, v0), (0, v1), (9, 0), (9, 0)]) (am_lk (am_lk (am_lf (am_lf am_ln)))) (S_X12_readPlain_J1 X HR hp_v0 hB h)
    · have h := h.2 c
      exact b_return X hB dX12_readPlain_23 h
  · have h := h.2 c
    refine z_aload_n (nx := 7) (a := 0) G rfl (Or.inl rfl) dX12_readPlain_6 rfl (z_bipush (nx := 9) (z := 7) G (R32c rfl) rfl dX12_readPlain_7 rfl ?_)
    refine b_callV5 (nx := 12) (zs := [v0, 7]) (as := [(0, 7)]) X hB (by decide) rfl hp_v0 SS_X12_takes0 (am_ta (am_ti am_tn)) (by omega) (Nat.le_of_ble_eq_true rfl) ml_RX12_204 iw_X12_takes0 vw_X12_takes0 cw_X12_takes0 nw_RX12 pp_X12_takes0 (Nat.le_of_ble_eq_true rfl) dX12_readPlain_9 rfl (NM_X12_takes0 hp_v0 h) (fun r_37 m_38 h h01_39 hB => ?_)
    refine b_storeE_n (nx := 13) (a := 2) (loc2 := [(2, v0), (0, v1), (0, r_37), (9, 0)]) G rfl (Nat.le_of_ble_eq_true rfl) (am_pl1 rfl (fun h => nomatch h)) dX12_readPlain_12 rfl (z_goto (tgt := 2) G dX12_readPlain_13 (by decide) ?_)
    exact b_fewer (loc2 := [(2, v0), (0, v1), (0, r_37), (9, 0)]) (am_lk (am_lk (am_lk (am_lk am_ln)))) (hC2 _ _ h hB)
theorem S_X12_readPlain_L1 {F : am_F} {K : am_KK} {k : Nat} {R : Nat → am_PT} {v0 : Int} {v1 : Int} {v2 : Int} {m : am_M} (X : am_Cx F cX12_readPlain RX12 none (304 + (k + 1)) 9 K) (HR : H_X12_readTest k R) (hp_v0 : am_ob v0 12) (hB : am_Bt m) (h : M_X12_readPlain_L1 R v0 v1 v2 K m) : am_Z F 2 [] [(2, v0), (0, v1), (0, v2), (9, 0)] m 200 := by
  obtain ⟨I, ⟨j, hj⟩, hI⟩ := h
  have key : ∀ j v2 m, I j v2 m → am_Bt m → am_Z F 2 [] [(2, v0), (0, v1), (0, v2), (9, 0)] m 200 := by
    intro j
    induction j using Nat.strongRecOn with
    | ind j ih =>
      intro v2 m hj hB
      exact S_X12_readPlain_L1B X HR hp_v0 (fun v2' m' hc hB' => by
        obtain ⟨j', g1, g2⟩ := hc
        exact ih j' g1 v2' m' g2 hB') hB (hI j v2 m hj)
  exact key j _ _ hj hB
set_option maxRecDepth 20000 in
set_option maxHeartbeats 4000000 in
theorem S_X12_readPlain {F : am_F} {K : am_KK} {k : Nat} {R : Nat → am_PT} {v0 : Int} {v1 : Int} {m : am_M} (X : am_Cx F cX12_readPlain RX12 none (304 + (k + 1)) 9 K) (HR : H_X12_readTest k R) (hp_v0 : am_ob v0 12) (hB : am_Bt m) (h : M_X12_readPlain R v0 v1 K m) : am_Z F 0 [] [(2, v0), (0, v1), (9, 0), (9, 0)] m 200 := by
  have G := X.G
  obtain ⟨HR_X12_readTest, HR_X12_readBoth, HR_X12_readPlain⟩ := id HR
  unfold M_X12_readPlain at h
  refine z_iconst (nx := 1) (z := 1) G (R32c rfl) dX12_readPlain_0 rfl (b_storeE_n (nx := 2) (a := 2) (loc2 := [(2, v0), (0, v1), (0, 1), (9, 0)]) G rfl (Nat.le_of_ble_eq_true rfl) (am_pl1 rfl (fun h => nomatch h)) dX12_readPlain_1 rfl ?_)
  exact b_fewer (loc2 := [(2, v0), (0, v1), (0, 1), (9, 0)]) (am_lk (am_lk (am_lk (am_lk am_ln)))) (S_X12_readPlain_L1 X HR hp_v0 hB h)
theorem SR_X12_readPlain {k : Nat} {R : Nat → am_PT} (HR : H_X12_readTest k R) : am_Snd yX12_readPlain cX12_readPlain 4 none 0 (304 + (k + 1)) (am_L [2, 0] 9 (N_X12_readPlain R)) := by
  refine am_SB (by decide +kernel) (Nat.le_of_ble_eq_true rfl) (fun F zs as K m X ht hB hM => ?_)
  obtain ⟨v0, zs, as, rfl, rfl, hz0, ht⟩ := am_inv ht
  obtain ⟨v1, zs, as, rfl, rfl, hz1, ht⟩ := am_inv ht
  obtain ⟨rfl, rfl⟩ := am_inv0 ht
  obtain ⟨hp_v0, hM⟩ := hM
  exact S_X12_readPlain X HR hp_v0 hB hM
theorem HH_X12_readTest : ∀ k, H_X12_readTest k (R_X12_readTest k) := by
  intro k
  induction k with
  | zero => exact ⟨am_Snd_false, am_Snd_false, am_Snd_false⟩
  | succ k ih => exact ⟨SR_X12_readTest ih, SR_X12_readBoth ih, SR_X12_readPlain ih⟩
theorem SS_X12_readTest : am_Snd yX12_readTest cX12_readTest 2 none 0 605 (am_L [2, 0] 9 (R_X12_readTest 301 0)) := (HH_X12_readTest 301).1
theorem SS_X12_readBoth : am_Snd yX12_readBoth cX12_readBoth 2 none 0 605 (am_L [2, 0] 9 (R_X12_readTest 301 1)) := (HH_X12_readTest 301).2.1
theorem SS_X12_readPlain : am_Snd yX12_readPlain cX12_readPlain 4 none 0 605 (am_L [2, 0] 9 (R_X12_readTest 301 2)) := (HH_X12_readTest 301).2.2
set_option maxRecDepth 20000 in
set_option maxHeartbeats 4000000 in
theorem S_X12_readClause_J2 {F : am_F} {K : am_KK} {v0 : Int} {m : am_M} (X : am_Cx F cX12_readClause RX12 none 606 9 K) (hp_v0 : am_ob v0 12) (hB : am_Bt m) (h : M_X12_readClause_J2 v0 K m) : am_Z F 29 [] [(2, v0)] m 200 := by
  have G := X.G
  unfold M_X12_readClause_J2 at h
  refine z_aload_n (nx := 30) (a := 0) G rfl (Or.inl rfl) dX12_readClause_29 rfl (z_iconst (nx := 31) (z := 4) G (R32c rfl) dX12_readClause_30 rfl ?_)
  refine b_callV5 (nx := 34) (zs := [v0, 4]) (as := [(0, 4)]) X hB (by decide) rfl hp_v0 SS_X12_takes0 (am_ta (am_ti am_tn)) (Nat.le_of_ble_eq_true rfl) (Nat.le_of_ble_eq_true rfl) ml_RX12_204 iw_X12_takes0 vw_X12_takes0 cw_X12_takes0 nw_RX12 pp_X12_takes0 (Nat.le_of_ble_eq_true rfl) dX12_readClause_31 rfl (NM_X12_takes0 hp_v0 h) (fun r_1 m_2 h h01_3 hB => ?_)
  refine z_if_eq (nx := 37) (tgt := 42) G dX12_readClause_34 (by decide) rfl (fun c => ?_) (fun c => ?_)
  · have h := h.1 c
    exact b_return X hB dX12_readClause_42 h
  · have h := h.2 c
    refine z_aload_n (nx := 38) (a := 0) G rfl (Or.inl rfl) dX12_readClause_37 rfl (z_iconst (nx := 39) (z := 0) G (R32c rfl) dX12_readClause_38 rfl ?_)
    refine b_callV9 (nx := 42) (zs := [v0, 0]) (as := [(0, 0)]) X hB (by decide) rfl hp_v0 SS_X12_readTest (am_ta (am_ti am_tn)) (Nat.le_of_ble_eq_true rfl) (Nat.le_of_ble_eq_true rfl) ml_RX12_220 iw_X12_readTest vw_X12_readTest cw_X12_readTest nw_RX12 pp_X12_readTest (Nat.le_of_ble_eq_true rfl) dX12_readClause_39 rfl h (fun r_4 m_5 h hB => ?_)
    exact b_return X hB dX12_readClause_42 h
set_option maxRecDepth 20000 in
set_option maxHeartbeats 4000000 in
theorem S_X12_readClause_J1 {F : am_F} {K : am_KK} {v0 : Int} {m : am_M} (X : am_Cx F cX12_readClause RX12 none 606 9 K) (hp_v0 : am_ob v0 12) (hB : am_Bt m) (h : M_X12_readClause_J1 v0 K m) : am_Z F 16 [] [(2, v0)] m 200 := by
  have G := X.G
  unfold M_X12_readClause_J1 at h
  refine z_aload_n (nx := 17) (a := 0) G rfl (Or.inl rfl) dX12_readClause_16 rfl (z_iconst (nx := 18) (z := 0) G (R32c rfl) dX12_readClause_17 rfl ?_)
  refine b_callV9 (nx := 21) (zs := [v0, 0]) (as := [(0, 0)]) X hB (by decide) rfl hp_v0 SS_X12_readSum (am_ta (am_ti am_tn)) (Nat.le_of_ble_eq_true rfl) (Nat.le_of_ble_eq_true rfl) ml_RX12_213 iw_X12_readSum vw_X12_readSum cw_X12_readSum nw_RX12 pp_X12_readSum (Nat.le_of_ble_eq_true rfl) dX12_readClause_18 rfl h (fun r_6 m_7 h hB => ?_)
  refine z_goto (tgt := 29) G dX12_readClause_21 (by decide) ?_
  exact b_fewer (loc2 := [(2, v0)]) (am_lk am_ln) (S_X12_readClause_J2 X hp_v0 hB h)
set_option maxRecDepth 20000 in
set_option maxHeartbeats 4000000 in
theorem S_X12_readClause {F : am_F} {K : am_KK} {v0 : Int} {m : am_M} (X : am_Cx F cX12_readClause RX12 none 606 9 K) (hp_v0 : am_ob v0 12) (hB : am_Bt m) (h : M_X12_readClause v0 K m) : am_Z F 0 [] [(2, v0)] m 200 := by
  have G := X.G
  unfold M_X12_readClause at h
  refine z_aload_n (nx := 1) (a := 0) G rfl (Or.inl rfl) dX12_readClause_0 rfl (z_iconst (nx := 2) (z := 1) G (R32c rfl) dX12_readClause_1 rfl ?_)
  refine b_callV5 (nx := 5) (zs := [v0, 1]) (as := [(0, 1)]) X hB (by decide) rfl hp_v0 SS_X12_takes0 (am_ta (am_ti am_tn)) (Nat.le_of_ble_eq_true rfl) (Nat.le_of_ble_eq_true rfl) ml_RX12_204 iw_X12_takes0 vw_X12_takes0 cw_X12_takes0 nw_RX12 pp_X12_takes0 (Nat.le_of_ble_eq_true rfl) dX12_readClause_2 rfl (NM_X12_takes0 hp_v0 h) (fun r_8 m_9 h h01_10 hB => ?_)
  refine z_if_ne (nx := 8) (tgt := 16) G dX12_readClause_5 (by decide) rfl (fun c => ?_) (fun c => ?_)
  · have h := h.1 c
    exact b_fewer (loc2 := [(2, v0)]) (am_lk am_ln) (S_X12_readClause_J1 X hp_v0 hB h)
  · have h := h.2 c
    refine z_aload_n (nx := 9) (a := 0) G rfl (Or.inl rfl) dX12_readClause_8 rfl (z_iconst (nx := 10) (z := 2) G (R32c rfl) dX12_readClause_9 rfl ?_)
    refine b_callV5 (nx := 13) (zs := [v0, 2]) (as := [(0, 2)]) X hB (by decide) rfl hp_v0 SS_X12_takes0 (am_ta (am_ti am_tn)) (Nat.le_of_ble_eq_true rfl) (Nat.le_of_ble_eq_true rfl) ml_RX12_204 iw_X12_takes0 vw_X12_takes0 cw_X12_takes0 nw_RX12 pp_X12_takes0 (Nat.le_of_ble_eq_true rfl) dX12_readClause_10 rfl (NM_X12_takes0 hp_v0 h) (fun r_11 m_12 h h01_13 hB => ?_)
    refine z_if_eq (nx := 16) (tgt := 24) G dX12_readClause_13 (by decide) rfl (fun c => ?_) (fun c => ?_)
    · have h := h.1 c
      refine z_aload_n (nx := 25) (a := 0) G rfl (Or.inl rfl) dX12_readClause_24 rfl (z_iconst (nx := 26) (z := 3) G (R32c rfl) dX12_readClause_25 rfl ?_)
      refine b_callV9 (nx := 29) (zs := [v0, 3]) (as := [(0, 3)]) X hB (by decide) rfl hp_v0 SS_X12_must (am_ta (am_ti am_tn)) (Nat.le_of_ble_eq_true rfl) (Nat.le_of_ble_eq_true rfl) ml_RX12_217 iw_X12_must vw_X12_must cw_X12_must nw_RX12 pp_X12_must (Nat.le_of_ble_eq_true rfl) dX12_readClause_26 rfl (NM_X12_must hp_v0 h) (fun r_14 m_15 h hB => ?_)
      exact b_fewer (loc2 := [(2, v0)]) (am_lk am_ln) (S_X12_readClause_J2 X hp_v0 hB h)
    · have h := h.2 c
      exact b_fewer (loc2 := [(2, v0)]) (am_lk am_ln) (S_X12_readClause_J1 X hp_v0 hB h)
theorem NM_X12_readClause {v0 : Int} {K : am_KK} {m : am_M} (hp_v0 : am_ob v0 12) (h : M_X12_readClause v0 K m) : N_X12_readClause [v0] K m := ⟨hp_v0, h⟩
theorem SS_X12_readClause : am_Snd yX12_readClause cX12_readClause 1 none 0 606 (am_L [2] 9 N_X12_readClause) := by
  refine am_SB (by decide +kernel) (Nat.le_of_ble_eq_true rfl) (fun F zs as K m X ht hB hM => ?_)
  obtain ⟨v0, zs, as, rfl, rfl, hz0, ht⟩ := am_inv ht
  obtain ⟨rfl, rfl⟩ := am_inv0 ht
  obtain ⟨hp_v0, hM⟩ := hM
  exact S_X12_readClause X hp_v0 hB hM
