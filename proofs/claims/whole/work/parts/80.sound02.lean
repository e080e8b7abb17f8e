/-! the machine does what the forms say, 2 -/
set_option maxRecDepth 20000 in
set_option maxHeartbeats 4000000 in
theorem S_X10_weigh_J1 {F : am_F} {K : am_KK} {v0 : Int} {v1 : Int} {v2 : Int} {v3 : Int} {v5 : Int} {C5 : Int → Int → am_M → Prop} {m : am_M} (X : am_Cx F cX10_weigh RX10 (some .long) 3 1 K) (hp_v0 : am_ob v0 10) (hp_v1 : am_ob v1 0) (hC5 : ∀ w3 w5 m, C5 w3 w5 m → am_Bt m → am_Z F 5 [] [(2, v0), (2, v1), (0, v2), (1, w3), (9, 0), (0, w5), (9, 0)] m 200) (hB : am_Bt m) (h : M_X10_weigh_J1 v0 v1 v2 v3 v5 C5 K m) : am_Z F 95 [] [(2, v0), (2, v1), (0, v2), (1, v3), (9, 0), (0, v5), (9, 0)] m 200 := by
  have G := X.G
  unfold M_X10_weigh_J1 at h
  refine b_iinc (nx := 98) (a := 5) (loc2 := fun v5_1 => [(2, v0), (2, v1), (0, v2), (1, v3), (9, 0), (0, v5_1), (9, 0)]) G (fun _ => rfl) rfl (am_pl1 rfl (fun h => nomatch h)) dX10_weigh_95 rfl (fun v5_1 e_v5_1 => ?_)
  have h := h v5_1 e_v5_1
  refine z_goto (tgt := 5) G dX10_weigh_98 (by decide) ?_
  exact b_fewer (loc2 := [(2, v0), (2, v1), (0, v2), (1, v3), (9, 0), (0, v5_1), (9, 0)]) (am_lk (am_lk (am_lk (am_lk (am_lk (am_lk (am_lk am_ln))))))) (hC5 _ _ _ h hB)
set_option maxRecDepth 20000 in
set_option maxHeartbeats 4000000 in
theorem S_X10_weigh_L1B {F : am_F} {K : am_KK} {v0 : Int} {v1 : Int} {v2 : Int} {v3 : Int} {v5 : Int} {C5 : Int → Int → am_M → Prop} {m : am_M} (X : am_Cx F cX10_weigh RX10 (some .long) 3 1 K) (hp_v0 : am_ob v0 10) (hp_v1 : am_ob v1 0) (hC5 : ∀ w3 w5 m, C5 w3 w5 m → am_Bt m → am_Z F 5 [] [(2, v0), (2, v1), (0, v2), (1, w3), (9, 0), (0, w5), (9, 0)] m 200) (hB : am_Bt m) (h : M_X10_weigh_L1B v0 v1 v2 v3 v5 C5 K m) : am_Z F 5 [] [(2, v0), (2, v1), (0, v2), (1, v3), (9, 0), (0, v5), (9, 0)] m 200 := by
  have G := X.G
  unfold M_X10_weigh_L1B at h
  refine z_iload (nx := 7) (a := 5) G rfl dX10_weigh_5 rfl (z_iconst (nx := 8) (z := 3) G (R32c rfl) dX10_weigh_7 rfl ?_)
  refine z_icmp_gt (nx := 11) (tgt := 101) G dX10_weigh_8 (by decide) rfl (fun c => ?_) (fun c => ?_)
  · have h := h.1 c
    refine z_lload_n (nx := 102) (a := 3) G rfl dX10_weigh_101 rfl ?_
    exact b_lreturn X hB dX10_weigh_102 h
  · have h := h.2 c
    refine z_aload_n (nx := 12) (a := 1) G rfl (Or.inl rfl) dX10_weigh_11 rfl (b_getA (nx := 15) (k0 := 1) G hB fl_RX10_24 (Nat.le_of_ble_eq_true rfl) (Nat.le_of_ble_eq_true rfl) rfl hp_v1 dX10_weigh_12 rfl (z_iload_n (nx := 16) (a := 2) G rfl dX10_weigh_15 rfl (z_iload (nx := 18) (a := 5) G rfl dX10_weigh_16 rfl ?_)))
    refine b_callV0 (nx := 21) (zs := [am_rfv v1 1, v2, v5]) (as := [(0, v2), (0, v5)]) X hB (by decide) rfl (sh_0_1 _ hp_v1) SS_X7_get (am_ta (am_ti (am_ti am_tn))) (Nat.le_of_ble_eq_true rfl) (Nat.le_of_ble_eq_true rfl) ml_RX10_40 iw_X7_get vw_X7_get cw_X7_get nw_RX7 pp_X7_get (Nat.le_of_ble_eq_true rfl) dX10_weigh_18 rfl (NM_X7_get (sh_0_1 _ hp_v1) h) (fun r_2 m_3 h hB => ?_)
    refine b_storeE (nx := 23) (a := 6) (loc2 := [(2, v0), (2, v1), (0, v2), (1, v3), (9, 0), (0, v5), (0, r_2)]) G rfl (Nat.le_of_ble_eq_true rfl) (am_pl1 rfl (fun h => nomatch h)) dX10_weigh_21 rfl (z_iload (nx := 25) (a := 6) G rfl dX10_weigh_23 rfl (z_bipush (nx := 27) (z := 10) G (R32c rfl) rfl dX10_weigh_25 rfl (z_isub (nx := 28) G dX10_weigh_27 rfl ?_)))
    refine b_callSN5 (nx := 31) (zs := [w32 (r_2 - 10)]) (as := [(0, w32 (r_2 - 10))]) X hB SS_X11_isThing (am_ti am_tn) (Nat.le_of_ble_eq_true rfl) (Nat.le_of_ble_eq_true rfl) mn_RX10_44 sw_X11_isThing (am_plainC 11 (by decide)) cw_X11_isThing nw_RX11 pp_X11_isThing (Nat.le_of_ble_eq_true rfl) dX10_weigh_28 rfl (NM_X11_isThing h) (fun r_4 m_5 h h01_6 hB => ?_)
    refine z_if_eq (nx := 34) (tgt := 71) G dX10_weigh_31 (by decide) rfl (fun c => ?_) (fun c => ?_)
    · have h := h.1 c
      refine z_iload (nx := 73) (a := 6) G rfl dX10_weigh_71 rfl (z_iconst (nx := 74) (z := (-1)) G (R32c rfl) dX10_weigh_73 rfl ?_)
      refine z_icmp_eq (nx := 77) (tgt := 95) G dX10_weigh_74 (by decide) rfl (fun c => ?_) (fun c => ?_)
      · have h := h.1 c
        exact b_fewer (loc2 := [(2, v0), (2, v1), (0, v2), (1, v3), (9, 0), (0, v5), (9, 0)]) (am_lk (am_lk (am_lk (am_lk (am_lk (am_lk (am_lf am_ln))))))) (S_X10_weigh_J1 X hp_v0 hp_v1 hC5 hB h)
      · have h := h.2 c
        refine z_lload_n (nx := 78) (a := 3) G rfl dX10_weigh_77 rfl (z_aload_n (nx := 79) (a := 1) G rfl (Or.inl rfl) dX10_weigh_78 rfl (b_getA (nx := 82) (k0 := 0) G hB fl_RX10_56 (Nat.le_of_ble_eq_true rfl) (Nat.le_of_ble_eq_true rfl) rfl hp_v1 dX10_weigh_79 rfl (z_iload (nx := 84) (a := 6) G rfl dX10_weigh_82 rfl (z_iconst (nx := 85) (z := 0) G (R32c rfl) dX10_weigh_84 rfl ?_))))
        refine b_callV0 (nx := 88) (zs := [am_rfv v1 0, r_2, 0]) (as := [(0, r_2), (0, 0)]) X hB (by decide) rfl (sh_0_0 _ hp_v1) SS_X7_get (am_ta (am_ti (am_ti am_tn))) (Nat.le_of_ble_eq_true rfl) (Nat.le_of_ble_eq_true rfl) ml_RX10_40 iw_X7_get vw_X7_get cw_X7_get nw_RX7 pp_X7_get (Nat.le_of_ble_eq_true rfl) dX10_weigh_85 rfl (NM_X7_get (sh_0_0 _ hp_v1) h) (fun r_7 m_8 h hB => ?_)
        refine z_i2l (nx := 89) G dX10_weigh_88 rfl (z_ldc2 (nx := 92) (z := 10000) G (R64c rfl) rfl kl_RX10_58 dX10_weigh_89 rfl (z_lmul (nx := 93) G dX10_weigh_92 rfl (z_ladd (nx := 94) G dX10_weigh_93 rfl ?_)))
        refine b_lstore_n (nx := 95) (a := 3) (loc2 := fun v3_9 => [(2, v0), (2, v1), (0, v2), (1, v3_9), (9, 0), (0, v5), (0, r_2)]) G (fun _ => rfl) (Nat.le_of_ble_eq_true rfl) (am_pl1 rfl (fun h => nomatch h)) (am_nx9 rfl rfl) dX10_weigh_94 rfl (fun v3_9 e_v3_9 => ?_)
        have h := h v3_9 e_v3_9
        exact b_fewer (loc2 := [(2, v0), (2, v1), (0, v2), (1, v3_9), (9, 0), (0, v5), (9, 0)]) (am_lk (am_lk (am_lk (am_lk (am_lk (am_lk (am_lf am_ln))))))) (S_X10_weigh_J1 X hp_v0 hp_v1 hC5 hB h)
    · have h := h.2 c
      refine z_aload_n (nx := 35) (a := 0) G rfl (Or.inl rfl) dX10_weigh_34 rfl (b_getA (nx := 38) (k0 := 0) G hB fl_RX10_9 (Nat.le_of_ble_eq_true rfl) (Nat.le_of_ble_eq_true rfl) rfl hp_v0 dX10_weigh_35 rfl (z_iload (nx := 40) (a := 6) G rfl dX10_weigh_38 rfl (z_bipush (nx := 42) (z := 10) G (R32c rfl) rfl dX10_weigh_40 rfl (z_isub (nx := 43) G dX10_weigh_42 rfl ?_))))
      obtain ⟨hb, h⟩ := h
      refine z_lald (nx := 44) G (sh_10_0 _ hp_v0) hb.1 hb.2 dX10_weigh_43 rfl ?_
      refine z_ldc2 (nx := 47) (z := (-1)) G (R64c rfl) rfl kl_RX10_22 dX10_weigh_44 rfl (z_lcmp (nx := 48) G dX10_weigh_47 rfl ?_)
      refine z_if_ne (nx := 51) (tgt := 55) G dX10_weigh_48 (by decide) rfl (fun c => ?_) (fun c => ?_)
      · have h := h.1 c
        refine z_lload_n (nx := 56) (a := 3) G rfl dX10_weigh_55 rfl (z_aload_n (nx := 57) (a := 0) G rfl (Or.inl rfl) dX10_weigh_56 rfl (b_getA (nx := 60) (k0 := 0) G hB fl_RX10_9 (Nat.le_of_ble_eq_true rfl) (Nat.le_of_ble_eq_true rfl) rfl hp_v0 dX10_weigh_57 rfl (z_iload (nx := 62) (a := 6) G rfl dX10_weigh_60 rfl (z_bipush (nx := 64) (z := 10) G (R32c rfl) rfl dX10_weigh_62 rfl (z_isub (nx := 65) G dX10_weigh_64 rfl ?_)))))
        obtain ⟨hb, h⟩ := h
        refine z_lald (nx := 66) G (sh_10_0 _ hp_v0) hb.1 hb.2 dX10_weigh_65 rfl ?_
        refine z_ladd (nx := 67) G dX10_weigh_66 rfl ?_
        refine b_lstore_n (nx := 68) (a := 3) (loc2 := fun v3_10 => [(2, v0), (2, v1), (0, v2), (1, v3_10), (9, 0), (0, v5), (0, r_2)]) G (fun _ => rfl) (Nat.le_of_ble_eq_true rfl) (am_pl1 rfl (fun h => nomatch h)) (am_nx9 rfl rfl) dX10_weigh_67 rfl (fun v3_10 e_v3_10 => ?_)
        have h := h v3_10 e_v3_10
        refine z_goto (tgt := 95) G dX10_weigh_68 (by decide) ?_
        exact b_fewer (loc2 := [(2, v0), (2, v1), (0, v2), (1, v3_10), (9, 0), (0, v5), (9, 0)]) (am_lk (am_lk (am_lk (am_lk (am_lk (am_lk (am_lf am_ln))))))) (S_X10_weigh_J1 X hp_v0 hp_v1 hC5 hB h)
      · have h := h.2 c
        refine z_ldc2 (nx := 54) (z := (-1)) G (R64c rfl) rfl kl_RX10_22 dX10_weigh_51 rfl ?_
        exact b_lreturn X hB dX10_weigh_54 h
theorem S_X10_weigh_L1 {F : am_F} {K : am_KK} {v0 : Int} {v1 : Int} {v2 : Int} {v3 : Int} {v5 : Int} {m : am_M} (X : am_Cx F cX10_weigh RX10 (some .long) 3 1 K) (hp_v0 : am_ob v0 10) (hp_v1 : am_ob v1 0) (hB : am_Bt m) (h : M_X10_weigh_L1 v0 v1 v2 v3 v5 K m) : am_Z F 5 [] [(2, v0), (2, v1), (0, v2), (1, v3), (9, 0), (0, v5), (9, 0)] m 200 := by
  obtain ⟨I, ⟨j, hj⟩, hI⟩ := h
  have key : ∀ j v3 v5 m, I j v3 v5 m → am_Bt m → am_Z F 5 [] [(2, v0), (2, v1), (0, v2), (1, v3), (9, 0), (0, v5), (9, 0)] m 200 := by
    intro j
    induction j using Nat.strongRecOn with
    | ind j ih =>
      intro v3 v5 m hj hB
      exact S_X10_weigh_L1B X hp_v0 hp_v1 (fun v3' v5' m' hc hB' => by
        obtain ⟨j', g1, g2⟩ := hc
        exact ih j' g1 v3' v5' m' g2 hB') hB (hI j v3 v5 m hj)
  exact key j _ _ _ hj hB
set_option maxRecDepth 20000 in
set_option maxHeartbeats 4000000 in
theorem S_X10_weigh {F : am_F} {K : am_KK} {v0 : Int} {v1 : Int} {v2 : Int} {m : am_M} (X : am_Cx F cX10_weigh RX10 (some .long) 3 1 K) (hp_v0 : am_ob v0 10) (hp_v1 : am_ob v1 0) (hB : am_Bt m) (h : M_X10_weigh v0 v1 v2 K m) : am_Z F 0 [] [(2, v0), (2, v1), (0, v2), (9, 0), (9, 0), (9, 0), (9, 0)] m 200 := by
  have G := X.G
  unfold M_X10_weigh at h
  refine z_lconst (nx := 1) (z := 1) G (R64c rfl) rfl dX10_weigh_0 rfl (b_lstoreE_n (nx := 2) (a := 3) (loc2 := [(2, v0), (2, v1), (0, v2), (1, 1), (9, 0), (9, 0), (9, 0)]) G rfl (Nat.le_of_ble_eq_true rfl) (am_pl1 rfl (fun h => nomatch h)) (am_nx9 rfl rfl) dX10_weigh_1 rfl (z_iconst (nx := 3) (z := 1) G (R32c rfl) dX10_weigh_2 rfl (b_storeE (nx := 5) (a := 5) (loc2 := [(2, v0), (2, v1), (0, v2), (1, 1), (9, 0), (0, 1), (9, 0)]) G rfl (Nat.le_of_ble_eq_true rfl) (am_pl1 rfl (fun h => nomatch h)) dX10_weigh_3 rfl ?_)))
  exact b_fewer (loc2 := [(2, v0), (2, v1), (0, v2), (1, 1), (9, 0), (0, 1), (9, 0)]) (am_lk (am_lk (am_lk (am_lk (am_lk (am_lk (am_lk am_ln))))))) (S_X10_weigh_L1 X hp_v0 hp_v1 hB h)
theorem NM_X10_weigh {v0 : Int} {v1 : Int} {v2 : Int} {K : am_KK} {m : am_M} (hp_v0 : am_ob v0 10) (hp_v1 : am_ob v1 0) (h : M_X10_weigh v0 v1 v2 K m) : N_X10_weigh [v0, v1, v2] K m := ⟨hp_v0, hp_v1, h⟩
theorem SS_X10_weigh : am_Snd yX10_weigh cX10_weigh 7 (some .long) 0 3 (am_L [2, 2, 0] 1 N_X10_weigh) := by
  refine am_SB (by decide +kernel) (Nat.le_of_ble_eq_true rfl) (fun F zs as K m X ht hB hM => ?_)
  obtain ⟨v0, zs, as, rfl, rfl, hz0, ht⟩ := am_inv ht
  obtain ⟨v1, zs, as, rfl, rfl, hz1, ht⟩ := am_inv ht
  obtain ⟨v2, zs, as, rfl, rfl, hz2, ht⟩ := am_inv ht
  obtain ⟨rfl, rfl⟩ := am_inv0 ht
  obtain ⟨hp_v0, hp_v1, hM⟩ := hM
  exact S_X10_weigh X hp_v0 hp_v1 hB hM
set_option maxRecDepth 20000 in
set_option maxHeartbeats 4000000 in
theorem S_X10_improve_J1 {F : am_F} {K : am_KK} {v0 : Int} {v3 : Int} {v4 : Int} {m : am_M} (X : am_Cx F cX10_improve RX10 none 4 9 K) (hp_v0 : am_ob v0 10) (hB : am_Bt m) (h : M_X10_improve_J1 v0 v3 v4 K m) : am_Z F 59 [] [(2, v0), (9, 0), (9, 0), (0, v3), (1, v4), (9, 0)] m 200 := by
  have G := X.G
  unfold M_X10_improve_J1 at h
  refine z_aload_n (nx := 60) (a := 0) G rfl (Or.inl rfl) dX10_improve_59 rfl (b_getA (nx := 63) (k0 := 0) G hB fl_RX10_9 (Nat.le_of_ble_eq_true rfl) (Nat.le_of_ble_eq_true rfl) rfl hp_v0 dX10_improve_60 rfl (z_iload_n (nx := 64) (a := 3) G rfl dX10_improve_63 rfl (z_lload (nx := 66) (a := 4) G rfl dX10_improve_64 rfl ?_)))
  obtain ⟨hb, h⟩ := h
  refine b_last (nx := 67) G hB (sh_10_0 _ hp_v0) hb.1 hb.2 dX10_improve_66 rfl (fun m_1 e_m_1 hB => ?_)
  have h := h m_1 e_m_1
  exact b_return X hB dX10_improve_67 h
set_option maxRecDepth 20000 in
set_option maxHeartbeats 4000000 in
theorem S_X10_improve {F : am_F} {K : am_KK} {v0 : Int} {v1 : Int} {v2 : Int} {m : am_M} (X : am_Cx F cX10_improve RX10 none 4 9 K) (hp_v0 : am_ob v0 10) (hp_v1 : am_ob v1 0) (hB : am_Bt m) (h : M_X10_improve v0 v1 v2 K m) : am_Z F 0 [] [(2, v0), (2, v1), (0, v2), (9, 0), (9, 0), (9, 0)] m 200 := by
  have G := X.G
  unfold M_X10_improve at h
  refine z_aload_n (nx := 1) (a := 1) G rfl (Or.inl rfl) dX10_improve_0 rfl (b_getA (nx := 4) (k0 := 1) G hB fl_RX10_24 (Nat.le_of_ble_eq_true rfl) (Nat.le_of_ble_eq_true rfl) rfl hp_v1 dX10_improve_1 rfl (z_iload_n (nx := 5) (a := 2) G rfl dX10_improve_4 rfl (z_iconst (nx := 6) (z := 0) G (R32c rfl) dX10_improve_5 rfl ?_)))
  refine b_callV0 (nx := 9) (zs := [am_rfv v1 1, v2, 0]) (as := [(0, v2), (0, 0)]) X hB (by decide) rfl (sh_0_1 _ hp_v1) SS_X7_get (am_ta (am_ti (am_ti am_tn))) (Nat.le_of_ble_eq_true rfl) (Nat.le_of_ble_eq_true rfl) ml_RX10_40 iw_X7_get vw_X7_get cw_X7_get nw_RX7 pp_X7_get (Nat.le_of_ble_eq_true rfl) dX10_improve_6 rfl (NM_X7_get (sh_0_1 _ hp_v1) h) (fun r_2 m_3 h hB => ?_)
  refine b_storeE_n (nx := 10) (a := 3) (loc2 := [(2, v0), (2, v1), (0, v2), (0, r_2), (9, 0), (9, 0)]) G rfl (Nat.le_of_ble_eq_true rfl) (am_pl1 rfl (fun h => nomatch h)) dX10_improve_9 rfl (z_aload_n (nx := 11) (a := 0) G rfl (Or.inl rfl) dX10_improve_10 rfl (z_aload_n (nx := 12) (a := 1) G rfl (Or.inl rfl) dX10_improve_11 rfl (z_iload_n (nx := 13) (a := 2) G rfl dX10_improve_12 rfl ?_)))
  refine b_callV1 (nx := 16) (zs := [v0, v1, v2]) (as := [(2, v1), (0, v2)]) X hB (by decide) rfl hp_v0 SS_X10_weigh (am_ta (am_ta (am_ti am_tn))) (Nat.le_of_ble_eq_true rfl) (Nat.le_of_ble_eq_true rfl) ml_RX10_48 iw_X10_weigh vw_X10_weigh cw_X10_weigh nw_RX10 pp_X10_weigh (Nat.le_of_ble_eq_true rfl) dX10_improve_13 rfl (NM_X10_weigh hp_v0 hp_v1 h) (fun r_4 m_5 h hB => ?_)
  refine b_lstoreE (nx := 18) (a := 4) (loc2 := [(2, v0), (2, v1), (0, v2), (0, r_2), (1, r_4), (9, 0)]) G rfl (Nat.le_of_ble_eq_true rfl) (am_pl1 rfl (fun h => nomatch h)) (am_nx9 rfl rfl) dX10_improve_16 rfl (z_iload_n (nx := 19) (a := 3) G rfl dX10_improve_18 rfl ?_)
  refine b_callSN5 (nx := 22) (zs := [r_2]) (as := [(0, r_2)]) X hB SS_X11_isThing (am_ti am_tn) (Nat.le_of_ble_eq_true rfl) (Nat.le_of_ble_eq_true rfl) mn_RX10_44 sw_X11_isThing (am_plainC 11 (by decide)) cw_X11_isThing nw_RX11 pp_X11_isThing (Nat.le_of_ble_eq_true rfl) dX10_improve_19 rfl (NM_X11_isThing h) (fun r_6 m_7 h h01_8 hB => ?_)
  refine z_if_eq (nx := 25) (tgt := 67) G dX10_improve_22 (by decide) rfl (fun c => ?_) (fun c => ?_)
  · have h := h.1 c
    exact b_return X hB dX10_improve_67 h
  · have h := h.2 c
    refine z_lload (nx := 27) (a := 4) G rfl dX10_improve_25 rfl (z_ldc2 (nx := 30) (z := (-1)) G (R64c rfl) rfl kl_RX10_22 dX10_improve_27 rfl (z_lcmp (nx := 31) G dX10_improve_30 rfl ?_))
    refine z_if_eq (nx := 34) (tgt := 67) G dX10_improve_31 (by decide) rfl (fun c => ?_) (fun c => ?_)
    · have h := h.1 c
      exact b_return X hB dX10_improve_67 h
    · have h := h.2 c
      refine z_aload_n (nx := 35) (a := 0) G rfl (Or.inl rfl) dX10_improve_34 rfl (b_getA (nx := 38) (k0 := 0) G hB fl_RX10_9 (Nat.le_of_ble_eq_true rfl) (Nat.le_of_ble_eq_true rfl) rfl hp_v0 dX10_improve_35 rfl (z_iload_n (nx := 39) (a := 3) G rfl dX10_improve_38 rfl ?_))
      obtain ⟨hb, h⟩ := h
      refine z_lald (nx := 40) G (sh_10_0 _ hp_v0) hb.1 hb.2 dX10_improve_39 rfl ?_
      refine z_ldc2 (nx := 43) (z := (-1)) G (R64c rfl) rfl kl_RX10_22 dX10_improve_40 rfl (z_lcmp (nx := 44) G dX10_improve_43 rfl ?_)
      refine z_if_eq (nx := 47) (tgt := 59) G dX10_improve_44 (by decide) rfl (fun c => ?_) (fun c => ?_)
      · have h := h.1 c
        exact b_fewer (loc2 := [(2, v0), (9, 0), (9, 0), (0, r_2), (1, r_4), (9, 0)]) (am_lk (am_lf (am_lf (am_lk (am_lk (am_lk am_ln)))))) (S_X10_improve_J1 X hp_v0 hB h)
      · have h := h.2 c
        refine z_lload (nx := 49) (a := 4) G rfl dX10_improve_47 rfl (z_aload_n (nx := 50) (a := 0) G rfl (Or.inl rfl) dX10_improve_49 rfl (b_getA (nx := 53) (k0 := 0) G hB fl_RX10_9 (Nat.le_of_ble_eq_true rfl) (Nat.le_of_ble_eq_true rfl) rfl hp_v0 dX10_improve_50 rfl (z_iload_n (nx := 54) (a := 3) G rfl dX10_improve_53 rfl ?_)))
        obtain ⟨hb, h⟩ := h
        refine z_lald (nx := 55) G (sh_10_0 _ hp_v0) hb.1 hb.2 dX10_improve_54 rfl ?_
        refine z_lcmp (nx := 56) G dX10_improve_55 rfl ?_
        refine z_if_ge (nx := 59) (tgt := 67) G dX10_improve_56 (by decide) rfl (fun c => ?_) (fun c => ?_)
        · have h := h.1 c
          exact b_return X hB dX10_improve_67 h
        · have h := h.2 c
          exact b_fewer (loc2 := [(2, v0), (9, 0), (9, 0), (0, r_2), (1, r_4), (9, 0)]) (am_lk (am_lf (am_lf (am_lk (am_lk (am_lk am_ln)))))) (S_X10_improve_J1 X hp_v0 hB h)
theorem NM_X10_improve {v0 : Int} {v1 : Int} {v2 : Int} {K : am_KK} {m : am_M} (hp_v0 : am_ob v0 10) (hp_v1 : am_ob v1 0) (h : M_X10_improve v0 v1 v2 K m) : N_X10_improve [v0, v1, v2] K m := ⟨hp_v0, hp_v1, h⟩
theorem SS_X10_improve : am_Snd yX10_improve cX10_improve 6 none 0 4 (am_L [2, 2, 0] 9 N_X10_improve) := by
  refine am_SB (by decide +kernel) (Nat.le_of_ble_eq_true rfl) (fun F zs as K m X ht hB hM => ?_)
  obtain ⟨v0, zs, as, rfl, rfl, hz0, ht⟩ := am_inv ht
  obtain ⟨v1, zs, as, rfl, rfl, hz1, ht⟩ := am_inv ht
  obtain ⟨v2, zs, as, rfl, rfl, hz2, ht⟩ := am_inv ht
  obtain ⟨rfl, rfl⟩ := am_inv0 ht
  obtain ⟨hp_v0, hp_v1, hM⟩ := hM
  exact S_X10_improve X hp_v0 hp_v1 hB hM
set_option maxRecDepth 20000 in
set_option maxHeartbeats 4000000 in
theorem S_X10_wordsIn {F : am_F} {K : am_KK} {v0 : Int} {v1 : Int} {m : am_M} (X : am_Cx F cX10_wordsIn RX10 (some .int) 3 0 K) (hp_v0 : am_ob v0 10) (hB : am_Bt m) (h : M_X10_wordsIn v0 v1 K m) : am_Z F 0 [] [(2, v0), (0, v1)] m 200 := by
  have G := X.G
  unfold M_X10_wordsIn at h
  refine z_iload_n (nx := 1) (a := 1) G rfl dX10_wordsIn_0 rfl (z_iconst (nx := 2) (z := (-1)) G (R32c rfl) dX10_wordsIn_1 rfl ?_)
  refine z_icmp_ne (nx := 5) (tgt := 7) G dX10_wordsIn_2 (by decide) rfl (fun c => ?_) (fun c => ?_)
  · have h := h.1 c
    refine z_iload_n (nx := 8) (a := 1) G rfl dX10_wordsIn_7 rfl (z_bipush (nx := 10) (z := 10) G (R32c rfl) rfl dX10_wordsIn_8 rfl (z_isub (nx := 11) G dX10_wordsIn_10 rfl ?_))
    refine b_callSN5 (nx := 14) (zs := [w32 (v1 - 10)]) (as := [(0, w32 (v1 - 10))]) X hB SS_X11_isThing (am_ti am_tn) (Nat.le_of_ble_eq_true rfl) (Nat.le_of_ble_eq_true rfl) mn_RX10_44 sw_X11_isThing (am_plainC 11 (by decide)) cw_X11_isThing nw_RX11 pp_X11_isThing (Nat.le_of_ble_eq_true rfl) dX10_wordsIn_11 rfl (NM_X11_isThing h) (fun r_1 m_2 h h01_3 hB => ?_)
    refine z_if_eq (nx := 17) (tgt := 29) G dX10_wordsIn_14 (by decide) rfl (fun c => ?_) (fun c => ?_)
    · have h := h.1 c
      refine z_iconst (nx := 30) (z := 1) G (R32c rfl) dX10_wordsIn_29 rfl ?_
      exact b_ireturn X hB dX10_wordsIn_30 h
    · have h := h.2 c
      refine z_aload_n (nx := 18) (a := 0) G rfl (Or.inl rfl) dX10_wordsIn_17 rfl (b_getA (nx := 21) (k0 := 2) G hB fl_RX10_19 (Nat.le_of_ble_eq_true rfl) (Nat.le_of_ble_eq_true rfl) rfl hp_v0 dX10_wordsIn_18 rfl (z_iload_n (nx := 22) (a := 1) G rfl dX10_wordsIn_21 rfl (z_bipush (nx := 24) (z := 10) G (R32c rfl) rfl dX10_wordsIn_22 rfl (z_isub (nx := 25) G dX10_wordsIn_24 rfl ?_))))
      obtain ⟨hb, h⟩ := h
      refine z_iald (nx := 26) G (sh_10_2 _ hp_v0) hb.1 hb.2 dX10_wordsIn_25 rfl ?_
      refine z_goto (tgt := 30) G dX10_wordsIn_26 (by decide) ?_
      exact b_ireturn X hB dX10_wordsIn_30 h
  · have h := h.2 c
    refine z_iconst (nx := 6) (z := 0) G (R32c rfl) dX10_wordsIn_5 rfl ?_
    exact b_ireturn X hB dX10_wordsIn_6 h
theorem NM_X10_wordsIn {v0 : Int} {v1 : Int} {K : am_KK} {m : am_M} (hp_v0 : am_ob v0 10) (h : M_X10_wordsIn v0 v1 K m) : N_X10_wordsIn [v0, v1] K m := ⟨hp_v0, h⟩
theorem SS_X10_wordsIn : am_Snd yX10_wordsIn cX10_wordsIn 2 (some .int) 0 3 (am_L [2, 0] 0 N_X10_wordsIn) := by
  refine am_SB (by decide +kernel) (Nat.le_of_ble_eq_true rfl) (fun F zs as K m X ht hB hM => ?_)
  obtain ⟨v0, zs, as, rfl, rfl, hz0, ht⟩ := am_inv ht
  obtain ⟨v1, zs, as, rfl, rfl, hz1, ht⟩ := am_inv ht
  obtain ⟨rfl, rfl⟩ := am_inv0 ht
  obtain ⟨hp_v0, hM⟩ := hM
  exact S_X10_wordsIn X hp_v0 hB hM
set_option maxRecDepth 20000 in
set_option maxHeartbeats 4000000 in
theorem S_X10_countWords_L1B {F : am_F} {K : am_KK} {v0 : Int} {v1 : Int} {v2 : Int} {v3 : Int} {v4 : Int} {C5 : Int → Int → am_M → Prop} {m : am_M} (X : am_Cx F cX10_countWords RX10 (some .int) 4 0 K) (hp_v0 : am_ob v0 10) (hp_v1 : am_ob v1 0) (hC5 : ∀ w3 w4 m, C5 w3 w4 m → am_Bt m → am_Z F 5 [] [(2, v0), (2, v1), (0, v2), (0, w3), (0, w4)] m 200) (hB : am_Bt m) (h : M_X10_countWords_L1B v0 v1 v2 v3 v4 C5 K m) : am_Z F 5 [] [(2, v0), (2, v1), (0, v2), (0, v3), (0, v4)] m 200 := by
  have G := X.G
  unfold M_X10_countWords_L1B at h
  refine z_iload (nx := 7) (a := 4) G rfl dX10_countWords_5 rfl (z_iconst (nx := 8) (z := 3) G (R32c rfl) dX10_countWords_7 rfl ?_)
  refine z_icmp_gt (nx := 11) (tgt := 34) G dX10_countWords_8 (by decide) rfl (fun c => ?_) (fun c => ?_)
  · have h := h.1 c
    refine z_iload_n (nx := 35) (a := 3) G rfl dX10_countWords_34 rfl ?_
    exact b_ireturn X hB dX10_countWords_35 h
  · have h := h.2 c
    refine z_iload_n (nx := 12) (a := 3) G rfl dX10_countWords_11 rfl (z_aload_n (nx := 13) (a := 0) G rfl (Or.inl rfl) dX10_countWords_12 rfl (z_aload_n (nx := 14) (a := 1) G rfl (Or.inl rfl) dX10_countWords_13 rfl (b_getA (nx := 17) (k0 := 1) G hB fl_RX10_24 (Nat.le_of_ble_eq_true rfl) (Nat.le_of_ble_eq_true rfl) rfl hp_v1 dX10_countWords_14 rfl (z_iload_n (nx := 18) (a := 2) G rfl dX10_countWords_17 rfl (z_iload (nx := 20) (a := 4) G rfl dX10_countWords_18 rfl ?_)))))
    refine b_callV0 (nx := 23) (zs := [am_rfv v1 1, v2, v4]) (as := [(0, v2), (0, v4)]) X hB (by decide) rfl (sh_0_1 _ hp_v1) SS_X7_get (am_ta (am_ti (am_ti am_tn))) (Nat.le_of_ble_eq_true rfl) (Nat.le_of_ble_eq_true rfl) ml_RX10_40 iw_X7_get vw_X7_get cw_X7_get nw_RX7 pp_X7_get (Nat.le_of_ble_eq_true rfl) dX10_countWords_20 rfl (NM_X7_get (sh_0_1 _ hp_v1) h) (fun r_1 m_2 h hB => ?_)
    refine b_callV0 (nx := 26) (zs := [v0, r_1]) (as := [(0, r_1)]) X hB (by decide) rfl hp_v0 SS_X10_wordsIn (am_ta (am_ti am_tn)) (Nat.le_of_ble_eq_true rfl) (Nat.le_of_ble_eq_true rfl) ml_RX10_60 iw_X10_wordsIn vw_X10_wordsIn cw_X10_wordsIn nw_RX10 pp_X10_wordsIn (Nat.le_of_ble_eq_true rfl) dX10_countWords_23 rfl (NM_X10_wordsIn hp_v0 h) (fun r_3 m_4 h hB => ?_)
    refine z_iadd (nx := 27) G dX10_countWords_26 rfl ?_
    refine b_store_n (nx := 28) (a := 3) (loc2 := fun v3_5 => [(2, v0), (2, v1), (0, v2), (0, v3_5), (0, v4)]) G (fun _ => rfl) (Nat.le_of_ble_eq_true rfl) (am_pl1 rfl (fun h => nomatch h)) dX10_countWords_27 rfl (fun v3_5 e_v3_5 => ?_)
    have h := h v3_5 e_v3_5
    refine b_iinc (nx := 31) (a := 4) (loc2 := fun v4_6 => [(2, v0), (2, v1), (0, v2), (0, v3_5), (0, v4_6)]) G (fun _ => rfl) rfl (am_pl1 rfl (fun h => nomatch h)) dX10_countWords_28 rfl (fun v4_6 e_v4_6 => ?_)
    have h := h v4_6 e_v4_6
    refine z_goto (tgt := 5) G dX10_countWords_31 (by decide) ?_
    exact b_fewer (loc2 := [(2, v0), (2, v1), (0, v2), (0, v3_5), (0, v4_6)]) (am_lk (am_lk (am_lk (am_lk (am_lk am_ln))))) (hC5 _ _ _ h hB)
theorem S_X10_countWords_L1 {F : am_F} {K : am_KK} {v0 : Int} {v1 : Int} {v2 : Int} {v3 : Int} {v4 : Int} {m : am_M} (X : am_Cx F cX10_countWords RX10 (some .int) 4 0 K) (hp_v0 : am_ob v0 10) (hp_v1 : am_ob v1 0) (hB : am_Bt m) (h : M_X10_countWords_L1 v0 v1 v2 v3 v4 K m) : am_Z F 5 [] [(2, v0), (2, v1), (0, v2), (0, v3), (0, v4)] m 200 := by
  obtain ⟨I, ⟨j, hj⟩, hI⟩ := h
  have key : ∀ j v3 v4 m, I j v3 v4 m → am_Bt m → am_Z F 5 [] [(2, v0), (2, v1), (0, v2), (0, v3), (0, v4)] m 200 := by
    intro j
    induction j using Nat.strongRecOn with
    | ind j ih =>
      intro v3 v4 m hj hB
      exact S_X10_countWords_L1B X hp_v0 hp_v1 (fun v3' v4' m' hc hB' => by
        obtain ⟨j', g1, g2⟩ := hc
        exact ih j' g1 v3' v4' m' g2 hB') hB (hI j v3 v4 m hj)
  exact key j _ _ _ hj hB
set_option maxRecDepth 20000 in
set_option maxHeartbeats 4000000 in
theorem S_X10_countWords {F : am_F} {K : am_KK} {v0 : Int} {v1 : Int} {v2 : Int} {m : am_M} (X : am_Cx F cX10_countWords RX10 (some .int) 4 0 K) (hp_v0 : am_ob v0 10) (hp_v1 : am_ob v1 0) (hB : am_Bt m) (h : M_X10_countWords v0 v1 v2 K m) : am_Z F 0 [] [(2, v0), (2, v1), (0, v2), (9, 0), (9, 0)] m 200 := by
  have G := X.G
  unfold M_X10_countWords at h
  refine z_iconst (nx := 1) (z := 0) G (R32c rfl) dX10_countWords_0 rfl (b_storeE_n (nx := 2) (a := 3) (loc2 := [(2, v0), (2, v1), (0, v2), (0, 0), (9, 0)]) G rfl (Nat.le_of_ble_eq_true rfl) (am_pl1 rfl (fun h => nomatch h)) dX10_countWords_1 rfl (z_iconst (nx := 3) (z := 1) G (R32c rfl) dX10_countWords_2 rfl (b_storeE (nx := 5) (a := 4) (loc2 := [(2, v0), (2, v1), (0, v2), (0, 0), (0, 1)]) G rfl (Nat.le_of_ble_eq_true rfl) (am_pl1 rfl (fun h => nomatch h)) dX10_countWords_3 rfl ?_)))
  exact b_fewer (loc2 := [(2, v0), (2, v1), (0, v2), (0, 0), (0, 1)]) (am_lk (am_lk (am_lk (am_lk (am_lk am_ln))))) (S_X10_countWords_L1 X hp_v0 hp_v1 hB h)
theorem NM_X10_countWords {v0 : Int} {v1 : Int} {v2 : Int} {K : am_KK} {m : am_M} (hp_v0 : am_ob v0 10) (hp_v1 : am_ob v1 0) (h : M_X10_countWords v0 v1 v2 K m) : N_X10_countWords [v0, v1, v2] K m := ⟨hp_v0, hp_v1, h⟩
theorem SS_X10_countWords : am_Snd yX10_countWords cX10_countWords 5 (some .int) 0 4 (am_L [2, 2, 0] 0 N_X10_countWords) := by
  refine am_SB (by decide +kernel) (Nat.le_of_ble_eq_true rfl) (fun F zs as K m X ht hB hM => ?_)
  obtain ⟨v0, zs, as, rfl, rfl, hz0, ht⟩ := am_inv ht
  obtain ⟨v1, zs, as, rfl, rfl, hz1, ht⟩ := am_inv ht
  obtain ⟨v2, zs, as, rfl, rfl, hz2, ht⟩ := am_inv ht
  obtain ⟨rfl, rfl⟩ := am_inv0 ht
  obtain ⟨hp_v0, hp_v1, hM⟩ := hM
  exact S_X10_countWords X hp_v0 hp_v1 hB hM
set_option maxRecDepth 20000 in
set_option maxHeartbeats 4000000 in
theorem S_X10_find_L6B {F : am_F} {K : am_KK} {v0 : Int} {v1 : Int} {v2 : Int} {v3 : Int} {C159 : Int → am_M → Prop} {C151 : Int → am_M → Prop} {m : am_M} (X : am_Cx F cX10_find RX10 none 5 9 K) (hp_v0 : am_ob v0 10) (hp_v1 : am_ob v1 0) (hC159 : ∀ w3 m, C159 w3 m → am_Bt m → am_Z F 159 [] [(2, v0), (2, v1), (0, v2), (0, w3)] m 200) (hC151 : ∀ w2 m, C151 w2 m → am_Bt m → am_Z F 151 [] [(2, v0), (2, v1), (0, w2), (9, 0)] m 200) (hB : am_Bt m) (h : M_X10_find_L6B v0 v1 v2 v3 C159 C151 K m) : am_Z F 159 [] [(2, v0), (2, v1), (0, v2), (0, v3)] m 200 := by
  have G := X.G
  unfold M_X10_find_L6B at h
  refine z_iload_n (nx := 160) (a := 3) G rfl dX10_find_159 rfl (z_bipush (nx := 162) (z := 8) G (R32c rfl) rfl dX10_find_160 rfl ?_)
  refine z_icmp_ge (nx := 165) (tgt := 188) G dX10_find_162 (by decide) rfl (fun c => ?_) (fun c => ?_)
  · have h := h.1 c
    refine b_iinc (nx := 191) (a := 2) (loc2 := fun v2_1 => [(2, v0), (2, v1), (0, v2_1), (0, v3)]) G (fun _ => rfl) rfl (am_pl1 rfl (fun h => nomatch h)) dX10_find_188 rfl (fun v2_1 e_v2_1 => ?_)
    have h := h v2_1 e_v2_1
    refine z_goto (tgt := 151) G dX10_find_191 (by decide) ?_
    exact b_fewer (loc2 := [(2, v0), (2, v1), (0, v2_1), (9, 0)]) (am_lk (am_lk (am_lk (am_lf am_ln)))) (hC151 _ _ h hB)
  · have h := h.2 c
    refine z_aload_n (nx := 166) (a := 0) G rfl (Or.inl rfl) dX10_find_165 rfl (b_getA (nx := 169) (k0 := 2) G hB fl_RX10_19 (Nat.le_of_ble_eq_true rfl) (Nat.le_of_ble_eq_true rfl) rfl hp_v0 dX10_find_166 rfl (z_iload_n (nx := 170) (a := 3) G rfl dX10_find_169 rfl (z_aload_n (nx := 171) (a := 0) G rfl (Or.inl rfl) dX10_find_170 rfl (z_aload_n (nx := 172) (a := 1) G rfl (Or.inl rfl) dX10_find_171 rfl (z_aload_n (nx := 173) (a := 0) G rfl (Or.inl rfl) dX10_find_172 rfl (b_getA (nx := 176) (k0 := 1) G hB fl_RX10_15 (Nat.le_of_ble_eq_true rfl) (Nat.le_of_ble_eq_true rfl) rfl hp_v0 dX10_find_173 rfl (z_iload_n (nx := 177) (a := 3) G rfl dX10_find_176 rfl ?_)))))))
    obtain ⟨hb, h⟩ := h
    refine z_iald (nx := 178) G (sh_10_1 _ hp_v0) hb.1 hb.2 dX10_find_177 rfl ?_
    refine b_callV0 (nx := 181) (zs := [v0, v1, m (am_rfv v0 1) v3]) (as := [(2, v1), (0, m (am_rfv v0 1) v3)]) X hB (by decide) rfl hp_v0 SS_X10_countWords (am_ta (am_ta (am_ti am_tn))) (Nat.le_of_ble_eq_true rfl) (Nat.le_of_ble_eq_true rfl) ml_RX10_52 iw_X10_countWords vw_X10_countWords cw_X10_countWords nw_RX10 pp_X10_countWords (Nat.le_of_ble_eq_true rfl) dX10_find_178 rfl (NM_X10_countWords hp_v0 hp_v1 h) (fun r_2 m_3 h hB => ?_)
    obtain ⟨hb, h⟩ := h
    refine b_iast (nx := 182) G hB (sh_10_2 _ hp_v0) hb.1 hb.2 dX10_find_181 rfl (fun m_4 e_m_4 hB => ?_)
    have h := h m_4 e_m_4
    refine b_iinc (nx := 185) (a := 3) (loc2 := fun v3_5 => [(2, v0), (2, v1), (0, v2), (0, v3_5)]) G (fun _ => rfl) rfl (am_pl1 rfl (fun h => nomatch h)) dX10_find_182 rfl (fun v3_5 e_v3_5 => ?_)
    have h := h v3_5 e_v3_5
    refine z_goto (tgt := 159) G dX10_find_185 (by decide) ?_
    exact b_fewer (loc2 := [(2, v0), (2, v1), (0, v2), (0, v3_5)]) (am_lk (am_lk (am_lk (am_lk am_ln)))) (hC159 _ _ h hB)
theorem S_X10_find_L6 {F : am_F} {K : am_KK} {v0 : Int} {v1 : Int} {v2 : Int} {v3 : Int} {C151 : Int → am_M → Prop} {m : am_M} (X : am_Cx F cX10_find RX10 none 5 9 K) (hp_v0 : am_ob v0 10) (hp_v1 : am_ob v1 0) (hC151 : ∀ w2 m, C151 w2 m → am_Bt m → am_Z F 151 [] [(2, v0), (2, v1), (0, w2), (9, 0)] m 200) (hB : am_Bt m) (h : M_X10_find_L6 v0 v1 v2 v3 C151 K m) : am_Z F 159 [] [(2, v0), (2, v1), (0, v2), (0, v3)] m 200 := by
  obtain ⟨I, ⟨j, hj⟩, hI⟩ := h
  have key : ∀ j v3 m, I j v3 m → am_Bt m → am_Z F 159 [] [(2, v0), (2, v1), (0, v2), (0, v3)] m 200 := by
    intro j
    induction j using Nat.strongRecOn with
    | ind j ih =>
      intro v3 m hj hB
      exact S_X10_find_L6B X hp_v0 hp_v1 (fun v3' m' hc hB' => by
        obtain ⟨j', g1, g2⟩ := hc
        exact ih j' g1 v3' m' g2 hB') hC151 hB (hI j v3 m hj)
  exact key j _ _ hj hB
set_option maxRecDepth 20000 in
set_option maxHeartbeats 4000000 in
theorem S_X10_find_L5B {F : am_F} {K : am_KK} {v0 : Int} {v1 : Int} {v2 : Int} {C151 : Int → am_M → Prop} {m : am_M} (X : am_Cx F cX10_find RX10 none 5 9 K) (hp_v0 : am_ob v0 10) (hp_v1 : am_ob v1 0) (hC151 : ∀ w2 m, C151 w2 m → am_Bt m → am_Z F 151 [] [(2, v0), (2, v1), (0, w2), (9, 0)] m 200) (hB : am_Bt m) (h : M_X10_find_L5B v0 v1 v2 C151 K m) : am_Z F 151 [] [(2, v0), (2, v1), (0, v2), (9, 0)] m 200 := by
  have G := X.G
  unfold M_X10_find_L5B at h
  refine z_iload_n (nx := 152) (a := 2) G rfl dX10_find_151 rfl (z_bipush (nx := 154) (z := 8) G (R32c rfl) rfl dX10_find_152 rfl ?_)
  refine z_icmp_ge (nx := 157) (tgt := 194) G dX10_find_154 (by decide) rfl (fun c => ?_) (fun c => ?_)
  · have h := h.1 c
    exact b_return X hB dX10_find_194 h
  · have h := h.2 c
    refine z_iconst (nx := 158) (z := 0) G (R32c rfl) dX10_find_157 rfl (b_storeE_n (nx := 159) (a := 3) (loc2 := [(2, v0), (2, v1), (0, v2), (0, 0)]) G rfl (Nat.le_of_ble_eq_true rfl) (am_pl1 rfl (fun h => nomatch h)) dX10_find_158 rfl ?_)
    exact b_fewer (loc2 := [(2, v0), (2, v1), (0, v2), (0, 0)]) (am_lk (am_lk (am_lk (am_lk am_ln)))) (S_X10_find_L6 X hp_v0 hp_v1 hC151 hB h)
theorem S_X10_find_L5 {F : am_F} {K : am_KK} {v0 : Int} {v1 : Int} {v2 : Int} {m : am_M} (X : am_Cx F cX10_find RX10 none 5 9 K) (hp_v0 : am_ob v0 10) (hp_v1 : am_ob v1 0) (hB : am_Bt m) (h : M_X10_find_L5 v0 v1 v2 K m) : am_Z F 151 [] [(2, v0), (2, v1), (0, v2), (9, 0)] m 200 := by
  obtain ⟨I, ⟨j, hj⟩, hI⟩ := h
  have key : ∀ j v2 m, I j v2 m → am_Bt m → am_Z F 151 [] [(2, v0), (2, v1), (0, v2), (9, 0)] m 200 := by
    intro j
    induction j using Nat.strongRecOn with
    | ind j ih =>
      intro v2 m hj hB
      exact S_X10_find_L5B X hp_v0 hp_v1 (fun v2' m' hc hB' => by
        obtain ⟨j', g1, g2⟩ := hc
        exact ih j' g1 v2' m' g2 hB') hB (hI j v2 m hj)
  exact key j _ _ hj hB
set_option maxRecDepth 20000 in
set_option maxHeartbeats 4000000 in
theorem S_X10_find_J1 {F : am_F} {K : am_KK} {v0 : Int} {v1 : Int} {v2 : Int} {C86 : Int → am_M → Prop} {m : am_M} (X : am_Cx F cX10_find RX10 none 5 9 K) (hp_v0 : am_ob v0 10) (hp_v1 : am_ob v1 0) (hC86 : ∀ w2 m, C86 w2 m → am_Bt m → am_Z F 86 [] [(2, v0), (2, v1), (0, w2), (9, 0)] m 200) (hB : am_Bt m) (h : M_X10_find_J1 v0 v1 v2 C86 K m) : am_Z F 143 [] [(2, v0), (2, v1), (0, v2), (9, 0)] m 200 := by
  have G := X.G
  unfold M_X10_find_J1 at h
  refine b_iinc (nx := 146) (a := 2) (loc2 := fun v2_6 => [(2, v0), (2, v1), (0, v2_6), (9, 0)]) G (fun _ => rfl) rfl (am_pl1 rfl (fun h => nomatch h)) dX10_find_143 rfl (fun v2_6 e_v2_6 => ?_)
  have h := h v2_6 e_v2_6
  refine z_goto (tgt := 86) G dX10_find_146 (by decide) ?_
  exact b_fewer (loc2 := [(2, v0), (2, v1), (0, v2_6), (9, 0)]) (am_lk (am_lk (am_lk (am_lk am_ln)))) (hC86 _ _ h hB)
set_option maxRecDepth 20000 in
set_option maxHeartbeats 4000000 in
theorem S_X10_find_L4B {F : am_F} {K : am_KK} {v0 : Int} {v1 : Int} {v2 : Int} {C86 : Int → am_M → Prop} {m : am_M} (X : am_Cx F cX10_find RX10 none 5 9 K) (hp_v0 : am_ob v0 10) (hp_v1 : am_ob v1 0) (hC86 : ∀ w2 m, C86 w2 m → am_Bt m → am_Z F 86 [] [(2, v0), (2, v1), (0, w2), (9, 0)] m 200) (hB : am_Bt m) (h : M_X10_find_L4B v0 v1 v2 C86 K m) : am_Z F 86 [] [(2, v0), (2, v1), (0, v2), (9, 0)] m 200 := by
  have G := X.G
  unfold M_X10_find_L4B at h
  refine z_iload_n (nx := 87) (a := 2) G rfl dX10_find_86 rfl ?_
  refine z_if_lt (nx := 90) (tgt := 149) G dX10_find_87 (by decide) rfl (fun c => ?_) (fun c => ?_)
  · have h := h.1 c
    refine z_iconst (nx := 150) (z := 0) G (R32c rfl) dX10_find_149 rfl (b_storeE_n (nx := 151) (a := 2) (loc2 := [(2, v0), (2, v1), (0, 0), (9, 0)]) G rfl (Nat.le_of_ble_eq_true rfl) (am_pl1 rfl (fun h => nomatch h)) dX10_find_150 rfl ?_)
    exact b_fewer (loc2 := [(2, v0), (2, v1), (0, 0), (9, 0)]) (am_lk (am_lk (am_lk (am_lk am_ln)))) (S_X10_find_L5 X hp_v0 hp_v1 hB h)
  · have h := h.2 c
    refine z_aload_n (nx := 91) (a := 1) G rfl (Or.inl rfl) dX10_find_90 rfl (b_getA (nx := 94) (k0 := 1) G hB fl_RX10_24 (Nat.le_of_ble_eq_true rfl) (Nat.le_of_ble_eq_true rfl) rfl hp_v1 dX10_find_91 rfl (z_iload_n (nx := 95) (a := 2) G rfl dX10_find_94 rfl (z_iconst (nx := 96) (z := 0) G (R32c rfl) dX10_find_95 rfl ?_)))
    refine b_callV0 (nx := 99) (zs := [am_rfv v1 1, v2, 0]) (as := [(0, v2), (0, 0)]) X hB (by decide) rfl (sh_0_1 _ hp_v1) SS_X7_get (am_ta (am_ti (am_ti am_tn))) (Nat.le_of_ble_eq_true rfl) (Nat.le_of_ble_eq_true rfl) ml_RX10_40 iw_X7_get vw_X7_get cw_X7_get nw_RX7 pp_X7_get (Nat.le_of_ble_eq_true rfl) dX10_find_96 rfl (NM_X7_get (sh_0_1 _ hp_v1) h) (fun r_7 m_8 h hB => ?_)
    refine b_storeE_n (nx := 100) (a := 3) (loc2 := [(2, v0), (2, v1), (0, v2), (0, r_7)]) G rfl (Nat.le_of_ble_eq_true rfl) (am_pl1 rfl (fun h => nomatch h)) dX10_find_99 rfl (z_iload_n (nx := 101) (a := 3) G rfl dX10_find_100 rfl ?_)
    refine b_callSN5 (nx := 104) (zs := [r_7]) (as := [(0, r_7)]) X hB SS_X11_isThing (am_ti am_tn) (Nat.le_of_ble_eq_true rfl) (Nat.le_of_ble_eq_true rfl) mn_RX10_44 sw_X11_isThing (am_plainC 11 (by decide)) cw_X11_isThing nw_RX11 pp_X11_isThing (Nat.le_of_ble_eq_true rfl) dX10_find_101 rfl (NM_X11_isThing h) (fun r_9 m_10 h h01_11 hB => ?_)
    refine z_if_eq (nx := 107) (tgt := 143) G dX10_find_104 (by decide) rfl (fun c => ?_) (fun c => ?_)
    · have h := h.1 c
      exact b_fewer (loc2 := [(2, v0), (2, v1), (0, v2), (9, 0)]) (am_lk (am_lk (am_lk (am_lf am_ln)))) (S_X10_find_J1 X hp_v0 hp_v1 hC86 hB h)
    · have h := h.2 c
      refine z_aload_n (nx := 108) (a := 0) G rfl (Or.inl rfl) dX10_find_107 rfl (b_getA (nx := 111) (k0 := 0) G hB fl_RX10_9 (Nat.le_of_ble_eq_true rfl) (Nat.le_of_ble_eq_true rfl) rfl hp_v0 dX10_find_108 rfl (z_iload_n (nx := 112) (a := 3) G rfl dX10_find_111 rfl ?_))
      obtain ⟨hb, h⟩ := h
      refine z_lald (nx := 113) G (sh_10_0 _ hp_v0) hb.1 hb.2 dX10_find_112 rfl ?_
      refine z_ldc2 (nx := 116) (z := (-1)) G (R64c rfl) rfl kl_RX10_22 dX10_find_113 rfl (z_lcmp (nx := 117) G dX10_find_116 rfl ?_)
      refine z_if_eq (nx := 120) (tgt := 143) G dX10_find_117 (by decide) rfl (fun c => ?_) (fun c => ?_)
      · have h := h.1 c
        exact b_fewer (loc2 := [(2, v0), (2, v1), (0, v2), (9, 0)]) (am_lk (am_lk (am_lk (am_lf am_ln)))) (S_X10_find_J1 X hp_v0 hp_v1 hC86 hB h)
      · have h := h.2 c
        refine z_aload_n (nx := 121) (a := 0) G rfl (Or.inl rfl) dX10_find_120 rfl (b_getA (nx := 124) (k0 := 0) G hB fl_RX10_9 (Nat.le_of_ble_eq_true rfl) (Nat.le_of_ble_eq_true rfl) rfl hp_v0 dX10_find_121 rfl (z_iload_n (nx := 125) (a := 3) G rfl dX10_find_124 rfl ?_))
        obtain ⟨hb, h⟩ := h
        refine z_lald (nx := 126) G (sh_10_0 _ hp_v0) hb.1 hb.2 dX10_find_125 rfl ?_
        refine z_aload_n (nx := 127) (a := 0) G rfl (Or.inl rfl) dX10_find_126 rfl (z_aload_n (nx := 128) (a := 1) G rfl (Or.inl rfl) dX10_find_127 rfl (z_iload_n (nx := 129) (a := 2) G rfl dX10_find_128 rfl ?_))
        refine b_callV1 (nx := 132) (zs := [v0, v1, v2]) (as := [(2, v1), (0, v2)]) X hB (by decide) rfl hp_v0 SS_X10_weigh (am_ta (am_ta (am_ti am_tn))) (Nat.le_of_ble_eq_true rfl) (Nat.le_of_ble_eq_true rfl) ml_RX10_48 iw_X10_weigh vw_X10_weigh cw_X10_weigh nw_RX10 pp_X10_weigh (Nat.le_of_ble_eq_true rfl) dX10_find_129 rfl (NM_X10_weigh hp_v0 hp_v1 h) (fun r_12 m_13 h hB => ?_)
        refine z_lcmp (nx := 133) G dX10_find_132 rfl ?_
        refine z_if_ne (nx := 136) (tgt := 143) G dX10_find_133 (by decide) rfl (fun c => ?_) (fun c => ?_)
        · have h := h.1 c
          exact b_fewer (loc2 := [(2, v0), (2, v1), (0, v2), (9, 0)]) (am_lk (am_lk (am_lk (am_lf am_ln)))) (S_X10_find_J1 X hp_v0 hp_v1 hC86 hB h)
        · have h := h.2 c
          refine z_aload_n (nx := 137) (a := 0) G rfl (Or.inl rfl) dX10_find_136 rfl (b_getA (nx := 140) (k0 := 1) G hB fl_RX10_15 (Nat.le_of_ble_eq_true rfl) (Nat.le_of_ble_eq_true rfl) rfl hp_v0 dX10_find_137 rfl (z_iload_n (nx := 141) (a := 3) G rfl dX10_find_140 rfl (z_iload_n (nx := 142) (a := 2) G rfl dX10_find_141 rfl ?_)))
          obtain ⟨hb, h⟩ := h
          refine b_iast (nx := 143) G hB (sh_10_1 _ hp_v0) hb.1 hb.2 dX10_find_142 rfl (fun m_14 e_m_14 hB => ?_)
          have h := h m_14 e_m_14
          exact b_fewer (loc2 := [(2, v0), (2, v1), (0, v2), (9, 0)]) (am_lk (am_lk (am_lk (am_lf am_ln)))) (S_X10_find_J1 X hp_v0 hp_v1 hC86 hB h)
theorem S_X10_find_L4 {F : am_F} {K : am_KK} {v0 : Int} {v1 : Int} {v2 : Int} {m : am_M} (X : am_Cx F cX10_find RX10 none 5 9 K) (hp_v0 : am_ob v0 10) (hp_v1 : am_ob v1 0) (hB : am_Bt m) (h : M_X10_find_L4 v0 v1 v2 K m) : am_Z F 86 [] [(2, v0), (2, v1), (0, v2), (9, 0)] m 200 := by
  obtain ⟨I, ⟨j, hj⟩, hI⟩ := h
  have key : ∀ j v2 m, I j v2 m → am_Bt m → am_Z F 86 [] [(2, v0), (2, v1), (0, v2), (9, 0)] m 200 := by
    intro j
    induction j using Nat.strongRecOn with
    | ind j ih =>
      intro v2 m hj hB
      exact S_X10_find_L4B X hp_v0 hp_v1 (fun v2' m' hc hB' => by
        obtain ⟨j', g1, g2⟩ := hc
        exact ih j' g1 v2' m' g2 hB') hB (hI j v2 m hj)
  exact key j _ _ hj hB
set_option maxRecDepth 20000 in
set_option maxHeartbeats 4000000 in
theorem S_X10_find_L3B {F : am_F} {K : am_KK} {v0 : Int} {v1 : Int} {v2 : Int} {v3 : Int} {C47 : Int → am_M → Prop} {C39 : Int → am_M → Prop} {m : am_M} (X : am_Cx F cX10_find RX10 none 5 9 K) (hp_v0 : am_ob v0 10) (hp_v1 : am_ob v1 0) (hC47 : ∀ w3 m, C47 w3 m → am_Bt m → am_Z F 47 [] [(2, v0), (2, v1), (0, v2), (0, w3)] m 200) (hC39 : ∀ w2 m, C39 w2 m → am_Bt m → am_Z F 39 [] [(2, v0), (2, v1), (0, w2), (9, 0)] m 200) (hB : am_Bt m) (h : M_X10_find_L3B v0 v1 v2 v3 C47 C39 K m) : am_Z F 47 [] [(2, v0), (2, v1), (0, v2), (0, v3)] m 200 := by
  have G := X.G
  unfold M_X10_find_L3B at h
  refine z_iload_n (nx := 48) (a := 3) G rfl dX10_find_47 rfl (z_aload_n (nx := 49) (a := 1) G rfl (Or.inl rfl) dX10_find_48 rfl (b_getA (nx := 52) (k0 := 1) G hB fl_RX10_24 (Nat.le_of_ble_eq_true rfl) (Nat.le_of_ble_eq_true rfl) rfl hp_v1 dX10_find_49 rfl (b_getI (nx := 55) (k0 := 2) (t := 0) G fl_RX10_30 (Nat.le_of_ble_eq_true rfl) (Nat.le_of_ble_eq_true rfl) rfl (sh_0_1 _ hp_v1) dX10_find_52 rfl ?_)))
  refine z_icmp_ge (nx := 58) (tgt := 70) G dX10_find_55 (by decide) rfl (fun c => ?_) (fun c => ?_)
  · have h := h.1 c
    refine b_iinc (nx := 73) (a := 2) (loc2 := fun v2_15 => [(2, v0), (2, v1), (0, v2_15), (0, v3)]) G (fun _ => rfl) rfl (am_pl1 rfl (fun h => nomatch h)) dX10_find_70 rfl (fun v2_15 e_v2_15 => ?_)
    have h := h v2_15 e_v2_15
    refine z_goto (tgt := 39) G dX10_find_73 (by decide) ?_
    exact b_fewer (loc2 := [(2, v0), (2, v1), (0, v2_15), (9, 0)]) (am_lk (am_lk (am_lk (am_lf am_ln)))) (hC39 _ _ h hB)
  · have h := h.2 c
    refine z_aload_n (nx := 59) (a := 0) G rfl (Or.inl rfl) dX10_find_58 rfl (z_aload_n (nx := 60) (a := 1) G rfl (Or.inl rfl) dX10_find_59 rfl (z_iload_n (nx := 61) (a := 3) G rfl dX10_find_60 rfl ?_))
    refine b_callV9 (nx := 64) (zs := [v0, v1, v3]) (as := [(2, v1), (0, v3)]) X hB (by decide) rfl hp_v0 SS_X10_improve (am_ta (am_ta (am_ti am_tn))) (Nat.le_of_ble_eq_true rfl) (Nat.le_of_ble_eq_true rfl) ml_RX10_36 iw_X10_improve vw_X10_improve cw_X10_improve nw_RX10 pp_X10_improve (Nat.le_of_ble_eq_true rfl) dX10_find_61 rfl (NM_X10_improve hp_v0 hp_v1 h) (fun r_16 m_17 h hB => ?_)
    refine b_iinc (nx := 67) (a := 3) (loc2 := fun v3_18 => [(2, v0), (2, v1), (0, v2), (0, v3_18)]) G (fun _ => rfl) rfl (am_pl1 rfl (fun h => nomatch h)) dX10_find_64 rfl (fun v3_18 e_v3_18 => ?_)
    have h := h v3_18 e_v3_18
    refine z_goto (tgt := 47) G dX10_find_67 (by decide) ?_
    exact b_fewer (loc2 := [(2, v0), (2, v1), (0, v2), (0, v3_18)]) (am_lk (am_lk (am_lk (am_lk am_ln)))) (hC47 _ _ h hB)
theorem S_X10_find_L3 {F : am_F} {K : am_KK} {v0 : Int} {v1 : Int} {v2 : Int} {v3 : Int} {C39 : Int → am_M → Prop} {m : am_M} (X : am_Cx F cX10_find RX10 none 5 9 K) (hp_v0 : am_ob v0 10) (hp_v1 : am_ob v1 0) (hC39 : ∀ w2 m, C39 w2 m → am_Bt m → am_Z F 39 [] [(2, v0), (2, v1), (0, w2), (9, 0)] m 200) (hB : am_Bt m) (h : M_X10_find_L3 v0 v1 v2 v3 C39 K m) : am_Z F 47 [] [(2, v0), (2, v1), (0, v2), (0, v3)] m 200 := by
  obtain ⟨I, ⟨j, hj⟩, hI⟩ := h
  have key : ∀ j v3 m, I j v3 m → am_Bt m → am_Z F 47 [] [(2, v0), (2, v1), (0, v2), (0, v3)] m 200 := by
    intro j
    induction j using Nat.strongRecOn with
    | ind j ih =>
      intro v3 m hj hB
      exact S_X10_find_L3B X hp_v0 hp_v1 (fun v3' m' hc hB' => by
        obtain ⟨j', g1, g2⟩ := hc
        exact ih j' g1 v3' m' g2 hB') hC39 hB (hI j v3 m hj)
  exact key j _ _ hj hB
set_option maxRecDepth 20000 in
set_option maxHeartbeats 4000000 in
theorem S_X10_find_L2B {F : am_F} {K : am_KK} {v0 : Int} {v1 : Int} {v2 : Int} {C39 : Int → am_M → Prop} {m : am_M} (X : am_Cx F cX10_find RX10 none 5 9 K) (hp_v0 : am_ob v0 10) (hp_v1 : am_ob v1 0) (hC39 : ∀ w2 m, C39 w2 m → am_Bt m → am_Z F 39 [] [(2, v0), (2, v1), (0, w2), (9, 0)] m 200) (hB : am_Bt m) (h : M_X10_find_L2B v0 v1 v2 C39 K m) : am_Z F 39 [] [(2, v0), (2, v1), (0, v2), (9, 0)] m 200 := by
  have G := X.G
  unfold M_X10_find_L2B at h
  refine z_iload_n (nx := 40) (a := 2) G rfl dX10_find_39 rfl (z_bipush (nx := 42) (z := 8) G (R32c rfl) rfl dX10_find_40 rfl ?_)
  refine z_icmp_ge (nx := 45) (tgt := 76) G dX10_find_42 (by decide) rfl (fun c => ?_) (fun c => ?_)
  · have h := h.1 c
    refine z_aload_n (nx := 77) (a := 1) G rfl (Or.inl rfl) dX10_find_76 rfl (b_getA (nx := 80) (k0 := 1) G hB fl_RX10_24 (Nat.le_of_ble_eq_true rfl) (Nat.le_of_ble_eq_true rfl) rfl hp_v1 dX10_find_77 rfl (b_getI (nx := 83) (k0 := 2) (t := 0) G fl_RX10_30 (Nat.le_of_ble_eq_true rfl) (Nat.le_of_ble_eq_true rfl) rfl (sh_0_1 _ hp_v1) dX10_find_80 rfl (z_iconst (nx := 84) (z := 1) G (R32c rfl) dX10_find_83 rfl (z_isub (nx := 85) G dX10_find_84 rfl ?_))))
    refine b_store_n (nx := 86) (a := 2) (loc2 := fun v2_19 => [(2, v0), (2, v1), (0, v2_19), (9, 0)]) G (fun _ => rfl) (Nat.le_of_ble_eq_true rfl) (am_pl1 rfl (fun h => nomatch h)) dX10_find_85 rfl (fun v2_19 e_v2_19 => ?_)
    have h := h v2_19 e_v2_19
    exact b_fewer (loc2 := [(2, v0), (2, v1), (0, v2_19), (9, 0)]) (am_lk (am_lk (am_lk (am_lk am_ln)))) (S_X10_find_L4 X hp_v0 hp_v1 hB h)
  · have h := h.2 c
    refine z_iconst (nx := 46) (z := 0) G (R32c rfl) dX10_find_45 rfl (b_storeE_n (nx := 47) (a := 3) (loc2 := [(2, v0), (2, v1), (0, v2), (0, 0)]) G rfl (Nat.le_of_ble_eq_true rfl) (am_pl1 rfl (fun h => nomatch h)) dX10_find_46 rfl ?_)
    exact b_fewer (loc2 := [(2, v0), (2, v1), (0, v2), (0, 0)]) (am_lk (am_lk (am_lk (am_lk am_ln)))) (S_X10_find_L3 X hp_v0 hp_v1 hC39 hB h)
theorem S_X10_find_L2 {F : am_F} {K : am_KK} {v0 : Int} {v1 : Int} {v2 : Int} {m : am_M} (X : am_Cx F cX10_find RX10 none 5 9 K) (hp_v0 : am_ob v0 10) (hp_v1 : am_ob v1 0) (hB : am_Bt m) (h : M_X10_find_L2 v0 v1 v2 K m) : am_Z F 39 [] [(2, v0), (2, v1), (0, v2), (9, 0)] m 200 := by
  obtain ⟨I, ⟨j, hj⟩, hI⟩ := h
  have key : ∀ j v2 m, I j v2 m → am_Bt m → am_Z F 39 [] [(2, v0), (2, v1), (0, v2), (9, 0)] m 200 := by
    intro j
    induction j using Nat.strongRecOn with
    | ind j ih =>
      intro v2 m hj hB
      exact S_X10_find_L2B X hp_v0 hp_v1 (fun v2' m' hc hB' => by
        obtain ⟨j', g1, g2⟩ := hc
        exact ih j' g1 v2' m' g2 hB') hB (hI j v2 m hj)
  exact key j _ _ hj hB
set_option maxRecDepth 20000 in
set_option maxHeartbeats 4000000 in
theorem S_X10_find_L1B {F : am_F} {K : am_KK} {v0 : Int} {v1 : Int} {v2 : Int} {C2 : Int → am_M → Prop} {m : am_M} (X : am_Cx F cX10_find RX10 none 5 9 K) (hp_v0 : am_ob v0 10) (hp_v1 : am_ob v1 0) (hC2 : ∀ w2 m, C2 w2 m → am_Bt m → am_Z F 2 [] [(2, v0), (2, v1), (0, w2), (9, 0)] m 200) (hB : am_Bt m) (h : M_X10_find_L1B v0 v1 v2 C2 K m) : am_Z F 2 [] [(2, v0), (2, v1), (0, v2), (9, 0)] m 200 := by
  have G := X.G
  unfold M_X10_find_L1B at h
  refine z_iload_n (nx := 3) (a := 2) G rfl dX10_find_2 rfl (z_bipush (nx := 5) (z := 8) G (R32c rfl) rfl dX10_find_3 rfl ?_)
  refine z_icmp_ge (nx := 8) (tgt := 37) G dX10_find_5 (by decide) rfl (fun c => ?_) (fun c => ?_)
  · have h := h.1 c
    refine z_iconst (nx := 38) (z := 0) G (R32c rfl) dX10_find_37 rfl (b_storeE_n (nx := 39) (a := 2) (loc2 := [(2, v0), (2, v1), (0, 0), (9, 0)]) G rfl (Nat.le_of_ble_eq_true rfl) (am_pl1 rfl (fun h => nomatch h)) dX10_find_38 rfl ?_)
    exact b_fewer (loc2 := [(2, v0), (2, v1), (0, 0), (9, 0)]) (am_lk (am_lk (am_lk (am_lk am_ln)))) (S_X10_find_L2 X hp_v0 hp_v1 hB h)
  · have h := h.2 c
    refine z_aload_n (nx := 9) (a := 0) G rfl (Or.inl rfl) dX10_find_8 rfl (b_getA (nx := 12) (k0 := 0) G hB fl_RX10_9 (Nat.le_of_ble_eq_true rfl) (Nat.le_of_ble_eq_true rfl) rfl hp_v0 dX10_find_9 rfl (z_iload_n (nx := 13) (a := 2) G rfl dX10_find_12 rfl (z_ldc2 (nx := 16) (z := (-1)) G (R64c rfl) rfl kl_RX10_22 dX10_find_13 rfl ?_)))
    obtain ⟨hb, h⟩ := h
    refine b_last (nx := 17) G hB (sh_10_0 _ hp_v0) hb.1 hb.2 dX10_find_16 rfl (fun m_20 e_m_20 hB => ?_)
    have h := h m_20 e_m_20
    refine z_aload_n (nx := 18) (a := 0) G rfl (Or.inl rfl) dX10_find_17 rfl (b_getA (nx := 21) (k0 := 1) G hB fl_RX10_15 (Nat.le_of_ble_eq_true rfl) (Nat.le_of_ble_eq_true rfl) rfl hp_v0 dX10_find_18 rfl (z_iload_n (nx := 22) (a := 2) G rfl dX10_find_21 rfl (z_iconst (nx := 23) (z := (-1)) G (R32c rfl) dX10_find_22 rfl ?_)))
    obtain ⟨hb, h⟩ := h
    refine b_iast (nx := 24) G hB (sh_10_1 _ hp_v0) hb.1 hb.2 dX10_find_23 rfl (fun m_21 e_m_21 hB => ?_)
    have h := h m_21 e_m_21
    refine z_aload_n (nx := 25) (a := 0) G rfl (Or.inl rfl) dX10_find_24 rfl (b_getA (nx := 28) (k0 := 2) G hB fl_RX10_19 (Nat.le_of_ble_eq_true rfl) (Nat.le_of_ble_eq_true rfl) rfl hp_v0 dX10_find_25 rfl (z_iload_n (nx := 29) (a := 2) G rfl dX10_find_28 rfl (z_iconst (nx := 30) (z := 0) G (R32c rfl) dX10_find_29 rfl ?_)))
    obtain ⟨hb, h⟩ := h
    refine b_iast (nx := 31) G hB (sh_10_2 _ hp_v0) hb.1 hb.2 dX10_find_30 rfl (fun m_22 e_m_22 hB => ?_)
    have h := h m_22 e_m_22
    refine b_iinc (nx := 34) (a := 2) (loc2 := fun v2_23 => [(2, v0), (2, v1), (0, v2_23), (9, 0)]) G (fun _ => rfl) rfl (am_pl1 rfl (fun h => nomatch h)) dX10_find_31 rfl (fun v2_23 e_v2_23 => ?_)
    have h := h v2_23 e_v2_23
    refine z_goto (tgt := 2) G dX10_find_34 (by decide) ?_
    exact b_fewer (loc2 := [(2, v0), (2, v1), (0, v2_23), (9, 0)]) (am_lk (am_lk (am_lk (am_lk am_ln)))) (hC2 _ _ h hB)
theorem S_X10_find_L1 {F : am_F} {K : am_KK} {v0 : Int} {v1 : Int} {v2 : Int} {m : am_M} (X : am_Cx F cX10_find RX10 none 5 9 K) (hp_v0 : am_ob v0 10) (hp_v1 : am_ob v1 0) (hB : am_Bt m) (h : M_X10_find_L1 v0 v1 v2 K m) : am_Z F 2 [] [(2, v0), (2, v1), (0, v2), (9, 0)] m 200 := by
  obtain ⟨I, ⟨j, hj⟩, hI⟩ := h
  have key : ∀ j v2 m, I j v2 m → am_Bt m → am_Z F 2 [] [(2, v0), (2, v1), (0, v2), (9, 0)] m 200 := by
    intro j
    induction j using Nat.strongRecOn with
    | ind j ih =>
      intro v2 m hj hB
      exact S_X10_find_L1B X hp_v0 hp_v1 (fun v2' m' hc hB' => by
        obtain ⟨j', g1, g2⟩ := hc
        exact ih j' g1 v2' m' g2 hB') hB (hI j v2 m hj)
  exact key j _ _ hj hB
set_option maxRecDepth 20000 in
set_option maxHeartbeats 4000000 in
theorem S_X10_find {F : am_F} {K : am_KK} {v0 : Int} {v1 : Int} {m : am_M} (X : am_Cx F cX10_find RX10 none 5 9 K) (hp_v0 : am_ob v0 10) (hp_v1 : am_ob v1 0) (hB : am_Bt m) (h : M_X10_find v0 v1 K m) : am_Z F 0 [] [(2, v0), (2, v1), (9, 0), (9, 0)] m 200 := by
  have G := X.G
  unfold M_X10_find at h
  refine z_iconst (nx := 1) (z := 0) G (R32c rfl) dX10_find_0 rfl (b_storeE_n (nx := 2) (a := 2) (loc2 := [(2, v0), (2, v1), (0, 0), (9, 0)]) G rfl (Nat.le_of_ble_eq_true rfl) (am_pl1 rfl (fun h => nomatch h)) dX10_find_1 rfl ?_)
  exact b_fewer (loc2 := [(2, v0), (2, v1), (0, 0), (9, 0)]) (am_lk (am_lk (am_lk (am_lk am_ln)))) (S_X10_find_L1 X hp_v0 hp_v1 hB h)
theorem NM_X10_find {v0 : Int} {v1 : Int} {K : am_KK} {m : am_M} (hp_v0 : am_ob v0 10) (hp_v1 : am_ob v1 0) (h : M_X10_find v0 v1 K m) : N_X10_find [v0, v1] K m := ⟨hp_v0, hp_v1, h⟩
theorem SS_X10_find : am_Snd yX10_find cX10_find 4 none 0 5 (am_L [2, 2] 9 N_X10_find) := by
  refine am_SB (by decide +kernel) (Nat.le_of_ble_eq_true rfl) (fun F zs as K m X ht hB hM => ?_)
  obtain ⟨v0, zs, as, rfl, rfl, hz0, ht⟩ := am_inv ht
  obtain ⟨v1, zs, as, rfl, rfl, hz1, ht⟩ := am_inv ht
  obtain ⟨rfl, rfl⟩ := am_inv0 ht
  obtain ⟨hp_v0, hp_v1, hM⟩ := hM
  exact S_X10_find X hp_v0 hp_v1 hB hM
set_option maxRecDepth 20000 in
set_option maxHeartbeats 4000000 in
theorem S_X10_lengthFor {F : am_F} {K : am_KK} {v0 : Int} {v1 : Int} {m : am_M} (X : am_Cx F cX10_lengthFor RX10 (some .int) 3 0 K) (hp_v0 : am_ob v0 10) (hB : am_Bt m) (h : M_X10_lengthFor v0 v1 K m) : am_Z F 0 [] [(2, v0), (0, v1)] m 200 := by
  have G := X.G
  unfold M_X10_lengthFor at h
  refine z_iload_n (nx := 1) (a := 1) G rfl dX10_lengthFor_0 rfl ?_
  refine b_callSN5 (nx := 4) (zs := [v1]) (as := [(0, v1)]) X hB SS_X11_isThing (am_ti am_tn) (Nat.le_of_ble_eq_true rfl) (Nat.le_of_ble_eq_true rfl) mn_RX10_44 sw_X11_isThing (am_plainC 11 (by decide)) cw_X11_isThing nw_RX11 pp_X11_isThing (Nat.le_of_ble_eq_true rfl) dX10_lengthFor_1 rfl (NM_X11_isThing h) (fun r_1 m_2 h h01_3 hB => ?_)
  refine z_if_eq (nx := 7) (tgt := 34) G dX10_lengthFor_4 (by decide) rfl (fun c => ?_) (fun c => ?_)
  · have h := h.1 c
    refine z_iconst (nx := 35) (z := (-1)) G (R32c rfl) dX10_lengthFor_34 rfl ?_
    exact b_ireturn X hB dX10_lengthFor_35 h
  · have h := h.2 c
    refine z_aload_n (nx := 8) (a := 0) G rfl (Or.inl rfl) dX10_lengthFor_7 rfl (b_getA (nx := 11) (k0 := 0) G hB fl_RX10_9 (Nat.le_of_ble_eq_true rfl) (Nat.le_of_ble_eq_true rfl) rfl hp_v0 dX10_lengthFor_8 rfl (z_iload_n (nx := 12) (a := 1) G rfl dX10_lengthFor_11 rfl ?_))
    obtain ⟨hb, h⟩ := h
    refine z_lald (nx := 13) G (sh_10_0 _ hp_v0) hb.1 hb.2 dX10_lengthFor_12 rfl ?_
    refine z_ldc2 (nx := 16) (z := (-1)) G (R64c rfl) rfl kl_RX10_22 dX10_lengthFor_13 rfl (z_lcmp (nx := 17) G dX10_lengthFor_16 rfl ?_)
    refine z_if_eq (nx := 20) (tgt := 34) G dX10_lengthFor_17 (by decide) rfl (fun c => ?_) (fun c => ?_)
    · have h := h.1 c
      refine z_iconst (nx := 35) (z := (-1)) G (R32c rfl) dX10_lengthFor_34 rfl ?_
      exact b_ireturn X hB dX10_lengthFor_35 h
    · have h := h.2 c
      refine z_aload_n (nx := 21) (a := 0) G rfl (Or.inl rfl) dX10_lengthFor_20 rfl (b_getA (nx := 24) (k0 := 0) G hB fl_RX10_9 (Nat.le_of_ble_eq_true rfl) (Nat.le_of_ble_eq_true rfl) rfl hp_v0 dX10_lengthFor_21 rfl (z_iload_n (nx := 25) (a := 1) G rfl dX10_lengthFor_24 rfl ?_))
      obtain ⟨hb, h⟩ := h
      refine z_lald (nx := 26) G (sh_10_0 _ hp_v0) hb.1 hb.2 dX10_lengthFor_25 rfl ?_
      refine z_ldc2 (nx := 29) (z := 10000) G (R64c rfl) rfl kl_RX10_58 dX10_lengthFor_26 rfl (z_ldiv (nx := 30) G (by decide) dX10_lengthFor_29 rfl (z_l2i (nx := 31) G dX10_lengthFor_30 rfl (z_goto (tgt := 35) G dX10_lengthFor_31 (by decide) ?_)))
      exact b_ireturn X hB dX10_lengthFor_35 h
theorem NM_X10_lengthFor {v0 : Int} {v1 : Int} {K : am_KK} {m : am_M} (hp_v0 : am_ob v0 10) (h : M_X10_lengthFor v0 v1 K m) : N_X10_lengthFor [v0, v1] K m := ⟨hp_v0, h⟩
theorem SS_X10_lengthFor : am_Snd yX10_lengthFor cX10_lengthFor 2 (some .int) 0 3 (am_L [2, 0] 0 N_X10_lengthFor) := by
  refine am_SB (by decide +kernel) (Nat.le_of_ble_eq_true rfl) (fun F zs as K m X ht hB hM => ?_)
  obtain ⟨v0, zs, as, rfl, rfl, hz0, ht⟩ := am_inv ht
  obtain ⟨v1, zs, as, rfl, rfl, hz1, ht⟩ := am_inv ht
  obtain ⟨rfl, rfl⟩ := am_inv0 ht
  obtain ⟨hp_v0, hM⟩ := hM
  exact S_X10_lengthFor X hp_v0 hB hM
set_option maxRecDepth 20000 in
set_option maxHeartbeats 4000000 in
theorem S_X10_rulesFor {F : am_F} {K : am_KK} {v0 : Int} {v1 : Int} {m : am_M} (X : am_Cx F cX10_rulesFor RX10 (some .int) 3 0 K) (hp_v0 : am_ob v0 10) (hB : am_Bt m) (h : M_X10_rulesFor v0 v1 K m) : am_Z F 0 [] [(2, v0), (0, v1)] m 200 := by
  have G := X.G
  unfold M_X10_rulesFor at h
  refine z_iload_n (nx := 1) (a := 1) G rfl dX10_rulesFor_0 rfl ?_
  refine b_callSN5 (nx := 4) (zs := [v1]) (as := [(0, v1)]) X hB SS_X11_isThing (am_ti am_tn) (Nat.le_of_ble_eq_true rfl) (Nat.le_of_ble_eq_true rfl) mn_RX10_44 sw_X11_isThing (am_plainC 11 (by decide)) cw_X11_isThing nw_RX11 pp_X11_isThing (Nat.le_of_ble_eq_true rfl) dX10_rulesFor_1 rfl (NM_X11_isThing h) (fun r_1 m_2 h h01_3 hB => ?_)
  refine z_if_eq (nx := 7) (tgt := 34) G dX10_rulesFor_4 (by decide) rfl (fun c => ?_) (fun c => ?_)
  · have h := h.1 c
    refine z_iconst (nx := 35) (z := (-1)) G (R32c rfl) dX10_rulesFor_34 rfl ?_
    exact b_ireturn X hB dX10_rulesFor_35 h
  · have h := h.2 c
    refine z_aload_n (nx := 8) (a := 0) G rfl (Or.inl rfl) dX10_rulesFor_7 rfl (b_getA (nx := 11) (k0 := 0) G hB fl_RX10_9 (Nat.le_of_ble_eq_true rfl) (Nat.le_of_ble_eq_true rfl) rfl hp_v0 dX10_rulesFor_8 rfl (z_iload_n (nx := 12) (a := 1) G rfl dX10_rulesFor_11 rfl ?_))
    obtain ⟨hb, h⟩ := h
    refine z_lald (nx := 13) G (sh_10_0 _ hp_v0) hb.1 hb.2 dX10_rulesFor_12 rfl ?_
    refine z_ldc2 (nx := 16) (z := (-1)) G (R64c rfl) rfl kl_RX10_22 dX10_rulesFor_13 rfl (z_lcmp (nx := 17) G dX10_rulesFor_16 rfl ?_)
    refine z_if_eq (nx := 20) (tgt := 34) G dX10_rulesFor_17 (by decide) rfl (fun c => ?_) (fun c => ?_)
    · have h := h.1 c
      refine z_iconst (nx := 35) (z := (-1)) G (R32c rfl) dX10_rulesFor_34 rfl ?_
      exact b_ireturn X hB dX10_rulesFor_35 h
    · have h := h.2 c
      refine z_aload_n (nx := 21) (a := 0) G rfl (Or.inl rfl) dX10_rulesFor_20 rfl (b_getA (nx := 24) (k0 := 0) G hB fl_RX10_9 (Nat.le_of_ble_eq_true rfl) (Nat.le_of_ble_eq_true rfl) rfl hp_v0 dX10_rulesFor_21 rfl (z_iload_n (nx := 25) (a := 1) G rfl dX10_rulesFor_24 rfl ?_))
      obtain ⟨hb, h⟩ := h
      refine z_lald (nx := 26) G (sh_10_0 _ hp_v0) hb.1 hb.2 dX10_rulesFor_25 rfl ?_
      refine z_ldc2 (nx := 29) (z := 10000) G (R64c rfl) rfl kl_RX10_58 dX10_rulesFor_26 rfl (z_lrem (nx := 30) G (by decide) dX10_rulesFor_29 rfl (z_l2i (nx := 31) G dX10_rulesFor_30 rfl (z_goto (tgt := 35) G dX10_rulesFor_31 (by decide) ?_)))
      exact b_ireturn X hB dX10_rulesFor_35 h
theorem NM_X10_rulesFor {v0 : Int} {v1 : Int} {K : am_KK} {m : am_M} (hp_v0 : am_ob v0 10) (h : M_X10_rulesFor v0 v1 K m) : N_X10_rulesFor [v0, v1] K m := ⟨hp_v0, h⟩
theorem SS_X10_rulesFor : am_Snd yX10_rulesFor cX10_rulesFor 2 (some .int) 0 3 (am_L [2, 0] 0 N_X10_rulesFor) := by
  refine am_SB (by decide +kernel) (Nat.le_of_ble_eq_true rfl) (fun F zs as K m X ht hB hM => ?_)
  obtain ⟨v0, zs, as, rfl, rfl, hz0, ht⟩ := am_inv ht
  obtain ⟨v1, zs, as, rfl, rfl, hz1, ht⟩ := am_inv ht
  obtain ⟨rfl, rfl⟩ := am_inv0 ht
  obtain ⟨hp_v0, hM⟩ := hM
  exact S_X10_rulesFor X hp_v0 hB hM
set_option maxRecDepth 20000 in
set_option maxHeartbeats 4000000 in
theorem S_X10_wordsFor {F : am_F} {K : am_KK} {v0 : Int} {v1 : Int} {m : am_M} (X : am_Cx F cX10_wordsFor RX10 (some .int) 3 0 K) (hp_v0 : am_ob v0 10) (hB : am_Bt m) (h : M_X10_wordsFor v0 v1 K m) : am_Z F 0 [] [(2, v0), (0, v1)] m 200 := by
  have G := X.G
  unfold M_X10_wordsFor at h
  refine z_iload_n (nx := 1) (a := 1) G rfl dX10_wordsFor_0 rfl ?_
  refine b_callSN5 (nx := 4) (zs := [v1]) (as := [(0, v1)]) X hB SS_X11_isThing (am_ti am_tn) (Nat.le_of_ble_eq_true rfl) (Nat.le_of_ble_eq_true rfl) mn_RX10_44 sw_X11_isThing (am_plainC 11 (by decide)) cw_X11_isThing nw_RX11 pp_X11_isThing (Nat.le_of_ble_eq_true rfl) dX10_wordsFor_1 rfl (NM_X11_isThing h) (fun r_1 m_2 h h01_3 hB => ?_)
  refine z_if_eq (nx := 7) (tgt := 29) G dX10_wordsFor_4 (by decide) rfl (fun c => ?_) (fun c => ?_)
  · have h := h.1 c
    refine z_iconst (nx := 30) (z := (-1)) G (R32c rfl) dX10_wordsFor_29 rfl ?_
    exact b_ireturn X hB dX10_wordsFor_30 h
  · have h := h.2 c
    refine z_aload_n (nx := 8) (a := 0) G rfl (Or.inl rfl) dX10_wordsFor_7 rfl (b_getA (nx := 11) (k0 := 0) G hB fl_RX10_9 (Nat.le_of_ble_eq_true rfl) (Nat.le_of_ble_eq_true rfl) rfl hp_v0 dX10_wordsFor_8 rfl (z_iload_n (nx := 12) (a := 1) G rfl dX10_wordsFor_11 rfl ?_))
    obtain ⟨hb, h⟩ := h
    refine z_lald (nx := 13) G (sh_10_0 _ hp_v0) hb.1 hb.2 dX10_wordsFor_12 rfl ?_
    refine z_ldc2 (nx := 16) (z := (-1)) G (R64c rfl) rfl kl_RX10_22 dX10_wordsFor_13 rfl (z_lcmp (nx := 17) G dX10_wordsFor_16 rfl ?_)
    refine z_if_eq (nx := 20) (tgt := 29) G dX10_wordsFor_17 (by decide) rfl (fun c => ?_) (fun c => ?_)
    · have h := h.1 c
      refine z_iconst (nx := 30) (z := (-1)) G (R32c rfl) dX10_wordsFor_29 rfl ?_
      exact b_ireturn X hB dX10_wordsFor_30 h
    · have h := h.2 c
      refine z_aload_n (nx := 21) (a := 0) G rfl (Or.inl rfl) dX10_wordsFor_20 rfl (b_getA (nx := 24) (k0 := 2) G hB fl_RX10_19 (Nat.le_of_ble_eq_true rfl) (Nat.le_of_ble_eq_true rfl) rfl hp_v0 dX10_wordsFor_21 rfl (z_iload_n (nx := 25) (a := 1) G rfl dX10_wordsFor_24 rfl ?_))
      obtain ⟨hb, h⟩ := h
      refine z_iald (nx := 26) G (sh_10_2 _ hp_v0) hb.1 hb.2 dX10_wordsFor_25 rfl ?_
      refine z_goto (tgt := 30) G dX10_wordsFor_26 (by decide) ?_
      exact b_ireturn X hB dX10_wordsFor_30 h
theorem NM_X10_wordsFor {v0 : Int} {v1 : Int} {K : am_KK} {m : am_M} (hp_v0 : am_ob v0 10) (h : M_X10_wordsFor v0 v1 K m) : N_X10_wordsFor [v0, v1] K m := ⟨hp_v0, h⟩
theorem SS_X10_wordsFor : am_Snd yX10_wordsFor cX10_wordsFor 2 (some .int) 0 3 (am_L [2, 0] 0 N_X10_wordsFor) := by
  refine am_SB (by decide +kernel) (Nat.le_of_ble_eq_true rfl) (fun F zs as K m X ht hB hM => ?_)
  obtain ⟨v0, zs, as, rfl, rfl, hz0, ht⟩ := am_inv ht
  obtain ⟨v1, zs, as, rfl, rfl, hz1, ht⟩ := am_inv ht
  obtain ⟨rfl, rfl⟩ := am_inv0 ht
  obtain ⟨hp_v0, hM⟩ := hM
  exact S_X10_wordsFor X hp_v0 hB hM
set_option maxRecDepth 20000 in
set_option maxHeartbeats 4000000 in
theorem S_X10_wordAt_J1 {F : am_F} {K : am_KK} {v0 : Int} {v1 : Int} {v5 : Int} {v6 : Int} {v7 : Int} {v8 : Int} {C27 : Int → Int → Int → am_M → Prop} {m : am_M} (X : am_Cx F cX10_wordAt RX10 (some .int) 4 0 K) (hp_v0 : am_ob v0 10) (hp_v1 : am_ob v1 0) (hC27 : ∀ w4 w5 w6 m, C27 w4 w5 w6 m → am_Bt m → am_Z F 27 [] [(2, v0), (2, v1), (9, 0), (9, 0), (0, w4), (0, w5), (0, w6), (9, 0), (9, 0)] m 200) (hB : am_Bt m) (h : M_X10_wordAt_J1 v0 v1 v5 v6 v7 v8 C27 K m) : am_Z F 112 [] [(2, v0), (2, v1), (9, 0), (9, 0), (9, 0), (0, v5), (0, v6), (0, v7), (0, v8)] m 200 := by
  have G := X.G
  unfold M_X10_wordAt_J1 at h
  refine z_aload_n (nx := 113) (a := 1) G rfl (Or.inl rfl) dX10_wordAt_112 rfl (b_getA (nx := 116) (k0 := 1) G hB fl_RX10_24 (Nat.le_of_ble_eq_true rfl) (Nat.le_of_ble_eq_true rfl) rfl hp_v1 dX10_wordAt_113 rfl (z_iload (nx := 118) (a := 7) G rfl dX10_wordAt_116 rfl (z_iload (nx := 120) (a := 8) G rfl dX10_wordAt_118 rfl ?_)))
  refine b_callV0 (nx := 123) (zs := [am_rfv v1 1, v7, v8]) (as := [(0, v7), (0, v8)]) X hB (by decide) rfl (sh_0_1 _ hp_v1) SS_X7_get (am_ta (am_ti (am_ti am_tn))) (Nat.le_of_ble_eq_true rfl) (Nat.le_of_ble_eq_true rfl) ml_RX10_40 iw_X7_get vw_X7_get cw_X7_get nw_RX7 pp_X7_get (Nat.le_of_ble_eq_true rfl) dX10_wordAt_120 rfl (NM_X7_get (sh_0_1 _ hp_v1) h) (fun r_1 m_2 h hB => ?_)
  refine b_storeE (nx := 125) (a := 4) (loc2 := [(2, v0), (2, v1), (9, 0), (9, 0), (0, r_1), (0, v5), (0, v6), (0, v7), (0, v8)]) G rfl (Nat.le_of_ble_eq_true rfl) (am_pl1 rfl (fun h => nomatch h)) dX10_wordAt_123 rfl ?_
  refine b_iinc (nx := 128) (a := 6) (loc2 := fun v6_3 => [(2, v0), (2, v1), (9, 0), (9, 0), (0, r_1), (0, v5), (0, v6_3), (0, v7), (0, v8)]) G (fun _ => rfl) rfl (am_pl1 rfl (fun h => nomatch h)) dX10_wordAt_125 rfl (fun v6_3 e_v6_3 => ?_)
  have h := h v6_3 e_v6_3
  refine z_goto (tgt := 27) G dX10_wordAt_128 (by decide) ?_
  exact b_fewer (loc2 := [(2, v0), (2, v1), (9, 0), (9, 0), (0, r_1), (0, v5), (0, v6_3), (9, 0), (9, 0)]) (am_lk (am_lk (am_lk (am_lk (am_lk (am_lk (am_lk (am_lf (am_lf am_ln))))))))) (hC27 _ _ _ _ h hB)
set_option maxRecDepth 20000 in
set_option maxHeartbeats 4000000 in
theorem S_X10_wordAt_L2B {F : am_F} {K : am_KK} {v0 : Int} {v1 : Int} {v5 : Int} {v6 : Int} {v7 : Int} {v8 : Int} {C60 : Int → Int → am_M → Prop} {C27 : Int → Int → Int → am_M → Prop} {m : am_M} (X : am_Cx F cX10_wordAt RX10 (some .int) 4 0 K) (hp_v0 : am_ob v0 10) (hp_v1 : am_ob v1 0) (hC60 : ∀ w5 w8 m, C60 w5 w8 m → am_Bt m → am_Z F 60 [] [(2, v0), (2, v1), (9, 0), (9, 0), (9, 0), (0, w5), (0, v6), (0, v7), (0, w8)] m 200) (hC27 : ∀ w4 w5 w6 m, C27 w4 w5 w6 m → am_Bt m → am_Z F 27 [] [(2, v0), (2, v1), (9, 0), (9, 0), (0, w4), (0, w5), (0, w6), (9, 0), (9, 0)] m 200) (hB : am_Bt m) (h : M_X10_wordAt_L2B v0 v1 v5 v6 v7 v8 C60 C27 K m) : am_Z F 60 [] [(2, v0), (2, v1), (9, 0), (9, 0), (9, 0), (0, v5), (0, v6), (0, v7), (0, v8)] m 200 := by
  have G := X.G
  unfold M_X10_wordAt_L2B at h
  refine z_iload (nx := 62) (a := 8) G rfl dX10_wordAt_60 rfl (z_iconst (nx := 63) (z := 3) G (R32c rfl) dX10_wordAt_62 rfl ?_)
  refine z_icmp_ge (nx := 66) (tgt := 112) G dX10_wordAt_63 (by decide) rfl (fun c => ?_) (fun c => ?_)
  · have h := h.1 c
    exact b_fewer (loc2 := [(2, v0), (2, v1), (9, 0), (9, 0), (9, 0), (0, v5), (0, v6), (0, v7), (0, v8)]) (am_lk (am_lk (am_lk (am_lk (am_lk (am_lk (am_lk (am_lk (am_lk am_ln))))))))) (S_X10_wordAt_J1 X hp_v0 hp_v1 hC27 hB h)
  · have h := h.2 c
    refine z_iload (nx := 68) (a := 5) G rfl dX10_wordAt_66 rfl (z_aload_n (nx := 69) (a := 0) G rfl (Or.inl rfl) dX10_wordAt_68 rfl (z_aload_n (nx := 70) (a := 1) G rfl (Or.inl rfl) dX10_wordAt_69 rfl (b_getA (nx := 73) (k0 := 1) G hB fl_RX10_24 (Nat.le_of_ble_eq_true rfl) (Nat.le_of_ble_eq_true rfl) rfl hp_v1 dX10_wordAt_70 rfl (z_iload (nx := 75) (a := 7) G rfl dX10_wordAt_73 rfl (z_iload (nx := 77) (a := 8) G rfl dX10_wordAt_75 rfl ?_)))))
    refine b_callV0 (nx := 80) (zs := [am_rfv v1 1, v7, v8]) (as := [(0, v7), (0, v8)]) X hB (by decide) rfl (sh_0_1 _ hp_v1) SS_X7_get (am_ta (am_ti (am_ti am_tn))) (Nat.le_of_ble_eq_true rfl) (Nat.le_of_ble_eq_true rfl) ml_RX10_40 iw_X7_get vw_X7_get cw_X7_get nw_RX7 pp_X7_get (Nat.le_of_ble_eq_true rfl) dX10_wordAt_77 rfl (NM_X7_get (sh_0_1 _ hp_v1) h) (fun r_4 m_5 h hB => ?_)
    refine b_callV0 (nx := 83) (zs := [v0, r_4]) (as := [(0, r_4)]) X hB (by decide) rfl hp_v0 SS_X10_wordsIn (am_ta (am_ti am_tn)) (Nat.le_of_ble_eq_true rfl) (Nat.le_of_ble_eq_true rfl) ml_RX10_60 iw_X10_wordsIn vw_X10_wordsIn cw_X10_wordsIn nw_RX10 pp_X10_wordsIn (Nat.le_of_ble_eq_true rfl) dX10_wordAt_80 rfl (NM_X10_wordsIn hp_v0 h) (fun r_6 m_7 h hB => ?_)
    refine z_icmp_lt (nx := 86) (tgt := 112) G dX10_wordAt_83 (by decide) rfl (fun c => ?_) (fun c => ?_)
    · have h := h.1 c
      exact b_fewer (loc2 := [(2, v0), (2, v1), (9, 0), (9, 0), (9, 0), (0, v5), (0, v6), (0, v7), (0, v8)]) (am_lk (am_lk (am_lk (am_lk (am_lk (am_lk (am_lk (am_lk (am_lk am_ln))))))))) (S_X10_wordAt_J1 X hp_v0 hp_v1 hC27 hB h)
    · have h := h.2 c
      refine z_iload (nx := 88) (a := 5) G rfl dX10_wordAt_86 rfl (z_aload_n (nx := 89) (a := 0) G rfl (Or.inl rfl) dX10_wordAt_88 rfl (z_aload_n (nx := 90) (a := 1) G rfl (Or.inl rfl) dX10_wordAt_89 rfl (b_getA (nx := 93) (k0 := 1) G hB fl_RX10_24 (Nat.le_of_ble_eq_true rfl) (Nat.le_of_ble_eq_true rfl) rfl hp_v1 dX10_wordAt_90 rfl (z_iload (nx := 95) (a := 7) G rfl dX10_wordAt_93 rfl (z_iload (nx := 97) (a := 8) G rfl dX10_wordAt_95 rfl ?_)))))
      refine b_callV0 (nx := 100) (zs := [am_rfv v1 1, v7, v8]) (as := [(0, v7), (0, v8)]) X hB (by decide) rfl (sh_0_1 _ hp_v1) SS_X7_get (am_ta (am_ti (am_ti am_tn))) (Nat.le_of_ble_eq_true rfl) (Nat.le_of_ble_eq_true rfl) ml_RX10_40 iw_X7_get vw_X7_get cw_X7_get nw_RX7 pp_X7_get (Nat.le_of_ble_eq_true rfl) dX10_wordAt_97 rfl (NM_X7_get (sh_0_1 _ hp_v1) h) (fun r_8 m_9 h hB => ?_)
      refine b_callV0 (nx := 103) (zs := [v0, r_8]) (as := [(0, r_8)]) X hB (by decide) rfl hp_v0 SS_X10_wordsIn (am_ta (am_ti am_tn)) (Nat.le_of_ble_eq_true rfl) (Nat.le_of_ble_eq_true rfl) ml_RX10_60 iw_X10_wordsIn vw_X10_wordsIn cw_X10_wordsIn nw_RX10 pp_X10_wordsIn (Nat.le_of_ble_eq_true rfl) dX10_wordAt_100 rfl (NM_X10_wordsIn hp_v0 h) (fun r_10 m_11 h hB => ?_)
      refine z_isub (nx := 104) G dX10_wordAt_103 rfl ?_
      refine b_store (nx := 106) (a := 5) (loc2 := fun v5_12 => [(2, v0), (2, v1), (9, 0), (9, 0), (9, 0), (0, v5_12), (0, v6), (0, v7), (0, v8)]) G (fun _ => rfl) (Nat.le_of_ble_eq_true rfl) (am_pl1 rfl (fun h => nomatch h)) dX10_wordAt_104 rfl (fun v5_12 e_v5_12 => ?_)
      have h := h v5_12 e_v5_12
      refine b_iinc (nx := 109) (a := 8) (loc2 := fun v8_13 => [(2, v0), (2, v1), (9, 0), (9, 0), (9, 0), (0, v5_12), (0, v6), (0, v7), (0, v8_13)]) G (fun _ => rfl) rfl (am_pl1 rfl (fun h => nomatch h)) dX10_wordAt_106 rfl (fun v8_13 e_v8_13 => ?_)
      have h := h v8_13 e_v8_13
      refine z_goto (tgt := 60) G dX10_wordAt_109 (by decide) ?_
      exact b_fewer (loc2 := [(2, v0), (2, v1), (9, 0), (9, 0), (9, 0), (0, v5_12), (0, v6), (0, v7), (0, v8_13)]) (am_lk (am_lk (am_lk (am_lk (am_lk (am_lk (am_lk (am_lk (am_lk am_ln))))))))) (hC60 _ _ _ h hB)
theorem S_X10_wordAt_L2 {F : am_F} {K : am_KK} {v0 : Int} {v1 : Int} {v5 : Int} {v6 : Int} {v7 : Int} {v8 : Int} {C27 : Int → Int → Int → am_M → Prop} {m : am_M} (X : am_Cx F cX10_wordAt RX10 (some .int) 4 0 K) (hp_v0 : am_ob v0 10) (hp_v1 : am_ob v1 0) (hC27 : ∀ w4 w5 w6 m, C27 w4 w5 w6 m → am_Bt m → am_Z F 27 [] [(2, v0), (2, v1), (9, 0), (9, 0), (0, w4), (0, w5), (0, w6), (9, 0), (9, 0)] m 200) (hB : am_Bt m) (h : M_X10_wordAt_L2 v0 v1 v5 v6 v7 v8 C27 K m) : am_Z F 60 [] [(2, v0), (2, v1), (9, 0), (9, 0), (9, 0), (0, v5), (0, v6), (0, v7), (0, v8)] m 200 := by
  obtain ⟨I, ⟨j, hj⟩, hI⟩ := h
  have key : ∀ j v5 v8 m, I j v5 v8 m → am_Bt m → am_Z F 60 [] [(2, v0), (2, v1), (9, 0), (9, 0), (9, 0), (0, v5), (0, v6), (0, v7), (0, v8)] m 200 := by
    intro j
    induction j using Nat.strongRecOn with
    | ind j ih =>
      intro v5 v8 m hj hB
      exact S_X10_wordAt_L2B X hp_v0 hp_v1 (fun v5' v8' m' hc hB' => by
        obtain ⟨j', g1, g2⟩ := hc
        exact ih j' g1 v5' v8' m' g2 hB') hC27 hB (hI j v5 v8 m hj)
  exact key j _ _ _ hj hB
set_option maxRecDepth 20000 in
set_option maxHeartbeats 4000000 in
theorem S_X10_wordAt_L1B {F : am_F} {K : am_KK} {v0 : Int} {v1 : Int} {v4 : Int} {v5 : Int} {v6 : Int} {C27 : Int → Int → Int → am_M → Prop} {m : am_M} (X : am_Cx F cX10_wordAt RX10 (some .int) 4 0 K) (hp_v0 : am_ob v0 10) (hp_v1 : am_ob v1 0) (hC27 : ∀ w4 w5 w6 m, C27 w4 w5 w6 m → am_Bt m → am_Z F 27 [] [(2, v0), (2, v1), (9, 0), (9, 0), (0, w4), (0, w5), (0, w6), (9, 0), (9, 0)] m 200) (hB : am_Bt m) (h : M_X10_wordAt_L1B v0 v1 v4 v5 v6 C27 K m) : am_Z F 27 [] [(2, v0), (2, v1), (9, 0), (9, 0), (0, v4), (0, v5), (0, v6), (9, 0), (9, 0)] m 200 := by
  have G := X.G
  unfold M_X10_wordAt_L1B at h
  refine z_iload (nx := 29) (a := 6) G rfl dX10_wordAt_27 rfl (z_bipush (nx := 31) (z := 8) G (R32c rfl) rfl dX10_wordAt_29 rfl ?_)
  refine z_icmp_gt (nx := 34) (tgt := 131) G dX10_wordAt_31 (by decide) rfl (fun c => ?_) (fun c => ?_)
  · have h := h.1 c
    refine z_iload (nx := 133) (a := 4) G rfl dX10_wordAt_131 rfl ?_
    exact b_ireturn X hB dX10_wordAt_133 h
  · have h := h.2 c
    refine z_iload (nx := 36) (a := 4) G rfl dX10_wordAt_34 rfl (z_bipush (nx := 38) (z := 10) G (R32c rfl) rfl dX10_wordAt_36 rfl (z_isub (nx := 39) G dX10_wordAt_38 rfl ?_))
    refine b_callSN5 (nx := 42) (zs := [w32 (v4 - 10)]) (as := [(0, w32 (v4 - 10))]) X hB SS_X11_isThing (am_ti am_tn) (Nat.le_of_ble_eq_true rfl) (Nat.le_of_ble_eq_true rfl) mn_RX10_44 sw_X11_isThing (am_plainC 11 (by decide)) cw_X11_isThing nw_RX11 pp_X11_isThing (Nat.le_of_ble_eq_true rfl) dX10_wordAt_39 rfl (NM_X11_isThing h) (fun r_14 m_15 h h01_16 hB => ?_)
    refine z_if_eq (nx := 45) (tgt := 131) G dX10_wordAt_42 (by decide) rfl (fun c => ?_) (fun c => ?_)
    · have h := h.1 c
      refine z_iload (nx := 133) (a := 4) G rfl dX10_wordAt_131 rfl ?_
      exact b_ireturn X hB dX10_wordAt_133 h
    · have h := h.2 c
      refine z_aload_n (nx := 46) (a := 0) G rfl (Or.inl rfl) dX10_wordAt_45 rfl (b_getA (nx := 49) (k0 := 1) G hB fl_RX10_15 (Nat.le_of_ble_eq_true rfl) (Nat.le_of_ble_eq_true rfl) rfl hp_v0 dX10_wordAt_46 rfl (z_iload (nx := 51) (a := 4) G rfl dX10_wordAt_49 rfl (z_bipush (nx := 53) (z := 10) G (R32c rfl) rfl dX10_wordAt_51 rfl (z_isub (nx := 54) G dX10_wordAt_53 rfl ?_))))
      obtain ⟨hb, h⟩ := h
      refine z_iald (nx := 55) G (sh_10_1 _ hp_v0) hb.1 hb.2 dX10_wordAt_54 rfl ?_
      refine b_store (nx := 57) (a := 7) (loc2 := fun v7_17 => [(2, v0), (2, v1), (9, 0), (9, 0), (0, v4), (0, v5), (0, v6), (0, v7_17), (9, 0)]) G (fun _ => rfl) (Nat.le_of_ble_eq_true rfl) (am_pl1 rfl (fun h => nomatch h)) dX10_wordAt_55 rfl (fun v7_17 e_v7_17 => ?_)
      have h := h v7_17 e_v7_17
      refine z_iconst (nx := 58) (z := 1) G (R32c rfl) dX10_wordAt_57 rfl (b_storeE (nx := 60) (a := 8) (loc2 := [(2, v0), (2, v1), (9, 0), (9, 0), (0, v4), (0, v5), (0, v6), (0, v7_17), (0, 1)]) G rfl (Nat.le_of_ble_eq_true rfl) (am_pl1 rfl (fun h => nomatch h)) dX10_wordAt_58 rfl ?_)
      exact b_fewer (loc2 := [(2, v0), (2, v1), (9, 0), (9, 0), (9, 0), (0, v5), (0, v6), (0, v7_17), (0, 1)]) (am_lk (am_lk (am_lk (am_lk (am_lf (am_lk (am_lk (am_lk (am_lk am_ln))))))))) (S_X10_wordAt_L2 X hp_v0 hp_v1 hC27 hB h)
theorem S_X10_wordAt_L1 {F : am_F} {K : am_KK} {v0 : Int} {v1 : Int} {v4 : Int} {v5 : Int} {v6 : Int} {m : am_M} (X : am_Cx F cX10_wordAt RX10 (some .int) 4 0 K) (hp_v0 : am_ob v0 10) (hp_v1 : am_ob v1 0) (hB : am_Bt m) (h : M_X10_wordAt_L1 v0 v1 v4 v5 v6 K m) : am_Z F 27 [] [(2, v0), (2, v1), (9, 0), (9, 0), (0, v4), (0, v5), (0, v6), (9, 0), (9, 0)] m 200 := by
  obtain ⟨I, ⟨j, hj⟩, hI⟩ := h
  have key : ∀ j v4 v5 v6 m, I j v4 v5 v6 m → am_Bt m → am_Z F 27 [] [(2, v0), (2, v1), (9, 0), (9, 0), (0, v4), (0, v5), (0, v6), (9, 0), (9, 0)] m 200 := by
    intro j
    induction j using Nat.strongRecOn with
    | ind j ih =>
      intro v4 v5 v6 m hj hB
      exact S_X10_wordAt_L1B X hp_v0 hp_v1 (fun v4' v5' v6' m' hc hB' => by
        obtain ⟨j', g1, g2⟩ := hc
        exact ih j' g1 v4' v5' v6' m' g2 hB') hB (hI j v4 v5 v6 m hj)
  exact key j _ _ _ _ hj hB
set_option maxRecDepth 20000 in
set_option maxHeartbeats 4000000 in
theorem S_X10_wordAt {F : am_F} {K : am_KK} {v0 : Int} {v1 : Int} {v2 : Int} {v3 : Int} {m : am_M} (X : am_Cx F cX10_wordAt RX10 (some .int) 4 0 K) (hp_v0 : am_ob v0 10) (hp_v1 : am_ob v1 0) (hB : am_Bt m) (h : M_X10_wordAt v0 v1 v2 v3 K m) : am_Z F 0 [] [(2, v0), (2, v1), (0, v2), (0, v3), (9, 0), (9, 0), (9, 0), (9, 0), (9, 0)] m 200 := by
  have G := X.G
  unfold M_X10_wordAt at h
  refine z_iload_n (nx := 1) (a := 3) G rfl dX10_wordAt_0 rfl ?_
  refine z_if_lt (nx := 4) (tgt := 13) G dX10_wordAt_1 (by decide) rfl (fun c => ?_) (fun c => ?_)
  · have h := h.1 c
    refine z_iconst (nx := 14) (z := (-1)) G (R32c rfl) dX10_wordAt_13 rfl ?_
    exact b_ireturn X hB dX10_wordAt_14 h
  · have h := h.2 c
    refine z_iload_n (nx := 5) (a := 3) G rfl dX10_wordAt_4 rfl (z_aload_n (nx := 6) (a := 0) G rfl (Or.inl rfl) dX10_wordAt_5 rfl (z_iload_n (nx := 7) (a := 2) G rfl dX10_wordAt_6 rfl ?_))
    refine b_callV0 (nx := 10) (zs := [v0, v2]) (as := [(0, v2)]) X hB (by decide) rfl hp_v0 SS_X10_wordsFor (am_ta (am_ti am_tn)) (Nat.le_of_ble_eq_true rfl) (Nat.le_of_ble_eq_true rfl) ml_RX10_64 iw_X10_wordsFor vw_X10_wordsFor cw_X10_wordsFor nw_RX10 pp_X10_wordsFor (Nat.le_of_ble_eq_true rfl) dX10_wordAt_7 rfl (NM_X10_wordsFor hp_v0 h) (fun r_18 m_19 h hB => ?_)
    refine z_icmp_lt (nx := 13) (tgt := 15) G dX10_wordAt_10 (by decide) rfl (fun c => ?_) (fun c => ?_)
    · have h := h.1 c
      refine z_iload_n (nx := 16) (a := 2) G rfl dX10_wordAt_15 rfl (z_bipush (nx := 18) (z := 10) G (R32c rfl) rfl dX10_wordAt_16 rfl (z_iadd (nx := 19) G dX10_wordAt_18 rfl ?_))
      refine b_store (nx := 21) (a := 4) (loc2 := fun v4_20 => [(2, v0), (2, v1), (0, v2), (0, v3), (0, v4_20), (9, 0), (9, 0), (9, 0), (9, 0)]) G (fun _ => rfl) (Nat.le_of_ble_eq_true rfl) (am_pl1 rfl (fun h => nomatch h)) dX10_wordAt_19 rfl (fun v4_20 e_v4_20 => ?_)
      have h := h v4_20 e_v4_20
      refine z_iload_n (nx := 22) (a := 3) G rfl dX10_wordAt_21 rfl (b_storeE (nx := 24) (a := 5) (loc2 := [(2, v0), (2, v1), (0, v2), (0, v3), (0, v4_20), (0, v3), (9, 0), (9, 0), (9, 0)]) G rfl (Nat.le_of_ble_eq_true rfl) (am_pl1 rfl (fun h => nomatch h)) dX10_wordAt_22 rfl (z_iconst (nx := 25) (z := 0) G (R32c rfl) dX10_wordAt_24 rfl (b_storeE (nx := 27) (a := 6) (loc2 := [(2, v0), (2, v1), (0, v2), (0, v3), (0, v4_20), (0, v3), (0, 0), (9, 0), (9, 0)]) G rfl (Nat.le_of_ble_eq_true rfl) (am_pl1 rfl (fun h => nomatch h)) dX10_wordAt_25 rfl ?_)))
      exact b_fewer (loc2 := [(2, v0), (2, v1), (9, 0), (9, 0), (0, v4_20), (0, v3), (0, 0), (9, 0), (9, 0)]) (am_lk (am_lk (am_lf (am_lf (am_lk (am_lk (am_lk (am_lk (am_lk am_ln))))))))) (S_X10_wordAt_L1 X hp_v0 hp_v1 hB h)
    · have h := h.2 c
      refine z_iconst (nx := 14) (z := (-1)) G (R32c rfl) dX10_wordAt_13 rfl ?_
      exact b_ireturn X hB dX10_wordAt_14 h
theorem NM_X10_wordAt {v0 : Int} {v1 : Int} {v2 : Int} {v3 : Int} {K : am_KK} {m : am_M} (hp_v0 : am_ob v0 10) (hp_v1 : am_ob v1 0) (h : M_X10_wordAt v0 v1 v2 v3 K m) : N_X10_wordAt [v0, v1, v2, v3] K m := ⟨hp_v0, hp_v1, h⟩
theorem SS_X10_wordAt : am_Snd yX10_wordAt cX10_wordAt 9 (some .int) 0 4 (am_L [2, 2, 0, 0] 0 N_X10_wordAt) := by
  refine am_SB (by decide +kernel) (Nat.le_of_ble_eq_true rfl) (fun F zs as K m X ht hB hM => ?_)
  obtain ⟨v0, zs, as, rfl, rfl, hz0, ht⟩ := am_inv ht
  obtain ⟨v1, zs, as, rfl, rfl, hz1, ht⟩ := am_inv ht
  obtain ⟨v2, zs, as, rfl, rfl, hz2, ht⟩ := am_inv ht
  obtain ⟨v3, zs, as, rfl, rfl, hz3, ht⟩ := am_inv ht
  obtain ⟨rfl, rfl⟩ := am_inv0 ht
  obtain ⟨hp_v0, hp_v1, hM⟩ := hM
  exact S_X10_wordAt X hp_v0 hp_v1 hB hM
set_option maxRecDepth 20000 in
set_option maxHeartbeats 4000000 in
theorem S_X11_refuse {F : am_F} {K : am_KK} {v0 : Int} {v1 : Int} {m : am_M} (X : am_Cx F cX11_refuse RX11 (some .int) 2 0 K) (hp_v0 : am_ob v0 11) (hB : am_Bt m) (h : M_X11_refuse v0 v1 K m) : am_Z F 0 [] [(2, v0), (0, v1)] m 200 := by
  have G := X.G
  unfold M_X11_refuse at h
  refine z_aload_n (nx := 1) (a := 0) G rfl (Or.inl rfl) dX11_refuse_0 rfl (z_iload_n (nx := 2) (a := 1) G rfl dX11_refuse_1 rfl ?_)
  refine b_put (nx := 5) (k0 := 17) (t := 0) G hB fl_RX11_364 (Nat.le_of_ble_eq_true rfl) (Nat.le_of_ble_eq_true rfl) rfl (fun h => nomatch h) rfl hp_v0 dX11_refuse_2 rfl (fun m_1 e_m_1 hB => ?_)
  have h := h m_1 e_m_1
  refine z_iload_n (nx := 6) (a := 1) G rfl dX11_refuse_5 rfl (z_ineg (nx := 7) G dX11_refuse_6 rfl (z_iconst (nx := 8) (z := 1) G (R32c rfl) dX11_refuse_7 rfl (z_aload_n (nx := 9) (a := 0) G rfl (Or.inl rfl) dX11_refuse_8 rfl (b_getA (nx := 12) (k0 := 16) G hB fl_RX11_106 (Nat.le_of_ble_eq_true rfl) (Nat.le_of_ble_eq_true rfl) rfl hp_v0 dX11_refuse_9 rfl (b_alen (nx := 13) G (by decide) (by decide) (sh_11_16 _ hp_v0) dX11_refuse_12 rfl (z_iconst (nx := 14) (z := 1) G (R32c rfl) dX11_refuse_13 rfl (z_isub (nx := 15) G dX11_refuse_14 rfl ?_)))))))
  refine b_callS5 (nx := 18) (zs := [w32 (-v1), 1, w32 ((am_len (am_rfv v0 16)) - 1)]) (as := [(0, w32 (-v1)), (0, 1), (0, w32 ((am_len (am_rfv v0 16)) - 1))]) X hB SS_X11_within (am_ti (am_ti (am_ti am_tn))) (Nat.le_of_ble_eq_true rfl) (Nat.le_of_ble_eq_true rfl) ml_RX11_113 sw_X11_within (am_plainC 11 (by decide)) cw_X11_within nw_RX11 pp_X11_within (Nat.le_of_ble_eq_true rfl) dX11_refuse_15 rfl (NM_X11_within h) (fun r_2 m_3 h h01_4 hB => ?_)
  refine z_if_eq (nx := 21) (tgt := 32) G dX11_refuse_18 (by decide) rfl (fun c => ?_) (fun c => ?_)
  · have h := h.1 c
    refine z_iload_n (nx := 33) (a := 1) G rfl dX11_refuse_32 rfl ?_
    exact b_ireturn X hB dX11_refuse_33 h
  · have h := h.2 c
    refine z_aload_n (nx := 22) (a := 0) G rfl (Or.inl rfl) dX11_refuse_21 rfl (b_getA (nx := 25) (k0 := 16) G hB fl_RX11_106 (Nat.le_of_ble_eq_true rfl) (Nat.le_of_ble_eq_true rfl) rfl hp_v0 dX11_refuse_22 rfl (z_iload_n (nx := 26) (a := 1) G rfl dX11_refuse_25 rfl (z_ineg (nx := 27) G dX11_refuse_26 rfl (z_dup2 (nx := 28) G (fun h => nomatch h) (fun h => nomatch h) dX11_refuse_27 rfl ?_))))
    obtain ⟨hb, h⟩ := h
    refine z_iald (nx := 29) G (sh_11_16 _ hp_v0) hb.1 hb.2 dX11_refuse_28 rfl ?_
    refine z_iconst (nx := 30) (z := 1) G (R32c rfl) dX11_refuse_29 rfl (z_iadd (nx := 31) G dX11_refuse_30 rfl ?_)
    obtain ⟨hb, h⟩ := h
    refine b_iast (nx := 32) G hB (sh_11_16 _ hp_v0) hb.1 hb.2 dX11_refuse_31 rfl (fun m_5 e_m_5 hB => ?_)
    have h := h m_5 e_m_5
    refine z_iload_n (nx := 33) (a := 1) G rfl dX11_refuse_32 rfl ?_
    exact b_ireturn X hB dX11_refuse_33 h
theorem NM_X11_refuse {v0 : Int} {v1 : Int} {K : am_KK} {m : am_M} (hp_v0 : am_ob v0 11) (h : M_X11_refuse v0 v1 K m) : N_X11_refuse [v0, v1] K m := ⟨hp_v0, h⟩
theorem SS_X11_refuse : am_Snd yX11_refuse cX11_refuse 2 (some .int) 0 2 (am_L [2, 0] 0 N_X11_refuse) := by
  refine am_SB (by decide +kernel) (Nat.le_of_ble_eq_true rfl) (fun F zs as K m X ht hB hM => ?_)
  obtain ⟨v0, zs, as, rfl, rfl, hz0, ht⟩ := am_inv ht
  obtain ⟨v1, zs, as, rfl, rfl, hz1, ht⟩ := am_inv ht
  obtain ⟨rfl, rfl⟩ := am_inv0 ht
  obtain ⟨hp_v0, hM⟩ := hM
  exact S_X11_refuse X hp_v0 hB hM
set_option maxRecDepth 20000 in
set_option maxHeartbeats 4000000 in
theorem S_X11_fine {F : am_F} {K : am_KK} {v0 : Int} {v1 : Int} {m : am_M} (X : am_Cx F cX11_fine RX11 (some .int) 1 0 K) (hp_v0 : am_ob v0 11) (hB : am_Bt m) (h : M_X11_fine v0 v1 K m) : am_Z F 0 [] [(2, v0), (0, v1)] m 200 := by
  have G := X.G
  unfold M_X11_fine at h
  refine z_aload_n (nx := 1) (a := 0) G rfl (Or.inl rfl) dX11_fine_0 rfl (z_iconst (nx := 2) (z := 0) G (R32c rfl) dX11_fine_1 rfl ?_)
  refine b_put (nx := 5) (k0 := 17) (t := 0) G hB fl_RX11_364 (Nat.le_of_ble_eq_true rfl) (Nat.le_of_ble_eq_true rfl) rfl (fun h => nomatch h) rfl hp_v0 dX11_fine_2 rfl (fun m_1 e_m_1 hB => ?_)
  have h := h m_1 e_m_1
  refine z_iload_n (nx := 6) (a := 1) G rfl dX11_fine_5 rfl ?_
  exact b_ireturn X hB dX11_fine_6 h
theorem NM_X11_fine {v0 : Int} {v1 : Int} {K : am_KK} {m : am_M} (hp_v0 : am_ob v0 11) (h : M_X11_fine v0 v1 K m) : N_X11_fine [v0, v1] K m := ⟨hp_v0, h⟩
theorem SS_X11_fine : am_Snd yX11_fine cX11_fine 2 (some .int) 0 1 (am_L [2, 0] 0 N_X11_fine) := by
  refine am_SB (by decide +kernel) (Nat.le_of_ble_eq_true rfl) (fun F zs as K m X ht hB hM => ?_)
  obtain ⟨v0, zs, as, rfl, rfl, hz0, ht⟩ := am_inv ht
  obtain ⟨v1, zs, as, rfl, rfl, hz1, ht⟩ := am_inv ht
  obtain ⟨rfl, rfl⟩ := am_inv0 ht
  obtain ⟨hp_v0, hM⟩ := hM
  exact S_X11_fine X hp_v0 hB hM
set_option maxRecDepth 20000 in
set_option maxHeartbeats 4000000 in
theorem S_X11_word {F : am_F} {K : am_KK} {v0 : Int} {v1 : Int} {m : am_M} (X : am_Cx F cX11_word RX11 (some .int) 3 0 K) (hp_v0 : am_ob v0 11) (hB : am_Bt m) (h : M_X11_word v0 v1 K m) : am_Z F 0 [] [(2, v0), (0, v1), (9, 0)] m 200 := by
  have G := X.G
  unfold M_X11_word at h
  refine z_iload_n (nx := 1) (a := 1) G rfl dX11_word_0 rfl (z_iconst (nx := 2) (z := 1) G (R32c rfl) dX11_word_1 rfl (z_bipush (nx := 4) (z := 9) G (R32c rfl) rfl dX11_word_2 rfl ?_))
  refine b_callS5 (nx := 7) (zs := [v1, 1, 9]) (as := [(0, v1), (0, 1), (0, 9)]) X hB SS_X11_within (am_ti (am_ti (am_ti am_tn))) (Nat.le_of_ble_eq_true rfl) (Nat.le_of_ble_eq_true rfl) ml_RX11_113 sw_X11_within (am_plainC 11 (by decide)) cw_X11_within nw_RX11 pp_X11_within (Nat.le_of_ble_eq_true rfl) dX11_word_4 rfl (NM_X11_within h) (fun r_1 m_2 h h01_3 hB => ?_)
  refine z_if_ne (nx := 10) (tgt := 16) G dX11_word_7 (by decide) rfl (fun c => ?_) (fun c => ?_)
  · have h := h.1 c
    refine z_aload_n (nx := 17) (a := 0) G rfl (Or.inl rfl) dX11_word_16 rfl (b_getA (nx := 20) (k0 := 0) G hB fl_RX11_10 (Nat.le_of_ble_eq_true rfl) (Nat.le_of_ble_eq_true rfl) rfl hp_v0 dX11_word_17 rfl (b_getA (nx := 23) (k0 := 0) G hB fl_RX11_121 (Nat.le_of_ble_eq_true rfl) (Nat.le_of_ble_eq_true rfl) rfl (sh_11_0 _ hp_v0) dX11_word_20 rfl ?_))
    refine b_callV0 (nx := 26) (zs := [am_rfv (am_rfv v0 0) 0]) (as := []) X hB (by decide) rfl (sh_0_0 _ (sh_11_0 _ hp_v0)) SS_X7_open (am_ta am_tn) (Nat.le_of_ble_eq_true rfl) (Nat.le_of_ble_eq_true rfl) ml_RX11_124 iw_X7_open vw_X7_open cw_X7_open nw_RX7 pp_X7_open (Nat.le_of_ble_eq_true rfl) dX11_word_23 rfl (NM_X7_open (sh_0_0 _ (sh_11_0 _ hp_v0)) h) (fun r_4 m_5 h hB => ?_)
    refine b_storeE_n (nx := 27) (a := 2) (loc2 := [(2, v0), (0, v1), (0, r_4)]) G rfl (Nat.le_of_ble_eq_true rfl) (am_pl1 rfl (fun h => nomatch h)) dX11_word_26 rfl (z_iload_n (nx := 28) (a := 2) G rfl dX11_word_27 rfl (z_iconst (nx := 29) (z := (-1)) G (R32c rfl) dX11_word_28 rfl ?_))
    refine z_icmp_ne (nx := 32) (tgt := 39) G dX11_word_29 (by decide) rfl (fun c => ?_) (fun c => ?_)
    · have h := h.1 c
      refine z_aload_n (nx := 40) (a := 0) G rfl (Or.inl rfl) dX11_word_39 rfl (b_getA (nx := 43) (k0 := 0) G hB fl_RX11_10 (Nat.le_of_ble_eq_true rfl) (Nat.le_of_ble_eq_true rfl) rfl hp_v0 dX11_word_40 rfl (b_getA (nx := 46) (k0 := 0) G hB fl_RX11_121 (Nat.le_of_ble_eq_true rfl) (Nat.le_of_ble_eq_true rfl) rfl (sh_11_0 _ hp_v0) dX11_word_43 rfl (z_iload_n (nx := 47) (a := 2) G rfl dX11_word_46 rfl (z_iconst (nx := 48) (z := 0) G (R32c rfl) dX11_word_47 rfl (z_iload_n (nx := 49) (a := 1) G rfl dX11_word_48 rfl ?_)))))
      refine b_callV9 (nx := 52) (zs := [am_rfv (am_rfv v0 0) 0, r_4, 0, v1]) (as := [(0, r_4), (0, 0), (0, v1)]) X hB (by decide) rfl (sh_0_0 _ (sh_11_0 _ hp_v0)) SS_X7_set (am_ta (am_ti (am_ti (am_ti am_tn)))) (Nat.le_of_ble_eq_true rfl) (Nat.le_of_ble_eq_true rfl) ml_RX11_128 iw_X7_set vw_X7_set cw_X7_set nw_RX7 pp_X7_set (Nat.le_of_ble_eq_true rfl) dX11_word_49 rfl (NM_X7_set (sh_0_0 _ (sh_11_0 _ hp_v0)) h) (fun r_6 m_7 h hB => ?_)
      refine z_aload_n (nx := 53) (a := 0) G rfl (Or.inl rfl) dX11_word_52 rfl (z_iload_n (nx := 54) (a := 2) G rfl dX11_word_53 rfl ?_)
      refine b_callV0 (nx := 57) (zs := [v0, r_4]) (as := [(0, r_4)]) X hB (by decide) rfl hp_v0 SS_X11_fine (am_ta (am_ti am_tn)) (Nat.le_of_ble_eq_true rfl) (Nat.le_of_ble_eq_true rfl) ml_RX11_132 iw_X11_fine vw_X11_fine cw_X11_fine nw_RX11 pp_X11_fine (Nat.le_of_ble_eq_true rfl) dX11_word_54 rfl (NM_X11_fine hp_v0 h) (fun r_8 m_9 h hB => ?_)
      exact b_ireturn X hB dX11_word_57 h
    · have h := h.2 c
      refine z_aload_n (nx := 33) (a := 0) G rfl (Or.inl rfl) dX11_word_32 rfl (z_bipush (nx := 35) (z := (-5)) G (R32c rfl) rfl dX11_word_33 rfl ?_)
      refine b_callV0 (nx := 38) (zs := [v0, (-5)]) (as := [(0, (-5))]) X hB (by decide) rfl hp_v0 SS_X11_refuse (am_ta (am_ti am_tn)) (Nat.le_of_ble_eq_true rfl) (Nat.le_of_ble_eq_true rfl) ml_RX11_117 iw_X11_refuse vw_X11_refuse cw_X11_refuse nw_RX11 pp_X11_refuse (Nat.le_of_ble_eq_true rfl) dX11_word_35 rfl (NM_X11_refuse hp_v0 h) (fun r_10 m_11 h hB => ?_)
      exact b_ireturn X hB dX11_word_38 h
  · have h := h.2 c
    refine z_aload_n (nx := 11) (a := 0) G rfl (Or.inl rfl) dX11_word_10 rfl (z_iconst (nx := 12) (z := (-1)) G (R32c rfl) dX11_word_11 rfl ?_)
    refine b_callV0 (nx := 15) (zs := [v0, (-1)]) (as := [(0, (-1))]) X hB (by decide) rfl hp_v0 SS_X11_refuse (am_ta (am_ti am_tn)) (Nat.le_of_ble_eq_true rfl) (Nat.le_of_ble_eq_true rfl) ml_RX11_117 iw_X11_refuse vw_X11_refuse cw_X11_refuse nw_RX11 pp_X11_refuse (Nat.le_of_ble_eq_true rfl) dX11_word_12 rfl (NM_X11_refuse hp_v0 h) (fun r_12 m_13 h hB => ?_)
    exact b_ireturn X hB dX11_word_15 h
theorem NM_X11_word {v0 : Int} {v1 : Int} {K : am_KK} {m : am_M} (hp_v0 : am_ob v0 11) (h : M_X11_word v0 v1 K m) : N_X11_word [v0, v1] K m := ⟨hp_v0, h⟩
theorem SS_X11_word : am_Snd yX11_word cX11_word 3 (some .int) 0 3 (am_L [2, 0] 0 N_X11_word) := by
  refine am_SB (by decide +kernel) (Nat.le_of_ble_eq_true rfl) (fun F zs as K m X ht hB hM => ?_)
  obtain ⟨v0, zs, as, rfl, rfl, hz0, ht⟩ := am_inv ht
  obtain ⟨v1, zs, as, rfl, rfl, hz1, ht⟩ := am_inv ht
  obtain ⟨rfl, rfl⟩ := am_inv0 ht
  obtain ⟨hp_v0, hM⟩ := hM
  exact S_X11_word X hp_v0 hB hM
set_option maxRecDepth 20000 in
set_option maxHeartbeats 4000000 in
theorem S_X11_lengthOf {F : am_F} {K : am_KK} {v0 : Int} {v1 : Int} {m : am_M} (X : am_Cx F cX11_lengthOf RX11 (some .int) 2 0 K) (hp_v0 : am_ob v0 11) (hB : am_Bt m) (h : M_X11_lengthOf v0 v1 K m) : am_Z F 0 [] [(2, v0), (0, v1)] m 200 := by
  have G := X.G
  unfold M_X11_lengthOf at h
  refine z_aload_n (nx := 1) (a := 0) G rfl (Or.inl rfl) dX11_lengthOf_0 rfl (b_getA (nx := 4) (k0 := 0) G hB fl_RX11_10 (Nat.le_of_ble_eq_true rfl) (Nat.le_of_ble_eq_true rfl) rfl hp_v0 dX11_lengthOf_1 rfl (b_getA (nx := 7) (k0 := 0) G hB fl_RX11_121 (Nat.le_of_ble_eq_true rfl) (Nat.le_of_ble_eq_true rfl) rfl (sh_11_0 _ hp_v0) dX11_lengthOf_4 rfl (z_iload_n (nx := 8) (a := 1) G rfl dX11_lengthOf_7 rfl (z_iconst (nx := 9) (z := 0) G (R32c rfl) dX11_lengthOf_8 rfl ?_))))
  refine b_callV0 (nx := 12) (zs := [am_rfv (am_rfv v0 0) 0, v1, 0]) (as := [(0, v1), (0, 0)]) X hB (by decide) rfl (sh_0_0 _ (sh_11_0 _ hp_v0)) SS_X7_get (am_ta (am_ti (am_ti am_tn))) (Nat.le_of_ble_eq_true rfl) (Nat.le_of_ble_eq_true rfl) ml_RX11_135 iw_X7_get vw_X7_get cw_X7_get nw_RX7 pp_X7_get (Nat.le_of_ble_eq_true rfl) dX11_lengthOf_9 rfl (NM_X7_get (sh_0_0 _ (sh_11_0 _ hp_v0)) h) (fun r_1 m_2 h hB => ?_)
  exact b_ireturn X hB dX11_lengthOf_12 h
theorem NM_X11_lengthOf {v0 : Int} {v1 : Int} {K : am_KK} {m : am_M} (hp_v0 : am_ob v0 11) (h : M_X11_lengthOf v0 v1 K m) : N_X11_lengthOf [v0, v1] K m := ⟨hp_v0, h⟩
theorem SS_X11_lengthOf : am_Snd yX11_lengthOf cX11_lengthOf 2 (some .int) 0 2 (am_L [2, 0] 0 N_X11_lengthOf) := by
  refine am_SB (by decide +kernel) (Nat.le_of_ble_eq_true rfl) (fun F zs as K m X ht hB hM => ?_)
  obtain ⟨v0, zs, as, rfl, rfl, hz0, ht⟩ := am_inv ht
  obtain ⟨v1, zs, as, rfl, rfl, hz1, ht⟩ := am_inv ht
  obtain ⟨rfl, rfl⟩ := am_inv0 ht
  obtain ⟨hp_v0, hM⟩ := hM
  exact S_X11_lengthOf X hp_v0 hB hM
set_option maxRecDepth 20000 in
set_option maxHeartbeats 4000000 in
theorem S_X11_lacksWord {F : am_F} {K : am_KK} {v0 : Int} {v1 : Int} {m : am_M} (X : am_Cx F cX11_lacksWord RX11 (some .boolean) 2 5 K) (hp_v0 : am_ob v0 11) (hB : am_Bt m) (h : M_X11_lacksWord v0 v1 K m) : am_Z F 0 [] [(2, v0), (0, v1)] m 200 := by
  have G := X.G
  unfold M_X11_lacksWord at h
  refine z_iload_n (nx := 1) (a := 1) G rfl dX11_lacksWord_0 rfl (z_iconst (nx := 2) (z := 0) G (R32c rfl) dX11_lacksWord_1 rfl (z_bipush (nx := 4) (z := 9) G (R32c rfl) rfl dX11_lacksWord_2 rfl ?_))
  refine b_callS5 (nx := 7) (zs := [v1, 0, 9]) (as := [(0, v1), (0, 0), (0, 9)]) X hB SS_X11_within (am_ti (am_ti (am_ti am_tn))) (Nat.le_of_ble_eq_true rfl) (Nat.le_of_ble_eq_true rfl) ml_RX11_113 sw_X11_within (am_plainC 11 (by decide)) cw_X11_within nw_RX11 pp_X11_within (Nat.le_of_ble_eq_true rfl) dX11_lacksWord_4 rfl (NM_X11_within h) (fun r_1 m_2 h h01_3 hB => ?_)
  refine z_if_eq (nx := 10) (tgt := 28) G dX11_lacksWord_7 (by decide) rfl (fun c => ?_) (fun c => ?_)
  · have h := h.1 c
    refine z_iconst (nx := 29) (z := 0) G (R32c rfl) dX11_lacksWord_28 rfl ?_
    exact b_zreturn X hB (Or.inl rfl) dX11_lacksWord_29 h
  · have h := h.2 c
    refine z_aload_n (nx := 11) (a := 0) G rfl (Or.inl rfl) dX11_lacksWord_10 rfl (b_getA (nx := 14) (k0 := 0) G hB fl_RX11_10 (Nat.le_of_ble_eq_true rfl) (Nat.le_of_ble_eq_true rfl) rfl hp_v0 dX11_lacksWord_11 rfl (b_getA (nx := 17) (k0 := 0) G hB fl_RX11_121 (Nat.le_of_ble_eq_true rfl) (Nat.le_of_ble_eq_true rfl) rfl (sh_11_0 _ hp_v0) dX11_lacksWord_14 rfl (z_iload_n (nx := 18) (a := 1) G rfl dX11_lacksWord_17 rfl ?_)))
    refine b_callV5 (nx := 21) (zs := [am_rfv (am_rfv v0 0) 0, v1]) (as := [(0, v1)]) X hB (by decide) rfl (sh_0_0 _ (sh_11_0 _ hp_v0)) SS_X7_has (am_ta (am_ti am_tn)) (Nat.le_of_ble_eq_true rfl) (Nat.le_of_ble_eq_true rfl) ml_RX11_159 iw_X7_has vw_X7_has cw_X7_has nw_RX7 pp_X7_has (Nat.le_of_ble_eq_true rfl) dX11_lacksWord_18 rfl (NM_X7_has (sh_0_0 _ (sh_11_0 _ hp_v0)) h) (fun r_4 m_5 h h01_6 hB => ?_)
    refine z_if_ne (nx := 24) (tgt := 28) G dX11_lacksWord_21 (by decide) rfl (fun c => ?_) (fun c => ?_)
    · have h := h.1 c
      refine z_iconst (nx := 29) (z := 0) G (R32c rfl) dX11_lacksWord_28 rfl ?_
      exact b_zreturn X hB (Or.inl rfl) dX11_lacksWord_29 h
    · have h := h.2 c
      refine z_iconst (nx := 25) (z := 1) G (R32c rfl) dX11_lacksWord_24 rfl (z_goto (tgt := 29) G dX11_lacksWord_25 (by decide) ?_)
      exact b_zreturn X hB (Or.inr rfl) dX11_lacksWord_29 h
theorem NM_X11_lacksWord {v0 : Int} {v1 : Int} {K : am_KK} {m : am_M} (hp_v0 : am_ob v0 11) (h : M_X11_lacksWord v0 v1 K m) : N_X11_lacksWord [v0, v1] K m := ⟨hp_v0, h⟩
theorem SS_X11_lacksWord : am_Snd yX11_lacksWord cX11_lacksWord 2 (some .boolean) 0 2 (am_L [2, 0] 5 N_X11_lacksWord) := by
  refine am_SB (by decide +kernel) (Nat.le_of_ble_eq_true rfl) (fun F zs as K m X ht hB hM => ?_)
  obtain ⟨v0, zs, as, rfl, rfl, hz0, ht⟩ := am_inv ht
  obtain ⟨v1, zs, as, rfl, rfl, hz1, ht⟩ := am_inv ht
  obtain ⟨rfl, rfl⟩ := am_inv0 ht
  obtain ⟨hp_v0, hM⟩ := hM
  exact S_X11_lacksWord X hp_v0 hB hM
set_option maxRecDepth 20000 in
set_option maxHeartbeats 4000000 in
theorem S_X11_rule_J3 {F : am_F} {K : am_KK} {v0 : Int} {m : am_M} (X : am_Cx F cX11_rule RX11 (some .int) 3 0 K) (hp_v0 : am_ob v0 11) (hB : am_Bt m) (h : M_X11_rule_J3 v0 K m) : am_Z F 80 [] [(2, v0), (9, 0), (9, 0), (9, 0), (9, 0), (9, 0)] m 200 := by
  have G := X.G
  unfold M_X11_rule_J3 at h
  refine z_aload_n (nx := 81) (a := 0) G rfl (Or.inl rfl) dX11_rule_80 rfl (z_bipush (nx := 83) (z := (-2)) G (R32c rfl) rfl dX11_rule_81 rfl ?_)
  refine b_callV0 (nx := 86) (zs := [v0, (-2)]) (as := [(0, (-2))]) X hB (by decide) rfl hp_v0 SS_X11_refuse (am_ta (am_ti am_tn)) (Nat.le_of_ble_eq_true rfl) (Nat.le_of_ble_eq_true rfl) ml_RX11_117 iw_X11_refuse vw_X11_refuse cw_X11_refuse nw_RX11 pp_X11_refuse (Nat.le_of_ble_eq_true rfl) dX11_rule_83 rfl (NM_X11_refuse hp_v0 h) (fun r_1 m_2 h hB => ?_)
  exact b_ireturn X hB dX11_rule_86 h
set_option maxRecDepth 20000 in
set_option maxHeartbeats 4000000 in
theorem S_X11_rule_J2 {F : am_F} {K : am_KK} {v0 : Int} {v1 : Int} {v2 : Int} {v3 : Int} {v4 : Int} {m : am_M} (X : am_Cx F cX11_rule RX11 (some .int) 3 0 K) (hp_v0 : am_ob v0 11) (hB : am_Bt m) (h : M_X11_rule_J2 v0 v1 v2 v3 v4 K m) : am_Z F 55 [] [(2, v0), (0, v1), (0, v2), (0, v3), (0, v4), (9, 0)] m 200 := by
  have G := X.G
  unfold M_X11_rule_J2 at h
  refine z_aload_n (nx := 56) (a := 0) G rfl (Or.inl rfl) dX11_rule_55 rfl (z_iload_n (nx := 57) (a := 2) G rfl dX11_rule_56 rfl ?_)
  refine b_callV5 (nx := 60) (zs := [v0, v2]) (as := [(0, v2)]) X hB (by decide) rfl hp_v0 SS_X11_lacksWord (am_ta (am_ti am_tn)) (Nat.le_of_ble_eq_true rfl) (Nat.le_of_ble_eq_true rfl) ml_RX11_143 iw_X11_lacksWord vw_X11_lacksWord cw_X11_lacksWord nw_RX11 pp_X11_lacksWord (Nat.le_of_ble_eq_true rfl) dX11_rule_57 rfl (NM_X11_lacksWord hp_v0 h) (fun r_3 m_4 h h01_5 hB => ?_)
  refine z_if_ne (nx := 63) (tgt := 80) G dX11_rule_60 (by decide) rfl (fun c => ?_) (fun c => ?_)
  · have h := h.1 c
    exact b_fewer (loc2 := [(2, v0), (9, 0), (9, 0), (9, 0), (9, 0), (9, 0)]) (am_lk (am_lf (am_lf (am_lf (am_lf (am_lk am_ln)))))) (S_X11_rule_J3 X hp_v0 hB h)
  · have h := h.2 c
    refine z_aload_n (nx := 64) (a := 0) G rfl (Or.inl rfl) dX11_rule_63 rfl (z_iload_n (nx := 65) (a := 3) G rfl dX11_rule_64 rfl ?_)
    refine b_callV5 (nx := 68) (zs := [v0, v3]) (as := [(0, v3)]) X hB (by decide) rfl hp_v0 SS_X11_lacksWord (am_ta (am_ti am_tn)) (Nat.le_of_ble_eq_true rfl) (Nat.le_of_ble_eq_true rfl) ml_RX11_143 iw_X11_lacksWord vw_X11_lacksWord cw_X11_lacksWord nw_RX11 pp_X11_lacksWord (Nat.le_of_ble_eq_true rfl) dX11_rule_65 rfl (NM_X11_lacksWord hp_v0 h) (fun r_6 m_7 h h01_8 hB => ?_)
    refine z_if_ne (nx := 71) (tgt := 80) G dX11_rule_68 (by decide) rfl (fun c => ?_) (fun c => ?_)
    · have h := h.1 c
      exact b_fewer (loc2 := [(2, v0), (9, 0), (9, 0), (9, 0), (9, 0), (9, 0)]) (am_lk (am_lf (am_lf (am_lf (am_lf (am_lk am_ln)))))) (S_X11_rule_J3 X hp_v0 hB h)
    · have h := h.2 c
      refine z_aload_n (nx := 72) (a := 0) G rfl (Or.inl rfl) dX11_rule_71 rfl (z_iload (nx := 74) (a := 4) G rfl dX11_rule_72 rfl ?_)
      refine b_callV5 (nx := 77) (zs := [v0, v4]) (as := [(0, v4)]) X hB (by decide) rfl hp_v0 SS_X11_lacksWord (am_ta (am_ti am_tn)) (Nat.le_of_ble_eq_true rfl) (Nat.le_of_ble_eq_true rfl) ml_RX11_143 iw_X11_lacksWord vw_X11_lacksWord cw_X11_lacksWord nw_RX11 pp_X11_lacksWord (Nat.le_of_ble_eq_true rfl) dX11_rule_74 rfl (NM_X11_lacksWord hp_v0 h) (fun r_9 m_10 h h01_11 hB => ?_)
      refine z_if_eq (nx := 80) (tgt := 87) G dX11_rule_77 (by decide) rfl (fun c => ?_) (fun c => ?_)
      · have h := h.1 c
        refine z_aload_n (nx := 88) (a := 0) G rfl (Or.inl rfl) dX11_rule_87 rfl (b_getA (nx := 91) (k0 := 0) G hB fl_RX11_10 (Nat.le_of_ble_eq_true rfl) (Nat.le_of_ble_eq_true rfl) rfl hp_v0 dX11_rule_88 rfl (b_getA (nx := 94) (k0 := 1) G hB fl_RX11_146 (Nat.le_of_ble_eq_true rfl) (Nat.le_of_ble_eq_true rfl) rfl (sh_11_0 _ hp_v0) dX11_rule_91 rfl ?_))
        refine b_callV0 (nx := 97) (zs := [am_rfv (am_rfv v0 0) 1]) (as := []) X hB (by decide) rfl (sh_0_1 _ (sh_11_0 _ hp_v0)) SS_X7_open (am_ta am_tn) (Nat.le_of_ble_eq_true rfl) (Nat.le_of_ble_eq_true rfl) ml_RX11_124 iw_X7_open vw_X7_open cw_X7_open nw_RX7 pp_X7_open (Nat.le_of_ble_eq_true rfl) dX11_rule_94 rfl (NM_X7_open (sh_0_1 _ (sh_11_0 _ hp_v0)) h) (fun r_12 m_13 h hB => ?_)
        refine b_storeE (nx := 99) (a := 5) (loc2 := [(2, v0), (0, v1), (0, v2), (0, v3), (0, v4), (0, r_12)]) G rfl (Nat.le_of_ble_eq_true rfl) (am_pl1 rfl (fun h => nomatch h)) dX11_rule_97 rfl (z_iload (nx := 101) (a := 5) G rfl dX11_rule_99 rfl (z_iconst (nx := 102) (z := (-1)) G (R32c rfl) dX11_rule_101 rfl ?_))
        refine z_icmp_ne (nx := 105) (tgt := 112) G dX11_rule_102 (by decide) rfl (fun c => ?_) (fun c => ?_)
        · have h := h.1 c
          refine z_aload_n (nx := 113) (a := 0) G rfl (Or.inl rfl) dX11_rule_112 rfl (b_getA (nx := 116) (k0 := 0) G hB fl_RX11_10 (Nat.le_of_ble_eq_true rfl) (Nat.le_of_ble_eq_true rfl) rfl hp_v0 dX11_rule_113 rfl (b_getA (nx := 119) (k0 := 1) G hB fl_RX11_146 (Nat.le_of_ble_eq_true rfl) (Nat.le_of_ble_eq_true rfl) rfl (sh_11_0 _ hp_v0) dX11_rule_116 rfl (z_iload (nx := 121) (a := 5) G rfl dX11_rule_119 rfl (z_iconst (nx := 122) (z := 0) G (R32c rfl) dX11_rule_121 rfl (z_iload_n (nx := 123) (a := 1) G rfl dX11_rule_122 rfl ?_)))))
          refine b_callV9 (nx := 126) (zs := [am_rfv (am_rfv v0 0) 1, r_12, 0, v1]) (as := [(0, r_12), (0, 0), (0, v1)]) X hB (by decide) rfl (sh_0_1 _ (sh_11_0 _ hp_v0)) SS_X7_set (am_ta (am_ti (am_ti (am_ti am_tn)))) (Nat.le_of_ble_eq_true rfl) (Nat.le_of_ble_eq_true rfl) ml_RX11_128 iw_X7_set vw_X7_set cw_X7_set nw_RX7 pp_X7_set (Nat.le_of_ble_eq_true rfl) dX11_rule_123 rfl (NM_X7_set (sh_0_1 _ (sh_11_0 _ hp_v0)) h) (fun r_14 m_15 h hB => ?_)
          refine z_aload_n (nx := 127) (a := 0) G rfl (Or.inl rfl) dX11_rule_126 rfl (b_getA (nx := 130) (k0 := 0) G hB fl_RX11_10 (Nat.le_of_ble_eq_true rfl) (Nat.le_of_ble_eq_true rfl) rfl hp_v0 dX11_rule_127 rfl (b_getA (nx := 133) (k0 := 1) G hB fl_RX11_146 (Nat.le_of_ble_eq_true rfl) (Nat.le_of_ble_eq_true rfl) rfl (sh_11_0 _ hp_v0) dX11_rule_130 rfl (z_iload (nx := 135) (a := 5) G rfl dX11_rule_133 rfl (z_iconst (nx := 136) (z := 1) G (R32c rfl) dX11_rule_135 rfl (z_iload_n (nx := 137) (a := 2) G rfl dX11_rule_136 rfl ?_)))))
          refine b_callV9 (nx := 140) (zs := [am_rfv (am_rfv v0 0) 1, r_12, 1, v2]) (as := [(0, r_12), (0, 1), (0, v2)]) X hB (by decide) rfl (sh_0_1 _ (sh_11_0 _ hp_v0)) SS_X7_set (am_ta (am_ti (am_ti (am_ti am_tn)))) (Nat.le_of_ble_eq_true rfl) (Nat.le_of_ble_eq_true rfl) ml_RX11_128 iw_X7_set vw_X7_set cw_X7_set nw_RX7 pp_X7_set (Nat.le_of_ble_eq_true rfl) dX11_rule_137 rfl (NM_X7_set (sh_0_1 _ (sh_11_0 _ hp_v0)) h) (fun r_16 m_17 h hB => ?_)
          refine z_aload_n (nx := 141) (a := 0) G rfl (Or.inl rfl) dX11_rule_140 rfl (b_getA (nx := 144) (k0 := 0) G hB fl_RX11_10 (Nat.le_of_ble_eq_true rfl) (Nat.le_of_ble_eq_true rfl) rfl hp_v0 dX11_rule_141 rfl (b_getA (nx := 147) (k0 := 1) G hB fl_RX11_146 (Nat.le_of_ble_eq_true rfl) (Nat.le_of_ble_eq_true rfl) rfl (sh_11_0 _ hp_v0) dX11_rule_144 rfl (z_iload (nx := 149) (a := 5) G rfl dX11_rule_147 rfl (z_iconst (nx := 150) (z := 2) G (R32c rfl) dX11_rule_149 rfl (z_iload_n (nx := 151) (a := 3) G rfl dX11_rule_150 rfl ?_)))))
          refine b_callV9 (nx := 154) (zs := [am_rfv (am_rfv v0 0) 1, r_12, 2, v3]) (as := [(0, r_12), (0, 2), (0, v3)]) X hB (by decide) rfl (sh_0_1 _ (sh_11_0 _ hp_v0)) SS_X7_set (am_ta (am_ti (am_ti (am_ti am_tn)))) (Nat.le_of_ble_eq_true rfl) (Nat.le_of_ble_eq_true rfl) ml_RX11_128 iw_X7_set vw_X7_set cw_X7_set nw_RX7 pp_X7_set (Nat.le_of_ble_eq_true rfl) dX11_rule_151 rfl (NM_X7_set (sh_0_1 _ (sh_11_0 _ hp_v0)) h) (fun r_18 m_19 h hB => ?_)
          refine z_aload_n (nx := 155) (a := 0) G rfl (Or.inl rfl) dX11_rule_154 rfl (b_getA (nx := 158) (k0 := 0) G hB fl_RX11_10 (Nat.le_of_ble_eq_true rfl) (Nat.le_of_ble_eq_true rfl) rfl hp_v0 dX11_rule_155 rfl (b_getA (nx := 161) (k0 := 1) G hB fl_RX11_146 (Nat.le_of_ble_eq_true rfl) (Nat.le_of_ble_eq_true rfl) rfl (sh_11_0 _ hp_v0) dX11_rule_158 rfl (z_iload (nx := 163) (a := 5) G rfl dX11_rule_161 rfl (z_iconst (nx := 164) (z := 3) G (R32c rfl) dX11_rule_163 rfl (z_iload (nx := 166) (a := 4) G rfl dX11_rule_164 rfl ?_)))))
          refine b_callV9 (nx := 169) (zs := [am_rfv (am_rfv v0 0) 1, r_12, 3, v4]) (as := [(0, r_12), (0, 3), (0, v4)]) X hB (by decide) rfl (sh_0_1 _ (sh_11_0 _ hp_v0)) SS_X7_set (am_ta (am_ti (am_ti (am_ti am_tn)))) (Nat.le_of_ble_eq_true rfl) (Nat.le_of_ble_eq_true rfl) ml_RX11_128 iw_X7_set vw_X7_set cw_X7_set nw_RX7 pp_X7_set (Nat.le_of_ble_eq_true rfl) dX11_rule_166 rfl (NM_X7_set (sh_0_1 _ (sh_11_0 _ hp_v0)) h) (fun r_20 m_21 h hB => ?_)
          refine z_aload_n (nx := 170) (a := 0) G rfl (Or.inl rfl) dX11_rule_169 rfl (z_iload (nx := 172) (a := 5) G rfl dX11_rule_170 rfl ?_)
          refine b_callV0 (nx := 175) (zs := [v0, r_12]) (as := [(0, r_12)]) X hB (by decide) rfl hp_v0 SS_X11_fine (am_ta (am_ti am_tn)) (Nat.le_of_ble_eq_true rfl) (Nat.le_of_ble_eq_true rfl) ml_RX11_132 iw_X11_fine vw_X11_fine cw_X11_fine nw_RX11 pp_X11_fine (Nat.le_of_ble_eq_true rfl) dX11_rule_172 rfl (NM_X11_fine hp_v0 h) (fun r_22 m_23 h hB => ?_)
          exact b_ireturn X hB dX11_rule_175 h
        · have h := h.2 c
          refine z_aload_n (nx := 106) (a := 0) G rfl (Or.inl rfl) dX11_rule_105 rfl (z_bipush (nx := 108) (z := (-5)) G (R32c rfl) rfl dX11_rule_106 rfl ?_)
          refine b_callV0 (nx := 111) (zs := [v0, (-5)]) (as := [(0, (-5))]) X hB (by decide) rfl hp_v0 SS_X11_refuse (am_ta (am_ti am_tn)) (Nat.le_of_ble_eq_true rfl) (Nat.le_of_ble_eq_true rfl) ml_RX11_117 iw_X11_refuse vw_X11_refuse cw_X11_refuse nw_RX11 pp_X11_refuse (Nat.le_of_ble_eq_true rfl) dX11_rule_108 rfl (NM_X11_refuse hp_v0 h) (fun r_24 m_25 h hB => ?_)
          exact b_ireturn X hB dX11_rule_111 h
      · have h := h.2 c
        exact b_fewer (loc2 := [(2, v0), (9, 0), (9, 0), (9, 0), (9, 0), (9, 0)]) (am_lk (am_lf (am_lf (am_lf (am_lf (am_lk am_ln)))))) (S_X11_rule_J3 X hp_v0 hB h)
set_option maxRecDepth 20000 in
set_option maxHeartbeats 4000000 in
theorem S_X11_rule_J1 {F : am_F} {K : am_KK} {v0 : Int} {m : am_M} (X : am_Cx F cX11_rule RX11 (some .int) 3 0 K) (hp_v0 : am_ob v0 11) (hB : am_Bt m) (h : M_X11_rule_J1 v0 K m) : am_Z F 49 [] [(2, v0), (9, 0), (9, 0), (9, 0), (9, 0), (9, 0)] m 200 := by
  have G := X.G
  unfold M_X11_rule_J1 at h
  refine z_aload_n (nx := 50) (a := 0) G rfl (Or.inl rfl) dX11_rule_49 rfl (z_iconst (nx := 51) (z := (-1)) G (R32c rfl) dX11_rule_50 rfl ?_)
  refine b_callV0 (nx := 54) (zs := [v0, (-1)]) (as := [(0, (-1))]) X hB (by decide) rfl hp_v0 SS_X11_refuse (am_ta (am_ti am_tn)) (Nat.le_of_ble_eq_true rfl) (Nat.le_of_ble_eq_true rfl) ml_RX11_117 iw_X11_refuse vw_X11_refuse cw_X11_refuse nw_RX11 pp_X11_refuse (Nat.le_of_ble_eq_true rfl) dX11_rule_51 rfl (NM_X11_refuse hp_v0 h) (fun r_26 m_27 h hB => ?_)
  exact b_ireturn X hB dX11_rule_54 h
set_option maxRecDepth 20000 in
set_option maxHeartbeats 4000000 in
theorem S_X11_rule {F : am_F} {K : am_KK} {v0 : Int} {v1 : Int} {v2 : Int} {v3 : Int} {v4 : Int} {m : am_M} (X : am_Cx F cX11_rule RX11 (some .int) 3 0 K) (hp_v0 : am_ob v0 11) (hB : am_Bt m) (h : M_X11_rule v0 v1 v2 v3 v4 K m) : am_Z F 0 [] [(2, v0), (0, v1), (0, v2), (0, v3), (0, v4), (9, 0)] m 200 := by
  have G := X.G
  unfold M_X11_rule at h
  refine z_iload_n (nx := 1) (a := 1) G rfl dX11_rule_0 rfl ?_
  refine b_callS5 (nx := 4) (zs := [v1]) (as := [(0, v1)]) X hB SS_X11_isThing (am_ti am_tn) (Nat.le_of_ble_eq_true rfl) (Nat.le_of_ble_eq_true rfl) ml_RX11_139 sw_X11_isThing (am_plainC 11 (by decide)) cw_X11_isThing nw_RX11 pp_X11_isThing (Nat.le_of_ble_eq_true rfl) dX11_rule_1 rfl (NM_X11_isThing h) (fun r_28 m_29 h h01_30 hB => ?_)
  refine z_if_eq (nx := 7) (tgt := 49) G dX11_rule_4 (by decide) rfl (fun c => ?_) (fun c => ?_)
  · have h := h.1 c
    exact b_fewer (loc2 := [(2, v0), (9, 0), (9, 0), (9, 0), (9, 0), (9, 0)]) (am_lk (am_lf (am_lf (am_lf (am_lf (am_lk am_ln)))))) (S_X11_rule_J1 X hp_v0 hB h)
  · have h := h.2 c
    refine z_iload_n (nx := 8) (a := 2) G rfl dX11_rule_7 rfl (z_iconst (nx := 9) (z := 0) G (R32c rfl) dX11_rule_8 rfl (z_bipush (nx := 11) (z := 17) G (R32c rfl) rfl dX11_rule_9 rfl ?_))
    refine b_callS5 (nx := 14) (zs := [v2, 0, 17]) (as := [(0, v2), (0, 0), (0, 17)]) X hB SS_X11_within (am_ti (am_ti (am_ti am_tn))) (Nat.le_of_ble_eq_true rfl) (Nat.le_of_ble_eq_true rfl) ml_RX11_113 sw_X11_within (am_plainC 11 (by decide)) cw_X11_within nw_RX11 pp_X11_within (Nat.le_of_ble_eq_true rfl) dX11_rule_11 rfl (NM_X11_within h) (fun r_31 m_32 h h01_33 hB => ?_)
    refine z_if_eq (nx := 17) (tgt := 49) G dX11_rule_14 (by decide) rfl (fun c => ?_) (fun c => ?_)
    · have h := h.1 c
      exact b_fewer (loc2 := [(2, v0), (9, 0), (9, 0), (9, 0), (9, 0), (9, 0)]) (am_lk (am_lf (am_lf (am_lf (am_lf (am_lk am_ln)))))) (S_X11_rule_J1 X hp_v0 hB h)
    · have h := h.2 c
      refine z_iload_n (nx := 18) (a := 3) G rfl dX11_rule_17 rfl (z_iconst (nx := 19) (z := (-1)) G (R32c rfl) dX11_rule_18 rfl (z_bipush (nx := 21) (z := 17) G (R32c rfl) rfl dX11_rule_19 rfl ?_))
      refine b_callS5 (nx := 24) (zs := [v3, (-1), 17]) (as := [(0, v3), (0, (-1)), (0, 17)]) X hB SS_X11_within (am_ti (am_ti (am_ti am_tn))) (Nat.le_of_ble_eq_true rfl) (Nat.le_of_ble_eq_true rfl) ml_RX11_113 sw_X11_within (am_plainC 11 (by decide)) cw_X11_within nw_RX11 pp_X11_within (Nat.le_of_ble_eq_true rfl) dX11_rule_21 rfl (NM_X11_within h) (fun r_34 m_35 h h01_36 hB => ?_)
      refine z_if_eq (nx := 27) (tgt := 49) G dX11_rule_24 (by decide) rfl (fun c => ?_) (fun c => ?_)
      · have h := h.1 c
        exact b_fewer (loc2 := [(2, v0), (9, 0), (9, 0), (9, 0), (9, 0), (9, 0)]) (am_lk (am_lf (am_lf (am_lf (am_lf (am_lk am_ln)))))) (S_X11_rule_J1 X hp_v0 hB h)
      · have h := h.2 c
        refine z_iload (nx := 29) (a := 4) G rfl dX11_rule_27 rfl (z_iconst (nx := 30) (z := (-1)) G (R32c rfl) dX11_rule_29 rfl (z_bipush (nx := 32) (z := 17) G (R32c rfl) rfl dX11_rule_30 rfl ?_))
        refine b_callS5 (nx := 35) (zs := [v4, (-1), 17]) (as := [(0, v4), (0, (-1)), (0, 17)]) X hB SS_X11_within (am_ti (am_ti (am_ti am_tn))) (Nat.le_of_ble_eq_true rfl) (Nat.le_of_ble_eq_true rfl) ml_RX11_113 sw_X11_within (am_plainC 11 (by decide)) cw_X11_within nw_RX11 pp_X11_within (Nat.le_of_ble_eq_true rfl) dX11_rule_32 rfl (NM_X11_within h) (fun r_37 m_38 h h01_39 hB => ?_)
        refine z_if_eq (nx := 38) (tgt := 49) G dX11_rule_35 (by decide) rfl (fun c => ?_) (fun c => ?_)
        · have h := h.1 c
          exact b_fewer (loc2 := [(2, v0), (9, 0), (9, 0), (9, 0), (9, 0), (9, 0)]) (am_lk (am_lf (am_lf (am_lf (am_lf (am_lk am_ln)))))) (S_X11_rule_J1 X hp_v0 hB h)
        · have h := h.2 c
          refine z_iload_n (nx := 39) (a := 3) G rfl dX11_rule_38 rfl (z_iconst (nx := 40) (z := (-1)) G (R32c rfl) dX11_rule_39 rfl ?_)
          refine z_icmp_ne (nx := 43) (tgt := 55) G dX11_rule_40 (by decide) rfl (fun c => ?_) (fun c => ?_)
          · have h := h.1 c
            exact b_fewer (loc2 := [(2, v0), (0, v1), (0, v2), (0, v3), (0, v4), (9, 0)]) (am_lk (am_lk (am_lk (am_lk (am_lk (am_lk am_ln)))))) (S_X11_rule_J2 X hp_v0 hB h)
          · have h := h.2 c
            refine z_iload (nx := 45) (a := 4) G rfl dX11_rule_43 rfl (z_iconst (nx := 46) (z := (-1)) G (R32c rfl) dX11_rule_45 rfl ?_)
            refine z_icmp_eq (nx := 49) (tgt := 55) G dX11_rule_46 (by decide) rfl (fun c => ?_) (fun c => ?_)
            · have h := h.1 c
              exact b_fewer (loc2 := [(2, v0), (0, v1), (0, v2), (0, v3), (0, v4), (9, 0)]) (am_lk (am_lk (am_lk (am_lk (am_lk (am_lk am_ln)))))) (S_X11_rule_J2 X hp_v0 hB h)
            · have h := h.2 c
              exact b_fewer (loc2 := [(2, v0), (9, 0), (9, 0), (9, 0), (9, 0), (9, 0)]) (am_lk (am_lf (am_lf (am_lf (am_lf (am_lk am_ln)))))) (S_X11_rule_J1 X hp_v0 hB h)
theorem NM_X11_rule {v0 : Int} {v1 : Int} {v2 : Int} {v3 : Int} {v4 : Int} {K : am_KK} {m : am_M} (hp_v0 : am_ob v0 11) (h : M_X11_rule v0 v1 v2 v3 v4 K m) : N_X11_rule [v0, v1, v2, v3, v4] K m := ⟨hp_v0, h⟩
theorem SS_X11_rule : am_Snd yX11_rule cX11_rule 6 (some .int) 0 3 (am_L [2, 0, 0, 0, 0] 0 N_X11_rule) := by
  refine am_SB (by decide +kernel) (Nat.le_of_ble_eq_true rfl) (fun F zs as K m X ht hB hM => ?_)
  obtain ⟨v0, zs, as, rfl, rfl, hz0, ht⟩ := am_inv ht
  obtain ⟨v1, zs, as, rfl, rfl, hz1, ht⟩ := am_inv ht
  obtain ⟨v2, zs, as, rfl, rfl, hz2, ht⟩ := am_inv ht
  obtain ⟨v3, zs, as, rfl, rfl, hz3, ht⟩ := am_inv ht
  obtain ⟨v4, zs, as, rfl, rfl, hz4, ht⟩ := am_inv ht
  obtain ⟨rfl, rfl⟩ := am_inv0 ht
  obtain ⟨hp_v0, hM⟩ := hM
  exact S_X11_rule X hp_v0 hB hM
set_option maxRecDepth 20000 in
set_option maxHeartbeats 4000000 in
theorem S_X11_of {F : am_F} {K : am_KK} {v0 : Int} {v1 : Int} {v2 : Int} {m : am_M} (X : am_Cx F cX11_of RX11 (some .int) 2 0 K) (hp_v0 : am_ob v0 11) (hB : am_Bt m) (h : M_X11_of v0 v1 v2 K m) : am_Z F 0 [] [(2, v0), (0, v1), (0, v2)] m 200 := by
  have G := X.G
  unfold M_X11_of at h
  refine z_aload_n (nx := 1) (a := 0) G rfl (Or.inl rfl) dX11_of_0 rfl (b_getA (nx := 4) (k0 := 0) G hB fl_RX11_10 (Nat.le_of_ble_eq_true rfl) (Nat.le_of_ble_eq_true rfl) rfl hp_v0 dX11_of_1 rfl (b_getA (nx := 7) (k0 := 1) G hB fl_RX11_146 (Nat.le_of_ble_eq_true rfl) (Nat.le_of_ble_eq_true rfl) rfl (sh_11_0 _ hp_v0) dX11_of_4 rfl (z_iload_n (nx := 8) (a := 1) G rfl dX11_of_7 rfl (z_iload_n (nx := 9) (a := 2) G rfl dX11_of_8 rfl ?_))))
  refine b_callV0 (nx := 12) (zs := [am_rfv (am_rfv v0 0) 1, v1, v2]) (as := [(0, v1), (0, v2)]) X hB (by decide) rfl (sh_0_1 _ (sh_11_0 _ hp_v0)) SS_X7_get (am_ta (am_ti (am_ti am_tn))) (Nat.le_of_ble_eq_true rfl) (Nat.le_of_ble_eq_true rfl) ml_RX11_135 iw_X7_get vw_X7_get cw_X7_get nw_RX7 pp_X7_get (Nat.le_of_ble_eq_true rfl) dX11_of_9 rfl (NM_X7_get (sh_0_1 _ (sh_11_0 _ hp_v0)) h) (fun r_1 m_2 h hB => ?_)
  exact b_ireturn X hB dX11_of_12 h
theorem NM_X11_of {v0 : Int} {v1 : Int} {v2 : Int} {K : am_KK} {m : am_M} (hp_v0 : am_ob v0 11) (h : M_X11_of v0 v1 v2 K m) : N_X11_of [v0, v1, v2] K m := ⟨hp_v0, h⟩
theorem SS_X11_of : am_Snd yX11_of cX11_of 3 (some .int) 0 2 (am_L [2, 0, 0] 0 N_X11_of) := by
  refine am_SB (by decide +kernel) (Nat.le_of_ble_eq_true rfl) (fun F zs as K m X ht hB hM => ?_)
  obtain ⟨v0, zs, as, rfl, rfl, hz0, ht⟩ := am_inv ht
  obtain ⟨v1, zs, as, rfl, rfl, hz1, ht⟩ := am_inv ht
  obtain ⟨v2, zs, as, rfl, rfl, hz2, ht⟩ := am_inv ht
  obtain ⟨rfl, rfl⟩ := am_inv0 ht
  obtain ⟨hp_v0, hM⟩ := hM
  exact S_X11_of X hp_v0 hB hM
set_option maxRecDepth 20000 in
set_option maxHeartbeats 4000000 in
theorem S_X11_clash_J1 {F : am_F} {K : am_KK} {v0 : Int} {m : am_M} (X : am_Cx F cX11_clash RX11 (some .int) 4 0 K) (hp_v0 : am_ob v0 11) (hB : am_Bt m) (h : M_X11_clash_J1 v0 K m) : am_Z F 28 [] [(2, v0), (9, 0), (9, 0), (9, 0)] m 200 := by
  have G := X.G
  unfold M_X11_clash_J1 at h
  refine z_aload_n (nx := 29) (a := 0) G rfl (Or.inl rfl) dX11_clash_28 rfl (z_iconst (nx := 30) (z := (-1)) G (R32c rfl) dX11_clash_29 rfl ?_)
  refine b_callV0 (nx := 33) (zs := [v0, (-1)]) (as := [(0, (-1))]) X hB (by decide) rfl hp_v0 SS_X11_refuse (am_ta (am_ti am_tn)) (Nat.le_of_ble_eq_true rfl) (Nat.le_of_ble_eq_true rfl) ml_RX11_117 iw_X11_refuse vw_X11_refuse cw_X11_refuse nw_RX11 pp_X11_refuse (Nat.le_of_ble_eq_true rfl) dX11_clash_30 rfl (NM_X11_refuse hp_v0 h) (fun r_1 m_2 h hB => ?_)
  exact b_ireturn X hB dX11_clash_33 h
set_option maxRecDepth 20000 in
set_option maxHeartbeats 4000000 in
theorem S_X11_clash {F : am_F} {K : am_KK} {v0 : Int} {v1 : Int} {v2 : Int} {v3 : Int} {m : am_M} (X : am_Cx F cX11_clash RX11 (some .int) 4 0 K) (hp_v0 : am_ob v0 11) (hB : am_Bt m) (h : M_X11_clash v0 v1 v2 v3 K m) : am_Z F 0 [] [(2, v0), (0, v1), (0, v2), (0, v3)] m 200 := by
  have G := X.G
  unfold M_X11_clash at h
  refine z_iload_n (nx := 1) (a := 1) G rfl dX11_clash_0 rfl ?_
  refine b_callS5 (nx := 4) (zs := [v1]) (as := [(0, v1)]) X hB SS_X11_isThing (am_ti am_tn) (Nat.le_of_ble_eq_true rfl) (Nat.le_of_ble_eq_true rfl) ml_RX11_139 sw_X11_isThing (am_plainC 11 (by decide)) cw_X11_isThing nw_RX11 pp_X11_isThing (Nat.le_of_ble_eq_true rfl) dX11_clash_1 rfl (NM_X11_isThing h) (fun r_3 m_4 h h01_5 hB => ?_)
  refine z_if_eq (nx := 7) (tgt := 28) G dX11_clash_4 (by decide) rfl (fun c => ?_) (fun c => ?_)
  · have h := h.1 c
    exact b_fewer (loc2 := [(2, v0), (9, 0), (9, 0), (9, 0)]) (am_lk (am_lf (am_lf (am_lf am_ln)))) (S_X11_clash_J1 X hp_v0 hB h)
  · have h := h.2 c
    refine z_iload_n (nx := 8) (a := 2) G rfl dX11_clash_7 rfl ?_
    refine b_callS5 (nx := 11) (zs := [v2]) (as := [(0, v2)]) X hB SS_X11_isThing (am_ti am_tn) (Nat.le_of_ble_eq_true rfl) (Nat.le_of_ble_eq_true rfl) ml_RX11_139 sw_X11_isThing (am_plainC 11 (by decide)) cw_X11_isThing nw_RX11 pp_X11_isThing (Nat.le_of_ble_eq_true rfl) dX11_clash_8 rfl (NM_X11_isThing h) (fun r_6 m_7 h h01_8 hB => ?_)
    refine z_if_eq (nx := 14) (tgt := 28) G dX11_clash_11 (by decide) rfl (fun c => ?_) (fun c => ?_)
    · have h := h.1 c
      exact b_fewer (loc2 := [(2, v0), (9, 0), (9, 0), (9, 0)]) (am_lk (am_lf (am_lf (am_lf am_ln)))) (S_X11_clash_J1 X hp_v0 hB h)
    · have h := h.2 c
      refine z_iload_n (nx := 15) (a := 1) G rfl dX11_clash_14 rfl (z_iload_n (nx := 16) (a := 2) G rfl dX11_clash_15 rfl ?_)
      refine z_icmp_eq (nx := 19) (tgt := 28) G dX11_clash_16 (by decide) rfl (fun c => ?_) (fun c => ?_)
      · have h := h.1 c
        exact b_fewer (loc2 := [(2, v0), (9, 0), (9, 0), (9, 0)]) (am_lk (am_lf (am_lf (am_lf am_ln)))) (S_X11_clash_J1 X hp_v0 hB h)
      · have h := h.2 c
        refine z_iload_n (nx := 20) (a := 3) G rfl dX11_clash_19 rfl (z_iconst (nx := 21) (z := 0) G (R32c rfl) dX11_clash_20 rfl (z_iconst (nx := 22) (z := 1) G (R32c rfl) dX11_clash_21 rfl ?_))
        refine b_callS5 (nx := 25) (zs := [v3, 0, 1]) (as := [(0, v3), (0, 0), (0, 1)]) X hB SS_X11_within (am_ti (am_ti (am_ti am_tn))) (Nat.le_of_ble_eq_true rfl) (Nat.le_of_ble_eq_true rfl) ml_RX11_113 sw_X11_within (am_plainC 11 (by decide)) cw_X11_within nw_RX11 pp_X11_within (Nat.le_of_ble_eq_true rfl) dX11_clash_22 rfl (NM_X11_within h) (fun r_9 m_10 h h01_11 hB => ?_)
        refine z_if_ne (nx := 28) (tgt := 34) G dX11_clash_25 (by decide) rfl (fun c => ?_) (fun c => ?_)
        · have h := h.1 c
          refine z_aload_n (nx := 35) (a := 0) G rfl (Or.inl rfl) dX11_clash_34 rfl (z_aload_n (nx := 36) (a := 0) G rfl (Or.inl rfl) dX11_clash_35 rfl (b_getA (nx := 39) (k0 := 0) G hB fl_RX11_10 (Nat.le_of_ble_eq_true rfl) (Nat.le_of_ble_eq_true rfl) rfl hp_v0 dX11_clash_36 rfl (z_iload_n (nx := 40) (a := 1) G rfl dX11_clash_39 rfl (z_iload_n (nx := 41) (a := 2) G rfl dX11_clash_40 rfl (z_iload_n (nx := 42) (a := 3) G rfl dX11_clash_41 rfl ?_)))))
          refine b_callV0 (nx := 45) (zs := [am_rfv v0 0, v1, v2, v3]) (as := [(0, v1), (0, v2), (0, v3)]) X hB (by decide) rfl (sh_11_0 _ hp_v0) SS_X0_setClash (am_ta (am_ti (am_ti (am_ti am_tn)))) (Nat.le_of_ble_eq_true rfl) (Nat.le_of_ble_eq_true rfl) ml_RX11_149 iw_X0_setClash vw_X0_setClash cw_X0_setClash nw_RX0 pp_X0_setClash (Nat.le_of_ble_eq_true rfl) dX11_clash_42 rfl (NM_X0_setClash (sh_11_0 _ hp_v0) h) (fun r_12 m_13 h hB => ?_)
          refine b_callV0 (nx := 48) (zs := [v0, r_12]) (as := [(0, r_12)]) X hB (by decide) rfl hp_v0 SS_X11_fine (am_ta (am_ti am_tn)) (Nat.le_of_ble_eq_true rfl) (Nat.le_of_ble_eq_true rfl) ml_RX11_132 iw_X11_fine vw_X11_fine cw_X11_fine nw_RX11 pp_X11_fine (Nat.le_of_ble_eq_true rfl) dX11_clash_45 rfl (NM_X11_fine hp_v0 h) (fun r_14 m_15 h hB => ?_)
          exact b_ireturn X hB dX11_clash_48 h
        · have h := h.2 c
          exact b_fewer (loc2 := [(2, v0), (9, 0), (9, 0), (9, 0)]) (am_lk (am_lf (am_lf (am_lf am_ln)))) (S_X11_clash_J1 X hp_v0 hB h)
theorem NM_X11_clash {v0 : Int} {v1 : Int} {v2 : Int} {v3 : Int} {K : am_KK} {m : am_M} (hp_v0 : am_ob v0 11) (h : M_X11_clash v0 v1 v2 v3 K m) : N_X11_clash [v0, v1, v2, v3] K m := ⟨hp_v0, h⟩
theorem SS_X11_clash : am_Snd yX11_clash cX11_clash 4 (some .int) 0 4 (am_L [2, 0, 0, 0] 0 N_X11_clash) := by
  refine am_SB (by decide +kernel) (Nat.le_of_ble_eq_true rfl) (fun F zs as K m X ht hB hM => ?_)
  obtain ⟨v0, zs, as, rfl, rfl, hz0, ht⟩ := am_inv ht
  obtain ⟨v1, zs, as, rfl, rfl, hz1, ht⟩ := am_inv ht
  obtain ⟨v2, zs, as, rfl, rfl, hz2, ht⟩ := am_inv ht
  obtain ⟨v3, zs, as, rfl, rfl, hz3, ht⟩ := am_inv ht
  obtain ⟨rfl, rfl⟩ := am_inv0 ht
  obtain ⟨hp_v0, hM⟩ := hM
  exact S_X11_clash X hp_v0 hB hM
set_option maxRecDepth 20000 in
set_option maxHeartbeats 4000000 in
theorem S_X11_often_J1 {F : am_F} {K : am_KK} {v0 : Int} {m : am_M} (X : am_Cx F cX11_often RX11 (some .int) 3 0 K) (hp_v0 : am_ob v0 11) (hB : am_Bt m) (h : M_X11_often_J1 v0 K m) : am_Z F 17 [] [(2, v0), (9, 0), (9, 0), (9, 0)] m 200 := by
  have G := X.G
  unfold M_X11_often_J1 at h
  refine z_aload_n (nx := 18) (a := 0) G rfl (Or.inl rfl) dX11_often_17 rfl (z_iconst (nx := 19) (z := (-1)) G (R32c rfl) dX11_often_18 rfl ?_)
  refine b_callV0 (nx := 22) (zs := [v0, (-1)]) (as := [(0, (-1))]) X hB (by decide) rfl hp_v0 SS_X11_refuse (am_ta (am_ti am_tn)) (Nat.le_of_ble_eq_true rfl) (Nat.le_of_ble_eq_true rfl) ml_RX11_117 iw_X11_refuse vw_X11_refuse cw_X11_refuse nw_RX11 pp_X11_refuse (Nat.le_of_ble_eq_true rfl) dX11_often_19 rfl (NM_X11_refuse hp_v0 h) (fun r_1 m_2 h hB => ?_)
  exact b_ireturn X hB dX11_often_22 h
set_option maxRecDepth 20000 in
set_option maxHeartbeats 4000000 in
theorem S_X11_often {F : am_F} {K : am_KK} {v0 : Int} {v1 : Int} {v2 : Int} {m : am_M} (X : am_Cx F cX11_often RX11 (some .int) 3 0 K) (hp_v0 : am_ob v0 11) (hB : am_Bt m) (h : M_X11_often v0 v1 v2 K m) : am_Z F 0 [] [(2, v0), (0, v1), (0, v2), (9, 0)] m 200 := by
  have G := X.G
  unfold M_X11_often at h
  refine z_iload_n (nx := 1) (a := 1) G rfl dX11_often_0 rfl ?_
  refine b_callS5 (nx := 4) (zs := [v1]) (as := [(0, v1)]) X hB SS_X11_isThing (am_ti am_tn) (Nat.le_of_ble_eq_true rfl) (Nat.le_of_ble_eq_true rfl) ml_RX11_139 sw_X11_isThing (am_plainC 11 (by decide)) cw_X11_isThing nw_RX11 pp_X11_isThing (Nat.le_of_ble_eq_true rfl) dX11_often_1 rfl (NM_X11_isThing h) (fun r_3 m_4 h h01_5 hB => ?_)
  refine z_if_eq (nx := 7) (tgt := 17) G dX11_often_4 (by decide) rfl (fun c => ?_) (fun c => ?_)
  · have h := h.1 c
    exact b_fewer (loc2 := [(2, v0), (9, 0), (9, 0), (9, 0)]) (am_lk (am_lf (am_lf (am_lk am_ln)))) (S_X11_often_J1 X hp_v0 hB h)
  · have h := h.2 c
    refine z_iload_n (nx := 8) (a := 2) G rfl dX11_often_7 rfl (z_iconst (nx := 9) (z := 0) G (R32c rfl) dX11_often_8 rfl (z_bipush (nx := 11) (z := 99) G (R32c rfl) rfl dX11_often_9 rfl ?_))
    refine b_callS5 (nx := 14) (zs := [v2, 0, 99]) (as := [(0, v2), (0, 0), (0, 99)]) X hB SS_X11_within (am_ti (am_ti (am_ti am_tn))) (Nat.le_of_ble_eq_true rfl) (Nat.le_of_ble_eq_true rfl) ml_RX11_113 sw_X11_within (am_plainC 11 (by decide)) cw_X11_within nw_RX11 pp_X11_within (Nat.le_of_ble_eq_true rfl) dX11_often_11 rfl (NM_X11_within h) (fun r_6 m_7 h h01_8 hB => ?_)
    refine z_if_ne (nx := 17) (tgt := 23) G dX11_often_14 (by decide) rfl (fun c => ?_) (fun c => ?_)
    · have h := h.1 c
      refine z_aload_n (nx := 24) (a := 0) G rfl (Or.inl rfl) dX11_often_23 rfl (b_getA (nx := 27) (k0 := 0) G hB fl_RX11_10 (Nat.le_of_ble_eq_true rfl) (Nat.le_of_ble_eq_true rfl) rfl hp_v0 dX11_often_24 rfl (b_getA (nx := 30) (k0 := 7) G hB fl_RX11_153 (Nat.le_of_ble_eq_true rfl) (Nat.le_of_ble_eq_true rfl) rfl (sh_11_0 _ hp_v0) dX11_often_27 rfl (z_iload_n (nx := 31) (a := 1) G rfl dX11_often_30 rfl ?_)))
      obtain ⟨hb, h⟩ := h
      refine z_iald (nx := 32) G (sh_0_7 _ (sh_11_0 _ hp_v0)) hb.1 hb.2 dX11_often_31 rfl ?_
      refine b_store_n (nx := 33) (a := 3) (loc2 := fun v3_9 => [(2, v0), (0, v1), (0, v2), (0, v3_9)]) G (fun _ => rfl) (Nat.le_of_ble_eq_true rfl) (am_pl1 rfl (fun h => nomatch h)) dX11_often_32 rfl (fun v3_9 e_v3_9 => ?_)
      have h := h v3_9 e_v3_9
      refine z_aload_n (nx := 34) (a := 0) G rfl (Or.inl rfl) dX11_often_33 rfl (b_getA (nx := 37) (k0 := 0) G hB fl_RX11_10 (Nat.le_of_ble_eq_true rfl) (Nat.le_of_ble_eq_true rfl) rfl hp_v0 dX11_often_34 rfl (b_getA (nx := 40) (k0 := 7) G hB fl_RX11_153 (Nat.le_of_ble_eq_true rfl) (Nat.le_of_ble_eq_true rfl) rfl (sh_11_0 _ hp_v0) dX11_often_37 rfl (z_iload_n (nx := 41) (a := 1) G rfl dX11_often_40 rfl (z_iload_n (nx := 42) (a := 2) G rfl dX11_often_41 rfl ?_))))
      obtain ⟨hb, h⟩ := h
      refine b_iast (nx := 43) G hB (sh_0_7 _ (sh_11_0 _ hp_v0)) hb.1 hb.2 dX11_often_42 rfl (fun m_10 e_m_10 hB => ?_)
      have h := h m_10 e_m_10
      refine z_aload_n (nx := 44) (a := 0) G rfl (Or.inl rfl) dX11_often_43 rfl (z_iload_n (nx := 45) (a := 3) G rfl dX11_often_44 rfl ?_)
      refine b_callV0 (nx := 48) (zs := [v0, v3_9]) (as := [(0, v3_9)]) X hB (by decide) rfl hp_v0 SS_X11_fine (am_ta (am_ti am_tn)) (Nat.le_of_ble_eq_true rfl) (Nat.le_of_ble_eq_true rfl) ml_RX11_132 iw_X11_fine vw_X11_fine cw_X11_fine nw_RX11 pp_X11_fine (Nat.le_of_ble_eq_true rfl) dX11_often_45 rfl (NM_X11_fine hp_v0 h) (fun r_11 m_12 h hB => ?_)
      exact b_ireturn X hB dX11_often_48 h
    · have h := h.2 c
      exact b_fewer (loc2 := [(2, v0), (9, 0), (9, 0), (9, 0)]) (am_lk (am_lf (am_lf (am_lk am_ln)))) (S_X11_often_J1 X hp_v0 hB h)
theorem NM_X11_often {v0 : Int} {v1 : Int} {v2 : Int} {K : am_KK} {m : am_M} (hp_v0 : am_ob v0 11) (h : M_X11_often v0 v1 v2 K m) : N_X11_often [v0, v1, v2] K m := ⟨hp_v0, h⟩
theorem SS_X11_often : am_Snd yX11_often cX11_often 4 (some .int) 0 3 (am_L [2, 0, 0] 0 N_X11_often) := by
  refine am_SB (by decide +kernel) (Nat.le_of_ble_eq_true rfl) (fun F zs as K m X ht hB hM => ?_)
  obtain ⟨v0, zs, as, rfl, rfl, hz0, ht⟩ := am_inv ht
  obtain ⟨v1, zs, as, rfl, rfl, hz1, ht⟩ := am_inv ht
  obtain ⟨v2, zs, as, rfl, rfl, hz2, ht⟩ := am_inv ht
  obtain ⟨rfl, rfl⟩ := am_inv0 ht
  obtain ⟨hp_v0, hM⟩ := hM
  exact S_X11_often X hp_v0 hB hM
set_option maxRecDepth 20000 in
set_option maxHeartbeats 4000000 in
theorem S_X11_person {F : am_F} {K : am_KK} {v0 : Int} {v1 : Int} {m : am_M} (X : am_Cx F cX11_person RX11 (some .int) 3 0 K) (hp_v0 : am_ob v0 11) (hB : am_Bt m) (h : M_X11_person v0 v1 K m) : am_Z F 0 [] [(2, v0), (0, v1), (9, 0)] m 200 := by
  have G := X.G
  unfold M_X11_person at h
  refine z_iload_n (nx := 1) (a := 1) G rfl dX11_person_0 rfl (z_iconst (nx := 2) (z := 0) G (R32c rfl) dX11_person_1 rfl (z_bipush (nx := 4) (z := 99) G (R32c rfl) rfl dX11_person_2 rfl ?_))
  refine b_callS5 (nx := 7) (zs := [v1, 0, 99]) (as := [(0, v1), (0, 0), (0, 99)]) X hB SS_X11_within (am_ti (am_ti (am_ti am_tn))) (Nat.le_of_ble_eq_true rfl) (Nat.le_of_ble_eq_true rfl) ml_RX11_113 sw_X11_within (am_plainC 11 (by decide)) cw_X11_within nw_RX11 pp_X11_within (Nat.le_of_ble_eq_true rfl) dX11_person_4 rfl (NM_X11_within h) (fun r_1 m_2 h h01_3 hB => ?_)
  refine z_if_ne (nx := 10) (tgt := 16) G dX11_person_7 (by decide) rfl (fun c => ?_) (fun c => ?_)
  · have h := h.1 c
    refine z_aload_n (nx := 17) (a := 0) G rfl (Or.inl rfl) dX11_person_16 rfl (b_getA (nx := 20) (k0 := 0) G hB fl_RX11_10 (Nat.le_of_ble_eq_true rfl) (Nat.le_of_ble_eq_true rfl) rfl hp_v0 dX11_person_17 rfl (b_getA (nx := 23) (k0 := 2) G hB fl_RX11_156 (Nat.le_of_ble_eq_true rfl) (Nat.le_of_ble_eq_true rfl) rfl (sh_11_0 _ hp_v0) dX11_person_20 rfl ?_))
    refine b_callV0 (nx := 26) (zs := [am_rfv (am_rfv v0 0) 2]) (as := []) X hB (by decide) rfl (sh_0_2 _ (sh_11_0 _ hp_v0)) SS_X7_open (am_ta am_tn) (Nat.le_of_ble_eq_true rfl) (Nat.le_of_ble_eq_true rfl) ml_RX11_124 iw_X7_open vw_X7_open cw_X7_open nw_RX7 pp_X7_open (Nat.le_of_ble_eq_true rfl) dX11_person_23 rfl (NM_X7_open (sh_0_2 _ (sh_11_0 _ hp_v0)) h) (fun r_4 m_5 h hB => ?_)
    refine b_storeE_n (nx := 27) (a := 2) (loc2 := [(2, v0), (0, v1), (0, r_4)]) G rfl (Nat.le_of_ble_eq_true rfl) (am_pl1 rfl (fun h => nomatch h)) dX11_person_26 rfl (z_iload_n (nx := 28) (a := 2) G rfl dX11_person_27 rfl (z_iconst (nx := 29) (z := (-1)) G (R32c rfl) dX11_person_28 rfl ?_))
    refine z_icmp_ne (nx := 32) (tgt := 39) G dX11_person_29 (by decide) rfl (fun c => ?_) (fun c => ?_)
    · have h := h.1 c
      refine z_aload_n (nx := 40) (a := 0) G rfl (Or.inl rfl) dX11_person_39 rfl (b_getA (nx := 43) (k0 := 0) G hB fl_RX11_10 (Nat.le_of_ble_eq_true rfl) (Nat.le_of_ble_eq_true rfl) rfl hp_v0 dX11_person_40 rfl (b_getA (nx := 46) (k0 := 2) G hB fl_RX11_156 (Nat.le_of_ble_eq_true rfl) (Nat.le_of_ble_eq_true rfl) rfl (sh_11_0 _ hp_v0) dX11_person_43 rfl (z_iload_n (nx := 47) (a := 2) G rfl dX11_person_46 rfl (z_iconst (nx := 48) (z := 0) G (R32c rfl) dX11_person_47 rfl (z_iload_n (nx := 49) (a := 1) G rfl dX11_person_48 rfl ?_)))))
      refine b_callV9 (nx := 52) (zs := [am_rfv (am_rfv v0 0) 2, r_4, 0, v1]) (as := [(0, r_4), (0, 0), (0, v1)]) X hB (by decide) rfl (sh_0_2 _ (sh_11_0 _ hp_v0)) SS_X7_set (am_ta (am_ti (am_ti (am_ti am_tn)))) (Nat.le_of_ble_eq_true rfl) (Nat.le_of_ble_eq_true rfl) ml_RX11_128 iw_X7_set vw_X7_set cw_X7_set nw_RX7 pp_X7_set (Nat.le_of_ble_eq_true rfl) dX11_person_49 rfl (NM_X7_set (sh_0_2 _ (sh_11_0 _ hp_v0)) h) (fun r_6 m_7 h hB => ?_)
      refine z_aload_n (nx := 53) (a := 0) G rfl (Or.inl rfl) dX11_person_52 rfl (z_iload_n (nx := 54) (a := 2) G rfl dX11_person_53 rfl ?_)
      refine b_callV0 (nx := 57) (zs := [v0, r_4]) (as := [(0, r_4)]) X hB (by decide) rfl hp_v0 SS_X11_fine (am_ta (am_ti am_tn)) (Nat.le_of_ble_eq_true rfl) (Nat.le_of_ble_eq_true rfl) ml_RX11_132 iw_X11_fine vw_X11_fine cw_X11_fine nw_RX11 pp_X11_fine (Nat.le_of_ble_eq_true rfl) dX11_person_54 rfl (NM_X11_fine hp_v0 h) (fun r_8 m_9 h hB => ?_)
      exact b_ireturn X hB dX11_person_57 h
    · have h := h.2 c
      refine z_aload_n (nx := 33) (a := 0) G rfl (Or.inl rfl) dX11_person_32 rfl (z_bipush (nx := 35) (z := (-5)) G (R32c rfl) rfl dX11_person_33 rfl ?_)
      refine b_callV0 (nx := 38) (zs := [v0, (-5)]) (as := [(0, (-5))]) X hB (by decide) rfl hp_v0 SS_X11_refuse (am_ta (am_ti am_tn)) (Nat.le_of_ble_eq_true rfl) (Nat.le_of_ble_eq_true rfl) ml_RX11_117 iw_X11_refuse vw_X11_refuse cw_X11_refuse nw_RX11 pp_X11_refuse (Nat.le_of_ble_eq_true rfl) dX11_person_35 rfl (NM_X11_refuse hp_v0 h) (fun r_10 m_11 h hB => ?_)
      exact b_ireturn X hB dX11_person_38 h
  · have h := h.2 c
    refine z_aload_n (nx := 11) (a := 0) G rfl (Or.inl rfl) dX11_person_10 rfl (z_iconst (nx := 12) (z := (-1)) G (R32c rfl) dX11_person_11 rfl ?_)
    refine b_callV0 (nx := 15) (zs := [v0, (-1)]) (as := [(0, (-1))]) X hB (by decide) rfl hp_v0 SS_X11_refuse (am_ta (am_ti am_tn)) (Nat.le_of_ble_eq_true rfl) (Nat.le_of_ble_eq_true rfl) ml_RX11_117 iw_X11_refuse vw_X11_refuse cw_X11_refuse nw_RX11 pp_X11_refuse (Nat.le_of_ble_eq_true rfl) dX11_person_12 rfl (NM_X11_refuse hp_v0 h) (fun r_12 m_13 h hB => ?_)
    exact b_ireturn X hB dX11_person_15 h
theorem NM_X11_person {v0 : Int} {v1 : Int} {K : am_KK} {m : am_M} (hp_v0 : am_ob v0 11) (h : M_X11_person v0 v1 K m) : N_X11_person [v0, v1] K m := ⟨hp_v0, h⟩
theorem SS_X11_person : am_Snd yX11_person cX11_person 3 (some .int) 0 3 (am_L [2, 0] 0 N_X11_person) := by
  refine am_SB (by decide +kernel) (Nat.le_of_ble_eq_true rfl) (fun F zs as K m X ht hB hM => ?_)
  obtain ⟨v0, zs, as, rfl, rfl, hz0, ht⟩ := am_inv ht
  obtain ⟨v1, zs, as, rfl, rfl, hz1, ht⟩ := am_inv ht
  obtain ⟨rfl, rfl⟩ := am_inv0 ht
  obtain ⟨hp_v0, hM⟩ := hM
  exact S_X11_person X hp_v0 hB hM
set_option maxRecDepth 20000 in
set_option maxHeartbeats 4000000 in
theorem S_X11_breath_J1 {F : am_F} {K : am_KK} {v0 : Int} {v1 : Int} {v2 : Int} {m : am_M} (X : am_Cx F cX11_breath RX11 (some .int) 5 0 K) (hp_v0 : am_ob v0 11) (hB : am_Bt m) (h : M_X11_breath_J1 v0 v1 v2 K m) : am_Z F 42 [] [(2, v0), (0, v1), (0, v2)] m 200 := by
  have G := X.G
  unfold M_X11_breath_J1 at h
  refine z_aload_n (nx := 43) (a := 0) G rfl (Or.inl rfl) dX11_breath_42 rfl (b_getA (nx := 46) (k0 := 0) G hB fl_RX11_10 (Nat.le_of_ble_eq_true rfl) (Nat.le_of_ble_eq_true rfl) rfl hp_v0 dX11_breath_43 rfl (b_getA (nx := 49) (k0 := 2) G hB fl_RX11_156 (Nat.le_of_ble_eq_true rfl) (Nat.le_of_ble_eq_true rfl) rfl (sh_11_0 _ hp_v0) dX11_breath_46 rfl (z_iload_n (nx := 50) (a := 1) G rfl dX11_breath_49 rfl (z_iload_n (nx := 51) (a := 2) G rfl dX11_breath_50 rfl ?_))))
  refine b_callV0 (nx := 54) (zs := [am_rfv (am_rfv v0 0) 2, v1, v2]) (as := [(0, v1), (0, v2)]) X hB (by decide) rfl (sh_0_2 _ (sh_11_0 _ hp_v0)) SS_X7_get (am_ta (am_ti (am_ti am_tn))) (Nat.le_of_ble_eq_true rfl) (Nat.le_of_ble_eq_true rfl) ml_RX11_135 iw_X7_get vw_X7_get cw_X7_get nw_RX7 pp_X7_get (Nat.le_of_ble_eq_true rfl) dX11_breath_51 rfl (NM_X7_get (sh_0_2 _ (sh_11_0 _ hp_v0)) h) (fun r_1 m_2 h hB => ?_)
  exact b_ireturn X hB dX11_breath_54 h
set_option maxRecDepth 20000 in
set_option maxHeartbeats 4000000 in
theorem S_X11_breath {F : am_F} {K : am_KK} {v0 : Int} {v1 : Int} {v2 : Int} {m : am_M} (X : am_Cx F cX11_breath RX11 (some .int) 5 0 K) (hp_v0 : am_ob v0 11) (hB : am_Bt m) (h : M_X11_breath v0 v1 v2 K m) : am_Z F 0 [] [(2, v0), (0, v1), (0, v2)] m 200 := by
  have G := X.G
  unfold M_X11_breath at h
  refine z_iload_n (nx := 1) (a := 2) G rfl dX11_breath_0 rfl (z_iconst (nx := 2) (z := 1) G (R32c rfl) dX11_breath_1 rfl ?_)
  refine z_icmp_ne (nx := 5) (tgt := 42) G dX11_breath_2 (by decide) rfl (fun c => ?_) (fun c => ?_)
  · have h := h.1 c
    exact b_fewer (loc2 := [(2, v0), (0, v1), (0, v2)]) (am_lk (am_lk (am_lk am_ln))) (S_X11_breath_J1 X hp_v0 hB h)
  · have h := h.2 c
    refine z_aload_n (nx := 6) (a := 0) G rfl (Or.inl rfl) dX11_breath_5 rfl (b_getA (nx := 9) (k0 := 0) G hB fl_RX11_10 (Nat.le_of_ble_eq_true rfl) (Nat.le_of_ble_eq_true rfl) rfl hp_v0 dX11_breath_6 rfl (b_getA (nx := 12) (k0 := 2) G hB fl_RX11_156 (Nat.le_of_ble_eq_true rfl) (Nat.le_of_ble_eq_true rfl) rfl (sh_11_0 _ hp_v0) dX11_breath_9 rfl (z_iload_n (nx := 13) (a := 1) G rfl dX11_breath_12 rfl ?_)))
    refine b_callV5 (nx := 16) (zs := [am_rfv (am_rfv v0 0) 2, v1]) (as := [(0, v1)]) X hB (by decide) rfl (sh_0_2 _ (sh_11_0 _ hp_v0)) SS_X7_has (am_ta (am_ti am_tn)) (Nat.le_of_ble_eq_true rfl) (Nat.le_of_ble_eq_true rfl) ml_RX11_159 iw_X7_has vw_X7_has cw_X7_has nw_RX7 pp_X7_has (Nat.le_of_ble_eq_true rfl) dX11_breath_13 rfl (NM_X7_has (sh_0_2 _ (sh_11_0 _ hp_v0)) h) (fun r_3 m_4 h h01_5 hB => ?_)
    refine z_if_eq (nx := 19) (tgt := 42) G dX11_breath_16 (by decide) rfl (fun c => ?_) (fun c => ?_)
    · have h := h.1 c
      exact b_fewer (loc2 := [(2, v0), (0, v1), (0, v2)]) (am_lk (am_lk (am_lk am_ln))) (S_X11_breath_J1 X hp_v0 hB h)
    · have h := h.2 c
      refine z_aload_n (nx := 20) (a := 0) G rfl (Or.inl rfl) dX11_breath_19 rfl (b_getA (nx := 23) (k0 := 6) G hB fl_RX11_52 (Nat.le_of_ble_eq_true rfl) (Nat.le_of_ble_eq_true rfl) rfl hp_v0 dX11_breath_20 rfl (z_aload_n (nx := 24) (a := 0) G rfl (Or.inl rfl) dX11_breath_23 rfl (b_getA (nx := 27) (k0 := 0) G hB fl_RX11_10 (Nat.le_of_ble_eq_true rfl) (Nat.le_of_ble_eq_true rfl) rfl hp_v0 dX11_breath_24 rfl (z_iload_n (nx := 28) (a := 1) G rfl dX11_breath_27 rfl (z_aload_n (nx := 29) (a := 0) G rfl (Or.inl rfl) dX11_breath_28 rfl (b_getA (nx := 32) (k0 := 0) G hB fl_RX11_10 (Nat.le_of_ble_eq_true rfl) (Nat.le_of_ble_eq_true rfl) rfl hp_v0 dX11_breath_29 rfl (b_getA (nx := 35) (k0 := 5) G hB fl_RX11_162 (Nat.le_of_ble_eq_true rfl) (Nat.le_of_ble_eq_true rfl) rfl (sh_11_0 _ hp_v0) dX11_breath_32 rfl (b_getI (nx := 38) (k0 := 1) (t := 0) G fl_RX11_165 (Nat.le_of_ble_eq_true rfl) (Nat.le_of_ble_eq_true rfl) rfl (sh_0_5 _ (sh_11_0 _ hp_v0)) dX11_breath_35 rfl ?_))))))))
      refine b_callV0 (nx := 41) (zs := [am_rfv v0 6, am_rfv v0 0, v1, m_4 (am_rfv (am_rfv v0 0) 5) 1]) (as := [(2, am_rfv v0 0), (0, v1), (0, m_4 (am_rfv (am_rfv v0 0) 5) 1)]) X hB (by decide) rfl (sh_11_6 _ hp_v0) SS_X3_breathOf (am_ta (am_ta (am_ti (am_ti am_tn)))) (Nat.le_of_ble_eq_true rfl) (Nat.le_of_ble_eq_true rfl) ml_RX11_168 iw_X3_breathOf vw_X3_breathOf cw_X3_breathOf nw_RX3 pp_X3_breathOf (Nat.le_of_ble_eq_true rfl) dX11_breath_38 rfl (NM_X3_breathOf (sh_11_6 _ hp_v0) (sh_11_0 _ hp_v0) h) (fun r_6 m_7 h hB => ?_)
      exact b_ireturn X hB dX11_breath_41 h
theorem NM_X11_breath {v0 : Int} {v1 : Int} {v2 : Int} {K : am_KK} {m : am_M} (hp_v0 : am_ob v0 11) (h : M_X11_breath v0 v1 v2 K m) : N_X11_breath [v0, v1, v2] K m := ⟨hp_v0, h⟩
theorem SS_X11_breath : am_Snd yX11_breath cX11_breath 3 (some .int) 0 5 (am_L [2, 0, 0] 0 N_X11_breath) := by
  refine am_SB (by decide +kernel) (Nat.le_of_ble_eq_true rfl) (fun F zs as K m X ht hB hM => ?_)
  obtain ⟨v0, zs, as, rfl, rfl, hz0, ht⟩ := am_inv ht
  obtain ⟨v1, zs, as, rfl, rfl, hz1, ht⟩ := am_inv ht
  obtain ⟨v2, zs, as, rfl, rfl, hz2, ht⟩ := am_inv ht
  obtain ⟨rfl, rfl⟩ := am_inv0 ht
  obtain ⟨hp_v0, hM⟩ := hM
  exact S_X11_breath X hp_v0 hB hM
set_option maxRecDepth 20000 in
set_option maxHeartbeats 4000000 in
theorem S_X11_lowestTerm {F : am_F} {K : am_KK} {v0 : Int} {m : am_M} (X : am_Cx F cX11_lowestTerm RX11 (some .int) 1 0 K) (hB : am_Bt m) (h : M_X11_lowestTerm v0 K m) : am_Z F 0 [] [(0, v0)] m 200 := by
  have G := X.G
  unfold M_X11_lowestTerm at h
  refine z_iload_n (nx := 1) (a := 0) G rfl dX11_lowestTerm_0 rfl (z_iconst (nx := 2) (z := 1) G (R32c rfl) dX11_lowestTerm_1 rfl ?_)
  refine z_icmp_ne (nx := 5) (tgt := 9) G dX11_lowestTerm_2 (by decide) rfl (fun c => ?_) (fun c => ?_)
  · have h := h.1 c
    refine z_iconst (nx := 10) (z := 0) G (R32c rfl) dX11_lowestTerm_9 rfl ?_
    exact b_ireturn X hB dX11_lowestTerm_10 h
  · have h := h.2 c
    refine z_iconst (nx := 6) (z := 1) G (R32c rfl) dX11_lowestTerm_5 rfl (z_goto (tgt := 10) G dX11_lowestTerm_6 (by decide) ?_)
    exact b_ireturn X hB dX11_lowestTerm_10 h
theorem NM_X11_lowestTerm {v0 : Int} {K : am_KK} {m : am_M} (h : M_X11_lowestTerm v0 K m) : N_X11_lowestTerm [v0] K m := h
theorem SS_X11_lowestTerm : am_Snd yX11_lowestTerm cX11_lowestTerm 1 (some .int) 0 1 (am_L [0] 0 N_X11_lowestTerm) := by
  refine am_SB (by decide +kernel) (Nat.le_of_ble_eq_true rfl) (fun F zs as K m X ht hB hM => ?_)
  obtain ⟨v0, zs, as, rfl, rfl, hz0, ht⟩ := am_inv ht
  obtain ⟨rfl, rfl⟩ := am_inv0 ht
  exact S_X11_lowestTerm X hB hM
set_option maxRecDepth 20000 in
set_option maxHeartbeats 4000000 in
theorem S_X11_highestTerm {F : am_F} {K : am_KK} {v0 : Int} {m : am_M} (X : am_Cx F cX11_highestTerm RX11 (some .int) 1 0 K) (hB : am_Bt m) (h : M_X11_highestTerm v0 K m) : am_Z F 0 [] [(0, v0)] m 200 := by
  have G := X.G
  unfold M_X11_highestTerm at h
  refine z_iload_n (nx := 1) (a := 0) G rfl dX11_highestTerm_0 rfl ?_
  refine z_if_ne (nx := 4) (tgt := 8) G dX11_highestTerm_1 (by decide) rfl (fun c => ?_) (fun c => ?_)
  · have h := h.1 c
    refine z_iload_n (nx := 9) (a := 0) G rfl dX11_highestTerm_8 rfl (z_iconst (nx := 10) (z := 1) G (R32c rfl) dX11_highestTerm_9 rfl ?_)
    refine z_icmp_ne (nx := 13) (tgt := 15) G dX11_highestTerm_10 (by decide) rfl (fun c => ?_) (fun c => ?_)
    · have h := h.1 c
      refine z_iload_n (nx := 16) (a := 0) G rfl dX11_highestTerm_15 rfl (z_iconst (nx := 17) (z := 2) G (R32c rfl) dX11_highestTerm_16 rfl ?_)
      refine z_icmp_ne (nx := 20) (tgt := 25) G dX11_highestTerm_17 (by decide) rfl (fun c => ?_) (fun c => ?_)
      · have h := h.1 c
        refine z_bipush (nx := 27) (z := 9) G (R32c rfl) rfl dX11_highestTerm_25 rfl ?_
        exact b_ireturn X hB dX11_highestTerm_27 h
      · have h := h.2 c
        refine z_bipush (nx := 22) (z := 30) G (R32c rfl) rfl dX11_highestTerm_20 rfl (z_goto (tgt := 27) G dX11_highestTerm_22 (by decide) ?_)
        exact b_ireturn X hB dX11_highestTerm_27 h
    · have h := h.2 c
      refine z_iconst (nx := 14) (z := 4) G (R32c rfl) dX11_highestTerm_13 rfl ?_
      exact b_ireturn X hB dX11_highestTerm_14 h
  · have h := h.2 c
    refine z_sipush (nx := 7) (z := 999) G (R32c rfl) rfl dX11_highestTerm_4 rfl ?_
    exact b_ireturn X hB dX11_highestTerm_7 h
theorem NM_X11_highestTerm {v0 : Int} {K : am_KK} {m : am_M} (h : M_X11_highestTerm v0 K m) : N_X11_highestTerm [v0] K m := h
theorem SS_X11_highestTerm : am_Snd yX11_highestTerm cX11_highestTerm 1 (some .int) 0 1 (am_L [0] 0 N_X11_highestTerm) := by
  refine am_SB (by decide +kernel) (Nat.le_of_ble_eq_true rfl) (fun F zs as K m X ht hB hM => ?_)
  obtain ⟨v0, zs, as, rfl, rfl, hz0, ht⟩ := am_inv ht
  obtain ⟨rfl, rfl⟩ := am_inv0 ht
  exact S_X11_highestTerm X hB hM
set_option maxRecDepth 20000 in
set_option maxHeartbeats 4000000 in
theorem S_X11_terms_J1 {F : am_F} {K : am_KK} {v0 : Int} {m : am_M} (X : am_Cx F cX11_terms RX11 (some .int) 3 0 K) (hp_v0 : am_ob v0 11) (hB : am_Bt m) (h : M_X11_terms_J1 v0 K m) : am_Z F 24 [] [(2, v0), (9, 0), (9, 0), (9, 0)] m 200 := by
  have G := X.G
  unfold M_X11_terms_J1 at h
  refine z_aload_n (nx := 25) (a := 0) G rfl (Or.inl rfl) dX11_terms_24 rfl (z_iconst (nx := 26) (z := (-1)) G (R32c rfl) dX11_terms_25 rfl ?_)
  refine b_callV0 (nx := 29) (zs := [v0, (-1)]) (as := [(0, (-1))]) X hB (by decide) rfl hp_v0 SS_X11_refuse (am_ta (am_ti am_tn)) (Nat.le_of_ble_eq_true rfl) (Nat.le_of_ble_eq_true rfl) ml_RX11_117 iw_X11_refuse vw_X11_refuse cw_X11_refuse nw_RX11 pp_X11_refuse (Nat.le_of_ble_eq_true rfl) dX11_terms_26 rfl (NM_X11_refuse hp_v0 h) (fun r_1 m_2 h hB => ?_)
  exact b_ireturn X hB dX11_terms_29 h
set_option maxRecDepth 20000 in
set_option maxHeartbeats 4000000 in
theorem S_X11_terms {F : am_F} {K : am_KK} {v0 : Int} {v1 : Int} {v2 : Int} {m : am_M} (X : am_Cx F cX11_terms RX11 (some .int) 3 0 K) (hp_v0 : am_ob v0 11) (hB : am_Bt m) (h : M_X11_terms v0 v1 v2 K m) : am_Z F 0 [] [(2, v0), (0, v1), (0, v2), (9, 0)] m 200 := by
  have G := X.G
  unfold M_X11_terms at h
  refine z_iload_n (nx := 1) (a := 1) G rfl dX11_terms_0 rfl (z_iconst (nx := 2) (z := 0) G (R32c rfl) dX11_terms_1 rfl (z_iconst (nx := 3) (z := 3) G (R32c rfl) dX11_terms_2 rfl ?_))
  refine b_callS5 (nx := 6) (zs := [v1, 0, 3]) (as := [(0, v1), (0, 0), (0, 3)]) X hB SS_X11_within (am_ti (am_ti (am_ti am_tn))) (Nat.le_of_ble_eq_true rfl) (Nat.le_of_ble_eq_true rfl) ml_RX11_113 sw_X11_within (am_plainC 11 (by decide)) cw_X11_within nw_RX11 pp_X11_within (Nat.le_of_ble_eq_true rfl) dX11_terms_3 rfl (NM_X11_within h) (fun r_3 m_4 h h01_5 hB => ?_)
  refine z_if_eq (nx := 9) (tgt := 24) G dX11_terms_6 (by decide) rfl (fun c => ?_) (fun c => ?_)
  · have h := h.1 c
    exact b_fewer (loc2 := [(2, v0), (9, 0), (9, 0), (9, 0)]) (am_lk (am_lf (am_lf (am_lk am_ln)))) (S_X11_terms_J1 X hp_v0 hB h)
  · have h := h.2 c
    refine z_iload_n (nx := 10) (a := 2) G rfl dX11_terms_9 rfl (z_iload_n (nx := 11) (a := 1) G rfl dX11_terms_10 rfl ?_)
    refine b_callS0 (nx := 14) (zs := [v1]) (as := [(0, v1)]) X hB SS_X11_lowestTerm (am_ti am_tn) (Nat.le_of_ble_eq_true rfl) (Nat.le_of_ble_eq_true rfl) ml_RX11_172 sw_X11_lowestTerm (am_plainC 11 (by decide)) cw_X11_lowestTerm nw_RX11 pp_X11_lowestTerm (Nat.le_of_ble_eq_true rfl) dX11_terms_11 rfl (NM_X11_lowestTerm h) (fun r_6 m_7 h hB => ?_)
    refine z_iload_n (nx := 15) (a := 1) G rfl dX11_terms_14 rfl ?_
    refine b_callS0 (nx := 18) (zs := [v1]) (as := [(0, v1)]) X hB SS_X11_highestTerm (am_ti am_tn) (Nat.le_of_ble_eq_true rfl) (Nat.le_of_ble_eq_true rfl) ml_RX11_175 sw_X11_highestTerm (am_plainC 11 (by decide)) cw_X11_highestTerm nw_RX11 pp_X11_highestTerm (Nat.le_of_ble_eq_true rfl) dX11_terms_15 rfl (NM_X11_highestTerm h) (fun r_8 m_9 h hB => ?_)
    refine b_callS5 (nx := 21) (zs := [v2, r_6, r_8]) (as := [(0, v2), (0, r_6), (0, r_8)]) X hB SS_X11_within (am_ti (am_ti (am_ti am_tn))) (Nat.le_of_ble_eq_true rfl) (Nat.le_of_ble_eq_true rfl) ml_RX11_113 sw_X11_within (am_plainC 11 (by decide)) cw_X11_within nw_RX11 pp_X11_within (Nat.le_of_ble_eq_true rfl) dX11_terms_18 rfl (NM_X11_within h) (fun r_10 m_11 h h01_12 hB => ?_)
    refine z_if_ne (nx := 24) (tgt := 30) G dX11_terms_21 (by decide) rfl (fun c => ?_) (fun c => ?_)
    · have h := h.1 c
      refine z_aload_n (nx := 31) (a := 0) G rfl (Or.inl rfl) dX11_terms_30 rfl (b_getA (nx := 34) (k0 := 0) G hB fl_RX11_10 (Nat.le_of_ble_eq_true rfl) (Nat.le_of_ble_eq_true rfl) rfl hp_v0 dX11_terms_31 rfl (z_iload_n (nx := 35) (a := 1) G rfl dX11_terms_34 rfl ?_))
      refine b_callV0 (nx := 38) (zs := [am_rfv v0 0, v1]) (as := [(0, v1)]) X hB (by decide) rfl (sh_11_0 _ hp_v0) SS_X0_term (am_ta (am_ti am_tn)) (Nat.le_of_ble_eq_true rfl) (Nat.le_of_ble_eq_true rfl) ml_RX11_178 iw_X0_term vw_X0_term cw_X0_term nw_RX0 pp_X0_term (Nat.le_of_ble_eq_true rfl) dX11_terms_35 rfl (NM_X0_term (sh_11_0 _ hp_v0) h) (fun r_13 m_14 h hB => ?_)
      refine b_storeE_n (nx := 39) (a := 3) (loc2 := [(2, v0), (0, v1), (0, v2), (0, r_13)]) G rfl (Nat.le_of_ble_eq_true rfl) (am_pl1 rfl (fun h => nomatch h)) dX11_terms_38 rfl (z_aload_n (nx := 40) (a := 0) G rfl (Or.inl rfl) dX11_terms_39 rfl (b_getA (nx := 43) (k0 := 0) G hB fl_RX11_10 (Nat.le_of_ble_eq_true rfl) (Nat.le_of_ble_eq_true rfl) rfl hp_v0 dX11_terms_40 rfl (z_iload_n (nx := 44) (a := 1) G rfl dX11_terms_43 rfl (z_iload_n (nx := 45) (a := 2) G rfl dX11_terms_44 rfl ?_))))
      refine b_callV9 (nx := 48) (zs := [am_rfv v0 0, v1, v2]) (as := [(0, v1), (0, v2)]) X hB (by decide) rfl (sh_11_0 _ hp_v0) SS_X0_setTerm (am_ta (am_ti (am_ti am_tn))) (Nat.le_of_ble_eq_true rfl) (Nat.le_of_ble_eq_true rfl) ml_RX11_181 iw_X0_setTerm vw_X0_setTerm cw_X0_setTerm nw_RX0 pp_X0_setTerm (Nat.le_of_ble_eq_true rfl) dX11_terms_45 rfl (NM_X0_setTerm (sh_11_0 _ hp_v0) h) (fun r_15 m_16 h hB => ?_)
      refine z_aload_n (nx := 49) (a := 0) G rfl (Or.inl rfl) dX11_terms_48 rfl (b_getA (nx := 52) (k0 := 10) G hB fl_RX11_75 (Nat.le_of_ble_eq_true rfl) (Nat.le_of_ble_eq_true rfl) rfl hp_v0 dX11_terms_49 rfl (z_iconst (nx := 53) (z := 0) G (R32c rfl) dX11_terms_52 rfl ?_))
      refine b_callV9 (nx := 56) (zs := [am_rfv v0 10, 0]) (as := [(0, 0)]) X hB (by decide) rfl (sh_11_10 _ hp_v0) SS_X7_cut (am_ta (am_ti am_tn)) (Nat.le_of_ble_eq_true rfl) (Nat.le_of_ble_eq_true rfl) ml_RX11_184 iw_X7_cut vw_X7_cut cw_X7_cut nw_RX7 pp_X7_cut (Nat.le_of_ble_eq_true rfl) dX11_terms_53 rfl (NM_X7_cut (sh_11_10 _ hp_v0) h) (fun r_17 m_18 h hB => ?_)
      refine z_aload_n (nx := 57) (a := 0) G rfl (Or.inl rfl) dX11_terms_56 rfl (z_iload_n (nx := 58) (a := 3) G rfl dX11_terms_57 rfl ?_)
      refine b_callV0 (nx := 61) (zs := [v0, r_13]) (as := [(0, r_13)]) X hB (by decide) rfl hp_v0 SS_X11_fine (am_ta (am_ti am_tn)) (Nat.le_of_ble_eq_true rfl) (Nat.le_of_ble_eq_true rfl) ml_RX11_132 iw_X11_fine vw_X11_fine cw_X11_fine nw_RX11 pp_X11_fine (Nat.le_of_ble_eq_true rfl) dX11_terms_58 rfl (NM_X11_fine hp_v0 h) (fun r_19 m_20 h hB => ?_)
      exact b_ireturn X hB dX11_terms_61 h
    · have h := h.2 c
      exact b_fewer (loc2 := [(2, v0), (9, 0), (9, 0), (9, 0)]) (am_lk (am_lf (am_lf (am_lk am_ln)))) (S_X11_terms_J1 X hp_v0 hB h)
theorem NM_X11_terms {v0 : Int} {v1 : Int} {v2 : Int} {K : am_KK} {m : am_M} (hp_v0 : am_ob v0 11) (h : M_X11_terms v0 v1 v2 K m) : N_X11_terms [v0, v1, v2] K m := ⟨hp_v0, h⟩
theorem SS_X11_terms : am_Snd yX11_terms cX11_terms 4 (some .int) 0 3 (am_L [2, 0, 0] 0 N_X11_terms) := by
  refine am_SB (by decide +kernel) (Nat.le_of_ble_eq_true rfl) (fun F zs as K m X ht hB hM => ?_)
  obtain ⟨v0, zs, as, rfl, rfl, hz0, ht⟩ := am_inv ht
  obtain ⟨v1, zs, as, rfl, rfl, hz1, ht⟩ := am_inv ht
  obtain ⟨v2, zs, as, rfl, rfl, hz2, ht⟩ := am_inv ht
  obtain ⟨rfl, rfl⟩ := am_inv0 ht
  obtain ⟨hp_v0, hM⟩ := hM
  exact S_X11_terms X hp_v0 hB hM
set_option maxRecDepth 20000 in
set_option maxHeartbeats 4000000 in
theorem S_X11_feedNumber_L1B {F : am_F} {K : am_KK} {v0 : Int} {v1 : Int} {v2 : Int} {C3 : Int → am_M → Prop} {m : am_M} (X : am_Cx F cX11_feedNumber RX11 none 2 9 K) (hp_v0 : am_ob v0 11) (hC3 : ∀ w2 m, C3 w2 m → am_Bt m → am_Z F 3 [] [(2, v0), (0, v1), (0, w2)] m 200) (hB : am_Bt m) (h : M_X11_feedNumber_L1B v0 v1 v2 C3 K m) : am_Z F 3 [] [(2, v0), (0, v1), (0, v2)] m 200 := by
  have G := X.G
  unfold M_X11_feedNumber_L1B at h
  refine z_iload_n (nx := 4) (a := 2) G rfl dX11_feedNumber_3 rfl ?_
  refine z_if_lt (nx := 7) (tgt := 35) G dX11_feedNumber_4 (by decide) rfl (fun c => ?_) (fun c => ?_)
  · have h := h.1 c
    exact b_return X hB dX11_feedNumber_35 h
  · have h := h.2 c
    refine z_aload_n (nx := 8) (a := 0) G rfl (Or.inl rfl) dX11_feedNumber_7 rfl (b_getA (nx := 11) (k0 := 3) G hB fl_RX11_29 (Nat.le_of_ble_eq_true rfl) (Nat.le_of_ble_eq_true rfl) rfl hp_v0 dX11_feedNumber_8 rfl (z_aload_n (nx := 12) (a := 0) G rfl (Or.inl rfl) dX11_feedNumber_11 rfl (b_getA (nx := 15) (k0 := 3) G hB fl_RX11_29 (Nat.le_of_ble_eq_true rfl) (Nat.le_of_ble_eq_true rfl) rfl hp_v0 dX11_feedNumber_12 rfl ?_)))
    refine b_callV0 (nx := 18) (zs := [am_rfv v0 3]) (as := []) X hB (by decide) rfl (sh_11_3 _ hp_v0) SS_X7_open (am_ta am_tn) (Nat.le_of_ble_eq_true rfl) (Nat.le_of_ble_eq_true rfl) ml_RX11_124 iw_X7_open vw_X7_open cw_X7_open nw_RX7 pp_X7_open (Nat.le_of_ble_eq_true rfl) dX11_feedNumber_15 rfl (NM_X7_open (sh_11_3 _ hp_v0) h) (fun r_1 m_2 h hB => ?_)
    refine z_iconst (nx := 19) (z := 0) G (R32c rfl) dX11_feedNumber_18 rfl (z_iload_n (nx := 20) (a := 1) G rfl dX11_feedNumber_19 rfl (z_iload_n (nx := 21) (a := 2) G rfl dX11_feedNumber_20 rfl (z_ishr (nx := 22) G dX11_feedNumber_21 rfl (z_sipush (nx := 25) (z := 255) G (R32c rfl) rfl dX11_feedNumber_22 rfl (z_iand (nx := 26) G dX11_feedNumber_25 rfl ?_)))))
    refine b_callV9 (nx := 29) (zs := [am_rfv v0 3, r_1, 0, am_and (am_shr v1 v2) 255]) (as := [(0, r_1), (0, 0), (0, am_and (am_shr v1 v2) 255)]) X hB (by decide) rfl (sh_11_3 _ hp_v0) SS_X7_set (am_ta (am_ti (am_ti (am_ti am_tn)))) (Nat.le_of_ble_eq_true rfl) (Nat.le_of_ble_eq_true rfl) ml_RX11_128 iw_X7_set vw_X7_set cw_X7_set nw_RX7 pp_X7_set (Nat.le_of_ble_eq_true rfl) dX11_feedNumber_26 rfl (NM_X7_set (sh_11_3 _ hp_v0) h) (fun r_3 m_4 h hB => ?_)
    refine b_iinc (nx := 32) (a := 2) (loc2 := fun v2_5 => [(2, v0), (0, v1), (0, v2_5)]) G (fun _ => rfl) rfl (am_pl1 rfl (fun h => nomatch h)) dX11_feedNumber_29 rfl (fun v2_5 e_v2_5 => ?_)
    have h := h v2_5 e_v2_5
    refine z_goto (tgt := 3) G dX11_feedNumber_32 (by decide) ?_
    exact b_fewer (loc2 := [(2, v0), (0, v1), (0, v2_5)]) (am_lk (am_lk (am_lk am_ln))) (hC3 _ _ h hB)
theorem S_X11_feedNumber_L1 {F : am_F} {K : am_KK} {v0 : Int} {v1 : Int} {v2 : Int} {m : am_M} (X : am_Cx F cX11_feedNumber RX11 none 2 9 K) (hp_v0 : am_ob v0 11) (hB : am_Bt m) (h : M_X11_feedNumber_L1 v0 v1 v2 K m) : am_Z F 3 [] [(2, v0), (0, v1), (0, v2)] m 200 := by
  obtain ⟨I, ⟨j, hj⟩, hI⟩ := h
  have key : ∀ j v2 m, I j v2 m → am_Bt m → am_Z F 3 [] [(2, v0), (0, v1), (0, v2)] m 200 := by
    intro j
    induction j using Nat.strongRecOn with
    | ind j ih =>
      intro v2 m hj hB
      exact S_X11_feedNumber_L1B X hp_v0 (fun v2' m' hc hB' => by
        obtain ⟨j', g1, g2⟩ := hc
        exact ih j' g1 v2' m' g2 hB') hB (hI j v2 m hj)
  exact key j _ _ hj hB
set_option maxRecDepth 20000 in
set_option maxHeartbeats 4000000 in
theorem S_X11_feedNumber {F : am_F} {K : am_KK} {v0 : Int} {v1 : Int} {m : am_M} (X : am_Cx F cX11_feedNumber RX11 none 2 9 K) (hp_v0 : am_ob v0 11) (hB : am_Bt m) (h : M_X11_feedNumber v0 v1 K m) : am_Z F 0 [] [(2, v0), (0, v1), (9, 0)] m 200 := by
  have G := X.G
  unfold M_X11_feedNumber at h
  refine z_bipush (nx := 2) (z := 24) G (R32c rfl) rfl dX11_feedNumber_0 rfl (b_storeE_n (nx := 3) (a := 2) (loc2 := [(2, v0), (0, v1), (0, 24)]) G rfl (Nat.le_of_ble_eq_true rfl) (am_pl1 rfl (fun h => nomatch h)) dX11_feedNumber_2 rfl ?_)
  exact b_fewer (loc2 := [(2, v0), (0, v1), (0, 24)]) (am_lk (am_lk (am_lk am_ln))) (S_X11_feedNumber_L1 X hp_v0 hB h)
theorem NM_X11_feedNumber {v0 : Int} {v1 : Int} {K : am_KK} {m : am_M} (hp_v0 : am_ob v0 11) (h : M_X11_feedNumber v0 v1 K m) : N_X11_feedNumber [v0, v1] K m := ⟨hp_v0, h⟩
theorem SS_X11_feedNumber : am_Snd yX11_feedNumber cX11_feedNumber 3 none 0 2 (am_L [2, 0] 9 N_X11_feedNumber) := by
  refine am_SB (by decide +kernel) (Nat.le_of_ble_eq_true rfl) (fun F zs as K m X ht hB hM => ?_)
  obtain ⟨v0, zs, as, rfl, rfl, hz0, ht⟩ := am_inv ht
  obtain ⟨v1, zs, as, rfl, rfl, hz1, ht⟩ := am_inv ht
  obtain ⟨rfl, rfl⟩ := am_inv0 ht
  obtain ⟨hp_v0, hM⟩ := hM
  exact S_X11_feedNumber X hp_v0 hB hM
set_option maxRecDepth 20000 in
set_option maxHeartbeats 4000000 in
theorem S_X11_feed {F : am_F} {K : am_KK} {v0 : Int} {v1 : Int} {v2 : Int} {v3 : Int} {v4 : Int} {v5 : Int} {m : am_M} (X : am_Cx F cX11_feed RX11 (some .int) 3 0 K) (hp_v0 : am_ob v0 11) (hB : am_Bt m) (h : M_X11_feed v0 v1 v2 v3 v4 v5 K m) : am_Z F 0 [] [(2, v0), (0, v1), (0, v2), (0, v3), (0, v4), (0, v5)] m 200 := by
  have G := X.G
  unfold M_X11_feed at h
  refine z_aload_n (nx := 1) (a := 0) G rfl (Or.inl rfl) dX11_feed_0 rfl (b_getA (nx := 4) (k0 := 3) G hB fl_RX11_29 (Nat.le_of_ble_eq_true rfl) (Nat.le_of_ble_eq_true rfl) rfl hp_v0 dX11_feed_1 rfl (b_getI (nx := 7) (k0 := 2) (t := 0) G fl_RX11_188 (Nat.le_of_ble_eq_true rfl) (Nat.le_of_ble_eq_true rfl) rfl (sh_11_3 _ hp_v0) dX11_feed_4 rfl (z_sipush (nx := 10) (z := 380) G (R32c rfl) rfl dX11_feed_7 rfl ?_)))
  refine z_icmp_le (nx := 13) (tgt := 15) G dX11_feed_10 (by decide) rfl (fun c => ?_) (fun c => ?_)
  · have h := h.1 c
    refine z_aload_n (nx := 16) (a := 0) G rfl (Or.inl rfl) dX11_feed_15 rfl (z_iload_n (nx := 17) (a := 1) G rfl dX11_feed_16 rfl ?_)
    refine b_callV9 (nx := 20) (zs := [v0, v1]) (as := [(0, v1)]) X hB (by decide) rfl hp_v0 SS_X11_feedNumber (am_ta (am_ti am_tn)) (Nat.le_of_ble_eq_true rfl) (Nat.le_of_ble_eq_true rfl) ml_RX11_191 iw_X11_feedNumber vw_X11_feedNumber cw_X11_feedNumber nw_RX11 pp_X11_feedNumber (Nat.le_of_ble_eq_true rfl) dX11_feed_17 rfl (NM_X11_feedNumber hp_v0 h) (fun r_1 m_2 h hB => ?_)
    refine z_aload_n (nx := 21) (a := 0) G rfl (Or.inl rfl) dX11_feed_20 rfl (z_iload_n (nx := 22) (a := 2) G rfl dX11_feed_21 rfl ?_)
    refine b_callV9 (nx := 25) (zs := [v0, v2]) (as := [(0, v2)]) X hB (by decide) rfl hp_v0 SS_X11_feedNumber (am_ta (am_ti am_tn)) (Nat.le_of_ble_eq_true rfl) (Nat.le_of_ble_eq_true rfl) ml_RX11_191 iw_X11_feedNumber vw_X11_feedNumber cw_X11_feedNumber nw_RX11 pp_X11_feedNumber (Nat.le_of_ble_eq_true rfl) dX11_feed_22 rfl (NM_X11_feedNumber hp_v0 h) (fun r_3 m_4 h hB => ?_)
    refine z_aload_n (nx := 26) (a := 0) G rfl (Or.inl rfl) dX11_feed_25 rfl (z_iload_n (nx := 27) (a := 3) G rfl dX11_feed_26 rfl ?_)
    refine b_callV9 (nx := 30) (zs := [v0, v3]) (as := [(0, v3)]) X hB (by decide) rfl hp_v0 SS_X11_feedNumber (am_ta (am_ti am_tn)) (Nat.le_of_ble_eq_true rfl) (Nat.le_of_ble_eq_true rfl) ml_RX11_191 iw_X11_feedNumber vw_X11_feedNumber cw_X11_feedNumber nw_RX11 pp_X11_feedNumber (Nat.le_of_ble_eq_true rfl) dX11_feed_27 rfl (NM_X11_feedNumber hp_v0 h) (fun r_5 m_6 h hB => ?_)
    refine z_aload_n (nx := 31) (a := 0) G rfl (Or.inl rfl) dX11_feed_30 rfl (z_iload (nx := 33) (a := 4) G rfl dX11_feed_31 rfl ?_)
    refine b_callV9 (nx := 36) (zs := [v0, v4]) (as := [(0, v4)]) X hB (by decide) rfl hp_v0 SS_X11_feedNumber (am_ta (am_ti am_tn)) (Nat.le_of_ble_eq_true rfl) (Nat.le_of_ble_eq_true rfl) ml_RX11_191 iw_X11_feedNumber vw_X11_feedNumber cw_X11_feedNumber nw_RX11 pp_X11_feedNumber (Nat.le_of_ble_eq_true rfl) dX11_feed_33 rfl (NM_X11_feedNumber hp_v0 h) (fun r_7 m_8 h hB => ?_)
    refine z_aload_n (nx := 37) (a := 0) G rfl (Or.inl rfl) dX11_feed_36 rfl (z_iload (nx := 39) (a := 5) G rfl dX11_feed_37 rfl ?_)
    refine b_callV9 (nx := 42) (zs := [v0, v5]) (as := [(0, v5)]) X hB (by decide) rfl hp_v0 SS_X11_feedNumber (am_ta (am_ti am_tn)) (Nat.le_of_ble_eq_true rfl) (Nat.le_of_ble_eq_true rfl) ml_RX11_191 iw_X11_feedNumber vw_X11_feedNumber cw_X11_feedNumber nw_RX11 pp_X11_feedNumber (Nat.le_of_ble_eq_true rfl) dX11_feed_39 rfl (NM_X11_feedNumber hp_v0 h) (fun r_9 m_10 h hB => ?_)
    refine z_aload_n (nx := 43) (a := 0) G rfl (Or.inl rfl) dX11_feed_42 rfl (b_getA (nx := 46) (k0 := 3) G hB fl_RX11_29 (Nat.le_of_ble_eq_true rfl) (Nat.le_of_ble_eq_true rfl) rfl hp_v0 dX11_feed_43 rfl (b_getI (nx := 49) (k0 := 2) (t := 0) G fl_RX11_188 (Nat.le_of_ble_eq_true rfl) (Nat.le_of_ble_eq_true rfl) rfl (sh_11_3 _ hp_v0) dX11_feed_46 rfl ?_))
    exact b_ireturn X hB dX11_feed_49 h
  · have h := h.2 c
    refine z_iconst (nx := 14) (z := (-1)) G (R32c rfl) dX11_feed_13 rfl ?_
    exact b_ireturn X hB dX11_feed_14 h
theorem NM_X11_feed {v0 : Int} {v1 : Int} {v2 : Int} {v3 : Int} {v4 : Int} {v5 : Int} {K : am_KK} {m : am_M} (hp_v0 : am_ob v0 11) (h : M_X11_feed v0 v1 v2 v3 v4 v5 K m) : N_X11_feed [v0, v1, v2, v3, v4, v5] K m := ⟨hp_v0, h⟩
theorem SS_X11_feed : am_Snd yX11_feed cX11_feed 6 (some .int) 0 3 (am_L [2, 0, 0, 0, 0, 0] 0 N_X11_feed) := by
  refine am_SB (by decide +kernel) (Nat.le_of_ble_eq_true rfl) (fun F zs as K m X ht hB hM => ?_)
  obtain ⟨v0, zs, as, rfl, rfl, hz0, ht⟩ := am_inv ht
  obtain ⟨v1, zs, as, rfl, rfl, hz1, ht⟩ := am_inv ht
  obtain ⟨v2, zs, as, rfl, rfl, hz2, ht⟩ := am_inv ht
  obtain ⟨v3, zs, as, rfl, rfl, hz3, ht⟩ := am_inv ht
  obtain ⟨v4, zs, as, rfl, rfl, hz4, ht⟩ := am_inv ht
  obtain ⟨v5, zs, as, rfl, rfl, hz5, ht⟩ := am_inv ht
  obtain ⟨rfl, rfl⟩ := am_inv0 ht
  obtain ⟨hp_v0, hM⟩ := hM
  exact S_X11_feed X hp_v0 hB hM
set_option maxRecDepth 20000 in
set_option maxHeartbeats 4000000 in
theorem S_X11_end {F : am_F} {K : am_KK} {v0 : Int} {v1 : Int} {m : am_M} (X : am_Cx F cX11_end RX11 (some .int) 2 0 K) (hp_v0 : am_ob v0 11) (hB : am_Bt m) (h : M_X11_end v0 v1 K m) : am_Z F 0 [] [(2, v0), (0, v1)] m 200 := by
  have G := X.G
  unfold M_X11_end at h
  refine z_iload_n (nx := 1) (a := 1) G rfl dX11_end_0 rfl (z_iconst (nx := 2) (z := 0) G (R32c rfl) dX11_end_1 rfl (z_aload_n (nx := 3) (a := 0) G rfl (Or.inl rfl) dX11_end_2 rfl (b_getA (nx := 6) (k0 := 3) G hB fl_RX11_29 (Nat.le_of_ble_eq_true rfl) (Nat.le_of_ble_eq_true rfl) rfl hp_v0 dX11_end_3 rfl (b_getI (nx := 9) (k0 := 2) (t := 0) G fl_RX11_188 (Nat.le_of_ble_eq_true rfl) (Nat.le_of_ble_eq_true rfl) rfl (sh_11_3 _ hp_v0) dX11_end_6 rfl ?_))))
  refine b_callS5 (nx := 12) (zs := [v1, 0, m (am_rfv v0 3) 2]) (as := [(0, v1), (0, 0), (0, m (am_rfv v0 3) 2)]) X hB SS_X11_within (am_ti (am_ti (am_ti am_tn))) (Nat.le_of_ble_eq_true rfl) (Nat.le_of_ble_eq_true rfl) ml_RX11_113 sw_X11_within (am_plainC 11 (by decide)) cw_X11_within nw_RX11 pp_X11_within (Nat.le_of_ble_eq_true rfl) dX11_end_9 rfl (NM_X11_within h) (fun r_1 m_2 h h01_3 hB => ?_)
  refine z_if_ne (nx := 15) (tgt := 17) G dX11_end_12 (by decide) rfl (fun c => ?_) (fun c => ?_)
  · have h := h.1 c
    refine z_aload_n (nx := 18) (a := 0) G rfl (Or.inl rfl) dX11_end_17 rfl (b_getA (nx := 21) (k0 := 3) G hB fl_RX11_29 (Nat.le_of_ble_eq_true rfl) (Nat.le_of_ble_eq_true rfl) rfl hp_v0 dX11_end_18 rfl (z_iload_n (nx := 22) (a := 1) G rfl dX11_end_21 rfl ?_))
    refine b_callV9 (nx := 25) (zs := [am_rfv v0 3, v1]) (as := [(0, v1)]) X hB (by decide) rfl (sh_11_3 _ hp_v0) SS_X7_cut (am_ta (am_ti am_tn)) (Nat.le_of_ble_eq_true rfl) (Nat.le_of_ble_eq_true rfl) ml_RX11_184 iw_X7_cut vw_X7_cut cw_X7_cut nw_RX7 pp_X7_cut (Nat.le_of_ble_eq_true rfl) dX11_end_22 rfl (NM_X7_cut (sh_11_3 _ hp_v0) h) (fun r_4 m_5 h hB => ?_)
    refine z_iload_n (nx := 26) (a := 1) G rfl dX11_end_25 rfl ?_
    exact b_ireturn X hB dX11_end_26 h
  · have h := h.2 c
    refine z_iconst (nx := 16) (z := (-1)) G (R32c rfl) dX11_end_15 rfl ?_
    exact b_ireturn X hB dX11_end_16 h
theorem NM_X11_end {v0 : Int} {v1 : Int} {K : am_KK} {m : am_M} (hp_v0 : am_ob v0 11) (h : M_X11_end v0 v1 K m) : N_X11_end [v0, v1] K m := ⟨hp_v0, h⟩
theorem SS_X11_end : am_Snd yX11_end cX11_end 2 (some .int) 0 2 (am_L [2, 0] 0 N_X11_end) := by
  refine am_SB (by decide +kernel) (Nat.le_of_ble_eq_true rfl) (fun F zs as K m X ht hB hM => ?_)
  obtain ⟨v0, zs, as, rfl, rfl, hz0, ht⟩ := am_inv ht
  obtain ⟨v1, zs, as, rfl, rfl, hz1, ht⟩ := am_inv ht
  obtain ⟨rfl, rfl⟩ := am_inv0 ht
  obtain ⟨hp_v0, hM⟩ := hM
  exact S_X11_end X hp_v0 hB hM
set_option maxRecDepth 20000 in
set_option maxHeartbeats 4000000 in
theorem S_X11_tryPrayer {F : am_F} {K : am_KK} {v0 : Int} {v1 : Int} {v2 : Int} {v3 : Int} {v4 : Int} {v5 : Int} {m : am_M} (X : am_Cx F cX11_tryPrayer RX11 (some .int) 5 0 K) (hp_v0 : am_ob v0 11) (hp_v1 : am_ob v1 9) (hB : am_Bt m) (h : M_X11_tryPrayer v0 v1 v2 v3 v4 v5 K m) : am_Z F 0 [] [(2, v0), (2, v1), (0, v2), (0, v3), (0, v4), (0, v5)] m 200 := by
  have G := X.G
  unfold M_X11_tryPrayer at h
  refine z_iload_n (nx := 1) (a := 3) G rfl dX11_tryPrayer_0 rfl ?_
  refine b_callS5 (nx := 4) (zs := [v3]) (as := [(0, v3)]) X hB SS_X11_isThing (am_ti am_tn) (Nat.le_of_ble_eq_true rfl) (Nat.le_of_ble_eq_true rfl) ml_RX11_139 sw_X11_isThing (am_plainC 11 (by decide)) cw_X11_isThing nw_RX11 pp_X11_isThing (Nat.le_of_ble_eq_true rfl) dX11_tryPrayer_1 rfl (NM_X11_isThing h) (fun r_1 m_2 h h01_3 hB => ?_)
  refine z_if_eq (nx := 7) (tgt := 29) G dX11_tryPrayer_4 (by decide) rfl (fun c => ?_) (fun c => ?_)
  · have h := h.1 c
    refine z_iconst (nx := 30) (z := (-1)) G (R32c rfl) dX11_tryPrayer_29 rfl ?_
    exact b_ireturn X hB dX11_tryPrayer_30 h
  · have h := h.2 c
    refine z_iload (nx := 9) (a := 4) G rfl dX11_tryPrayer_7 rfl (z_iconst (nx := 10) (z := 1) G (R32c rfl) dX11_tryPrayer_9 rfl (z_bipush (nx := 12) (z := 99) G (R32c rfl) rfl dX11_tryPrayer_10 rfl ?_))
    refine b_callS5 (nx := 15) (zs := [v4, 1, 99]) (as := [(0, v4), (0, 1), (0, 99)]) X hB SS_X11_within (am_ti (am_ti (am_ti am_tn))) (Nat.le_of_ble_eq_true rfl) (Nat.le_of_ble_eq_true rfl) ml_RX11_113 sw_X11_within (am_plainC 11 (by decide)) cw_X11_within nw_RX11 pp_X11_within (Nat.le_of_ble_eq_true rfl) dX11_tryPrayer_12 rfl (NM_X11_within h) (fun r_4 m_5 h h01_6 hB => ?_)
    refine z_if_eq (nx := 18) (tgt := 29) G dX11_tryPrayer_15 (by decide) rfl (fun c => ?_) (fun c => ?_)
    · have h := h.1 c
      refine z_iconst (nx := 30) (z := (-1)) G (R32c rfl) dX11_tryPrayer_29 rfl ?_
      exact b_ireturn X hB dX11_tryPrayer_30 h
    · have h := h.2 c
      refine z_iload (nx := 20) (a := 5) G rfl dX11_tryPrayer_18 rfl (z_iconst (nx := 21) (z := 1) G (R32c rfl) dX11_tryPrayer_20 rfl (z_bipush (nx := 23) (z := 6) G (R32c rfl) rfl dX11_tryPrayer_21 rfl ?_))
      refine b_callS5 (nx := 26) (zs := [v5, 1, 6]) (as := [(0, v5), (0, 1), (0, 6)]) X hB SS_X11_within (am_ti (am_ti (am_ti am_tn))) (Nat.le_of_ble_eq_true rfl) (Nat.le_of_ble_eq_true rfl) ml_RX11_113 sw_X11_within (am_plainC 11 (by decide)) cw_X11_within nw_RX11 pp_X11_within (Nat.le_of_ble_eq_true rfl) dX11_tryPrayer_23 rfl (NM_X11_within h) (fun r_7 m_8 h h01_9 hB => ?_)
      refine z_if_ne (nx := 29) (tgt := 31) G dX11_tryPrayer_26 (by decide) rfl (fun c => ?_) (fun c => ?_)
      · have h := h.1 c
        refine z_aload_n (nx := 32) (a := 0) G rfl (Or.inl rfl) dX11_tryPrayer_31 rfl (b_getA (nx := 35) (k0 := 0) G hB fl_RX11_10 (Nat.le_of_ble_eq_true rfl) (Nat.le_of_ble_eq_true rfl) rfl hp_v0 dX11_tryPrayer_32 rfl (b_getA (nx := 38) (k0 := 2) G hB fl_RX11_156 (Nat.le_of_ble_eq_true rfl) (Nat.le_of_ble_eq_true rfl) rfl (sh_11_0 _ hp_v0) dX11_tryPrayer_35 rfl (z_iload_n (nx := 39) (a := 2) G rfl dX11_tryPrayer_38 rfl ?_)))
        refine b_callV5 (nx := 42) (zs := [am_rfv (am_rfv v0 0) 2, v2]) (as := [(0, v2)]) X hB (by decide) rfl (sh_0_2 _ (sh_11_0 _ hp_v0)) SS_X7_has (am_ta (am_ti am_tn)) (Nat.le_of_ble_eq_true rfl) (Nat.le_of_ble_eq_true rfl) ml_RX11_159 iw_X7_has vw_X7_has cw_X7_has nw_RX7 pp_X7_has (Nat.le_of_ble_eq_true rfl) dX11_tryPrayer_39 rfl (NM_X7_has (sh_0_2 _ (sh_11_0 _ hp_v0)) h) (fun r_10 m_11 h h01_12 hB => ?_)
        refine z_if_ne (nx := 45) (tgt := 48) G dX11_tryPrayer_42 (by decide) rfl (fun c => ?_) (fun c => ?_)
        · have h := h.1 c
          refine z_iload (nx := 50) (a := 4) G rfl dX11_tryPrayer_48 rfl (z_aload_n (nx := 51) (a := 0) G rfl (Or.inl rfl) dX11_tryPrayer_50 rfl (b_getA (nx := 54) (k0 := 6) G hB fl_RX11_52 (Nat.le_of_ble_eq_true rfl) (Nat.le_of_ble_eq_true rfl) rfl hp_v0 dX11_tryPrayer_51 rfl (z_aload_n (nx := 55) (a := 0) G rfl (Or.inl rfl) dX11_tryPrayer_54 rfl (b_getA (nx := 58) (k0 := 0) G hB fl_RX11_10 (Nat.le_of_ble_eq_true rfl) (Nat.le_of_ble_eq_true rfl) rfl hp_v0 dX11_tryPrayer_55 rfl (z_iload_n (nx := 59) (a := 2) G rfl dX11_tryPrayer_58 rfl (z_aload_n (nx := 60) (a := 1) G rfl (Or.inl rfl) dX11_tryPrayer_59 rfl (b_getI (nx := 63) (k0 := 1) (t := 0) G fl_RX11_165 (Nat.le_of_ble_eq_true rfl) (Nat.le_of_ble_eq_true rfl) rfl hp_v1 dX11_tryPrayer_60 rfl ?_)))))))
          refine b_callV0 (nx := 66) (zs := [am_rfv v0 6, am_rfv v0 0, v2, m_11 v1 1]) (as := [(2, am_rfv v0 0), (0, v2), (0, m_11 v1 1)]) X hB (by decide) rfl (sh_11_6 _ hp_v0) SS_X3_breathOf (am_ta (am_ta (am_ti (am_ti am_tn)))) (Nat.le_of_ble_eq_true rfl) (Nat.le_of_ble_eq_true rfl) ml_RX11_168 iw_X3_breathOf vw_X3_breathOf cw_X3_breathOf nw_RX3 pp_X3_breathOf (Nat.le_of_ble_eq_true rfl) dX11_tryPrayer_63 rfl (NM_X3_breathOf (sh_11_6 _ hp_v0) (sh_11_0 _ hp_v0) h) (fun r_13 m_14 h hB => ?_)
          refine z_icmp_le (nx := 69) (tgt := 72) G dX11_tryPrayer_66 (by decide) rfl (fun c => ?_) (fun c => ?_)
          · have h := h.1 c
            refine z_aload_n (nx := 73) (a := 1) G rfl (Or.inl rfl) dX11_tryPrayer_72 rfl (b_getA (nx := 76) (k0 := 0) G hB fl_RX11_267 (Nat.le_of_ble_eq_true rfl) (Nat.le_of_ble_eq_true rfl) rfl hp_v1 dX11_tryPrayer_73 rfl (b_getI (nx := 79) (k0 := 2) (t := 0) G fl_RX11_188 (Nat.le_of_ble_eq_true rfl) (Nat.le_of_ble_eq_true rfl) rfl (sh_9_0 _ hp_v1) dX11_tryPrayer_76 rfl (z_bipush (nx := 81) (z := 16) G (R32c rfl) rfl dX11_tryPrayer_79 rfl ?_)))
            refine z_icmp_lt (nx := 84) (tgt := 87) G dX11_tryPrayer_81 (by decide) rfl (fun c => ?_) (fun c => ?_)
            · have h := h.1 c
              refine z_aload_n (nx := 88) (a := 1) G rfl (Or.inl rfl) dX11_tryPrayer_87 rfl (z_iload_n (nx := 89) (a := 2) G rfl dX11_tryPrayer_88 rfl (z_iload_n (nx := 90) (a := 3) G rfl dX11_tryPrayer_89 rfl (z_iload (nx := 92) (a := 4) G rfl dX11_tryPrayer_90 rfl (z_iload (nx := 94) (a := 5) G rfl dX11_tryPrayer_92 rfl ?_))))
              refine b_callV0 (nx := 97) (zs := [v1, v2, v3, v4, v5]) (as := [(0, v2), (0, v3), (0, v4), (0, v5)]) X hB (by decide) rfl hp_v1 SS_X9_utter (am_ta (am_ti (am_ti (am_ti (am_ti am_tn))))) (Nat.le_of_ble_eq_true rfl) (Nat.le_of_ble_eq_true rfl) ml_RX11_320 iw_X9_utter vw_X9_utter cw_X9_utter nw_RX9 pp_X9_utter (Nat.le_of_ble_eq_true rfl) dX11_tryPrayer_94 rfl (NM_X9_utter hp_v1 h) (fun r_15 m_16 h hB => ?_)
              refine z_pop (nx := 98) G (fun h => nomatch h) dX11_tryPrayer_97 rfl (z_iconst (nx := 99) (z := 0) G (R32c rfl) dX11_tryPrayer_98 rfl ?_)
              exact b_ireturn X hB dX11_tryPrayer_99 h
            · have h := h.2 c
              refine z_bipush (nx := 86) (z := (-5)) G (R32c rfl) rfl dX11_tryPrayer_84 rfl ?_
              exact b_ireturn X hB dX11_tryPrayer_86 h
          · have h := h.2 c
            refine z_bipush (nx := 71) (z := (-3)) G (R32c rfl) rfl dX11_tryPrayer_69 rfl ?_
            exact b_ireturn X hB dX11_tryPrayer_71 h
        · have h := h.2 c
          refine z_bipush (nx := 47) (z := (-2)) G (R32c rfl) rfl dX11_tryPrayer_45 rfl ?_
          exact b_ireturn X hB dX11_tryPrayer_47 h
      · have h := h.2 c
        refine z_iconst (nx := 30) (z := (-1)) G (R32c rfl) dX11_tryPrayer_29 rfl ?_
        exact b_ireturn X hB dX11_tryPrayer_30 h
theorem NM_X11_tryPrayer {v0 : Int} {v1 : Int} {v2 : Int} {v3 : Int} {v4 : Int} {v5 : Int} {K : am_KK} {m : am_M} (hp_v0 : am_ob v0 11) (hp_v1 : am_ob v1 9) (h : M_X11_tryPrayer v0 v1 v2 v3 v4 v5 K m) : N_X11_tryPrayer [v0, v1, v2, v3, v4, v5] K m := ⟨hp_v0, hp_v1, h⟩
theorem SS_X11_tryPrayer : am_Snd yX11_tryPrayer cX11_tryPrayer 6 (some .int) 0 5 (am_L [2, 2, 0, 0, 0, 0] 0 N_X11_tryPrayer) := by
  refine am_SB (by decide +kernel) (Nat.le_of_ble_eq_true rfl) (fun F zs as K m X ht hB hM => ?_)
  obtain ⟨v0, zs, as, rfl, rfl, hz0, ht⟩ := am_inv ht
  obtain ⟨v1, zs, as, rfl, rfl, hz1, ht⟩ := am_inv ht
  obtain ⟨v2, zs, as, rfl, rfl, hz2, ht⟩ := am_inv ht
  obtain ⟨v3, zs, as, rfl, rfl, hz3, ht⟩ := am_inv ht
  obtain ⟨v4, zs, as, rfl, rfl, hz4, ht⟩ := am_inv ht
  obtain ⟨v5, zs, as, rfl, rfl, hz5, ht⟩ := am_inv ht
  obtain ⟨rfl, rfl⟩ := am_inv0 ht
  obtain ⟨hp_v0, hp_v1, hM⟩ := hM
  exact S_X11_tryPrayer X hp_v0 hp_v1 hB hM
set_option maxRecDepth 20000 in
set_option maxHeartbeats 4000000 in
theorem S_X11_row_J1 {F : am_F} {K : am_KK} {v0 : Int} {v1 : Int} {v2 : Int} {C26 : Int → Int → am_M → Prop} {m : am_M} (X : am_Cx F cX11_row RX11 (some .int) 6 0 K) (hp_v0 : am_ob v0 11) (hC26 : ∀ w1 w2 m, C26 w1 w2 m → am_Bt m → am_Z F 26 [] [(2, v0), (0, w1), (0, w2)] m 200) (hB : am_Bt m) (h : M_X11_row_J1 v0 v1 v2 C26 K m) : am_Z F 99 [] [(2, v0), (0, v1), (0, v2)] m 200 := by
  have G := X.G
  unfold M_X11_row_J1 at h
  refine b_iinc (nx := 102) (a := 2) (loc2 := fun v2_1 => [(2, v0), (0, v1), (0, v2_1)]) G (fun _ => rfl) rfl (am_pl1 rfl (fun h => nomatch h)) dX11_row_99 rfl (fun v2_1 e_v2_1 => ?_)
  have h := h v2_1 e_v2_1
  refine z_goto (tgt := 26) G dX11_row_102 (by decide) ?_
  exact b_fewer (loc2 := [(2, v0), (0, v1), (0, v2_1)]) (am_lk (am_lk (am_lk am_ln))) (hC26 _ _ _ h hB)
set_option maxRecDepth 20000 in
set_option maxHeartbeats 4000000 in
theorem S_X11_row_L1B {F : am_F} {K : am_KK} {v0 : Int} {v1 : Int} {v2 : Int} {C26 : Int → Int → am_M → Prop} {m : am_M} (X : am_Cx F cX11_row RX11 (some .int) 6 0 K) (hp_v0 : am_ob v0 11) (hC26 : ∀ w1 w2 m, C26 w1 w2 m → am_Bt m → am_Z F 26 [] [(2, v0), (0, w1), (0, w2)] m 200) (hB : am_Bt m) (h : M_X11_row_L1B v0 v1 v2 C26 K m) : am_Z F 26 [] [(2, v0), (0, v1), (0, v2)] m 200 := by
  have G := X.G
  unfold M_X11_row_L1B at h
  refine z_iload_n (nx := 27) (a := 2) G rfl dX11_row_26 rfl (z_aload_n (nx := 28) (a := 0) G rfl (Or.inl rfl) dX11_row_27 rfl (b_getA (nx := 31) (k0 := 3) G hB fl_RX11_29 (Nat.le_of_ble_eq_true rfl) (Nat.le_of_ble_eq_true rfl) rfl hp_v0 dX11_row_28 rfl (b_getI (nx := 34) (k0 := 2) (t := 0) G fl_RX11_188 (Nat.le_of_ble_eq_true rfl) (Nat.le_of_ble_eq_true rfl) rfl (sh_11_3 _ hp_v0) dX11_row_31 rfl ?_)))
  refine z_icmp_ge (nx := 37) (tgt := 105) G dX11_row_34 (by decide) rfl (fun c => ?_) (fun c => ?_)
  · have h := h.1 c
    refine z_aload_n (nx := 106) (a := 0) G rfl (Or.inl rfl) dX11_row_105 rfl (b_getA (nx := 109) (k0 := 3) G hB fl_RX11_29 (Nat.le_of_ble_eq_true rfl) (Nat.le_of_ble_eq_true rfl) rfl hp_v0 dX11_row_106 rfl (z_iconst (nx := 110) (z := 0) G (R32c rfl) dX11_row_109 rfl ?_))
    refine b_callV9 (nx := 113) (zs := [am_rfv v0 3, 0]) (as := [(0, 0)]) X hB (by decide) rfl (sh_11_3 _ hp_v0) SS_X7_cut (am_ta (am_ti am_tn)) (Nat.le_of_ble_eq_true rfl) (Nat.le_of_ble_eq_true rfl) ml_RX11_184 iw_X7_cut vw_X7_cut cw_X7_cut nw_RX7 pp_X7_cut (Nat.le_of_ble_eq_true rfl) dX11_row_110 rfl (NM_X7_cut (sh_11_3 _ hp_v0) h) (fun r_2 m_3 h hB => ?_)
    refine z_aload_n (nx := 114) (a := 0) G rfl (Or.inl rfl) dX11_row_113 rfl (b_getA (nx := 117) (k0 := 10) G hB fl_RX11_75 (Nat.le_of_ble_eq_true rfl) (Nat.le_of_ble_eq_true rfl) rfl hp_v0 dX11_row_114 rfl (z_iconst (nx := 118) (z := 0) G (R32c rfl) dX11_row_117 rfl ?_))
    refine b_callV9 (nx := 121) (zs := [am_rfv v0 10, 0]) (as := [(0, 0)]) X hB (by decide) rfl (sh_11_10 _ hp_v0) SS_X7_cut (am_ta (am_ti am_tn)) (Nat.le_of_ble_eq_true rfl) (Nat.le_of_ble_eq_true rfl) ml_RX11_184 iw_X7_cut vw_X7_cut cw_X7_cut nw_RX7 pp_X7_cut (Nat.le_of_ble_eq_true rfl) dX11_row_118 rfl (NM_X7_cut (sh_11_10 _ hp_v0) h) (fun r_4 m_5 h hB => ?_)
    refine z_aload_n (nx := 122) (a := 0) G rfl (Or.inl rfl) dX11_row_121 rfl (z_iload_n (nx := 123) (a := 1) G rfl dX11_row_122 rfl ?_)
    refine b_callV0 (nx := 126) (zs := [v0, v1]) (as := [(0, v1)]) X hB (by decide) rfl hp_v0 SS_X11_fine (am_ta (am_ti am_tn)) (Nat.le_of_ble_eq_true rfl) (Nat.le_of_ble_eq_true rfl) ml_RX11_132 iw_X11_fine vw_X11_fine cw_X11_fine nw_RX11 pp_X11_fine (Nat.le_of_ble_eq_true rfl) dX11_row_123 rfl (NM_X11_fine hp_v0 h) (fun r_6 m_7 h hB => ?_)
    exact b_ireturn X hB dX11_row_126 h
  · have h := h.2 c
    refine z_aload_n (nx := 38) (a := 0) G rfl (Or.inl rfl) dX11_row_37 rfl (z_aload_n (nx := 39) (a := 0) G rfl (Or.inl rfl) dX11_row_38 rfl (b_getA (nx := 42) (k0 := 0) G hB fl_RX11_10 (Nat.le_of_ble_eq_true rfl) (Nat.le_of_ble_eq_true rfl) rfl hp_v0 dX11_row_39 rfl (b_getA (nx := 45) (k0 := 5) G hB fl_RX11_162 (Nat.le_of_ble_eq_true rfl) (Nat.le_of_ble_eq_true rfl) rfl (sh_11_0 _ hp_v0) dX11_row_42 rfl (z_aload_n (nx := 46) (a := 0) G rfl (Or.inl rfl) dX11_row_45 rfl (b_getA (nx := 49) (k0 := 3) G hB fl_RX11_29 (Nat.le_of_ble_eq_true rfl) (Nat.le_of_ble_eq_true rfl) rfl hp_v0 dX11_row_46 rfl (z_iload_n (nx := 50) (a := 2) G rfl dX11_row_49 rfl (z_iconst (nx := 51) (z := 0) G (R32c rfl) dX11_row_50 rfl ?_)))))))
    refine b_callV0 (nx := 54) (zs := [am_rfv v0 3, v2, 0]) (as := [(0, v2), (0, 0)]) X hB (by decide) rfl (sh_11_3 _ hp_v0) SS_X7_get (am_ta (am_ti (am_ti am_tn))) (Nat.le_of_ble_eq_true rfl) (Nat.le_of_ble_eq_true rfl) ml_RX11_135 iw_X7_get vw_X7_get cw_X7_get nw_RX7 pp_X7_get (Nat.le_of_ble_eq_true rfl) dX11_row_51 rfl (NM_X7_get (sh_11_3 _ hp_v0) h) (fun r_8 m_9 h hB => ?_)
    refine z_aload_n (nx := 55) (a := 0) G rfl (Or.inl rfl) dX11_row_54 rfl (b_getA (nx := 58) (k0 := 3) G hB fl_RX11_29 (Nat.le_of_ble_eq_true rfl) (Nat.le_of_ble_eq_true rfl) rfl hp_v0 dX11_row_55 rfl (z_iload_n (nx := 59) (a := 2) G rfl dX11_row_58 rfl (z_iconst (nx := 60) (z := 1) G (R32c rfl) dX11_row_59 rfl (z_iadd (nx := 61) G dX11_row_60 rfl (z_iconst (nx := 62) (z := 0) G (R32c rfl) dX11_row_61 rfl ?_)))))
    refine b_callV0 (nx := 65) (zs := [am_rfv v0 3, w32 (v2 + 1), 0]) (as := [(0, w32 (v2 + 1)), (0, 0)]) X hB (by decide) rfl (sh_11_3 _ hp_v0) SS_X7_get (am_ta (am_ti (am_ti am_tn))) (Nat.le_of_ble_eq_true rfl) (Nat.le_of_ble_eq_true rfl) ml_RX11_135 iw_X7_get vw_X7_get cw_X7_get nw_RX7 pp_X7_get (Nat.le_of_ble_eq_true rfl) dX11_row_62 rfl (NM_X7_get (sh_11_3 _ hp_v0) h) (fun r_10 m_11 h hB => ?_)
    refine z_aload_n (nx := 66) (a := 0) G rfl (Or.inl rfl) dX11_row_65 rfl (b_getA (nx := 69) (k0 := 3) G hB fl_RX11_29 (Nat.le_of_ble_eq_true rfl) (Nat.le_of_ble_eq_true rfl) rfl hp_v0 dX11_row_66 rfl (z_iload_n (nx := 70) (a := 2) G rfl dX11_row_69 rfl (z_iconst (nx := 71) (z := 2) G (R32c rfl) dX11_row_70 rfl (z_iadd (nx := 72) G dX11_row_71 rfl (z_iconst (nx := 73) (z := 0) G (R32c rfl) dX11_row_72 rfl ?_)))))
    refine b_callV0 (nx := 76) (zs := [am_rfv v0 3, w32 (v2 + 2), 0]) (as := [(0, w32 (v2 + 2)), (0, 0)]) X hB (by decide) rfl (sh_11_3 _ hp_v0) SS_X7_get (am_ta (am_ti (am_ti am_tn))) (Nat.le_of_ble_eq_true rfl) (Nat.le_of_ble_eq_true rfl) ml_RX11_135 iw_X7_get vw_X7_get cw_X7_get nw_RX7 pp_X7_get (Nat.le_of_ble_eq_true rfl) dX11_row_73 rfl (NM_X7_get (sh_11_3 _ hp_v0) h) (fun r_12 m_13 h hB => ?_)
    refine z_iconst (nx := 77) (z := 1) G (R32c rfl) dX11_row_76 rfl ?_
    refine b_callV0 (nx := 80) (zs := [v0, am_rfv (am_rfv v0 0) 5, r_8, r_10, r_12, 1]) (as := [(2, am_rfv (am_rfv v0 0) 5), (0, r_8), (0, r_10), (0, r_12), (0, 1)]) X hB (by decide) rfl hp_v0 SS_X11_tryPrayer (am_ta (am_ta (am_ti (am_ti (am_ti (am_ti am_tn)))))) (Nat.le_of_ble_eq_true rfl) (Nat.le_of_ble_eq_true rfl) ml_RX11_197 iw_X11_tryPrayer vw_X11_tryPrayer cw_X11_tryPrayer nw_RX11 pp_X11_tryPrayer (Nat.le_of_ble_eq_true rfl) dX11_row_77 rfl (NM_X11_tryPrayer hp_v0 (sh_0_5 _ (sh_11_0 _ hp_v0)) h) (fun r_14 m_15 h hB => ?_)
    refine z_if_ne (nx := 83) (tgt := 89) G dX11_row_80 (by decide) rfl (fun c => ?_) (fun c => ?_)
    · have h := h.1 c
      refine z_aload_n (nx := 90) (a := 0) G rfl (Or.inl rfl) dX11_row_89 rfl (z_dup (nx := 91) G (fun h => nomatch h) dX11_row_90 rfl (b_getI (nx := 94) (k0 := 18) (t := 0) G fl_RX11_194 (Nat.le_of_ble_eq_true rfl) (Nat.le_of_ble_eq_true rfl) rfl hp_v0 dX11_row_91 rfl (z_iconst (nx := 95) (z := 1) G (R32c rfl) dX11_row_94 rfl (z_iadd (nx := 96) G dX11_row_95 rfl ?_))))
      refine b_put (nx := 99) (k0 := 18) (t := 0) G hB fl_RX11_194 (Nat.le_of_ble_eq_true rfl) (Nat.le_of_ble_eq_true rfl) rfl (fun h => nomatch h) rfl hp_v0 dX11_row_96 rfl (fun m_16 e_m_16 hB => ?_)
      have h := h m_16 e_m_16
      exact b_fewer (loc2 := [(2, v0), (0, v1), (0, v2)]) (am_lk (am_lk (am_lk am_ln))) (S_X11_row_J1 X hp_v0 hC26 hB h)
    · have h := h.2 c
      refine b_iinc (nx := 86) (a := 1) (loc2 := fun v1_17 => [(2, v0), (0, v1_17), (0, v2)]) G (fun _ => rfl) rfl (am_pl1 rfl (fun h => nomatch h)) dX11_row_83 rfl (fun v1_17 e_v1_17 => ?_)
      have h := h v1_17 e_v1_17
      refine z_goto (tgt := 99) G dX11_row_86 (by decide) ?_
      exact b_fewer (loc2 := [(2, v0), (0, v1_17), (0, v2)]) (am_lk (am_lk (am_lk am_ln))) (S_X11_row_J1 X hp_v0 hC26 hB h)
theorem S_X11_row_L1 {F : am_F} {K : am_KK} {v0 : Int} {v1 : Int} {v2 : Int} {m : am_M} (X : am_Cx F cX11_row RX11 (some .int) 6 0 K) (hp_v0 : am_ob v0 11) (hB : am_Bt m) (h : M_X11_row_L1 v0 v1 v2 K m) : am_Z F 26 [] [(2, v0), (0, v1), (0, v2)] m 200 := by
  obtain ⟨I, ⟨j, hj⟩, hI⟩ := h
  have key : ∀ j v1 v2 m, I j v1 v2 m → am_Bt m → am_Z F 26 [] [(2, v0), (0, v1), (0, v2)] m 200 := by
    intro j
    induction j using Nat.strongRecOn with
    | ind j ih =>
      intro v1 v2 m hj hB
      exact S_X11_row_L1B X hp_v0 (fun v1' v2' m' hc hB' => by
        obtain ⟨j', g1, g2⟩ := hc
        exact ih j' g1 v1' v2' m' g2 hB') hB (hI j v1 v2 m hj)
  exact key j _ _ _ hj hB
set_option maxRecDepth 20000 in
set_option maxHeartbeats 4000000 in
theorem S_X11_row {F : am_F} {K : am_KK} {v0 : Int} {m : am_M} (X : am_Cx F cX11_row RX11 (some .int) 6 0 K) (hp_v0 : am_ob v0 11) (hB : am_Bt m) (h : M_X11_row v0 K m) : am_Z F 0 [] [(2, v0), (9, 0), (9, 0)] m 200 := by
  have G := X.G
  unfold M_X11_row at h
  refine z_aload_n (nx := 1) (a := 0) G rfl (Or.inl rfl) dX11_row_0 rfl (b_getA (nx := 4) (k0 := 3) G hB fl_RX11_29 (Nat.le_of_ble_eq_true rfl) (Nat.le_of_ble_eq_true rfl) rfl hp_v0 dX11_row_1 rfl (b_getI (nx := 7) (k0 := 2) (t := 0) G fl_RX11_188 (Nat.le_of_ble_eq_true rfl) (Nat.le_of_ble_eq_true rfl) rfl (sh_11_3 _ hp_v0) dX11_row_4 rfl ?_))
  refine z_if_ne (nx := 10) (tgt := 17) G dX11_row_7 (by decide) rfl (fun c => ?_) (fun c => ?_)
  · have h := h.1 c
    refine z_iconst (nx := 18) (z := 0) G (R32c rfl) dX11_row_17 rfl (b_storeE_n (nx := 19) (a := 1) (loc2 := [(2, v0), (0, 0), (9, 0)]) G rfl (Nat.le_of_ble_eq_true rfl) (am_pl1 rfl (fun h => nomatch h)) dX11_row_18 rfl (z_aload_n (nx := 20) (a := 0) G rfl (Or.inl rfl) dX11_row_19 rfl (z_iconst (nx := 21) (z := 0) G (R32c rfl) dX11_row_20 rfl ?_)))
    refine b_put (nx := 24) (k0 := 18) (t := 0) G hB fl_RX11_194 (Nat.le_of_ble_eq_true rfl) (Nat.le_of_ble_eq_true rfl) rfl (fun h => nomatch h) rfl hp_v0 dX11_row_21 rfl (fun m_18 e_m_18 hB => ?_)
    have h := h m_18 e_m_18
    refine z_iconst (nx := 25) (z := 0) G (R32c rfl) dX11_row_24 rfl (b_storeE_n (nx := 26) (a := 2) (loc2 := [(2, v0), (0, 0), (0, 0)]) G rfl (Nat.le_of_ble_eq_true rfl) (am_pl1 rfl (fun h => nomatch h)) dX11_row_25 rfl ?_)
    exact b_fewer (loc2 := [(2, v0), (0, 0), (0, 0)]) (am_lk (am_lk (am_lk am_ln))) (S_X11_row_L1 X hp_v0 hB h)
  · have h := h.2 c
    refine z_aload_n (nx := 11) (a := 0) G rfl (Or.inl rfl) dX11_row_10 rfl (z_bipush (nx := 13) (z := (-6)) G (R32c rfl) rfl dX11_row_11 rfl ?_)
    refine b_callV0 (nx := 16) (zs := [v0, (-6)]) (as := [(0, (-6))]) X hB (by decide) rfl hp_v0 SS_X11_refuse (am_ta (am_ti am_tn)) (Nat.le_of_ble_eq_true rfl) (Nat.le_of_ble_eq_true rfl) ml_RX11_117 iw_X11_refuse vw_X11_refuse cw_X11_refuse nw_RX11 pp_X11_refuse (Nat.le_of_ble_eq_true rfl) dX11_row_13 rfl (NM_X11_refuse hp_v0 h) (fun r_19 m_20 h hB => ?_)
    exact b_ireturn X hB dX11_row_16 h
theorem NM_X11_row {v0 : Int} {K : am_KK} {m : am_M} (hp_v0 : am_ob v0 11) (h : M_X11_row v0 K m) : N_X11_row [v0] K m := ⟨hp_v0, h⟩
theorem SS_X11_row : am_Snd yX11_row cX11_row 3 (some .int) 0 6 (am_L [2] 0 N_X11_row) := by
  refine am_SB (by decide +kernel) (Nat.le_of_ble_eq_true rfl) (fun F zs as K m X ht hB hM => ?_)
  obtain ⟨v0, zs, as, rfl, rfl, hz0, ht⟩ := am_inv ht
  obtain ⟨rfl, rfl⟩ := am_inv0 ht
  obtain ⟨hp_v0, hM⟩ := hM
  exact S_X11_row X hp_v0 hB hM
set_option maxRecDepth 20000 in
set_option maxHeartbeats 4000000 in
theorem S_X11_coughs {F : am_F} {K : am_KK} {v0 : Int} {m : am_M} (X : am_Cx F cX11_coughs RX11 (some .int) 1 0 K) (hp_v0 : am_ob v0 11) (hB : am_Bt m) (h : M_X11_coughs v0 K m) : am_Z F 0 [] [(2, v0)] m 200 := by
  have G := X.G
  unfold M_X11_coughs at h
  refine z_aload_n (nx := 1) (a := 0) G rfl (Or.inl rfl) dX11_coughs_0 rfl (b_getI (nx := 4) (k0 := 18) (t := 0) G fl_RX11_194 (Nat.le_of_ble_eq_true rfl) (Nat.le_of_ble_eq_true rfl) rfl hp_v0 dX11_coughs_1 rfl ?_)
  exact b_ireturn X hB dX11_coughs_4 h
theorem NM_X11_coughs {v0 : Int} {K : am_KK} {m : am_M} (hp_v0 : am_ob v0 11) (h : M_X11_coughs v0 K m) : N_X11_coughs [v0] K m := ⟨hp_v0, h⟩
theorem SS_X11_coughs : am_Snd yX11_coughs cX11_coughs 1 (some .int) 0 1 (am_L [2] 0 N_X11_coughs) := by
  refine am_SB (by decide +kernel) (Nat.le_of_ble_eq_true rfl) (fun F zs as K m X ht hB hM => ?_)
  obtain ⟨v0, zs, as, rfl, rfl, hz0, ht⟩ := am_inv ht
  obtain ⟨rfl, rfl⟩ := am_inv0 ht
  obtain ⟨hp_v0, hM⟩ := hM
  exact S_X11_coughs X hp_v0 hB hM
set_option maxRecDepth 20000 in
set_option maxHeartbeats 4000000 in
theorem S_X11_law {F : am_F} {K : am_KK} {v0 : Int} {m : am_M} (X : am_Cx F cX11_law RX11 (some .int) 611 0 K) (hp_v0 : am_ob v0 11) (hB : am_Bt m) (h : M_X11_law v0 K m) : am_Z F 0 [] [(2, v0), (9, 0)] m 200 := by
  have G := X.G
  unfold M_X11_law at h
  refine z_aload_n (nx := 1) (a := 0) G rfl (Or.inl rfl) dX11_law_0 rfl (b_getA (nx := 4) (k0 := 0) G hB fl_RX11_10 (Nat.le_of_ble_eq_true rfl) (Nat.le_of_ble_eq_true rfl) rfl hp_v0 dX11_law_1 rfl (b_getI (nx := 7) (k0 := 10) (t := 0) G fl_RX11_201 (Nat.le_of_ble_eq_true rfl) (Nat.le_of_ble_eq_true rfl) rfl (sh_11_0 _ hp_v0) dX11_law_4 rfl (z_aload_n (nx := 8) (a := 0) G rfl (Or.inl rfl) dX11_law_7 rfl (b_getA (nx := 11) (k0 := 0) G hB fl_RX11_10 (Nat.le_of_ble_eq_true rfl) (Nat.le_of_ble_eq_true rfl) rfl hp_v0 dX11_law_8 rfl (b_getA (nx := 14) (k0 := 9) G hB fl_RX11_204 (Nat.le_of_ble_eq_true rfl) (Nat.le_of_ble_eq_true rfl) rfl (sh_11_0 _ hp_v0) dX11_law_11 rfl (b_alen (nx := 15) G (by decide) (by decide) (sh_0_9 _ (sh_11_0 _ hp_v0)) dX11_law_14 rfl ?_))))))
  refine z_icmp_lt (nx := 18) (tgt := 33) G dX11_law_15 (by decide) rfl (fun c => ?_) (fun c => ?_)
  · have h := h.1 c
    refine z_aload_n (nx := 34) (a := 0) G rfl (Or.inl rfl) dX11_law_33 rfl (b_getA (nx := 37) (k0 := 5) G hB fl_RX11_45 (Nat.le_of_ble_eq_true rfl) (Nat.le_of_ble_eq_true rfl) rfl hp_v0 dX11_law_34 rfl (z_iconst (nx := 38) (z := 0) G (R32c rfl) dX11_law_37 rfl ?_))
    refine b_callV5 (nx := 41) (zs := [am_rfv v0 5, 0]) (as := [(0, 0)]) X hB (by decide) rfl (sh_11_5 _ hp_v0) SS_X5_read (am_ta (am_tz (Or.inl rfl) am_tn)) (Nat.le_of_ble_eq_true rfl) (Nat.le_of_ble_eq_true rfl) ml_RX11_208 iw_X5_read vw_X5_read cw_X5_read nw_RX5 pp_X5_read (Nat.le_of_ble_eq_true rfl) dX11_law_38 rfl (NM_X5_read (sh_11_5 _ hp_v0) (Or.inl rfl) h) (fun r_1 m_2 h h01_3 hB => ?_)
    refine b_storeE_n (nx := 42) (a := 1) (loc2 := [(2, v0), (0, r_1)]) G rfl (Nat.le_of_ble_eq_true rfl) (am_pl1 rfl (fun h => nomatch h)) dX11_law_41 rfl (z_aload_n (nx := 43) (a := 0) G rfl (Or.inl rfl) dX11_law_42 rfl (b_getA (nx := 46) (k0 := 3) G hB fl_RX11_29 (Nat.le_of_ble_eq_true rfl) (Nat.le_of_ble_eq_true rfl) rfl hp_v0 dX11_law_43 rfl (z_iconst (nx := 47) (z := 0) G (R32c rfl) dX11_law_46 rfl ?_)))
    refine b_callV9 (nx := 50) (zs := [am_rfv v0 3, 0]) (as := [(0, 0)]) X hB (by decide) rfl (sh_11_3 _ hp_v0) SS_X7_cut (am_ta (am_ti am_tn)) (Nat.le_of_ble_eq_true rfl) (Nat.le_of_ble_eq_true rfl) ml_RX11_184 iw_X7_cut vw_X7_cut cw_X7_cut nw_RX7 pp_X7_cut (Nat.le_of_ble_eq_true rfl) dX11_law_47 rfl (NM_X7_cut (sh_11_3 _ hp_v0) h) (fun r_4 m_5 h hB => ?_)
    refine z_iload_n (nx := 51) (a := 1) G rfl dX11_law_50 rfl ?_
    refine z_if_eq (nx := 54) (tgt := 72) G dX11_law_51 (by decide) rfl (fun c => ?_) (fun c => ?_)
    · have h := h.1 c
      refine z_aload_n (nx := 73) (a := 0) G rfl (Or.inl rfl) dX11_law_72 rfl (z_bipush (nx := 75) (z := (-6)) G (R32c rfl) rfl dX11_law_73 rfl ?_)
      refine b_callV0 (nx := 78) (zs := [v0, (-6)]) (as := [(0, (-6))]) X hB (by decide) rfl hp_v0 SS_X11_refuse (am_ta (am_ti am_tn)) (Nat.le_of_ble_eq_true rfl) (Nat.le_of_ble_eq_true rfl) ml_RX11_117 iw_X11_refuse vw_X11_refuse cw_X11_refuse nw_RX11 pp_X11_refuse (Nat.le_of_ble_eq_true rfl) dX11_law_75 rfl (NM_X11_refuse hp_v0 h) (fun r_6 m_7 h hB => ?_)
      exact b_ireturn X hB dX11_law_78 h
    · have h := h.2 c
      refine z_aload_n (nx := 55) (a := 0) G rfl (Or.inl rfl) dX11_law_54 rfl (z_aload_n (nx := 56) (a := 0) G rfl (Or.inl rfl) dX11_law_55 rfl (b_getA (nx := 59) (k0 := 0) G hB fl_RX11_10 (Nat.le_of_ble_eq_true rfl) (Nat.le_of_ble_eq_true rfl) rfl hp_v0 dX11_law_56 rfl (z_aload_n (nx := 60) (a := 0) G rfl (Or.inl rfl) dX11_law_59 rfl (b_getA (nx := 63) (k0 := 4) G hB fl_RX11_36 (Nat.le_of_ble_eq_true rfl) (Nat.le_of_ble_eq_true rfl) rfl hp_v0 dX11_law_60 rfl ?_))))
      refine b_callV0 (nx := 66) (zs := [am_rfv v0 0, am_rfv v0 4]) (as := [(2, am_rfv v0 4)]) X hB (by decide) rfl (sh_11_0 _ hp_v0) SS_X0_addLaw (am_ta (am_ta am_tn)) (Nat.le_of_ble_eq_true rfl) (Nat.le_of_ble_eq_true rfl) ml_RX11_212 iw_X0_addLaw vw_X0_addLaw cw_X0_addLaw nw_RX0 pp_X0_addLaw (Nat.le_of_ble_eq_true rfl) dX11_law_63 rfl (NM_X0_addLaw (sh_11_0 _ hp_v0) (sh_11_4 _ hp_v0) h) (fun r_8 m_9 h hB => ?_)
      refine b_callV0 (nx := 69) (zs := [v0, r_8]) (as := [(0, r_8)]) X hB (by decide) rfl hp_v0 SS_X11_fine (am_ta (am_ti am_tn)) (Nat.le_of_ble_eq_true rfl) (Nat.le_of_ble_eq_true rfl) ml_RX11_132 iw_X11_fine vw_X11_fine cw_X11_fine nw_RX11 pp_X11_fine (Nat.le_of_ble_eq_true rfl) dX11_law_66 rfl (NM_X11_fine hp_v0 h) (fun r_10 m_11 h hB => ?_)
      refine z_goto (tgt := 78) G dX11_law_69 (by decide) ?_
      exact b_ireturn X hB dX11_law_78 h
  · have h := h.2 c
    refine z_aload_n (nx := 19) (a := 0) G rfl (Or.inl rfl) dX11_law_18 rfl (b_getA (nx := 22) (k0 := 3) G hB fl_RX11_29 (Nat.le_of_ble_eq_true rfl) (Nat.le_of_ble_eq_true rfl) rfl hp_v0 dX11_law_19 rfl (z_iconst (nx := 23) (z := 0) G (R32c rfl) dX11_law_22 rfl ?_))
    refine b_callV9 (nx := 26) (zs := [am_rfv v0 3, 0]) (as := [(0, 0)]) X hB (by decide) rfl (sh_11_3 _ hp_v0) SS_X7_cut (am_ta (am_ti am_tn)) (Nat.le_of_ble_eq_true rfl) (Nat.le_of_ble_eq_true rfl) ml_RX11_184 iw_X7_cut vw_X7_cut cw_X7_cut nw_RX7 pp_X7_cut (Nat.le_of_ble_eq_true rfl) dX11_law_23 rfl (NM_X7_cut (sh_11_3 _ hp_v0) h) (fun r_12 m_13 h hB => ?_)
    refine z_aload_n (nx := 27) (a := 0) G rfl (Or.inl rfl) dX11_law_26 rfl (z_bipush (nx := 29) (z := (-5)) G (R32c rfl) rfl dX11_law_27 rfl ?_)
    refine b_callV0 (nx := 32) (zs := [v0, (-5)]) (as := [(0, (-5))]) X hB (by decide) rfl hp_v0 SS_X11_refuse (am_ta (am_ti am_tn)) (Nat.le_of_ble_eq_true rfl) (Nat.le_of_ble_eq_true rfl) ml_RX11_117 iw_X11_refuse vw_X11_refuse cw_X11_refuse nw_RX11 pp_X11_refuse (Nat.le_of_ble_eq_true rfl) dX11_law_29 rfl (NM_X11_refuse hp_v0 h) (fun r_14 m_15 h hB => ?_)
    exact b_ireturn X hB dX11_law_32 h
theorem NM_X11_law {v0 : Int} {K : am_KK} {m : am_M} (hp_v0 : am_ob v0 11) (h : M_X11_law v0 K m) : N_X11_law [v0] K m := ⟨hp_v0, h⟩
theorem SS_X11_law : am_Snd yX11_law cX11_law 2 (some .int) 0 611 (am_L [2] 0 N_X11_law) := by
  refine am_SB (by decide +kernel) (Nat.le_of_ble_eq_true rfl) (fun F zs as K m X ht hB hM => ?_)
  obtain ⟨v0, zs, as, rfl, rfl, hz0, ht⟩ := am_inv ht
  obtain ⟨rfl, rfl⟩ := am_inv0 ht
  obtain ⟨hp_v0, hM⟩ := hM
  exact S_X11_law X hp_v0 hB hM
set_option maxRecDepth 20000 in
set_option maxHeartbeats 4000000 in
theorem S_X11_lookAround_L1B {F : am_F} {K : am_KK} {v0 : Int} {v2 : Int} {C60 : Int → am_M → Prop} {m : am_M} (X : am_Cx F cX11_lookAround RX11 none 4 9 K) (hp_v0 : am_ob v0 11) (hC60 : ∀ w2 m, C60 w2 m → am_Bt m → am_Z F 60 [] [(2, v0), (9, 0), (0, w2)] m 200) (hB : am_Bt m) (h : M_X11_lookAround_L1B v0 v2 C60 K m) : am_Z F 60 [] [(2, v0), (9, 0), (0, v2)] m 200 := by
  have G := X.G
  unfold M_X11_lookAround_L1B at h
  refine z_iload_n (nx := 61) (a := 2) G rfl dX11_lookAround_60 rfl (z_bipush (nx := 63) (z := 8) G (R32c rfl) rfl dX11_lookAround_61 rfl ?_)
  refine z_icmp_ge (nx := 66) (tgt := 109) G dX11_lookAround_63 (by decide) rfl (fun c => ?_) (fun c => ?_)
  · have h := h.1 c
    exact b_return X hB dX11_lookAround_109 h
  · have h := h.2 c
    refine z_aload_n (nx := 67) (a := 0) G rfl (Or.inl rfl) dX11_lookAround_66 rfl (b_getA (nx := 70) (k0 := 15) G hB fl_RX11_102 (Nat.le_of_ble_eq_true rfl) (Nat.le_of_ble_eq_true rfl) rfl hp_v0 dX11_lookAround_67 rfl (z_bipush (nx := 72) (z := 8) G (R32c rfl) rfl dX11_lookAround_70 rfl (z_iload_n (nx := 73) (a := 2) G rfl dX11_lookAround_72 rfl (z_iadd (nx := 74) G dX11_lookAround_73 rfl (z_aload_n (nx := 75) (a := 0) G rfl (Or.inl rfl) dX11_lookAround_74 rfl (b_getA (nx := 78) (k0 := 12) G hB fl_RX11_84 (Nat.le_of_ble_eq_true rfl) (Nat.le_of_ble_eq_true rfl) rfl hp_v0 dX11_lookAround_75 rfl (z_iload_n (nx := 79) (a := 2) G rfl dX11_lookAround_78 rfl ?_)))))))
    refine b_callV0 (nx := 82) (zs := [am_rfv v0 12, v2]) (as := [(0, v2)]) X hB (by decide) rfl (sh_11_12 _ hp_v0) SS_X10_lengthFor (am_ta (am_ti am_tn)) (Nat.le_of_ble_eq_true rfl) (Nat.le_of_ble_eq_true rfl) ml_RX11_252 iw_X10_lengthFor vw_X10_lengthFor cw_X10_lengthFor nw_RX10 pp_X10_lengthFor (Nat.le_of_ble_eq_true rfl) dX11_lookAround_79 rfl (NM_X10_lengthFor (sh_11_12 _ hp_v0) h) (fun r_1 m_2 h hB => ?_)
    obtain ⟨hb, h⟩ := h
    refine b_iast (nx := 83) G hB (sh_11_15 _ hp_v0) hb.1 hb.2 dX11_lookAround_82 rfl (fun m_3 e_m_3 hB => ?_)
    have h := h m_3 e_m_3
    refine z_aload_n (nx := 84) (a := 0) G rfl (Or.inl rfl) dX11_lookAround_83 rfl (b_getA (nx := 87) (k0 := 15) G hB fl_RX11_102 (Nat.le_of_ble_eq_true rfl) (Nat.le_of_ble_eq_true rfl) rfl hp_v0 dX11_lookAround_84 rfl (z_bipush (nx := 89) (z := 16) G (R32c rfl) rfl dX11_lookAround_87 rfl (z_iload_n (nx := 90) (a := 2) G rfl dX11_lookAround_89 rfl (z_iadd (nx := 91) G dX11_lookAround_90 rfl (z_aload_n (nx := 92) (a := 0) G rfl (Or.inl rfl) dX11_lookAround_91 rfl (b_getA (nx := 95) (k0 := 0) G hB fl_RX11_10 (Nat.le_of_ble_eq_true rfl) (Nat.le_of_ble_eq_true rfl) rfl hp_v0 dX11_lookAround_92 rfl (b_getA (nx := 98) (k0 := 5) G hB fl_RX11_162 (Nat.le_of_ble_eq_true rfl) (Nat.le_of_ble_eq_true rfl) rfl (sh_11_0 _ hp_v0) dX11_lookAround_95 rfl (z_iload_n (nx := 99) (a := 2) G rfl dX11_lookAround_98 rfl ?_))))))))
    refine b_callV0 (nx := 102) (zs := [am_rfv (am_rfv v0 0) 5, v2]) (as := [(0, v2)]) X hB (by decide) rfl (sh_0_5 _ (sh_11_0 _ hp_v0)) SS_X9_grantedFor (am_ta (am_ti am_tn)) (Nat.le_of_ble_eq_true rfl) (Nat.le_of_ble_eq_true rfl) ml_RX11_373 iw_X9_grantedFor vw_X9_grantedFor cw_X9_grantedFor nw_RX9 pp_X9_grantedFor (Nat.le_of_ble_eq_true rfl) dX11_lookAround_99 rfl (NM_X9_grantedFor (sh_0_5 _ (sh_11_0 _ hp_v0)) h) (fun r_4 m_5 h hB => ?_)
    obtain ⟨hb, h⟩ := h
    refine b_iast (nx := 103) G hB (sh_11_15 _ hp_v0) hb.1 hb.2 dX11_lookAround_102 rfl (fun m_6 e_m_6 hB => ?_)
    have h := h m_6 e_m_6
    refine b_iinc (nx := 106) (a := 2) (loc2 := fun v2_7 => [(2, v0), (9, 0), (0, v2_7)]) G (fun _ => rfl) rfl (am_pl1 rfl (fun h => nomatch h)) dX11_lookAround_103 rfl (fun v2_7 e_v2_7 => ?_)
    have h := h v2_7 e_v2_7
    refine z_goto (tgt := 60) G dX11_lookAround_106 (by decide) ?_
    exact b_fewer (loc2 := [(2, v0), (9, 0), (0, v2_7)]) (am_lk (am_lk (am_lk am_ln))) (hC60 _ _ h hB)
theorem S_X11_lookAround_L1 {F : am_F} {K : am_KK} {v0 : Int} {v2 : Int} {m : am_M} (X : am_Cx F cX11_lookAround RX11 none 4 9 K) (hp_v0 : am_ob v0 11) (hB : am_Bt m) (h : M_X11_lookAround_L1 v0 v2 K m) : am_Z F 60 [] [(2, v0), (9, 0), (0, v2)] m 200 := by
  obtain ⟨I, ⟨j, hj⟩, hI⟩ := h
  have key : ∀ j v2 m, I j v2 m → am_Bt m → am_Z F 60 [] [(2, v0), (9, 0), (0, v2)] m 200 := by
    intro j
    induction j using Nat.strongRecOn with
    | ind j ih =>
      intro v2 m hj hB
      exact S_X11_lookAround_L1B X hp_v0 (fun v2' m' hc hB' => by
        obtain ⟨j', g1, g2⟩ := hc
        exact ih j' g1 v2' m' g2 hB') hB (hI j v2 m hj)
  exact key j _ _ hj hB
set_option maxRecDepth 20000 in
set_option maxHeartbeats 4000000 in
theorem S_X11_lookAround {F : am_F} {K : am_KK} {v0 : Int} {v1 : Int} {m : am_M} (X : am_Cx F cX11_lookAround RX11 none 4 9 K) (hp_v0 : am_ob v0 11) (hB : am_Bt m) (h : M_X11_lookAround v0 v1 K m) : am_Z F 0 [] [(2, v0), (0, v1), (9, 0)] m 200 := by
  have G := X.G
  unfold M_X11_lookAround at h
  refine z_aload_n (nx := 1) (a := 0) G rfl (Or.inl rfl) dX11_lookAround_0 rfl (b_getA (nx := 4) (k0 := 15) G hB fl_RX11_102 (Nat.le_of_ble_eq_true rfl) (Nat.le_of_ble_eq_true rfl) rfl hp_v0 dX11_lookAround_1 rfl (z_iconst (nx := 5) (z := 0) G (R32c rfl) dX11_lookAround_4 rfl (z_aload_n (nx := 6) (a := 0) G rfl (Or.inl rfl) dX11_lookAround_5 rfl (b_getA (nx := 9) (k0 := 0) G hB fl_RX11_10 (Nat.le_of_ble_eq_true rfl) (Nat.le_of_ble_eq_true rfl) rfl hp_v0 dX11_lookAround_6 rfl (b_getA (nx := 12) (k0 := 5) G hB fl_RX11_162 (Nat.le_of_ble_eq_true rfl) (Nat.le_of_ble_eq_true rfl) rfl (sh_11_0 _ hp_v0) dX11_lookAround_9 rfl (b_getI (nx := 15) (k0 := 1) (t := 0) G fl_RX11_165 (Nat.le_of_ble_eq_true rfl) (Nat.le_of_ble_eq_true rfl) rfl (sh_0_5 _ (sh_11_0 _ hp_v0)) dX11_lookAround_12 rfl ?_))))))
  obtain ⟨hb, h⟩ := h
  refine b_iast (nx := 16) G hB (sh_11_15 _ hp_v0) hb.1 hb.2 dX11_lookAround_15 rfl (fun m_8 e_m_8 hB => ?_)
  have h := h m_8 e_m_8
  refine z_aload_n (nx := 17) (a := 0) G rfl (Or.inl rfl) dX11_lookAround_16 rfl (b_getA (nx := 20) (k0 := 15) G hB fl_RX11_102 (Nat.le_of_ble_eq_true rfl) (Nat.le_of_ble_eq_true rfl) rfl hp_v0 dX11_lookAround_17 rfl (z_iconst (nx := 21) (z := 1) G (R32c rfl) dX11_lookAround_20 rfl (z_aload_n (nx := 22) (a := 0) G rfl (Or.inl rfl) dX11_lookAround_21 rfl (b_getA (nx := 25) (k0 := 0) G hB fl_RX11_10 (Nat.le_of_ble_eq_true rfl) (Nat.le_of_ble_eq_true rfl) rfl hp_v0 dX11_lookAround_22 rfl (b_getA (nx := 28) (k0 := 5) G hB fl_RX11_162 (Nat.le_of_ble_eq_true rfl) (Nat.le_of_ble_eq_true rfl) rfl (sh_11_0 _ hp_v0) dX11_lookAround_25 rfl (b_getA (nx := 31) (k0 := 0) G hB fl_RX11_267 (Nat.le_of_ble_eq_true rfl) (Nat.le_of_ble_eq_true rfl) rfl (sh_0_5 _ (sh_11_0 _ hp_v0)) dX11_lookAround_28 rfl (b_getI (nx := 34) (k0 := 2) (t := 0) G fl_RX11_188 (Nat.le_of_ble_eq_true rfl) (Nat.le_of_ble_eq_true rfl) rfl (sh_9_0 _ (sh_0_5 _ (sh_11_0 _ hp_v0))) dX11_lookAround_31 rfl ?_)))))))
  obtain ⟨hb, h⟩ := h
  refine b_iast (nx := 35) G hB (sh_11_15 _ hp_v0) hb.1 hb.2 dX11_lookAround_34 rfl (fun m_9 e_m_9 hB => ?_)
  have h := h m_9 e_m_9
  refine z_aload_n (nx := 36) (a := 0) G rfl (Or.inl rfl) dX11_lookAround_35 rfl (b_getA (nx := 39) (k0 := 15) G hB fl_RX11_102 (Nat.le_of_ble_eq_true rfl) (Nat.le_of_ble_eq_true rfl) rfl hp_v0 dX11_lookAround_36 rfl (z_iconst (nx := 40) (z := 2) G (R32c rfl) dX11_lookAround_39 rfl (z_aload_n (nx := 41) (a := 0) G rfl (Or.inl rfl) dX11_lookAround_40 rfl (b_getA (nx := 44) (k0 := 0) G hB fl_RX11_10 (Nat.le_of_ble_eq_true rfl) (Nat.le_of_ble_eq_true rfl) rfl hp_v0 dX11_lookAround_41 rfl (b_getA (nx := 47) (k0 := 5) G hB fl_RX11_162 (Nat.le_of_ble_eq_true rfl) (Nat.le_of_ble_eq_true rfl) rfl (sh_11_0 _ hp_v0) dX11_lookAround_44 rfl ?_)))))
  refine b_callV0 (nx := 50) (zs := [am_rfv (am_rfv v0 0) 5]) (as := []) X hB (by decide) rfl (sh_0_5 _ (sh_11_0 _ hp_v0)) SS_X9_waiting (am_ta am_tn) (Nat.le_of_ble_eq_true rfl) (Nat.le_of_ble_eq_true rfl) ml_RX11_361 iw_X9_waiting vw_X9_waiting cw_X9_waiting nw_RX9 pp_X9_waiting (Nat.le_of_ble_eq_true rfl) dX11_lookAround_47 rfl (NM_X9_waiting (sh_0_5 _ (sh_11_0 _ hp_v0)) h) (fun r_10 m_11 h hB => ?_)
  obtain ⟨hb, h⟩ := h
  refine b_iast (nx := 51) G hB (sh_11_15 _ hp_v0) hb.1 hb.2 dX11_lookAround_50 rfl (fun m_12 e_m_12 hB => ?_)
  have h := h m_12 e_m_12
  refine z_aload_n (nx := 52) (a := 0) G rfl (Or.inl rfl) dX11_lookAround_51 rfl (b_getA (nx := 55) (k0 := 15) G hB fl_RX11_102 (Nat.le_of_ble_eq_true rfl) (Nat.le_of_ble_eq_true rfl) rfl hp_v0 dX11_lookAround_52 rfl (z_iconst (nx := 56) (z := 3) G (R32c rfl) dX11_lookAround_55 rfl (z_iload_n (nx := 57) (a := 1) G rfl dX11_lookAround_56 rfl ?_)))
  obtain ⟨hb, h⟩ := h
  refine b_iast (nx := 58) G hB (sh_11_15 _ hp_v0) hb.1 hb.2 dX11_lookAround_57 rfl (fun m_13 e_m_13 hB => ?_)
  have h := h m_13 e_m_13
  refine z_iconst (nx := 59) (z := 0) G (R32c rfl) dX11_lookAround_58 rfl (b_storeE_n (nx := 60) (a := 2) (loc2 := [(2, v0), (0, v1), (0, 0)]) G rfl (Nat.le_of_ble_eq_true rfl) (am_pl1 rfl (fun h => nomatch h)) dX11_lookAround_59 rfl ?_)
  exact b_fewer (loc2 := [(2, v0), (9, 0), (0, 0)]) (am_lk (am_lf (am_lk am_ln))) (S_X11_lookAround_L1 X hp_v0 hB h)
theorem NM_X11_lookAround {v0 : Int} {v1 : Int} {K : am_KK} {m : am_M} (hp_v0 : am_ob v0 11) (h : M_X11_lookAround v0 v1 K m) : N_X11_lookAround [v0, v1] K m := ⟨hp_v0, h⟩
theorem SS_X11_lookAround : am_Snd yX11_lookAround cX11_lookAround 3 none 0 4 (am_L [2, 0] 9 N_X11_lookAround) := by
  refine am_SB (by decide +kernel) (Nat.le_of_ble_eq_true rfl) (fun F zs as K m X ht hB hM => ?_)
  obtain ⟨v0, zs, as, rfl, rfl, hz0, ht⟩ := am_inv ht
  obtain ⟨v1, zs, as, rfl, rfl, hz1, ht⟩ := am_inv ht
  obtain ⟨rfl, rfl⟩ := am_inv0 ht
  obtain ⟨hp_v0, hM⟩ := hM
  exact S_X11_lookAround X hp_v0 hB hM
set_option maxRecDepth 20000 in
set_option maxHeartbeats 4000000 in
theorem S_X11_noteDeed_J1 {F : am_F} {K : am_KK} {v0 : Int} {v1 : Int} {m : am_M} (X : am_Cx F cX11_noteDeed RX11 none 2 9 K) (hp_v0 : am_ob v0 11) (hB : am_Bt m) (h : M_X11_noteDeed_J1 v0 v1 K m) : am_Z F 19 [] [(2, v0), (0, v1)] m 200 := by
  have G := X.G
  unfold M_X11_noteDeed_J1 at h
  refine z_aload_n (nx := 20) (a := 0) G rfl (Or.inl rfl) dX11_noteDeed_19 rfl (b_getA (nx := 23) (k0 := 10) G hB fl_RX11_75 (Nat.le_of_ble_eq_true rfl) (Nat.le_of_ble_eq_true rfl) rfl hp_v0 dX11_noteDeed_20 rfl (z_aload_n (nx := 24) (a := 0) G rfl (Or.inl rfl) dX11_noteDeed_23 rfl (b_getA (nx := 27) (k0 := 10) G hB fl_RX11_75 (Nat.le_of_ble_eq_true rfl) (Nat.le_of_ble_eq_true rfl) rfl hp_v0 dX11_noteDeed_24 rfl ?_)))
  refine b_callV0 (nx := 30) (zs := [am_rfv v0 10]) (as := []) X hB (by decide) rfl (sh_11_10 _ hp_v0) SS_X7_open (am_ta am_tn) (Nat.le_of_ble_eq_true rfl) (Nat.le_of_ble_eq_true rfl) ml_RX11_124 iw_X7_open vw_X7_open cw_X7_open nw_RX7 pp_X7_open (Nat.le_of_ble_eq_true rfl) dX11_noteDeed_27 rfl (NM_X7_open (sh_11_10 _ hp_v0) h) (fun r_1 m_2 h hB => ?_)
  refine z_iconst (nx := 31) (z := 0) G (R32c rfl) dX11_noteDeed_30 rfl (z_iload_n (nx := 32) (a := 1) G rfl dX11_noteDeed_31 rfl ?_)
  refine b_callV9 (nx := 35) (zs := [am_rfv v0 10, r_1, 0, v1]) (as := [(0, r_1), (0, 0), (0, v1)]) X hB (by decide) rfl (sh_11_10 _ hp_v0) SS_X7_set (am_ta (am_ti (am_ti (am_ti am_tn)))) (Nat.le_of_ble_eq_true rfl) (Nat.le_of_ble_eq_true rfl) ml_RX11_128 iw_X7_set vw_X7_set cw_X7_set nw_RX7 pp_X7_set (Nat.le_of_ble_eq_true rfl) dX11_noteDeed_32 rfl (NM_X7_set (sh_11_10 _ hp_v0) h) (fun r_3 m_4 h hB => ?_)
  exact b_return X hB dX11_noteDeed_35 h
set_option maxRecDepth 20000 in
set_option maxHeartbeats 4000000 in
theorem S_X11_noteDeed {F : am_F} {K : am_KK} {v0 : Int} {v1 : Int} {m : am_M} (X : am_Cx F cX11_noteDeed RX11 none 2 9 K) (hp_v0 : am_ob v0 11) (hB : am_Bt m) (h : M_X11_noteDeed v0 v1 K m) : am_Z F 0 [] [(2, v0), (0, v1)] m 200 := by
  have G := X.G
  unfold M_X11_noteDeed at h
  refine z_aload_n (nx := 1) (a := 0) G rfl (Or.inl rfl) dX11_noteDeed_0 rfl (b_getA (nx := 4) (k0 := 10) G hB fl_RX11_75 (Nat.le_of_ble_eq_true rfl) (Nat.le_of_ble_eq_true rfl) rfl hp_v0 dX11_noteDeed_1 rfl (b_getI (nx := 7) (k0 := 2) (t := 0) G fl_RX11_188 (Nat.le_of_ble_eq_true rfl) (Nat.le_of_ble_eq_true rfl) rfl (sh_11_10 _ hp_v0) dX11_noteDeed_4 rfl (z_bipush (nx := 9) (z := 16) G (R32c rfl) rfl dX11_noteDeed_7 rfl ?_)))
  refine z_icmp_lt (nx := 12) (tgt := 19) G dX11_noteDeed_9 (by decide) rfl (fun c => ?_) (fun c => ?_)
  · have h := h.1 c
    exact b_fewer (loc2 := [(2, v0), (0, v1)]) (am_lk (am_lk am_ln)) (S_X11_noteDeed_J1 X hp_v0 hB h)
  · have h := h.2 c
    refine z_aload_n (nx := 13) (a := 0) G rfl (Or.inl rfl) dX11_noteDeed_12 rfl (b_getA (nx := 16) (k0 := 10) G hB fl_RX11_75 (Nat.le_of_ble_eq_true rfl) (Nat.le_of_ble_eq_true rfl) rfl hp_v0 dX11_noteDeed_13 rfl ?_)
    refine b_callV9 (nx := 19) (zs := [am_rfv v0 10]) (as := []) X hB (by decide) rfl (sh_11_10 _ hp_v0) SS_X7_dropFirst (am_ta am_tn) (Nat.le_of_ble_eq_true rfl) (Nat.le_of_ble_eq_true rfl) ml_RX11_370 iw_X7_dropFirst vw_X7_dropFirst cw_X7_dropFirst nw_RX7 pp_X7_dropFirst (Nat.le_of_ble_eq_true rfl) dX11_noteDeed_16 rfl (NM_X7_dropFirst (sh_11_10 _ hp_v0) h) (fun r_5 m_6 h hB => ?_)
    exact b_fewer (loc2 := [(2, v0), (0, v1)]) (am_lk (am_lk am_ln)) (S_X11_noteDeed_J1 X hp_v0 hB h)
theorem NM_X11_noteDeed {v0 : Int} {v1 : Int} {K : am_KK} {m : am_M} (hp_v0 : am_ob v0 11) (h : M_X11_noteDeed v0 v1 K m) : N_X11_noteDeed [v0, v1] K m := ⟨hp_v0, h⟩
theorem SS_X11_noteDeed : am_Snd yX11_noteDeed cX11_noteDeed 2 none 0 2 (am_L [2, 0] 9 N_X11_noteDeed) := by
  refine am_SB (by decide +kernel) (Nat.le_of_ble_eq_true rfl) (fun F zs as K m X ht hB hM => ?_)
  obtain ⟨v0, zs, as, rfl, rfl, hz0, ht⟩ := am_inv ht
  obtain ⟨v1, zs, as, rfl, rfl, hz1, ht⟩ := am_inv ht
  obtain ⟨rfl, rfl⟩ := am_inv0 ht
  obtain ⟨hp_v0, hM⟩ := hM
  exact S_X11_noteDeed X hp_v0 hB hM
set_option maxRecDepth 20000 in
set_option maxHeartbeats 4000000 in
theorem S_X11_tryDawn {F : am_F} {K : am_KK} {v0 : Int} {m : am_M} (X : am_Cx F cX11_tryDawn RX11 (some .int) 6 0 K) (hp_v0 : am_ob v0 11) (hB : am_Bt m) (h : M_X11_tryDawn v0 K m) : am_Z F 0 [] [(2, v0), (9, 0)] m 200 := by
  have G := X.G
  unfold M_X11_tryDawn at h
  refine z_aload_n (nx := 1) (a := 0) G rfl (Or.inl rfl) dX11_tryDawn_0 rfl (b_getA (nx := 4) (k0 := 0) G hB fl_RX11_10 (Nat.le_of_ble_eq_true rfl) (Nat.le_of_ble_eq_true rfl) rfl hp_v0 dX11_tryDawn_1 rfl (b_getA (nx := 7) (k0 := 5) G hB fl_RX11_162 (Nat.le_of_ble_eq_true rfl) (Nat.le_of_ble_eq_true rfl) rfl (sh_11_0 _ hp_v0) dX11_tryDawn_4 rfl (b_getI (nx := 10) (k0 := 1) (t := 0) G fl_RX11_165 (Nat.le_of_ble_eq_true rfl) (Nat.le_of_ble_eq_true rfl) rfl (sh_0_5 _ (sh_11_0 _ hp_v0)) dX11_tryDawn_7 rfl (z_sipush (nx := 13) (z := 999) G (R32c rfl) rfl dX11_tryDawn_10 rfl ?_))))
  refine z_icmp_lt (nx := 16) (tgt := 19) G dX11_tryDawn_13 (by decide) rfl (fun c => ?_) (fun c => ?_)
  · have h := h.1 c
    refine z_aload_n (nx := 20) (a := 0) G rfl (Or.inl rfl) dX11_tryDawn_19 rfl (b_getA (nx := 23) (k0 := 7) G hB fl_RX11_61 (Nat.le_of_ble_eq_true rfl) (Nat.le_of_ble_eq_true rfl) rfl hp_v0 dX11_tryDawn_20 rfl (z_aload_n (nx := 24) (a := 0) G rfl (Or.inl rfl) dX11_tryDawn_23 rfl (b_getA (nx := 27) (k0 := 0) G hB fl_RX11_10 (Nat.le_of_ble_eq_true rfl) (Nat.le_of_ble_eq_true rfl) rfl hp_v0 dX11_tryDawn_24 rfl (z_aload_n (nx := 28) (a := 0) G rfl (Or.inl rfl) dX11_tryDawn_27 rfl (b_getA (nx := 31) (k0 := 0) G hB fl_RX11_10 (Nat.le_of_ble_eq_true rfl) (Nat.le_of_ble_eq_true rfl) rfl hp_v0 dX11_tryDawn_28 rfl (b_getA (nx := 34) (k0 := 5) G hB fl_RX11_162 (Nat.le_of_ble_eq_true rfl) (Nat.le_of_ble_eq_true rfl) rfl (sh_11_0 _ hp_v0) dX11_tryDawn_31 rfl (z_iconst (nx := 35) (z := 1) G (R32c rfl) dX11_tryDawn_34 rfl ?_)))))))
    refine b_callV9 (nx := 38) (zs := [am_rfv v0 7, am_rfv v0 0, am_rfv (am_rfv v0 0) 5, 1]) (as := [(2, am_rfv v0 0), (2, am_rfv (am_rfv v0 0) 5), (0, 1)]) X hB (by decide) rfl (sh_11_7 _ hp_v0) SS_X2_foreseeAll (am_ta (am_ta (am_ta (am_ti am_tn)))) (Nat.le_of_ble_eq_true rfl) (Nat.le_of_ble_eq_true rfl) ml_RX11_286 iw_X2_foreseeAll vw_X2_foreseeAll cw_X2_foreseeAll nw_RX2 pp_X2_foreseeAll (Nat.le_of_ble_eq_true rfl) dX11_tryDawn_35 rfl (NM_X2_foreseeAll (sh_11_7 _ hp_v0) (sh_11_0 _ hp_v0) (sh_0_5 _ (sh_11_0 _ hp_v0)) h) (fun r_1 m_2 h hB => ?_)
    refine z_aload_n (nx := 39) (a := 0) G rfl (Or.inl rfl) dX11_tryDawn_38 rfl (b_getA (nx := 42) (k0 := 7) G hB fl_RX11_61 (Nat.le_of_ble_eq_true rfl) (Nat.le_of_ble_eq_true rfl) rfl hp_v0 dX11_tryDawn_39 rfl (z_aload_n (nx := 43) (a := 0) G rfl (Or.inl rfl) dX11_tryDawn_42 rfl (b_getA (nx := 46) (k0 := 0) G hB fl_RX11_10 (Nat.le_of_ble_eq_true rfl) (Nat.le_of_ble_eq_true rfl) rfl hp_v0 dX11_tryDawn_43 rfl (z_aload_n (nx := 47) (a := 0) G rfl (Or.inl rfl) dX11_tryDawn_46 rfl (b_getA (nx := 50) (k0 := 0) G hB fl_RX11_10 (Nat.le_of_ble_eq_true rfl) (Nat.le_of_ble_eq_true rfl) rfl hp_v0 dX11_tryDawn_47 rfl (b_getA (nx := 53) (k0 := 5) G hB fl_RX11_162 (Nat.le_of_ble_eq_true rfl) (Nat.le_of_ble_eq_true rfl) rfl (sh_11_0 _ hp_v0) dX11_tryDawn_50 rfl (z_iconst (nx := 54) (z := 1) G (R32c rfl) dX11_tryDawn_53 rfl ?_)))))))
    refine b_callV0 (nx := 57) (zs := [am_rfv v0 7, am_rfv v0 0, am_rfv (am_rfv v0 0) 5, 1]) (as := [(2, am_rfv v0 0), (2, am_rfv (am_rfv v0 0) 5), (0, 1)]) X hB (by decide) rfl (sh_11_7 _ hp_v0) SS_X2_hear (am_ta (am_ta (am_ta (am_ti am_tn)))) (Nat.le_of_ble_eq_true rfl) (Nat.le_of_ble_eq_true rfl) ml_RX11_316 iw_X2_hear vw_X2_hear cw_X2_hear nw_RX2 pp_X2_hear (Nat.le_of_ble_eq_true rfl) dX11_tryDawn_54 rfl (NM_X2_hear (sh_11_7 _ hp_v0) (sh_11_0 _ hp_v0) (sh_0_5 _ (sh_11_0 _ hp_v0)) h) (fun r_3 m_4 h hB => ?_)
    refine b_storeE_n (nx := 58) (a := 1) (loc2 := [(2, v0), (0, r_3)]) G rfl (Nat.le_of_ble_eq_true rfl) (am_pl1 rfl (fun h => nomatch h)) dX11_tryDawn_57 rfl (z_aload_n (nx := 59) (a := 0) G rfl (Or.inl rfl) dX11_tryDawn_58 rfl (z_aload_n (nx := 60) (a := 0) G rfl (Or.inl rfl) dX11_tryDawn_59 rfl (b_getA (nx := 63) (k0 := 7) G hB fl_RX11_61 (Nat.le_of_ble_eq_true rfl) (Nat.le_of_ble_eq_true rfl) rfl hp_v0 dX11_tryDawn_60 rfl (b_getI (nx := 66) (k0 := 2) (t := 0) G fl_RX11_367 (Nat.le_of_ble_eq_true rfl) (Nat.le_of_ble_eq_true rfl) rfl (sh_11_7 _ hp_v0) dX11_tryDawn_63 rfl (z_iconst (nx := 67) (z := 2) G (R32c rfl) dX11_tryDawn_66 rfl (z_imul (nx := 68) G dX11_tryDawn_67 rfl (z_iconst (nx := 69) (z := 1) G (R32c rfl) dX11_tryDawn_68 rfl (z_iadd (nx := 70) G dX11_tryDawn_69 rfl ?_))))))))
    refine b_callV9 (nx := 73) (zs := [v0, w32 ((w32 ((m_4 (am_rfv v0 7) 2) * 2)) + 1)]) (as := [(0, w32 ((w32 ((m_4 (am_rfv v0 7) 2) * 2)) + 1))]) X hB (by decide) rfl hp_v0 SS_X11_noteDeed (am_ta (am_ti am_tn)) (Nat.le_of_ble_eq_true rfl) (Nat.le_of_ble_eq_true rfl) ml_RX11_264 iw_X11_noteDeed vw_X11_noteDeed cw_X11_noteDeed nw_RX11 pp_X11_noteDeed (Nat.le_of_ble_eq_true rfl) dX11_tryDawn_70 rfl (NM_X11_noteDeed hp_v0 h) (fun r_5 m_6 h hB => ?_)
    refine z_iload_n (nx := 74) (a := 1) G rfl dX11_tryDawn_73 rfl ?_
    exact b_ireturn X hB dX11_tryDawn_74 h
  · have h := h.2 c
    refine z_bipush (nx := 18) (z := (-3)) G (R32c rfl) rfl dX11_tryDawn_16 rfl ?_
    exact b_ireturn X hB dX11_tryDawn_18 h
theorem NM_X11_tryDawn {v0 : Int} {K : am_KK} {m : am_M} (hp_v0 : am_ob v0 11) (h : M_X11_tryDawn v0 K m) : N_X11_tryDawn [v0] K m := ⟨hp_v0, h⟩
theorem SS_X11_tryDawn : am_Snd yX11_tryDawn cX11_tryDawn 2 (some .int) 0 6 (am_L [2] 0 N_X11_tryDawn) := by
  refine am_SB (by decide +kernel) (Nat.le_of_ble_eq_true rfl) (fun F zs as K m X ht hB hM => ?_)
  obtain ⟨v0, zs, as, rfl, rfl, hz0, ht⟩ := am_inv ht
  obtain ⟨rfl, rfl⟩ := am_inv0 ht
  obtain ⟨hp_v0, hM⟩ := hM
  exact S_X11_tryDawn X hp_v0 hB hM
set_option maxRecDepth 20000 in
set_option maxHeartbeats 4000000 in
theorem S_X11_runOnce_J1 {F : am_F} {K : am_KK} {v5 : Int} {m : am_M} (X : am_Cx F cX11_runOnce RX11 (some .int) 7 0 K) (hB : am_Bt m) (h : M_X11_runOnce_J1 v5 K m) : am_Z F 142 [] [(9, 0), (9, 0), (9, 0), (9, 0), (9, 0), (0, v5)] m 200 := by
  have G := X.G
  unfold M_X11_runOnce_J1 at h
  refine z_iload (nx := 144) (a := 5) G rfl dX11_runOnce_142 rfl ?_
  refine z_if_eq (nx := 147) (tgt := 154) G dX11_runOnce_144 (by decide) rfl (fun c => ?_) (fun c => ?_)
  · have h := h.1 c
    refine z_iload (nx := 156) (a := 5) G rfl dX11_runOnce_154 rfl (z_goto (tgt := 161) G dX11_runOnce_156 (by decide) ?_)
    exact b_ireturn X hB dX11_runOnce_161 h
  · have h := h.2 c
    refine z_iload (nx := 149) (a := 5) G rfl dX11_runOnce_147 rfl (z_bipush (nx := 151) (z := (-5)) G (R32c rfl) rfl dX11_runOnce_149 rfl ?_)
    refine z_icmp_ne (nx := 154) (tgt := 159) G dX11_runOnce_151 (by decide) rfl (fun c => ?_) (fun c => ?_)
    · have h := h.1 c
      refine z_bipush (nx := 161) (z := (-3)) G (R32c rfl) rfl dX11_runOnce_159 rfl ?_
      exact b_ireturn X hB dX11_runOnce_161 h
    · have h := h.2 c
      refine z_iload (nx := 156) (a := 5) G rfl dX11_runOnce_154 rfl (z_goto (tgt := 161) G dX11_runOnce_156 (by decide) ?_)
      exact b_ireturn X hB dX11_runOnce_161 h
set_option maxRecDepth 20000 in
set_option maxHeartbeats 4000000 in
theorem S_X11_runOnce {F : am_F} {K : am_KK} {v0 : Int} {v1 : Int} {m : am_M} (X : am_Cx F cX11_runOnce RX11 (some .int) 7 0 K) (hp_v0 : am_ob v0 11) (hB : am_Bt m) (h : M_X11_runOnce v0 v1 K m) : am_Z F 0 [] [(2, v0), (0, v1), (9, 0), (9, 0), (9, 0), (9, 0)] m 200 := by
  have G := X.G
  unfold M_X11_runOnce at h
  refine z_aload_n (nx := 1) (a := 0) G rfl (Or.inl rfl) dX11_runOnce_0 rfl (b_getA (nx := 4) (k0 := 4) G hB fl_RX11_36 (Nat.le_of_ble_eq_true rfl) (Nat.le_of_ble_eq_true rfl) rfl hp_v0 dX11_runOnce_1 rfl (b_getA (nx := 7) (k0 := 2) G hB fl_RX11_227 (Nat.le_of_ble_eq_true rfl) (Nat.le_of_ble_eq_true rfl) rfl (sh_11_4 _ hp_v0) dX11_runOnce_4 rfl (z_iload_n (nx := 8) (a := 1) G rfl dX11_runOnce_7 rfl (z_iconst (nx := 9) (z := 0) G (R32c rfl) dX11_runOnce_8 rfl ?_))))
  refine b_callV0 (nx := 12) (zs := [am_rfv (am_rfv v0 4) 2, v1, 0]) (as := [(0, v1), (0, 0)]) X hB (by decide) rfl (sh_4_2 _ (sh_11_4 _ hp_v0)) SS_X7_get (am_ta (am_ti (am_ti am_tn))) (Nat.le_of_ble_eq_true rfl) (Nat.le_of_ble_eq_true rfl) ml_RX11_135 iw_X7_get vw_X7_get cw_X7_get nw_RX7 pp_X7_get (Nat.le_of_ble_eq_true rfl) dX11_runOnce_9 rfl (NM_X7_get (sh_4_2 _ (sh_11_4 _ hp_v0)) h) (fun r_1 m_2 h hB => ?_)
  refine z_iconst (nx := 13) (z := 4) G (R32c rfl) dX11_runOnce_12 rfl ?_
  refine z_icmp_ne (nx := 16) (tgt := 25) G dX11_runOnce_13 (by decide) rfl (fun c => ?_) (fun c => ?_)
  · have h := h.1 c
    refine z_aload_n (nx := 26) (a := 0) G rfl (Or.inl rfl) dX11_runOnce_25 rfl (b_getA (nx := 29) (k0 := 6) G hB fl_RX11_52 (Nat.le_of_ble_eq_true rfl) (Nat.le_of_ble_eq_true rfl) rfl hp_v0 dX11_runOnce_26 rfl (b_getA (nx := 32) (k0 := 1) G hB fl_RX11_233 (Nat.le_of_ble_eq_true rfl) (Nat.le_of_ble_eq_true rfl) rfl (sh_11_6 _ hp_v0) dX11_runOnce_29 rfl (z_aload_n (nx := 33) (a := 0) G rfl (Or.inl rfl) dX11_runOnce_32 rfl (b_getA (nx := 36) (k0 := 4) G hB fl_RX11_36 (Nat.le_of_ble_eq_true rfl) (Nat.le_of_ble_eq_true rfl) rfl hp_v0 dX11_runOnce_33 rfl (z_iload_n (nx := 37) (a := 1) G rfl dX11_runOnce_36 rfl (z_iconst (nx := 38) (z := 0) G (R32c rfl) dX11_runOnce_37 rfl (z_aload_n (nx := 39) (a := 0) G rfl (Or.inl rfl) dX11_runOnce_38 rfl (b_getA (nx := 42) (k0 := 15) G hB fl_RX11_102 (Nat.le_of_ble_eq_true rfl) (Nat.le_of_ble_eq_true rfl) rfl hp_v0 dX11_runOnce_39 rfl ?_))))))))
    refine b_callV0 (nx := 45) (zs := [am_rfv (am_rfv v0 6) 1, am_rfv v0 4, v1, 0, am_rfv v0 15]) (as := [(2, am_rfv v0 4), (0, v1), (0, 0), (2, am_rfv v0 15)]) X hB (by decide) rfl (sh_3_1 _ (sh_11_6 _ hp_v0)) SS_X6_value (am_ta (am_ta (am_ti (am_ti (am_ta am_tn))))) (Nat.le_of_ble_eq_true rfl) (Nat.le_of_ble_eq_true rfl) ml_RX11_237 iw_X6_value vw_X6_value cw_X6_value nw_RX6 pp_X6_value (Nat.le_of_ble_eq_true rfl) dX11_runOnce_42 rfl (NM_X6_value (sh_3_1 _ (sh_11_6 _ hp_v0)) (sh_11_4 _ hp_v0) (sh_11_15 _ hp_v0) h) (fun r_3 m_4 h hB => ?_)
    refine b_storeE_n (nx := 46) (a := 2) (loc2 := [(2, v0), (0, v1), (0, r_3), (9, 0), (9, 0), (9, 0)]) G rfl (Nat.le_of_ble_eq_true rfl) (am_pl1 rfl (fun h => nomatch h)) dX11_runOnce_45 rfl (z_aload_n (nx := 47) (a := 0) G rfl (Or.inl rfl) dX11_runOnce_46 rfl (b_getA (nx := 50) (k0 := 6) G hB fl_RX11_52 (Nat.le_of_ble_eq_true rfl) (Nat.le_of_ble_eq_true rfl) rfl hp_v0 dX11_runOnce_47 rfl (b_getA (nx := 53) (k0 := 1) G hB fl_RX11_233 (Nat.le_of_ble_eq_true rfl) (Nat.le_of_ble_eq_true rfl) rfl (sh_11_6 _ hp_v0) dX11_runOnce_50 rfl (z_aload_n (nx := 54) (a := 0) G rfl (Or.inl rfl) dX11_runOnce_53 rfl (b_getA (nx := 57) (k0 := 4) G hB fl_RX11_36 (Nat.le_of_ble_eq_true rfl) (Nat.le_of_ble_eq_true rfl) rfl hp_v0 dX11_runOnce_54 rfl (z_iload_n (nx := 58) (a := 1) G rfl dX11_runOnce_57 rfl (z_iconst (nx := 59) (z := 1) G (R32c rfl) dX11_runOnce_58 rfl (z_aload_n (nx := 60) (a := 0) G rfl (Or.inl rfl) dX11_runOnce_59 rfl (b_getA (nx := 63) (k0 := 15) G hB fl_RX11_102 (Nat.le_of_ble_eq_true rfl) (Nat.le_of_ble_eq_true rfl) rfl hp_v0 dX11_runOnce_60 rfl ?_)))))))))
    refine b_callV0 (nx := 66) (zs := [am_rfv (am_rfv v0 6) 1, am_rfv v0 4, v1, 1, am_rfv v0 15]) (as := [(2, am_rfv v0 4), (0, v1), (0, 1), (2, am_rfv v0 15)]) X hB (by decide) rfl (sh_3_1 _ (sh_11_6 _ hp_v0)) SS_X6_value (am_ta (am_ta (am_ti (am_ti (am_ta am_tn))))) (Nat.le_of_ble_eq_true rfl) (Nat.le_of_ble_eq_true rfl) ml_RX11_237 iw_X6_value vw_X6_value cw_X6_value nw_RX6 pp_X6_value (Nat.le_of_ble_eq_true rfl) dX11_runOnce_63 rfl (NM_X6_value (sh_3_1 _ (sh_11_6 _ hp_v0)) (sh_11_4 _ hp_v0) (sh_11_15 _ hp_v0) h) (fun r_5 m_6 h hB => ?_)
    refine b_storeE_n (nx := 67) (a := 3) (loc2 := [(2, v0), (0, v1), (0, r_3), (0, r_5), (9, 0), (9, 0)]) G rfl (Nat.le_of_ble_eq_true rfl) (am_pl1 rfl (fun h => nomatch h)) dX11_runOnce_66 rfl (z_aload_n (nx := 68) (a := 0) G rfl (Or.inl rfl) dX11_runOnce_67 rfl (b_getA (nx := 71) (k0 := 6) G hB fl_RX11_52 (Nat.le_of_ble_eq_true rfl) (Nat.le_of_ble_eq_true rfl) rfl hp_v0 dX11_runOnce_68 rfl (b_getA (nx := 74) (k0 := 1) G hB fl_RX11_233 (Nat.le_of_ble_eq_true rfl) (Nat.le_of_ble_eq_true rfl) rfl (sh_11_6 _ hp_v0) dX11_runOnce_71 rfl (z_aload_n (nx := 75) (a := 0) G rfl (Or.inl rfl) dX11_runOnce_74 rfl (b_getA (nx := 78) (k0 := 4) G hB fl_RX11_36 (Nat.le_of_ble_eq_true rfl) (Nat.le_of_ble_eq_true rfl) rfl hp_v0 dX11_runOnce_75 rfl (z_iload_n (nx := 79) (a := 1) G rfl dX11_runOnce_78 rfl (z_iconst (nx := 80) (z := 2) G (R32c rfl) dX11_runOnce_79 rfl (z_aload_n (nx := 81) (a := 0) G rfl (Or.inl rfl) dX11_runOnce_80 rfl (b_getA (nx := 84) (k0 := 15) G hB fl_RX11_102 (Nat.le_of_ble_eq_true rfl) (Nat.le_of_ble_eq_true rfl) rfl hp_v0 dX11_runOnce_81 rfl ?_)))))))))
    refine b_callV0 (nx := 87) (zs := [am_rfv (am_rfv v0 6) 1, am_rfv v0 4, v1, 2, am_rfv v0 15]) (as := [(2, am_rfv v0 4), (0, v1), (0, 2), (2, am_rfv v0 15)]) X hB (by decide) rfl (sh_3_1 _ (sh_11_6 _ hp_v0)) SS_X6_value (am_ta (am_ta (am_ti (am_ti (am_ta am_tn))))) (Nat.le_of_ble_eq_true rfl) (Nat.le_of_ble_eq_true rfl) ml_RX11_237 iw_X6_value vw_X6_value cw_X6_value nw_RX6 pp_X6_value (Nat.le_of_ble_eq_true rfl) dX11_runOnce_84 rfl (NM_X6_value (sh_3_1 _ (sh_11_6 _ hp_v0)) (sh_11_4 _ hp_v0) (sh_11_15 _ hp_v0) h) (fun r_7 m_8 h hB => ?_)
    refine b_storeE (nx := 89) (a := 4) (loc2 := [(2, v0), (0, v1), (0, r_3), (0, r_5), (0, r_7), (9, 0)]) G rfl (Nat.le_of_ble_eq_true rfl) (am_pl1 rfl (fun h => nomatch h)) dX11_runOnce_87 rfl (z_iload_n (nx := 90) (a := 2) G rfl dX11_runOnce_89 rfl (z_ldcw (nx := 93) (z := (-2000000000)) G (R32c rfl) rfl kw_RX11_376 dX11_runOnce_90 rfl ?_))
    refine z_icmp_eq (nx := 96) (tgt := 111) G dX11_runOnce_93 (by decide) rfl (fun c => ?_) (fun c => ?_)
    · have h := h.1 c
      refine z_bipush (nx := 113) (z := (-3)) G (R32c rfl) rfl dX11_runOnce_111 rfl ?_
      exact b_ireturn X hB dX11_runOnce_113 h
    · have h := h.2 c
      refine z_iload_n (nx := 97) (a := 3) G rfl dX11_runOnce_96 rfl (z_ldcw (nx := 100) (z := (-2000000000)) G (R32c rfl) rfl kw_RX11_376 dX11_runOnce_97 rfl ?_)
      refine z_icmp_eq (nx := 103) (tgt := 111) G dX11_runOnce_100 (by decide) rfl (fun c => ?_) (fun c => ?_)
      · have h := h.1 c
        refine z_bipush (nx := 113) (z := (-3)) G (R32c rfl) rfl dX11_runOnce_111 rfl ?_
        exact b_ireturn X hB dX11_runOnce_113 h
      · have h := h.2 c
        refine z_iload (nx := 105) (a := 4) G rfl dX11_runOnce_103 rfl (z_ldcw (nx := 108) (z := (-2000000000)) G (R32c rfl) rfl kw_RX11_376 dX11_runOnce_105 rfl ?_)
        refine z_icmp_ne (nx := 111) (tgt := 114) G dX11_runOnce_108 (by decide) rfl (fun c => ?_) (fun c => ?_)
        · have h := h.1 c
          refine z_aload_n (nx := 115) (a := 0) G rfl (Or.inl rfl) dX11_runOnce_114 rfl (z_aload_n (nx := 116) (a := 0) G rfl (Or.inl rfl) dX11_runOnce_115 rfl (b_getA (nx := 119) (k0 := 0) G hB fl_RX11_10 (Nat.le_of_ble_eq_true rfl) (Nat.le_of_ble_eq_true rfl) rfl hp_v0 dX11_runOnce_116 rfl (b_getA (nx := 122) (k0 := 5) G hB fl_RX11_162 (Nat.le_of_ble_eq_true rfl) (Nat.le_of_ble_eq_true rfl) rfl (sh_11_0 _ hp_v0) dX11_runOnce_119 rfl (z_iload_n (nx := 123) (a := 2) G rfl dX11_runOnce_122 rfl (z_iload_n (nx := 124) (a := 3) G rfl dX11_runOnce_123 rfl (z_iload (nx := 126) (a := 4) G rfl dX11_runOnce_124 rfl (z_iconst (nx := 127) (z := 1) G (R32c rfl) dX11_runOnce_126 rfl ?_)))))))
          refine b_callV0 (nx := 130) (zs := [v0, am_rfv (am_rfv v0 0) 5, r_3, r_5, r_7, 1]) (as := [(2, am_rfv (am_rfv v0 0) 5), (0, r_3), (0, r_5), (0, r_7), (0, 1)]) X hB (by decide) rfl hp_v0 SS_X11_tryPrayer (am_ta (am_ta (am_ti (am_ti (am_ti (am_ti am_tn)))))) (Nat.le_of_ble_eq_true rfl) (Nat.le_of_ble_eq_true rfl) ml_RX11_197 iw_X11_tryPrayer vw_X11_tryPrayer cw_X11_tryPrayer nw_RX11 pp_X11_tryPrayer (Nat.le_of_ble_eq_true rfl) dX11_runOnce_127 rfl (NM_X11_tryPrayer hp_v0 (sh_0_5 _ (sh_11_0 _ hp_v0)) h) (fun r_9 m_10 h hB => ?_)
          refine b_storeE (nx := 132) (a := 5) (loc2 := [(2, v0), (0, v1), (0, r_3), (0, r_5), (0, r_7), (0, r_9)]) G rfl (Nat.le_of_ble_eq_true rfl) (am_pl1 rfl (fun h => nomatch h)) dX11_runOnce_130 rfl (z_iload (nx := 134) (a := 5) G rfl dX11_runOnce_132 rfl ?_)
          refine z_if_ne (nx := 137) (tgt := 142) G dX11_runOnce_134 (by decide) rfl (fun c => ?_) (fun c => ?_)
          · have h := h.1 c
            exact b_fewer (loc2 := [(9, 0), (9, 0), (9, 0), (9, 0), (9, 0), (0, r_9)]) (am_lf (am_lf (am_lf (am_lf (am_lf (am_lk am_ln)))))) (S_X11_runOnce_J1 X hB h)
          · have h := h.2 c
            refine z_aload_n (nx := 138) (a := 0) G rfl (Or.inl rfl) dX11_runOnce_137 rfl (z_iconst (nx := 139) (z := 0) G (R32c rfl) dX11_runOnce_138 rfl ?_)
            refine b_callV9 (nx := 142) (zs := [v0, 0]) (as := [(0, 0)]) X hB (by decide) rfl hp_v0 SS_X11_noteDeed (am_ta (am_ti am_tn)) (Nat.le_of_ble_eq_true rfl) (Nat.le_of_ble_eq_true rfl) ml_RX11_264 iw_X11_noteDeed vw_X11_noteDeed cw_X11_noteDeed nw_RX11 pp_X11_noteDeed (Nat.le_of_ble_eq_true rfl) dX11_runOnce_139 rfl (NM_X11_noteDeed hp_v0 h) (fun r_11 m_12 h hB => ?_)
            exact b_fewer (loc2 := [(9, 0), (9, 0), (9, 0), (9, 0), (9, 0), (0, r_9)]) (am_lf (am_lf (am_lf (am_lf (am_lf (am_lk am_ln)))))) (S_X11_runOnce_J1 X hB h)
        · have h := h.2 c
          refine z_bipush (nx := 113) (z := (-3)) G (R32c rfl) rfl dX11_runOnce_111 rfl ?_
          exact b_ireturn X hB dX11_runOnce_113 h
  · have h := h.2 c
    refine z_aload_n (nx := 17) (a := 0) G rfl (Or.inl rfl) dX11_runOnce_16 rfl ?_
    refine b_callV0 (nx := 20) (zs := [v0]) (as := []) X hB (by decide) rfl hp_v0 SS_X11_tryDawn (am_ta am_tn) (Nat.le_of_ble_eq_true rfl) (Nat.le_of_ble_eq_true rfl) ml_RX11_294 iw_X11_tryDawn vw_X11_tryDawn cw_X11_tryDawn nw_RX11 pp_X11_tryDawn (Nat.le_of_ble_eq_true rfl) dX11_runOnce_17 rfl (NM_X11_tryDawn hp_v0 h) (fun r_13 m_14 h hB => ?_)
    refine z_iconst (nx := 21) (z := 0) G (R32c rfl) dX11_runOnce_20 rfl (b_mmin (nx := 24) X ml_RX11_328 (Nat.le_of_ble_eq_true rfl) dX11_runOnce_21 rfl ?_)
    exact b_ireturn X hB dX11_runOnce_24 h
theorem NM_X11_runOnce {v0 : Int} {v1 : Int} {K : am_KK} {m : am_M} (hp_v0 : am_ob v0 11) (h : M_X11_runOnce v0 v1 K m) : N_X11_runOnce [v0, v1] K m := ⟨hp_v0, h⟩
theorem SS_X11_runOnce : am_Snd yX11_runOnce cX11_runOnce 6 (some .int) 0 7 (am_L [2, 0] 0 N_X11_runOnce) := by
  refine am_SB (by decide +kernel) (Nat.le_of_ble_eq_true rfl) (fun F zs as K m X ht hB hM => ?_)
  obtain ⟨v0, zs, as, rfl, rfl, hz0, ht⟩ := am_inv ht
  obtain ⟨v1, zs, as, rfl, rfl, hz1, ht⟩ := am_inv ht
  obtain ⟨rfl, rfl⟩ := am_inv0 ht
  obtain ⟨hp_v0, hM⟩ := hM
  exact S_X11_runOnce X hp_v0 hB hM
set_option maxRecDepth 20000 in
set_option maxHeartbeats 4000000 in
theorem S_X11_orders_J1 {F : am_F} {K : am_KK} {v0 : Int} {v2 : Int} {v3 : Int} {v4 : Int} {C90 : Int → Int → am_M → Prop} {C73 : Int → Int → am_M → Prop} {m : am_M} (X : am_Cx F cX11_orders RX11 (some .int) 611 0 K) (hp_v0 : am_ob v0 11) (hC90 : ∀ w2 w4 m, C90 w2 w4 m → am_Bt m → am_Z F 90 [] [(2, v0), (9, 0), (0, w2), (0, v3), (0, w4), (9, 0)] m 200) (hC73 : ∀ w2 w3 m, C73 w2 w3 m → am_Bt m → am_Z F 73 [] [(2, v0), (9, 0), (0, w2), (0, w3), (9, 0), (9, 0)] m 200) (hB : am_Bt m) (h : M_X11_orders_J1 v0 v2 v3 v4 C90 C73 K m) : am_Z F 191 [] [(2, v0), (9, 0), (0, v2), (0, v3), (0, v4), (9, 0)] m 200 := by
  have G := X.G
  unfold M_X11_orders_J1 at h
  refine b_iinc (nx := 194) (a := 4) (loc2 := fun v4_1 => [(2, v0), (9, 0), (0, v2), (0, v3), (0, v4_1), (9, 0)]) G (fun _ => rfl) rfl (am_pl1 rfl (fun h => nomatch h)) dX11_orders_191 rfl (fun v4_1 e_v4_1 => ?_)
  have h := h v4_1 e_v4_1
  refine z_goto (tgt := 90) G dX11_orders_194 (by decide) ?_
  exact b_fewer (loc2 := [(2, v0), (9, 0), (0, v2), (0, v3), (0, v4_1), (9, 0)]) (am_lk (am_lk (am_lk (am_lk (am_lk (am_lk am_ln)))))) (hC90 _ _ _ h hB)
set_option maxRecDepth 20000 in
set_option maxHeartbeats 4000000 in
theorem S_X11_orders_L2B {F : am_F} {K : am_KK} {v0 : Int} {v2 : Int} {v3 : Int} {v4 : Int} {C90 : Int → Int → am_M → Prop} {C73 : Int → Int → am_M → Prop} {m : am_M} (X : am_Cx F cX11_orders RX11 (some .int) 611 0 K) (hp_v0 : am_ob v0 11) (hC90 : ∀ w2 w4 m, C90 w2 w4 m → am_Bt m → am_Z F 90 [] [(2, v0), (9, 0), (0, w2), (0, v3), (0, w4), (9, 0)] m 200) (hC73 : ∀ w2 w3 m, C73 w2 w3 m → am_Bt m → am_Z F 73 [] [(2, v0), (9, 0), (0, w2), (0, w3), (9, 0), (9, 0)] m 200) (hB : am_Bt m) (h : M_X11_orders_L2B v0 v2 v3 v4 C90 C73 K m) : am_Z F 90 [] [(2, v0), (9, 0), (0, v2), (0, v3), (0, v4), (9, 0)] m 200 := by
  have G := X.G
  unfold M_X11_orders_L2B at h
  refine z_iload (nx := 92) (a := 4) G rfl dX11_orders_90 rfl (z_aload_n (nx := 93) (a := 0) G rfl (Or.inl rfl) dX11_orders_92 rfl (b_getA (nx := 96) (k0 := 4) G hB fl_RX11_36 (Nat.le_of_ble_eq_true rfl) (Nat.le_of_ble_eq_true rfl) rfl hp_v0 dX11_orders_93 rfl (b_getA (nx := 99) (k0 := 2) G hB fl_RX11_227 (Nat.le_of_ble_eq_true rfl) (Nat.le_of_ble_eq_true rfl) rfl (sh_11_4 _ hp_v0) dX11_orders_96 rfl (z_iload_n (nx := 100) (a := 3) G rfl dX11_orders_99 rfl (z_iconst (nx := 101) (z := 1) G (R32c rfl) dX11_orders_100 rfl ?_)))))
  refine b_callV0 (nx := 104) (zs := [am_rfv (am_rfv v0 4) 2, v3, 1]) (as := [(0, v3), (0, 1)]) X hB (by decide) rfl (sh_4_2 _ (sh_11_4 _ hp_v0)) SS_X7_get (am_ta (am_ti (am_ti am_tn))) (Nat.le_of_ble_eq_true rfl) (Nat.le_of_ble_eq_true rfl) ml_RX11_135 iw_X7_get vw_X7_get cw_X7_get nw_RX7 pp_X7_get (Nat.le_of_ble_eq_true rfl) dX11_orders_101 rfl (NM_X7_get (sh_4_2 _ (sh_11_4 _ hp_v0)) h) (fun r_2 m_3 h hB => ?_)
  refine z_icmp_ge (nx := 107) (tgt := 197) G dX11_orders_104 (by decide) rfl (fun c => ?_) (fun c => ?_)
  · have h := h.1 c
    refine b_iinc (nx := 200) (a := 3) (loc2 := fun v3_4 => [(2, v0), (9, 0), (0, v2), (0, v3_4), (0, v4), (9, 0)]) G (fun _ => rfl) rfl (am_pl1 rfl (fun h => nomatch h)) dX11_orders_197 rfl (fun v3_4 e_v3_4 => ?_)
    have h := h v3_4 e_v3_4
    refine z_goto (tgt := 73) G dX11_orders_200 (by decide) ?_
    exact b_fewer (loc2 := [(2, v0), (9, 0), (0, v2), (0, v3_4), (9, 0), (9, 0)]) (am_lk (am_lk (am_lk (am_lk (am_lf (am_lk am_ln)))))) (hC73 _ _ _ h hB)
  · have h := h.2 c
    refine z_aload_n (nx := 108) (a := 0) G rfl (Or.inl rfl) dX11_orders_107 rfl (z_iload_n (nx := 109) (a := 2) G rfl dX11_orders_108 rfl ?_)
    refine b_callV9 (nx := 112) (zs := [v0, v2]) (as := [(0, v2)]) X hB (by decide) rfl hp_v0 SS_X11_lookAround (am_ta (am_ti am_tn)) (Nat.le_of_ble_eq_true rfl) (Nat.le_of_ble_eq_true rfl) ml_RX11_230 iw_X11_lookAround vw_X11_lookAround cw_X11_lookAround nw_RX11 pp_X11_lookAround (Nat.le_of_ble_eq_true rfl) dX11_orders_109 rfl (NM_X11_lookAround hp_v0 h) (fun r_5 m_6 h hB => ?_)
    refine z_aload_n (nx := 113) (a := 0) G rfl (Or.inl rfl) dX11_orders_112 rfl (b_getA (nx := 116) (k0 := 6) G hB fl_RX11_52 (Nat.le_of_ble_eq_true rfl) (Nat.le_of_ble_eq_true rfl) rfl hp_v0 dX11_orders_113 rfl (b_getA (nx := 119) (k0 := 1) G hB fl_RX11_233 (Nat.le_of_ble_eq_true rfl) (Nat.le_of_ble_eq_true rfl) rfl (sh_11_6 _ hp_v0) dX11_orders_116 rfl (z_aload_n (nx := 120) (a := 0) G rfl (Or.inl rfl) dX11_orders_119 rfl (b_getA (nx := 123) (k0 := 4) G hB fl_RX11_36 (Nat.le_of_ble_eq_true rfl) (Nat.le_of_ble_eq_true rfl) rfl hp_v0 dX11_orders_120 rfl (z_iload_n (nx := 124) (a := 3) G rfl dX11_orders_123 rfl (z_iconst (nx := 125) (z := 3) G (R32c rfl) dX11_orders_124 rfl (z_aload_n (nx := 126) (a := 0) G rfl (Or.inl rfl) dX11_orders_125 rfl (b_getA (nx := 129) (k0 := 15) G hB fl_RX11_102 (Nat.le_of_ble_eq_true rfl) (Nat.le_of_ble_eq_true rfl) rfl hp_v0 dX11_orders_126 rfl ?_))))))))
    refine b_callV0 (nx := 132) (zs := [am_rfv (am_rfv v0 6) 1, am_rfv v0 4, v3, 3, am_rfv v0 15]) (as := [(2, am_rfv v0 4), (0, v3), (0, 3), (2, am_rfv v0 15)]) X hB (by decide) rfl (sh_3_1 _ (sh_11_6 _ hp_v0)) SS_X6_value (am_ta (am_ta (am_ti (am_ti (am_ta am_tn))))) (Nat.le_of_ble_eq_true rfl) (Nat.le_of_ble_eq_true rfl) ml_RX11_237 iw_X6_value vw_X6_value cw_X6_value nw_RX6 pp_X6_value (Nat.le_of_ble_eq_true rfl) dX11_orders_129 rfl (NM_X6_value (sh_3_1 _ (sh_11_6 _ hp_v0)) (sh_11_4 _ hp_v0) (sh_11_15 _ hp_v0) h) (fun r_7 m_8 h hB => ?_)
    refine z_iconst (nx := 133) (z := 1) G (R32c rfl) dX11_orders_132 rfl ?_
    refine z_icmp_eq (nx := 136) (tgt := 139) G dX11_orders_133 (by decide) rfl (fun c => ?_) (fun c => ?_)
    · have h := h.1 c
      refine z_aload_n (nx := 140) (a := 0) G rfl (Or.inl rfl) dX11_orders_139 rfl (z_iload_n (nx := 141) (a := 3) G rfl dX11_orders_140 rfl ?_)
      refine b_callV0 (nx := 144) (zs := [v0, v3]) (as := [(0, v3)]) X hB (by decide) rfl hp_v0 SS_X11_runOnce (am_ta (am_ti am_tn)) (Nat.le_of_ble_eq_true rfl) (Nat.le_of_ble_eq_true rfl) ml_RX11_243 iw_X11_runOnce vw_X11_runOnce cw_X11_runOnce nw_RX11 pp_X11_runOnce (Nat.le_of_ble_eq_true rfl) dX11_orders_141 rfl (NM_X11_runOnce hp_v0 h) (fun r_9 m_10 h hB => ?_)
      refine b_storeE (nx := 146) (a := 5) (loc2 := [(2, v0), (9, 0), (0, v2), (0, v3), (0, v4), (0, r_9)]) G rfl (Nat.le_of_ble_eq_true rfl) (am_pl1 rfl (fun h => nomatch h)) dX11_orders_144 rfl (z_iload (nx := 148) (a := 5) G rfl dX11_orders_146 rfl ?_)
      refine z_if_eq (nx := 151) (tgt := 188) G dX11_orders_148 (by decide) rfl (fun c => ?_) (fun c => ?_)
      · have h := h.1 c
        refine b_iinc (nx := 191) (a := 2) (loc2 := fun v2_11 => [(2, v0), (9, 0), (0, v2_11), (0, v3), (0, v4), (0, r_9)]) G (fun _ => rfl) rfl (am_pl1 rfl (fun h => nomatch h)) dX11_orders_188 rfl (fun v2_11 e_v2_11 => ?_)
        have h := h v2_11 e_v2_11
        exact b_fewer (loc2 := [(2, v0), (9, 0), (0, v2_11), (0, v3), (0, v4), (9, 0)]) (am_lk (am_lk (am_lk (am_lk (am_lk (am_lf am_ln)))))) (S_X11_orders_J1 X hp_v0 hC90 hC73 hB h)
      · have h := h.2 c
        refine z_aload_n (nx := 152) (a := 0) G rfl (Or.inl rfl) dX11_orders_151 rfl (b_getA (nx := 155) (k0 := 0) G hB fl_RX11_10 (Nat.le_of_ble_eq_true rfl) (Nat.le_of_ble_eq_true rfl) rfl hp_v0 dX11_orders_152 rfl (b_getA (nx := 158) (k0 := 5) G hB fl_RX11_162 (Nat.le_of_ble_eq_true rfl) (Nat.le_of_ble_eq_true rfl) rfl (sh_11_0 _ hp_v0) dX11_orders_155 rfl (z_aload_n (nx := 159) (a := 0) G rfl (Or.inl rfl) dX11_orders_158 rfl (b_getA (nx := 162) (k0 := 9) G hB fl_RX11_72 (Nat.le_of_ble_eq_true rfl) (Nat.le_of_ble_eq_true rfl) rfl hp_v0 dX11_orders_159 rfl ?_))))
        refine b_callV9 (nx := 165) (zs := [am_rfv (am_rfv v0 0) 5, am_rfv v0 9]) (as := [(2, am_rfv v0 9)]) X hB (by decide) rfl (sh_0_5 _ (sh_11_0 _ hp_v0)) SS_X9_takeFrom (am_ta (am_ta am_tn)) (Nat.le_of_ble_eq_true rfl) (Nat.le_of_ble_eq_true rfl) ml_RX11_216 iw_X9_takeFrom vw_X9_takeFrom cw_X9_takeFrom nw_RX9 pp_X9_takeFrom (Nat.le_of_ble_eq_true rfl) dX11_orders_162 rfl (NM_X9_takeFrom (sh_0_5 _ (sh_11_0 _ hp_v0)) (sh_11_9 _ hp_v0) h) (fun r_12 m_13 h hB => ?_)
        refine z_aload_n (nx := 166) (a := 0) G rfl (Or.inl rfl) dX11_orders_165 rfl (b_getA (nx := 169) (k0 := 10) G hB fl_RX11_75 (Nat.le_of_ble_eq_true rfl) (Nat.le_of_ble_eq_true rfl) rfl hp_v0 dX11_orders_166 rfl (z_aload_n (nx := 170) (a := 0) G rfl (Or.inl rfl) dX11_orders_169 rfl (b_getA (nx := 173) (k0 := 11) G hB fl_RX11_78 (Nat.le_of_ble_eq_true rfl) (Nat.le_of_ble_eq_true rfl) rfl hp_v0 dX11_orders_170 rfl ?_)))
        refine b_callV9 (nx := 176) (zs := [am_rfv v0 10, am_rfv v0 11]) (as := [(2, am_rfv v0 11)]) X hB (by decide) rfl (sh_11_10 _ hp_v0) SS_X7_takeFrom (am_ta (am_ta am_tn)) (Nat.le_of_ble_eq_true rfl) (Nat.le_of_ble_eq_true rfl) ml_RX11_220 iw_X7_takeFrom vw_X7_takeFrom cw_X7_takeFrom nw_RX7 pp_X7_takeFrom (Nat.le_of_ble_eq_true rfl) dX11_orders_173 rfl (NM_X7_takeFrom (sh_11_10 _ hp_v0) (sh_11_11 _ hp_v0) h) (fun r_14 m_15 h hB => ?_)
        refine z_aload_n (nx := 177) (a := 0) G rfl (Or.inl rfl) dX11_orders_176 rfl (z_iload_n (nx := 178) (a := 3) G rfl dX11_orders_177 rfl ?_)
        refine b_put (nx := 181) (k0 := 19) (t := 0) G hB fl_RX11_109 (Nat.le_of_ble_eq_true rfl) (Nat.le_of_ble_eq_true rfl) rfl (fun h => nomatch h) rfl hp_v0 dX11_orders_178 rfl (fun m_16 e_m_16 hB => ?_)
        have h := h m_16 e_m_16
        refine z_aload_n (nx := 182) (a := 0) G rfl (Or.inl rfl) dX11_orders_181 rfl (z_iload (nx := 184) (a := 5) G rfl dX11_orders_182 rfl ?_)
        refine b_callV0 (nx := 187) (zs := [v0, r_9]) (as := [(0, r_9)]) X hB (by decide) rfl hp_v0 SS_X11_refuse (am_ta (am_ti am_tn)) (Nat.le_of_ble_eq_true rfl) (Nat.le_of_ble_eq_true rfl) ml_RX11_117 iw_X11_refuse vw_X11_refuse cw_X11_refuse nw_RX11 pp_X11_refuse (Nat.le_of_ble_eq_true rfl) dX11_orders_184 rfl (NM_X11_refuse hp_v0 h) (fun r_17 m_18 h hB => ?_)
        exact b_ireturn X hB dX11_orders_187 h
    · have h := h.2 c
      refine z_goto (tgt := 191) G dX11_orders_136 (by decide) ?_
      exact b_fewer (loc2 := [(2, v0), (9, 0), (0, v2), (0, v3), (0, v4), (9, 0)]) (am_lk (am_lk (am_lk (am_lk (am_lk (am_lk am_ln)))))) (S_X11_orders_J1 X hp_v0 hC90 hC73 hB h)
theorem S_X11_orders_L2 {F : am_F} {K : am_KK} {v0 : Int} {v2 : Int} {v3 : Int} {v4 : Int} {C73 : Int → Int → am_M → Prop} {m : am_M} (X : am_Cx F cX11_orders RX11 (some .int) 611 0 K) (hp_v0 : am_ob v0 11) (hC73 : ∀ w2 w3 m, C73 w2 w3 m → am_Bt m → am_Z F 73 [] [(2, v0), (9, 0), (0, w2), (0, w3), (9, 0), (9, 0)] m 200) (hB : am_Bt m) (h : M_X11_orders_L2 v0 v2 v3 v4 C73 K m) : am_Z F 90 [] [(2, v0), (9, 0), (0, v2), (0, v3), (0, v4), (9, 0)] m 200 := by
  obtain ⟨I, ⟨j, hj⟩, hI⟩ := h
  have key : ∀ j v2 v4 m, I j v2 v4 m → am_Bt m → am_Z F 90 [] [(2, v0), (9, 0), (0, v2), (0, v3), (0, v4), (9, 0)] m 200 := by
    intro j
    induction j using Nat.strongRecOn with
    | ind j ih =>
      intro v2 v4 m hj hB
      exact S_X11_orders_L2B X hp_v0 (fun v2' v4' m' hc hB' => by
        obtain ⟨j', g1, g2⟩ := hc
        exact ih j' g1 v2' v4' m' g2 hB') hC73 hB (hI j v2 v4 m hj)
  exact key j _ _ _ hj hB
set_option maxRecDepth 20000 in
set_option maxHeartbeats 4000000 in
theorem S_X11_orders_L1B {F : am_F} {K : am_KK} {v0 : Int} {v2 : Int} {v3 : Int} {C73 : Int → Int → am_M → Prop} {m : am_M} (X : am_Cx F cX11_orders RX11 (some .int) 611 0 K) (hp_v0 : am_ob v0 11) (hC73 : ∀ w2 w3 m, C73 w2 w3 m → am_Bt m → am_Z F 73 [] [(2, v0), (9, 0), (0, w2), (0, w3), (9, 0), (9, 0)] m 200) (hB : am_Bt m) (h : M_X11_orders_L1B v0 v2 v3 C73 K m) : am_Z F 73 [] [(2, v0), (9, 0), (0, v2), (0, v3), (9, 0), (9, 0)] m 200 := by
  have G := X.G
  unfold M_X11_orders_L1B at h
  refine z_iload_n (nx := 74) (a := 3) G rfl dX11_orders_73 rfl (z_aload_n (nx := 75) (a := 0) G rfl (Or.inl rfl) dX11_orders_74 rfl (b_getA (nx := 78) (k0 := 4) G hB fl_RX11_36 (Nat.le_of_ble_eq_true rfl) (Nat.le_of_ble_eq_true rfl) rfl hp_v0 dX11_orders_75 rfl (b_getA (nx := 81) (k0 := 2) G hB fl_RX11_227 (Nat.le_of_ble_eq_true rfl) (Nat.le_of_ble_eq_true rfl) rfl (sh_11_4 _ hp_v0) dX11_orders_78 rfl (b_getI (nx := 84) (k0 := 2) (t := 0) G fl_RX11_188 (Nat.le_of_ble_eq_true rfl) (Nat.le_of_ble_eq_true rfl) rfl (sh_4_2 _ (sh_11_4 _ hp_v0)) dX11_orders_81 rfl ?_))))
  refine z_icmp_ge (nx := 87) (tgt := 203) G dX11_orders_84 (by decide) rfl (fun c => ?_) (fun c => ?_)
  · have h := h.1 c
    refine z_aload_n (nx := 204) (a := 0) G rfl (Or.inl rfl) dX11_orders_203 rfl (z_iload_n (nx := 205) (a := 2) G rfl dX11_orders_204 rfl ?_)
    refine b_callV0 (nx := 208) (zs := [v0, v2]) (as := [(0, v2)]) X hB (by decide) rfl hp_v0 SS_X11_fine (am_ta (am_ti am_tn)) (Nat.le_of_ble_eq_true rfl) (Nat.le_of_ble_eq_true rfl) ml_RX11_132 iw_X11_fine vw_X11_fine cw_X11_fine nw_RX11 pp_X11_fine (Nat.le_of_ble_eq_true rfl) dX11_orders_205 rfl (NM_X11_fine hp_v0 h) (fun r_19 m_20 h hB => ?_)
    exact b_ireturn X hB dX11_orders_208 h
  · have h := h.2 c
    refine z_iconst (nx := 88) (z := 0) G (R32c rfl) dX11_orders_87 rfl (b_storeE (nx := 90) (a := 4) (loc2 := [(2, v0), (9, 0), (0, v2), (0, v3), (0, 0), (9, 0)]) G rfl (Nat.le_of_ble_eq_true rfl) (am_pl1 rfl (fun h => nomatch h)) dX11_orders_88 rfl ?_)
    exact b_fewer (loc2 := [(2, v0), (9, 0), (0, v2), (0, v3), (0, 0), (9, 0)]) (am_lk (am_lk (am_lk (am_lk (am_lk (am_lk am_ln)))))) (S_X11_orders_L2 X hp_v0 hC73 hB h)
theorem S_X11_orders_L1 {F : am_F} {K : am_KK} {v0 : Int} {v2 : Int} {v3 : Int} {m : am_M} (X : am_Cx F cX11_orders RX11 (some .int) 611 0 K) (hp_v0 : am_ob v0 11) (hB : am_Bt m) (h : M_X11_orders_L1 v0 v2 v3 K m) : am_Z F 73 [] [(2, v0), (9, 0), (0, v2), (0, v3), (9, 0), (9, 0)] m 200 := by
  obtain ⟨I, ⟨j, hj⟩, hI⟩ := h
  have key : ∀ j v2 v3 m, I j v2 v3 m → am_Bt m → am_Z F 73 [] [(2, v0), (9, 0), (0, v2), (0, v3), (9, 0), (9, 0)] m 200 := by
    intro j
    induction j using Nat.strongRecOn with
    | ind j ih =>
      intro v2 v3 m hj hB
      exact S_X11_orders_L1B X hp_v0 (fun v2' v3' m' hc hB' => by
        obtain ⟨j', g1, g2⟩ := hc
        exact ih j' g1 v2' v3' m' g2 hB') hB (hI j v2 v3 m hj)
  exact key j _ _ _ hj hB
set_option maxRecDepth 20000 in
set_option maxHeartbeats 4000000 in
theorem S_X11_orders {F : am_F} {K : am_KK} {v0 : Int} {m : am_M} (X : am_Cx F cX11_orders RX11 (some .int) 611 0 K) (hp_v0 : am_ob v0 11) (hB : am_Bt m) (h : M_X11_orders v0 K m) : am_Z F 0 [] [(2, v0), (9, 0), (9, 0), (9, 0), (9, 0), (9, 0)] m 200 := by
  have G := X.G
  unfold M_X11_orders at h
  refine z_aload_n (nx := 1) (a := 0) G rfl (Or.inl rfl) dX11_orders_0 rfl (b_getA (nx := 4) (k0 := 5) G hB fl_RX11_45 (Nat.le_of_ble_eq_true rfl) (Nat.le_of_ble_eq_true rfl) rfl hp_v0 dX11_orders_1 rfl (z_iconst (nx := 5) (z := 1) G (R32c rfl) dX11_orders_4 rfl ?_))
  refine b_callV5 (nx := 8) (zs := [am_rfv v0 5, 1]) (as := [(0, 1)]) X hB (by decide) rfl (sh_11_5 _ hp_v0) SS_X5_read (am_ta (am_tz (Or.inr rfl) am_tn)) (Nat.le_of_ble_eq_true rfl) (Nat.le_of_ble_eq_true rfl) ml_RX11_208 iw_X5_read vw_X5_read cw_X5_read nw_RX5 pp_X5_read (Nat.le_of_ble_eq_true rfl) dX11_orders_5 rfl (NM_X5_read (sh_11_5 _ hp_v0) (Or.inr rfl) h) (fun r_21 m_22 h h01_23 hB => ?_)
  refine b_storeE_n (nx := 9) (a := 1) (loc2 := [(2, v0), (0, r_21), (9, 0), (9, 0), (9, 0), (9, 0)]) G rfl (Nat.le_of_ble_eq_true rfl) (am_pl1 rfl (fun h => nomatch h)) dX11_orders_8 rfl (z_aload_n (nx := 10) (a := 0) G rfl (Or.inl rfl) dX11_orders_9 rfl (b_getA (nx := 13) (k0 := 3) G hB fl_RX11_29 (Nat.le_of_ble_eq_true rfl) (Nat.le_of_ble_eq_true rfl) rfl hp_v0 dX11_orders_10 rfl (z_iconst (nx := 14) (z := 0) G (R32c rfl) dX11_orders_13 rfl ?_)))
  refine b_callV9 (nx := 17) (zs := [am_rfv v0 3, 0]) (as := [(0, 0)]) X hB (by decide) rfl (sh_11_3 _ hp_v0) SS_X7_cut (am_ta (am_ti am_tn)) (Nat.le_of_ble_eq_true rfl) (Nat.le_of_ble_eq_true rfl) ml_RX11_184 iw_X7_cut vw_X7_cut cw_X7_cut nw_RX7 pp_X7_cut (Nat.le_of_ble_eq_true rfl) dX11_orders_14 rfl (NM_X7_cut (sh_11_3 _ hp_v0) h) (fun r_24 m_25 h hB => ?_)
  refine z_aload_n (nx := 18) (a := 0) G rfl (Or.inl rfl) dX11_orders_17 rfl (z_iconst (nx := 19) (z := (-1)) G (R32c rfl) dX11_orders_18 rfl ?_)
  refine b_put (nx := 22) (k0 := 19) (t := 0) G hB fl_RX11_109 (Nat.le_of_ble_eq_true rfl) (Nat.le_of_ble_eq_true rfl) rfl (fun h => nomatch h) rfl hp_v0 dX11_orders_19 rfl (fun m_26 e_m_26 hB => ?_)
  have h := h m_26 e_m_26
  refine z_iload_n (nx := 23) (a := 1) G rfl dX11_orders_22 rfl ?_
  refine z_if_ne (nx := 26) (tgt := 33) G dX11_orders_23 (by decide) rfl (fun c => ?_) (fun c => ?_)
  · have h := h.1 c
    refine z_aload_n (nx := 34) (a := 0) G rfl (Or.inl rfl) dX11_orders_33 rfl (b_getA (nx := 37) (k0 := 9) G hB fl_RX11_72 (Nat.le_of_ble_eq_true rfl) (Nat.le_of_ble_eq_true rfl) rfl hp_v0 dX11_orders_34 rfl (z_aload_n (nx := 38) (a := 0) G rfl (Or.inl rfl) dX11_orders_37 rfl (b_getA (nx := 41) (k0 := 0) G hB fl_RX11_10 (Nat.le_of_ble_eq_true rfl) (Nat.le_of_ble_eq_true rfl) rfl hp_v0 dX11_orders_38 rfl (b_getA (nx := 44) (k0 := 5) G hB fl_RX11_162 (Nat.le_of_ble_eq_true rfl) (Nat.le_of_ble_eq_true rfl) rfl (sh_11_0 _ hp_v0) dX11_orders_41 rfl ?_))))
    refine b_callV9 (nx := 47) (zs := [am_rfv v0 9, am_rfv (am_rfv v0 0) 5]) (as := [(2, am_rfv (am_rfv v0 0) 5)]) X hB (by decide) rfl (sh_11_9 _ hp_v0) SS_X9_takeFrom (am_ta (am_ta am_tn)) (Nat.le_of_ble_eq_true rfl) (Nat.le_of_ble_eq_true rfl) ml_RX11_216 iw_X9_takeFrom vw_X9_takeFrom cw_X9_takeFrom nw_RX9 pp_X9_takeFrom (Nat.le_of_ble_eq_true rfl) dX11_orders_44 rfl (NM_X9_takeFrom (sh_11_9 _ hp_v0) (sh_0_5 _ (sh_11_0 _ hp_v0)) h) (fun r_27 m_28 h hB => ?_)
    refine z_aload_n (nx := 48) (a := 0) G rfl (Or.inl rfl) dX11_orders_47 rfl (b_getA (nx := 51) (k0 := 11) G hB fl_RX11_78 (Nat.le_of_ble_eq_true rfl) (Nat.le_of_ble_eq_true rfl) rfl hp_v0 dX11_orders_48 rfl (z_aload_n (nx := 52) (a := 0) G rfl (Or.inl rfl) dX11_orders_51 rfl (b_getA (nx := 55) (k0 := 10) G hB fl_RX11_75 (Nat.le_of_ble_eq_true rfl) (Nat.le_of_ble_eq_true rfl) rfl hp_v0 dX11_orders_52 rfl ?_)))
    refine b_callV9 (nx := 58) (zs := [am_rfv v0 11, am_rfv v0 10]) (as := [(2, am_rfv v0 10)]) X hB (by decide) rfl (sh_11_11 _ hp_v0) SS_X7_takeFrom (am_ta (am_ta am_tn)) (Nat.le_of_ble_eq_true rfl) (Nat.le_of_ble_eq_true rfl) ml_RX11_220 iw_X7_takeFrom vw_X7_takeFrom cw_X7_takeFrom nw_RX7 pp_X7_takeFrom (Nat.le_of_ble_eq_true rfl) dX11_orders_55 rfl (NM_X7_takeFrom (sh_11_11 _ hp_v0) (sh_11_10 _ hp_v0) h) (fun r_29 m_30 h hB => ?_)
    refine z_aload_n (nx := 59) (a := 0) G rfl (Or.inl rfl) dX11_orders_58 rfl (b_getA (nx := 62) (k0 := 12) G hB fl_RX11_84 (Nat.le_of_ble_eq_true rfl) (Nat.le_of_ble_eq_true rfl) rfl hp_v0 dX11_orders_59 rfl (z_aload_n (nx := 63) (a := 0) G rfl (Or.inl rfl) dX11_orders_62 rfl (b_getA (nx := 66) (k0 := 0) G hB fl_RX11_10 (Nat.le_of_ble_eq_true rfl) (Nat.le_of_ble_eq_true rfl) rfl hp_v0 dX11_orders_63 rfl ?_)))
    refine b_callV9 (nx := 69) (zs := [am_rfv v0 12, am_rfv v0 0]) (as := [(2, am_rfv v0 0)]) X hB (by decide) rfl (sh_11_12 _ hp_v0) SS_X10_find (am_ta (am_ta am_tn)) (Nat.le_of_ble_eq_true rfl) (Nat.le_of_ble_eq_true rfl) ml_RX11_223 iw_X10_find vw_X10_find cw_X10_find nw_RX10 pp_X10_find (Nat.le_of_ble_eq_true rfl) dX11_orders_66 rfl (NM_X10_find (sh_11_12 _ hp_v0) (sh_11_0 _ hp_v0) h) (fun r_31 m_32 h hB => ?_)
    refine z_iconst (nx := 70) (z := 0) G (R32c rfl) dX11_orders_69 rfl (b_storeE_n (nx := 71) (a := 2) (loc2 := [(2, v0), (0, r_21), (0, 0), (9, 0), (9, 0), (9, 0)]) G rfl (Nat.le_of_ble_eq_true rfl) (am_pl1 rfl (fun h => nomatch h)) dX11_orders_70 rfl (z_iconst (nx := 72) (z := 0) G (R32c rfl) dX11_orders_71 rfl (b_storeE_n (nx := 73) (a := 3) (loc2 := [(2, v0), (0, r_21), (0, 0), (0, 0), (9, 0), (9, 0)]) G rfl (Nat.le_of_ble_eq_true rfl) (am_pl1 rfl (fun h => nomatch h)) dX11_orders_72 rfl ?_)))
    exact b_fewer (loc2 := [(2, v0), (9, 0), (0, 0), (0, 0), (9, 0), (9, 0)]) (am_lk (am_lf (am_lk (am_lk (am_lk (am_lk am_ln)))))) (S_X11_orders_L1 X hp_v0 hB h)
  · have h := h.2 c
    refine z_aload_n (nx := 27) (a := 0) G rfl (Or.inl rfl) dX11_orders_26 rfl (z_bipush (nx := 29) (z := (-6)) G (R32c rfl) rfl dX11_orders_27 rfl ?_)
    refine b_callV0 (nx := 32) (zs := [v0, (-6)]) (as := [(0, (-6))]) X hB (by decide) rfl hp_v0 SS_X11_refuse (am_ta (am_ti am_tn)) (Nat.le_of_ble_eq_true rfl) (Nat.le_of_ble_eq_true rfl) ml_RX11_117 iw_X11_refuse vw_X11_refuse cw_X11_refuse nw_RX11 pp_X11_refuse (Nat.le_of_ble_eq_true rfl) dX11_orders_29 rfl (NM_X11_refuse hp_v0 h) (fun r_33 m_34 h hB => ?_)
    exact b_ireturn X hB dX11_orders_32 h
theorem NM_X11_orders {v0 : Int} {K : am_KK} {m : am_M} (hp_v0 : am_ob v0 11) (h : M_X11_orders v0 K m) : N_X11_orders [v0] K m := ⟨hp_v0, h⟩
theorem SS_X11_orders : am_Snd yX11_orders cX11_orders 6 (some .int) 0 611 (am_L [2] 0 N_X11_orders) := by
  refine am_SB (by decide +kernel) (Nat.le_of_ble_eq_true rfl) (fun F zs as K m X ht hB hM => ?_)
  obtain ⟨v0, zs, as, rfl, rfl, hz0, ht⟩ := am_inv ht
  obtain ⟨rfl, rfl⟩ := am_inv0 ht
  obtain ⟨hp_v0, hM⟩ := hM
  exact S_X11_orders X hp_v0 hB hM
set_option maxRecDepth 20000 in
set_option maxHeartbeats 4000000 in
theorem S_X11_fault {F : am_F} {K : am_KK} {v0 : Int} {m : am_M} (X : am_Cx F cX11_fault RX11 (some .int) 1 0 K) (hp_v0 : am_ob v0 11) (hB : am_Bt m) (h : M_X11_fault v0 K m) : am_Z F 0 [] [(2, v0)] m 200 := by
  have G := X.G
  unfold M_X11_fault at h
  refine z_aload_n (nx := 1) (a := 0) G rfl (Or.inl rfl) dX11_fault_0 rfl (b_getA (nx := 4) (k0 := 5) G hB fl_RX11_45 (Nat.le_of_ble_eq_true rfl) (Nat.le_of_ble_eq_true rfl) rfl hp_v0 dX11_fault_1 rfl (b_getI (nx := 7) (k0 := 6) (t := 0) G fl_RX11_246 (Nat.le_of_ble_eq_true rfl) (Nat.le_of_ble_eq_true rfl) rfl (sh_11_5 _ hp_v0) dX11_fault_4 rfl ?_))
  exact b_ireturn X hB dX11_fault_7 h
theorem NM_X11_fault {v0 : Int} {K : am_KK} {m : am_M} (hp_v0 : am_ob v0 11) (h : M_X11_fault v0 K m) : N_X11_fault [v0] K m := ⟨hp_v0, h⟩
theorem SS_X11_fault : am_Snd yX11_fault cX11_fault 1 (some .int) 0 1 (am_L [2] 0 N_X11_fault) := by
  refine am_SB (by decide +kernel) (Nat.le_of_ble_eq_true rfl) (fun F zs as K m X ht hB hM => ?_)
  obtain ⟨v0, zs, as, rfl, rfl, hz0, ht⟩ := am_inv ht
  obtain ⟨rfl, rfl⟩ := am_inv0 ht
  obtain ⟨hp_v0, hM⟩ := hM
  exact S_X11_fault X hp_v0 hB hM
set_option maxRecDepth 20000 in
set_option maxHeartbeats 4000000 in
theorem S_X11_stopped {F : am_F} {K : am_KK} {v0 : Int} {m : am_M} (X : am_Cx F cX11_stopped RX11 (some .int) 1 0 K) (hp_v0 : am_ob v0 11) (hB : am_Bt m) (h : M_X11_stopped v0 K m) : am_Z F 0 [] [(2, v0)] m 200 := by
  have G := X.G
  unfold M_X11_stopped at h
  refine z_aload_n (nx := 1) (a := 0) G rfl (Or.inl rfl) dX11_stopped_0 rfl (b_getI (nx := 4) (k0 := 19) (t := 0) G fl_RX11_109 (Nat.le_of_ble_eq_true rfl) (Nat.le_of_ble_eq_true rfl) rfl hp_v0 dX11_stopped_1 rfl ?_)
  exact b_ireturn X hB dX11_stopped_4 h
theorem NM_X11_stopped {v0 : Int} {K : am_KK} {m : am_M} (hp_v0 : am_ob v0 11) (h : M_X11_stopped v0 K m) : N_X11_stopped [v0] K m := ⟨hp_v0, h⟩
theorem SS_X11_stopped : am_Snd yX11_stopped cX11_stopped 1 (some .int) 0 1 (am_L [2] 0 N_X11_stopped) := by
  refine am_SB (by decide +kernel) (Nat.le_of_ble_eq_true rfl) (fun F zs as K m X ht hB hM => ?_)
  obtain ⟨v0, zs, as, rfl, rfl, hz0, ht⟩ := am_inv ht
  obtain ⟨rfl, rfl⟩ := am_inv0 ht
  obtain ⟨hp_v0, hM⟩ := hM
  exact S_X11_stopped X hp_v0 hB hM
set_option maxRecDepth 20000 in
set_option maxHeartbeats 4000000 in
theorem S_X11_force {F : am_F} {K : am_KK} {v0 : Int} {v1 : Int} {m : am_M} (X : am_Cx F cX11_force RX11 (some .int) 3 0 K) (hp_v0 : am_ob v0 11) (hB : am_Bt m) (h : M_X11_force v0 v1 K m) : am_Z F 0 [] [(2, v0), (0, v1), (9, 0)] m 200 := by
  have G := X.G
  unfold M_X11_force at h
  refine z_iload_n (nx := 1) (a := 1) G rfl dX11_force_0 rfl (z_iconst (nx := 2) (z := (-1)) G (R32c rfl) dX11_force_1 rfl (z_aload_n (nx := 3) (a := 0) G rfl (Or.inl rfl) dX11_force_2 rfl (b_getA (nx := 6) (k0 := 0) G hB fl_RX11_10 (Nat.le_of_ble_eq_true rfl) (Nat.le_of_ble_eq_true rfl) rfl hp_v0 dX11_force_3 rfl (b_getI (nx := 9) (k0 := 10) (t := 0) G fl_RX11_201 (Nat.le_of_ble_eq_true rfl) (Nat.le_of_ble_eq_true rfl) rfl (sh_11_0 _ hp_v0) dX11_force_6 rfl (z_iconst (nx := 10) (z := 1) G (R32c rfl) dX11_force_9 rfl (z_isub (nx := 11) G dX11_force_10 rfl ?_))))))
  refine b_callS5 (nx := 14) (zs := [v1, (-1), w32 ((m (am_rfv v0 0) 10) - 1)]) (as := [(0, v1), (0, (-1)), (0, w32 ((m (am_rfv v0 0) 10) - 1))]) X hB SS_X11_within (am_ti (am_ti (am_ti am_tn))) (Nat.le_of_ble_eq_true rfl) (Nat.le_of_ble_eq_true rfl) ml_RX11_113 sw_X11_within (am_plainC 11 (by decide)) cw_X11_within nw_RX11 pp_X11_within (Nat.le_of_ble_eq_true rfl) dX11_force_11 rfl (NM_X11_within h) (fun r_1 m_2 h h01_3 hB => ?_)
  refine z_if_ne (nx := 17) (tgt := 24) G dX11_force_14 (by decide) rfl (fun c => ?_) (fun c => ?_)
  · have h := h.1 c
    refine z_aload_n (nx := 25) (a := 0) G rfl (Or.inl rfl) dX11_force_24 rfl (b_getA (nx := 28) (k0 := 0) G hB fl_RX11_10 (Nat.le_of_ble_eq_true rfl) (Nat.le_of_ble_eq_true rfl) rfl hp_v0 dX11_force_25 rfl (b_getI (nx := 31) (k0 := 11) (t := 0) G fl_RX11_249 (Nat.le_of_ble_eq_true rfl) (Nat.le_of_ble_eq_true rfl) rfl (sh_11_0 _ hp_v0) dX11_force_28 rfl ?_))
    refine b_store_n (nx := 32) (a := 2) (loc2 := fun v2_4 => [(2, v0), (0, v1), (0, v2_4)]) G (fun _ => rfl) (Nat.le_of_ble_eq_true rfl) (am_pl1 rfl (fun h => nomatch h)) dX11_force_31 rfl (fun v2_4 e_v2_4 => ?_)
    have h := h v2_4 e_v2_4
    refine z_aload_n (nx := 33) (a := 0) G rfl (Or.inl rfl) dX11_force_32 rfl (b_getA (nx := 36) (k0 := 0) G hB fl_RX11_10 (Nat.le_of_ble_eq_true rfl) (Nat.le_of_ble_eq_true rfl) rfl hp_v0 dX11_force_33 rfl (z_iload_n (nx := 37) (a := 1) G rfl dX11_force_36 rfl ?_))
    refine b_put (nx := 40) (k0 := 11) (t := 0) G hB fl_RX11_249 (Nat.le_of_ble_eq_true rfl) (Nat.le_of_ble_eq_true rfl) rfl (fun h => nomatch h) rfl (sh_11_0 _ hp_v0) dX11_force_37 rfl (fun m_5 e_m_5 hB => ?_)
    have h := h m_5 e_m_5
    refine z_aload_n (nx := 41) (a := 0) G rfl (Or.inl rfl) dX11_force_40 rfl (z_iload_n (nx := 42) (a := 2) G rfl dX11_force_41 rfl ?_)
    refine b_callV0 (nx := 45) (zs := [v0, v2_4]) (as := [(0, v2_4)]) X hB (by decide) rfl hp_v0 SS_X11_fine (am_ta (am_ti am_tn)) (Nat.le_of_ble_eq_true rfl) (Nat.le_of_ble_eq_true rfl) ml_RX11_132 iw_X11_fine vw_X11_fine cw_X11_fine nw_RX11 pp_X11_fine (Nat.le_of_ble_eq_true rfl) dX11_force_42 rfl (NM_X11_fine hp_v0 h) (fun r_6 m_7 h hB => ?_)
    exact b_ireturn X hB dX11_force_45 h
  · have h := h.2 c
    refine z_aload_n (nx := 18) (a := 0) G rfl (Or.inl rfl) dX11_force_17 rfl (z_bipush (nx := 20) (z := (-2)) G (R32c rfl) rfl dX11_force_18 rfl ?_)
    refine b_callV0 (nx := 23) (zs := [v0, (-2)]) (as := [(0, (-2))]) X hB (by decide) rfl hp_v0 SS_X11_refuse (am_ta (am_ti am_tn)) (Nat.le_of_ble_eq_true rfl) (Nat.le_of_ble_eq_true rfl) ml_RX11_117 iw_X11_refuse vw_X11_refuse cw_X11_refuse nw_RX11 pp_X11_refuse (Nat.le_of_ble_eq_true rfl) dX11_force_20 rfl (NM_X11_refuse hp_v0 h) (fun r_8 m_9 h hB => ?_)
    exact b_ireturn X hB dX11_force_23 h
theorem NM_X11_force {v0 : Int} {v1 : Int} {K : am_KK} {m : am_M} (hp_v0 : am_ob v0 11) (h : M_X11_force v0 v1 K m) : N_X11_force [v0, v1] K m := ⟨hp_v0, h⟩
theorem SS_X11_force : am_Snd yX11_force cX11_force 3 (some .int) 0 3 (am_L [2, 0] 0 N_X11_force) := by
  refine am_SB (by decide +kernel) (Nat.le_of_ble_eq_true rfl) (fun F zs as K m X ht hB hM => ?_)
  obtain ⟨v0, zs, as, rfl, rfl, hz0, ht⟩ := am_inv ht
  obtain ⟨v1, zs, as, rfl, rfl, hz1, ht⟩ := am_inv ht
  obtain ⟨rfl, rfl⟩ := am_inv0 ht
  obtain ⟨hp_v0, hM⟩ := hM
  exact S_X11_force X hp_v0 hB hM
set_option maxRecDepth 20000 in
set_option maxHeartbeats 4000000 in
theorem S_X11_say {F : am_F} {K : am_KK} {v0 : Int} {v1 : Int} {v2 : Int} {m : am_M} (X : am_Cx F cX11_say RX11 (some .int) 6 0 K) (hp_v0 : am_ob v0 11) (hB : am_Bt m) (h : M_X11_say v0 v1 v2 K m) : am_Z F 0 [] [(2, v0), (0, v1), (0, v2)] m 200 := by
  have G := X.G
  unfold M_X11_say at h
  refine z_iload_n (nx := 1) (a := 1) G rfl dX11_say_0 rfl ?_
  refine b_callS5 (nx := 4) (zs := [v1]) (as := [(0, v1)]) X hB SS_X11_isThing (am_ti am_tn) (Nat.le_of_ble_eq_true rfl) (Nat.le_of_ble_eq_true rfl) ml_RX11_139 sw_X11_isThing (am_plainC 11 (by decide)) cw_X11_isThing nw_RX11 pp_X11_isThing (Nat.le_of_ble_eq_true rfl) dX11_say_1 rfl (NM_X11_isThing h) (fun r_1 m_2 h h01_3 hB => ?_)
  refine z_if_eq (nx := 7) (tgt := 11) G dX11_say_4 (by decide) rfl (fun c => ?_) (fun c => ?_)
  · have h := h.1 c
    refine z_iconst (nx := 12) (z := (-1)) G (R32c rfl) dX11_say_11 rfl ?_
    exact b_ireturn X hB dX11_say_12 h
  · have h := h.2 c
    refine z_iload_n (nx := 8) (a := 2) G rfl dX11_say_7 rfl ?_
    refine z_if_ge (nx := 11) (tgt := 13) G dX11_say_8 (by decide) rfl (fun c => ?_) (fun c => ?_)
    · have h := h.1 c
      refine z_aload_n (nx := 14) (a := 0) G rfl (Or.inl rfl) dX11_say_13 rfl (b_getA (nx := 17) (k0 := 12) G hB fl_RX11_84 (Nat.le_of_ble_eq_true rfl) (Nat.le_of_ble_eq_true rfl) rfl hp_v0 dX11_say_14 rfl (z_aload_n (nx := 18) (a := 0) G rfl (Or.inl rfl) dX11_say_17 rfl (b_getA (nx := 21) (k0 := 0) G hB fl_RX11_10 (Nat.le_of_ble_eq_true rfl) (Nat.le_of_ble_eq_true rfl) rfl hp_v0 dX11_say_18 rfl ?_)))
      refine b_callV9 (nx := 24) (zs := [am_rfv v0 12, am_rfv v0 0]) (as := [(2, am_rfv v0 0)]) X hB (by decide) rfl (sh_11_12 _ hp_v0) SS_X10_find (am_ta (am_ta am_tn)) (Nat.le_of_ble_eq_true rfl) (Nat.le_of_ble_eq_true rfl) ml_RX11_223 iw_X10_find vw_X10_find cw_X10_find nw_RX10 pp_X10_find (Nat.le_of_ble_eq_true rfl) dX11_say_21 rfl (NM_X10_find (sh_11_12 _ hp_v0) (sh_11_0 _ hp_v0) h) (fun r_4 m_5 h hB => ?_)
      refine z_iload_n (nx := 25) (a := 2) G rfl dX11_say_24 rfl ?_
      refine z_if_ne (nx := 28) (tgt := 37) G dX11_say_25 (by decide) rfl (fun c => ?_) (fun c => ?_)
      · have h := h.1 c
        refine z_iload_n (nx := 38) (a := 2) G rfl dX11_say_37 rfl (z_iconst (nx := 39) (z := 1) G (R32c rfl) dX11_say_38 rfl ?_)
        refine z_icmp_ne (nx := 42) (tgt := 51) G dX11_say_39 (by decide) rfl (fun c => ?_) (fun c => ?_)
        · have h := h.1 c
          refine z_iload_n (nx := 52) (a := 2) G rfl dX11_say_51 rfl (z_iconst (nx := 53) (z := 2) G (R32c rfl) dX11_say_52 rfl ?_)
          refine z_icmp_ne (nx := 56) (tgt := 65) G dX11_say_53 (by decide) rfl (fun c => ?_) (fun c => ?_)
          · have h := h.1 c
            refine z_aload_n (nx := 66) (a := 0) G rfl (Or.inl rfl) dX11_say_65 rfl (b_getA (nx := 69) (k0 := 12) G hB fl_RX11_84 (Nat.le_of_ble_eq_true rfl) (Nat.le_of_ble_eq_true rfl) rfl hp_v0 dX11_say_66 rfl (z_aload_n (nx := 70) (a := 0) G rfl (Or.inl rfl) dX11_say_69 rfl (b_getA (nx := 73) (k0 := 0) G hB fl_RX11_10 (Nat.le_of_ble_eq_true rfl) (Nat.le_of_ble_eq_true rfl) rfl hp_v0 dX11_say_70 rfl (z_iload_n (nx := 74) (a := 1) G rfl dX11_say_73 rfl (z_iload_n (nx := 75) (a := 2) G rfl dX11_say_74 rfl (z_iconst (nx := 76) (z := 3) G (R32c rfl) dX11_say_75 rfl (z_isub (nx := 77) G dX11_say_76 rfl ?_)))))))
            refine b_callV0 (nx := 80) (zs := [am_rfv v0 12, am_rfv v0 0, v1, w32 (v2 - 3)]) (as := [(2, am_rfv v0 0), (0, v1), (0, w32 (v2 - 3))]) X hB (by decide) rfl (sh_11_12 _ hp_v0) SS_X10_wordAt (am_ta (am_ta (am_ti (am_ti am_tn)))) (Nat.le_of_ble_eq_true rfl) (Nat.le_of_ble_eq_true rfl) ml_RX11_261 iw_X10_wordAt vw_X10_wordAt cw_X10_wordAt nw_RX10 pp_X10_wordAt (Nat.le_of_ble_eq_true rfl) dX11_say_77 rfl (NM_X10_wordAt (sh_11_12 _ hp_v0) (sh_11_0 _ hp_v0) h) (fun r_6 m_7 h hB => ?_)
            exact b_ireturn X hB dX11_say_80 h
          · have h := h.2 c
            refine z_aload_n (nx := 57) (a := 0) G rfl (Or.inl rfl) dX11_say_56 rfl (b_getA (nx := 60) (k0 := 12) G hB fl_RX11_84 (Nat.le_of_ble_eq_true rfl) (Nat.le_of_ble_eq_true rfl) rfl hp_v0 dX11_say_57 rfl (z_iload_n (nx := 61) (a := 1) G rfl dX11_say_60 rfl ?_))
            refine b_callV0 (nx := 64) (zs := [am_rfv v0 12, v1]) (as := [(0, v1)]) X hB (by decide) rfl (sh_11_12 _ hp_v0) SS_X10_rulesFor (am_ta (am_ti am_tn)) (Nat.le_of_ble_eq_true rfl) (Nat.le_of_ble_eq_true rfl) ml_RX11_258 iw_X10_rulesFor vw_X10_rulesFor cw_X10_rulesFor nw_RX10 pp_X10_rulesFor (Nat.le_of_ble_eq_true rfl) dX11_say_61 rfl (NM_X10_rulesFor (sh_11_12 _ hp_v0) h) (fun r_8 m_9 h hB => ?_)
            exact b_ireturn X hB dX11_say_64 h
        · have h := h.2 c
          refine z_aload_n (nx := 43) (a := 0) G rfl (Or.inl rfl) dX11_say_42 rfl (b_getA (nx := 46) (k0 := 12) G hB fl_RX11_84 (Nat.le_of_ble_eq_true rfl) (Nat.le_of_ble_eq_true rfl) rfl hp_v0 dX11_say_43 rfl (z_iload_n (nx := 47) (a := 1) G rfl dX11_say_46 rfl ?_))
          refine b_callV0 (nx := 50) (zs := [am_rfv v0 12, v1]) (as := [(0, v1)]) X hB (by decide) rfl (sh_11_12 _ hp_v0) SS_X10_wordsFor (am_ta (am_ti am_tn)) (Nat.le_of_ble_eq_true rfl) (Nat.le_of_ble_eq_true rfl) ml_RX11_255 iw_X10_wordsFor vw_X10_wordsFor cw_X10_wordsFor nw_RX10 pp_X10_wordsFor (Nat.le_of_ble_eq_true rfl) dX11_say_47 rfl (NM_X10_wordsFor (sh_11_12 _ hp_v0) h) (fun r_10 m_11 h hB => ?_)
          exact b_ireturn X hB dX11_say_50 h
      · have h := h.2 c
        refine z_aload_n (nx := 29) (a := 0) G rfl (Or.inl rfl) dX11_say_28 rfl (b_getA (nx := 32) (k0 := 12) G hB fl_RX11_84 (Nat.le_of_ble_eq_true rfl) (Nat.le_of_ble_eq_true rfl) rfl hp_v0 dX11_say_29 rfl (z_iload_n (nx := 33) (a := 1) G rfl dX11_say_32 rfl ?_))
        refine b_callV0 (nx := 36) (zs := [am_rfv v0 12, v1]) (as := [(0, v1)]) X hB (by decide) rfl (sh_11_12 _ hp_v0) SS_X10_lengthFor (am_ta (am_ti am_tn)) (Nat.le_of_ble_eq_true rfl) (Nat.le_of_ble_eq_true rfl) ml_RX11_252 iw_X10_lengthFor vw_X10_lengthFor cw_X10_lengthFor nw_RX10 pp_X10_lengthFor (Nat.le_of_ble_eq_true rfl) dX11_say_33 rfl (NM_X10_lengthFor (sh_11_12 _ hp_v0) h) (fun r_12 m_13 h hB => ?_)
        exact b_ireturn X hB dX11_say_36 h
    · have h := h.2 c
      refine z_iconst (nx := 12) (z := (-1)) G (R32c rfl) dX11_say_11 rfl ?_
      exact b_ireturn X hB dX11_say_12 h
theorem NM_X11_say {v0 : Int} {v1 : Int} {v2 : Int} {K : am_KK} {m : am_M} (hp_v0 : am_ob v0 11) (h : M_X11_say v0 v1 v2 K m) : N_X11_say [v0, v1, v2] K m := ⟨hp_v0, h⟩
theorem SS_X11_say : am_Snd yX11_say cX11_say 3 (some .int) 0 6 (am_L [2, 0, 0] 0 N_X11_say) := by
  refine am_SB (by decide +kernel) (Nat.le_of_ble_eq_true rfl) (fun F zs as K m X ht hB hM => ?_)
  obtain ⟨v0, zs, as, rfl, rfl, hz0, ht⟩ := am_inv ht
  obtain ⟨v1, zs, as, rfl, rfl, hz1, ht⟩ := am_inv ht
  obtain ⟨v2, zs, as, rfl, rfl, hz2, ht⟩ := am_inv ht
  obtain ⟨rfl, rfl⟩ := am_inv0 ht
  obtain ⟨hp_v0, hM⟩ := hM
  exact S_X11_say X hp_v0 hB hM
set_option maxRecDepth 20000 in
set_option maxHeartbeats 4000000 in
theorem S_X11_pray {F : am_F} {K : am_KK} {v0 : Int} {v1 : Int} {v2 : Int} {v3 : Int} {v4 : Int} {m : am_M} (X : am_Cx F cX11_pray RX11 (some .int) 6 0 K) (hp_v0 : am_ob v0 11) (hB : am_Bt m) (h : M_X11_pray v0 v1 v2 v3 v4 K m) : am_Z F 0 [] [(2, v0), (0, v1), (0, v2), (0, v3), (0, v4), (9, 0)] m 200 := by
  have G := X.G
  unfold M_X11_pray at h
  refine z_aload_n (nx := 1) (a := 0) G rfl (Or.inl rfl) dX11_pray_0 rfl (z_aload_n (nx := 2) (a := 0) G rfl (Or.inl rfl) dX11_pray_1 rfl (b_getA (nx := 5) (k0 := 0) G hB fl_RX11_10 (Nat.le_of_ble_eq_true rfl) (Nat.le_of_ble_eq_true rfl) rfl hp_v0 dX11_pray_2 rfl (b_getA (nx := 8) (k0 := 5) G hB fl_RX11_162 (Nat.le_of_ble_eq_true rfl) (Nat.le_of_ble_eq_true rfl) rfl (sh_11_0 _ hp_v0) dX11_pray_5 rfl (z_iload_n (nx := 9) (a := 1) G rfl dX11_pray_8 rfl (z_iload_n (nx := 10) (a := 2) G rfl dX11_pray_9 rfl (z_iload_n (nx := 11) (a := 3) G rfl dX11_pray_10 rfl (z_iload (nx := 13) (a := 4) G rfl dX11_pray_11 rfl ?_)))))))
  refine b_callV0 (nx := 16) (zs := [v0, am_rfv (am_rfv v0 0) 5, v1, v2, v3, v4]) (as := [(2, am_rfv (am_rfv v0 0) 5), (0, v1), (0, v2), (0, v3), (0, v4)]) X hB (by decide) rfl hp_v0 SS_X11_tryPrayer (am_ta (am_ta (am_ti (am_ti (am_ti (am_ti am_tn)))))) (Nat.le_of_ble_eq_true rfl) (Nat.le_of_ble_eq_true rfl) ml_RX11_197 iw_X11_tryPrayer vw_X11_tryPrayer cw_X11_tryPrayer nw_RX11 pp_X11_tryPrayer (Nat.le_of_ble_eq_true rfl) dX11_pray_13 rfl (NM_X11_tryPrayer hp_v0 (sh_0_5 _ (sh_11_0 _ hp_v0)) h) (fun r_1 m_2 h hB => ?_)
  refine b_storeE (nx := 18) (a := 5) (loc2 := [(2, v0), (0, v1), (0, v2), (0, v3), (0, v4), (0, r_1)]) G rfl (Nat.le_of_ble_eq_true rfl) (am_pl1 rfl (fun h => nomatch h)) dX11_pray_16 rfl (z_iload (nx := 20) (a := 5) G rfl dX11_pray_18 rfl ?_)
  refine z_if_eq (nx := 23) (tgt := 30) G dX11_pray_20 (by decide) rfl (fun c => ?_) (fun c => ?_)
  · have h := h.1 c
    refine z_aload_n (nx := 31) (a := 0) G rfl (Or.inl rfl) dX11_pray_30 rfl (z_iconst (nx := 32) (z := 0) G (R32c rfl) dX11_pray_31 rfl ?_)
    refine b_callV9 (nx := 35) (zs := [v0, 0]) (as := [(0, 0)]) X hB (by decide) rfl hp_v0 SS_X11_noteDeed (am_ta (am_ti am_tn)) (Nat.le_of_ble_eq_true rfl) (Nat.le_of_ble_eq_true rfl) ml_RX11_264 iw_X11_noteDeed vw_X11_noteDeed cw_X11_noteDeed nw_RX11 pp_X11_noteDeed (Nat.le_of_ble_eq_true rfl) dX11_pray_32 rfl (NM_X11_noteDeed hp_v0 h) (fun r_3 m_4 h hB => ?_)
    refine z_aload_n (nx := 36) (a := 0) G rfl (Or.inl rfl) dX11_pray_35 rfl (z_aload_n (nx := 37) (a := 0) G rfl (Or.inl rfl) dX11_pray_36 rfl (b_getA (nx := 40) (k0 := 0) G hB fl_RX11_10 (Nat.le_of_ble_eq_true rfl) (Nat.le_of_ble_eq_true rfl) rfl hp_v0 dX11_pray_37 rfl (b_getA (nx := 43) (k0 := 5) G hB fl_RX11_162 (Nat.le_of_ble_eq_true rfl) (Nat.le_of_ble_eq_true rfl) rfl (sh_11_0 _ hp_v0) dX11_pray_40 rfl (b_getA (nx := 46) (k0 := 0) G hB fl_RX11_267 (Nat.le_of_ble_eq_true rfl) (Nat.le_of_ble_eq_true rfl) rfl (sh_0_5 _ (sh_11_0 _ hp_v0)) dX11_pray_43 rfl (b_getI (nx := 49) (k0 := 2) (t := 0) G fl_RX11_188 (Nat.le_of_ble_eq_true rfl) (Nat.le_of_ble_eq_true rfl) rfl (sh_9_0 _ (sh_0_5 _ (sh_11_0 _ hp_v0))) dX11_pray_46 rfl (z_iconst (nx := 50) (z := 1) G (R32c rfl) dX11_pray_49 rfl (z_isub (nx := 51) G dX11_pray_50 rfl ?_)))))))
    refine b_callV0 (nx := 54) (zs := [v0, w32 ((m_4 (am_rfv (am_rfv (am_rfv v0 0) 5) 0) 2) - 1)]) (as := [(0, w32 ((m_4 (am_rfv (am_rfv (am_rfv v0 0) 5) 0) 2) - 1))]) X hB (by decide) rfl hp_v0 SS_X11_fine (am_ta (am_ti am_tn)) (Nat.le_of_ble_eq_true rfl) (Nat.le_of_ble_eq_true rfl) ml_RX11_132 iw_X11_fine vw_X11_fine cw_X11_fine nw_RX11 pp_X11_fine (Nat.le_of_ble_eq_true rfl) dX11_pray_51 rfl (NM_X11_fine hp_v0 h) (fun r_5 m_6 h hB => ?_)
    exact b_ireturn X hB dX11_pray_54 h
  · have h := h.2 c
    refine z_aload_n (nx := 24) (a := 0) G rfl (Or.inl rfl) dX11_pray_23 rfl (z_iload (nx := 26) (a := 5) G rfl dX11_pray_24 rfl ?_)
    refine b_callV0 (nx := 29) (zs := [v0, r_1]) (as := [(0, r_1)]) X hB (by decide) rfl hp_v0 SS_X11_refuse (am_ta (am_ti am_tn)) (Nat.le_of_ble_eq_true rfl) (Nat.le_of_ble_eq_true rfl) ml_RX11_117 iw_X11_refuse vw_X11_refuse cw_X11_refuse nw_RX11 pp_X11_refuse (Nat.le_of_ble_eq_true rfl) dX11_pray_26 rfl (NM_X11_refuse hp_v0 h) (fun r_7 m_8 h hB => ?_)
    exact b_ireturn X hB dX11_pray_29 h
theorem NM_X11_pray {v0 : Int} {v1 : Int} {v2 : Int} {v3 : Int} {v4 : Int} {K : am_KK} {m : am_M} (hp_v0 : am_ob v0 11) (h : M_X11_pray v0 v1 v2 v3 v4 K m) : N_X11_pray [v0, v1, v2, v3, v4] K m := ⟨hp_v0, h⟩
theorem SS_X11_pray : am_Snd yX11_pray cX11_pray 6 (some .int) 0 6 (am_L [2, 0, 0, 0, 0] 0 N_X11_pray) := by
  refine am_SB (by decide +kernel) (Nat.le_of_ble_eq_true rfl) (fun F zs as K m X ht hB hM => ?_)
  obtain ⟨v0, zs, as, rfl, rfl, hz0, ht⟩ := am_inv ht
  obtain ⟨v1, zs, as, rfl, rfl, hz1, ht⟩ := am_inv ht
  obtain ⟨v2, zs, as, rfl, rfl, hz2, ht⟩ := am_inv ht
  obtain ⟨v3, zs, as, rfl, rfl, hz3, ht⟩ := am_inv ht
  obtain ⟨v4, zs, as, rfl, rfl, hz4, ht⟩ := am_inv ht
  obtain ⟨rfl, rfl⟩ := am_inv0 ht
  obtain ⟨hp_v0, hM⟩ := hM
  exact S_X11_pray X hp_v0 hB hM
set_option maxRecDepth 20000 in
set_option maxHeartbeats 4000000 in
theorem S_X11_at {F : am_F} {K : am_KK} {v0 : Int} {v1 : Int} {v2 : Int} {m : am_M} (X : am_Cx F cX11_at RX11 (some .int) 2 0 K) (hp_v0 : am_ob v0 11) (hB : am_Bt m) (h : M_X11_at v0 v1 v2 K m) : am_Z F 0 [] [(2, v0), (0, v1), (0, v2)] m 200 := by
  have G := X.G
  unfold M_X11_at at h
  refine z_aload_n (nx := 1) (a := 0) G rfl (Or.inl rfl) dX11_at_0 rfl (b_getA (nx := 4) (k0 := 0) G hB fl_RX11_10 (Nat.le_of_ble_eq_true rfl) (Nat.le_of_ble_eq_true rfl) rfl hp_v0 dX11_at_1 rfl (b_getA (nx := 7) (k0 := 5) G hB fl_RX11_162 (Nat.le_of_ble_eq_true rfl) (Nat.le_of_ble_eq_true rfl) rfl (sh_11_0 _ hp_v0) dX11_at_4 rfl (b_getA (nx := 10) (k0 := 0) G hB fl_RX11_267 (Nat.le_of_ble_eq_true rfl) (Nat.le_of_ble_eq_true rfl) rfl (sh_0_5 _ (sh_11_0 _ hp_v0)) dX11_at_7 rfl (z_iload_n (nx := 11) (a := 1) G rfl dX11_at_10 rfl (z_iload_n (nx := 12) (a := 2) G rfl dX11_at_11 rfl ?_)))))
  refine b_callV0 (nx := 15) (zs := [am_rfv (am_rfv (am_rfv v0 0) 5) 0, v1, v2]) (as := [(0, v1), (0, v2)]) X hB (by decide) rfl (sh_9_0 _ (sh_0_5 _ (sh_11_0 _ hp_v0))) SS_X7_get (am_ta (am_ti (am_ti am_tn))) (Nat.le_of_ble_eq_true rfl) (Nat.le_of_ble_eq_true rfl) ml_RX11_135 iw_X7_get vw_X7_get cw_X7_get nw_RX7 pp_X7_get (Nat.le_of_ble_eq_true rfl) dX11_at_12 rfl (NM_X7_get (sh_9_0 _ (sh_0_5 _ (sh_11_0 _ hp_v0))) h) (fun r_1 m_2 h hB => ?_)
  exact b_ireturn X hB dX11_at_15 h
theorem NM_X11_at {v0 : Int} {v1 : Int} {v2 : Int} {K : am_KK} {m : am_M} (hp_v0 : am_ob v0 11) (h : M_X11_at v0 v1 v2 K m) : N_X11_at [v0, v1, v2] K m := ⟨hp_v0, h⟩
theorem SS_X11_at : am_Snd yX11_at cX11_at 3 (some .int) 0 2 (am_L [2, 0, 0] 0 N_X11_at) := by
  refine am_SB (by decide +kernel) (Nat.le_of_ble_eq_true rfl) (fun F zs as K m X ht hB hM => ?_)
  obtain ⟨v0, zs, as, rfl, rfl, hz0, ht⟩ := am_inv ht
  obtain ⟨v1, zs, as, rfl, rfl, hz1, ht⟩ := am_inv ht
  obtain ⟨v2, zs, as, rfl, rfl, hz2, ht⟩ := am_inv ht
  obtain ⟨rfl, rfl⟩ := am_inv0 ht
  obtain ⟨hp_v0, hM⟩ := hM
  exact S_X11_at X hp_v0 hB hM
set_option maxRecDepth 20000 in
set_option maxHeartbeats 4000000 in
theorem S_X11_rank_J1 {F : am_F} {K : am_KK} {m : am_M} (X : am_Cx F cX11_rank RX11 (some .int) 5 0 K) (hB : am_Bt m) (h : M_X11_rank_J1  K m) : am_Z F 23 [] [(9, 0), (9, 0), (9, 0)] m 200 := by
  have G := X.G
  unfold M_X11_rank_J1 at h
  refine z_ldcw (nx := 26) (z := (-1000000)) G (R32c rfl) rfl kw_RX11_273 dX11_rank_23 rfl ?_
  exact b_ireturn X hB dX11_rank_26 h
set_option maxRecDepth 20000 in
set_option maxHeartbeats 4000000 in
theorem S_X11_rank {F : am_F} {K : am_KK} {v0 : Int} {v1 : Int} {v2 : Int} {m : am_M} (X : am_Cx F cX11_rank RX11 (some .int) 5 0 K) (hp_v0 : am_ob v0 11) (hB : am_Bt m) (h : M_X11_rank v0 v1 v2 K m) : am_Z F 0 [] [(2, v0), (0, v1), (0, v2)] m 200 := by
  have G := X.G
  unfold M_X11_rank at h
  refine z_aload_n (nx := 1) (a := 0) G rfl (Or.inl rfl) dX11_rank_0 rfl (b_getA (nx := 4) (k0 := 0) G hB fl_RX11_10 (Nat.le_of_ble_eq_true rfl) (Nat.le_of_ble_eq_true rfl) rfl hp_v0 dX11_rank_1 rfl (b_getA (nx := 7) (k0 := 5) G hB fl_RX11_162 (Nat.le_of_ble_eq_true rfl) (Nat.le_of_ble_eq_true rfl) rfl (sh_11_0 _ hp_v0) dX11_rank_4 rfl (z_iload_n (nx := 8) (a := 1) G rfl dX11_rank_7 rfl ?_)))
  refine b_callV5 (nx := 11) (zs := [am_rfv (am_rfv v0 0) 5, v1]) (as := [(0, v1)]) X hB (by decide) rfl (sh_0_5 _ (sh_11_0 _ hp_v0)) SS_X9_waits (am_ta (am_ti am_tn)) (Nat.le_of_ble_eq_true rfl) (Nat.le_of_ble_eq_true rfl) ml_RX11_270 iw_X9_waits vw_X9_waits cw_X9_waits nw_RX9 pp_X9_waits (Nat.le_of_ble_eq_true rfl) dX11_rank_8 rfl (NM_X9_waits (sh_0_5 _ (sh_11_0 _ hp_v0)) h) (fun r_1 m_2 h h01_3 hB => ?_)
  refine z_if_eq (nx := 14) (tgt := 23) G dX11_rank_11 (by decide) rfl (fun c => ?_) (fun c => ?_)
  · have h := h.1 c
    exact b_fewer (loc2 := [(9, 0), (9, 0), (9, 0)]) (am_lf (am_lf (am_lf am_ln))) (S_X11_rank_J1 X hB h)
  · have h := h.2 c
    refine z_iload_n (nx := 15) (a := 2) G rfl dX11_rank_14 rfl (z_iconst (nx := 16) (z := 0) G (R32c rfl) dX11_rank_15 rfl (z_iconst (nx := 17) (z := 1) G (R32c rfl) dX11_rank_16 rfl ?_))
    refine b_callS5 (nx := 20) (zs := [v2, 0, 1]) (as := [(0, v2), (0, 0), (0, 1)]) X hB SS_X11_within (am_ti (am_ti (am_ti am_tn))) (Nat.le_of_ble_eq_true rfl) (Nat.le_of_ble_eq_true rfl) ml_RX11_113 sw_X11_within (am_plainC 11 (by decide)) cw_X11_within nw_RX11 pp_X11_within (Nat.le_of_ble_eq_true rfl) dX11_rank_17 rfl (NM_X11_within h) (fun r_4 m_5 h h01_6 hB => ?_)
    refine z_if_ne (nx := 23) (tgt := 27) G dX11_rank_20 (by decide) rfl (fun c => ?_) (fun c => ?_)
    · have h := h.1 c
      refine z_aload_n (nx := 28) (a := 0) G rfl (Or.inl rfl) dX11_rank_27 rfl (b_getA (nx := 31) (k0 := 6) G hB fl_RX11_52 (Nat.le_of_ble_eq_true rfl) (Nat.le_of_ble_eq_true rfl) rfl hp_v0 dX11_rank_28 rfl (z_aload_n (nx := 32) (a := 0) G rfl (Or.inl rfl) dX11_rank_31 rfl (b_getA (nx := 35) (k0 := 0) G hB fl_RX11_10 (Nat.le_of_ble_eq_true rfl) (Nat.le_of_ble_eq_true rfl) rfl hp_v0 dX11_rank_32 rfl (z_aload_n (nx := 36) (a := 0) G rfl (Or.inl rfl) dX11_rank_35 rfl (b_getA (nx := 39) (k0 := 0) G hB fl_RX11_10 (Nat.le_of_ble_eq_true rfl) (Nat.le_of_ble_eq_true rfl) rfl hp_v0 dX11_rank_36 rfl (b_getA (nx := 42) (k0 := 5) G hB fl_RX11_162 (Nat.le_of_ble_eq_true rfl) (Nat.le_of_ble_eq_true rfl) rfl (sh_11_0 _ hp_v0) dX11_rank_39 rfl (z_iload_n (nx := 43) (a := 1) G rfl dX11_rank_42 rfl (z_aload_n (nx := 44) (a := 0) G rfl (Or.inl rfl) dX11_rank_43 rfl (b_getA (nx := 47) (k0 := 0) G hB fl_RX11_10 (Nat.le_of_ble_eq_true rfl) (Nat.le_of_ble_eq_true rfl) rfl hp_v0 dX11_rank_44 rfl (b_getA (nx := 50) (k0 := 5) G hB fl_RX11_162 (Nat.le_of_ble_eq_true rfl) (Nat.le_of_ble_eq_true rfl) rfl (sh_11_0 _ hp_v0) dX11_rank_47 rfl (b_getI (nx := 53) (k0 := 1) (t := 0) G fl_RX11_165 (Nat.le_of_ble_eq_true rfl) (Nat.le_of_ble_eq_true rfl) rfl (sh_0_5 _ (sh_11_0 _ hp_v0)) dX11_rank_50 rfl (z_iconst (nx := 54) (z := 1) G (R32c rfl) dX11_rank_53 rfl (z_iadd (nx := 55) G dX11_rank_54 rfl ?_)))))))))))))
      refine b_callV9 (nx := 58) (zs := [am_rfv v0 6, am_rfv v0 0, am_rfv (am_rfv v0 0) 5, v1, w32 ((m_5 (am_rfv (am_rfv v0 0) 5) 1) + 1)]) (as := [(2, am_rfv v0 0), (2, am_rfv (am_rfv v0 0) 5), (0, v1), (0, w32 ((m_5 (am_rfv (am_rfv v0 0) 5) 1) + 1))]) X hB (by decide) rfl (sh_11_6 _ hp_v0) SS_X3_look (am_ta (am_ta (am_ta (am_ti (am_ti am_tn))))) (Nat.le_of_ble_eq_true rfl) (Nat.le_of_ble_eq_true rfl) ml_RX11_274 iw_X3_look vw_X3_look cw_X3_look nw_RX3 pp_X3_look (Nat.le_of_ble_eq_true rfl) dX11_rank_55 rfl (NM_X3_look (sh_11_6 _ hp_v0) (sh_11_0 _ hp_v0) (sh_0_5 _ (sh_11_0 _ hp_v0)) h) (fun r_7 m_8 h hB => ?_)
      refine z_iload_n (nx := 59) (a := 2) G rfl dX11_rank_58 rfl ?_
      refine z_if_ne (nx := 62) (tgt := 76) G dX11_rank_59 (by decide) rfl (fun c => ?_) (fun c => ?_)
      · have h := h.1 c
        refine z_aload_n (nx := 77) (a := 0) G rfl (Or.inl rfl) dX11_rank_76 rfl (b_getA (nx := 80) (k0 := 6) G hB fl_RX11_52 (Nat.le_of_ble_eq_true rfl) (Nat.le_of_ble_eq_true rfl) rfl hp_v0 dX11_rank_77 rfl (z_aload_n (nx := 81) (a := 0) G rfl (Or.inl rfl) dX11_rank_80 rfl (b_getA (nx := 84) (k0 := 0) G hB fl_RX11_10 (Nat.le_of_ble_eq_true rfl) (Nat.le_of_ble_eq_true rfl) rfl hp_v0 dX11_rank_81 rfl (z_iconst (nx := 85) (z := 2) G (R32c rfl) dX11_rank_84 rfl (z_iconst (nx := 86) (z := 0) G (R32c rfl) dX11_rank_85 rfl (z_iconst (nx := 87) (z := 0) G (R32c rfl) dX11_rank_86 rfl (z_iconst (nx := 88) (z := 1) G (R32c rfl) dX11_rank_87 rfl ?_)))))))
        refine b_callV0 (nx := 91) (zs := [am_rfv v0 6, am_rfv v0 0, 2, 0, 0, 1]) (as := [(2, am_rfv v0 0), (0, 2), (0, 0), (0, 0), (0, 1)]) X hB (by decide) rfl (sh_11_6 _ hp_v0) SS_X3_tells (am_ta (am_ta (am_ti (am_ti (am_ti (am_ti am_tn)))))) (Nat.le_of_ble_eq_true rfl) (Nat.le_of_ble_eq_true rfl) ml_RX11_282 iw_X3_tells vw_X3_tells cw_X3_tells nw_RX3 pp_X3_tells (Nat.le_of_ble_eq_true rfl) dX11_rank_88 rfl (NM_X3_tells (sh_11_6 _ hp_v0) (sh_11_0 _ hp_v0) h) (fun r_9 m_10 h hB => ?_)
        exact b_ireturn X hB dX11_rank_91 h
      · have h := h.2 c
        refine z_aload_n (nx := 63) (a := 0) G rfl (Or.inl rfl) dX11_rank_62 rfl (b_getA (nx := 66) (k0 := 6) G hB fl_RX11_52 (Nat.le_of_ble_eq_true rfl) (Nat.le_of_ble_eq_true rfl) rfl hp_v0 dX11_rank_63 rfl (z_aload_n (nx := 67) (a := 0) G rfl (Or.inl rfl) dX11_rank_66 rfl (b_getA (nx := 70) (k0 := 0) G hB fl_RX11_10 (Nat.le_of_ble_eq_true rfl) (Nat.le_of_ble_eq_true rfl) rfl hp_v0 dX11_rank_67 rfl ?_)))
        refine b_callV0 (nx := 73) (zs := [am_rfv v0 6, am_rfv v0 0]) (as := [(2, am_rfv v0 0)]) X hB (by decide) rfl (sh_11_6 _ hp_v0) SS_X3_rankTold (am_ta (am_ta am_tn)) (Nat.le_of_ble_eq_true rfl) (Nat.le_of_ble_eq_true rfl) ml_RX11_278 iw_X3_rankTold vw_X3_rankTold cw_X3_rankTold nw_RX3 pp_X3_rankTold (Nat.le_of_ble_eq_true rfl) dX11_rank_70 rfl (NM_X3_rankTold (sh_11_6 _ hp_v0) (sh_11_0 _ hp_v0) h) (fun r_11 m_12 h hB => ?_)
        refine z_goto (tgt := 91) G dX11_rank_73 (by decide) ?_
        exact b_ireturn X hB dX11_rank_91 h
    · have h := h.2 c
      exact b_fewer (loc2 := [(9, 0), (9, 0), (9, 0)]) (am_lf (am_lf (am_lf am_ln))) (S_X11_rank_J1 X hB h)
theorem NM_X11_rank {v0 : Int} {v1 : Int} {v2 : Int} {K : am_KK} {m : am_M} (hp_v0 : am_ob v0 11) (h : M_X11_rank v0 v1 v2 K m) : N_X11_rank [v0, v1, v2] K m := ⟨hp_v0, h⟩
theorem SS_X11_rank : am_Snd yX11_rank cX11_rank 3 (some .int) 0 5 (am_L [2, 0, 0] 0 N_X11_rank) := by
  refine am_SB (by decide +kernel) (Nat.le_of_ble_eq_true rfl) (fun F zs as K m X ht hB hM => ?_)
  obtain ⟨v0, zs, as, rfl, rfl, hz0, ht⟩ := am_inv ht
  obtain ⟨v1, zs, as, rfl, rfl, hz1, ht⟩ := am_inv ht
  obtain ⟨v2, zs, as, rfl, rfl, hz2, ht⟩ := am_inv ht
  obtain ⟨rfl, rfl⟩ := am_inv0 ht
  obtain ⟨hp_v0, hM⟩ := hM
  exact S_X11_rank X hp_v0 hB hM
set_option maxRecDepth 20000 in
set_option maxHeartbeats 4000000 in
theorem S_X11_order_J1 {F : am_F} {K : am_KK} {v1 : Int} {v2 : Int} {v3 : Int} {m : am_M} (X : am_Cx F cX11_order RX11 (some .int) 6 0 K) (hB : am_Bt m) (h : M_X11_order_J1 v1 v2 v3 K m) : am_Z F 68 [] [(9, 0), (0, v1), (0, v2), (0, v3)] m 200 := by
  have G := X.G
  unfold M_X11_order_J1 at h
  refine z_iload_n (nx := 69) (a := 1) G rfl dX11_order_68 rfl (z_iconst (nx := 70) (z := (-1)) G (R32c rfl) dX11_order_69 rfl ?_)
  refine z_icmp_ne (nx := 73) (tgt := 77) G dX11_order_70 (by decide) rfl (fun c => ?_) (fun c => ?_)
  · have h := h.1 c
    refine z_iload_n (nx := 78) (a := 3) G rfl dX11_order_77 rfl ?_
    exact b_ireturn X hB dX11_order_78 h
  · have h := h.2 c
    refine z_iload_n (nx := 74) (a := 2) G rfl dX11_order_73 rfl (z_goto (tgt := 78) G dX11_order_74 (by decide) ?_)
    exact b_ireturn X hB dX11_order_78 h
set_option maxRecDepth 20000 in
set_option maxHeartbeats 4000000 in
theorem S_X11_order_L1B {F : am_F} {K : am_KK} {v0 : Int} {v1 : Int} {v2 : Int} {C39 : Int → am_M → Prop} {m : am_M} (X : am_Cx F cX11_order RX11 (some .int) 6 0 K) (hp_v0 : am_ob v0 11) (hC39 : ∀ w2 m, C39 w2 m → am_Bt m → am_Z F 39 [] [(2, v0), (0, v1), (0, w2), (9, 0)] m 200) (hB : am_Bt m) (h : M_X11_order_L1B v0 v1 v2 C39 K m) : am_Z F 39 [] [(2, v0), (0, v1), (0, v2), (9, 0)] m 200 := by
  have G := X.G
  unfold M_X11_order_L1B at h
  refine z_iload_n (nx := 40) (a := 2) G rfl dX11_order_39 rfl (z_bipush (nx := 42) (z := 16) G (R32c rfl) rfl dX11_order_40 rfl ?_)
  refine z_icmp_ge (nx := 45) (tgt := 98) G dX11_order_42 (by decide) rfl (fun c => ?_) (fun c => ?_)
  · have h := h.1 c
    refine z_iload_n (nx := 99) (a := 1) G rfl dX11_order_98 rfl (z_iconst (nx := 100) (z := (-1)) G (R32c rfl) dX11_order_99 rfl ?_)
    refine z_icmp_ne (nx := 103) (tgt := 108) G dX11_order_100 (by decide) rfl (fun c => ?_) (fun c => ?_)
    · have h := h.1 c
      refine z_iconst (nx := 109) (z := (-1)) G (R32c rfl) dX11_order_108 rfl ?_
      exact b_ireturn X hB dX11_order_109 h
    · have h := h.2 c
      refine z_bipush (nx := 105) (z := 16) G (R32c rfl) rfl dX11_order_103 rfl (z_goto (tgt := 109) G dX11_order_105 (by decide) ?_)
      exact b_ireturn X hB dX11_order_109 h
  · have h := h.2 c
    refine z_aload_n (nx := 46) (a := 0) G rfl (Or.inl rfl) dX11_order_45 rfl (b_getA (nx := 49) (k0 := 7) G hB fl_RX11_61 (Nat.le_of_ble_eq_true rfl) (Nat.le_of_ble_eq_true rfl) rfl hp_v0 dX11_order_46 rfl (z_aload_n (nx := 50) (a := 0) G rfl (Or.inl rfl) dX11_order_49 rfl (b_getA (nx := 53) (k0 := 8) G hB fl_RX11_68 (Nat.le_of_ble_eq_true rfl) (Nat.le_of_ble_eq_true rfl) rfl hp_v0 dX11_order_50 rfl (z_iconst (nx := 54) (z := 1) G (R32c rfl) dX11_order_53 rfl ?_))))
    refine b_callV0 (nx := 57) (zs := [am_rfv v0 7, am_rfv v0 8, 1]) (as := [(2, am_rfv v0 8), (0, 1)]) X hB (by decide) rfl (sh_11_7 _ hp_v0) SS_X2_lowest (am_ta (am_ta (am_ti am_tn))) (Nat.le_of_ble_eq_true rfl) (Nat.le_of_ble_eq_true rfl) ml_RX11_290 iw_X2_lowest vw_X2_lowest cw_X2_lowest nw_RX2 pp_X2_lowest (Nat.le_of_ble_eq_true rfl) dX11_order_54 rfl (NM_X2_lowest (sh_11_7 _ hp_v0) (sh_11_8 _ hp_v0) h) (fun r_1 m_2 h hB => ?_)
    refine b_storeE_n (nx := 58) (a := 3) (loc2 := [(2, v0), (0, v1), (0, v2), (0, r_1)]) G rfl (Nat.le_of_ble_eq_true rfl) (am_pl1 rfl (fun h => nomatch h)) dX11_order_57 rfl (z_iload_n (nx := 59) (a := 3) G rfl dX11_order_58 rfl (z_iconst (nx := 60) (z := (-1)) G (R32c rfl) dX11_order_59 rfl ?_))
    refine z_icmp_eq (nx := 63) (tgt := 68) G dX11_order_60 (by decide) rfl (fun c => ?_) (fun c => ?_)
    · have h := h.1 c
      exact b_fewer (loc2 := [(9, 0), (0, v1), (0, v2), (0, r_1)]) (am_lf (am_lk (am_lk (am_lk am_ln)))) (S_X11_order_J1 X hB h)
    · have h := h.2 c
      refine z_iload_n (nx := 64) (a := 2) G rfl dX11_order_63 rfl (z_iload_n (nx := 65) (a := 1) G rfl dX11_order_64 rfl ?_)
      refine z_icmp_ne (nx := 68) (tgt := 79) G dX11_order_65 (by decide) rfl (fun c => ?_) (fun c => ?_)
      · have h := h.1 c
        refine z_aload_n (nx := 80) (a := 0) G rfl (Or.inl rfl) dX11_order_79 rfl (b_getA (nx := 83) (k0 := 8) G hB fl_RX11_68 (Nat.le_of_ble_eq_true rfl) (Nat.le_of_ble_eq_true rfl) rfl hp_v0 dX11_order_80 rfl (b_getA (nx := 86) (k0 := 0) G hB fl_RX11_267 (Nat.le_of_ble_eq_true rfl) (Nat.le_of_ble_eq_true rfl) rfl (sh_11_8 _ hp_v0) dX11_order_83 rfl (z_iload_n (nx := 87) (a := 3) G rfl dX11_order_86 rfl (z_iconst (nx := 88) (z := 5) G (R32c rfl) dX11_order_87 rfl (z_iconst (nx := 89) (z := 2) G (R32c rfl) dX11_order_88 rfl ?_)))))
        refine b_callV9 (nx := 92) (zs := [am_rfv (am_rfv v0 8) 0, r_1, 5, 2]) (as := [(0, r_1), (0, 5), (0, 2)]) X hB (by decide) rfl (sh_9_0 _ (sh_11_8 _ hp_v0)) SS_X7_set (am_ta (am_ti (am_ti (am_ti am_tn)))) (Nat.le_of_ble_eq_true rfl) (Nat.le_of_ble_eq_true rfl) ml_RX11_128 iw_X7_set vw_X7_set cw_X7_set nw_RX7 pp_X7_set (Nat.le_of_ble_eq_true rfl) dX11_order_89 rfl (NM_X7_set (sh_9_0 _ (sh_11_8 _ hp_v0)) h) (fun r_3 m_4 h hB => ?_)
        refine b_iinc (nx := 95) (a := 2) (loc2 := fun v2_5 => [(2, v0), (0, v1), (0, v2_5), (0, r_1)]) G (fun _ => rfl) rfl (am_pl1 rfl (fun h => nomatch h)) dX11_order_92 rfl (fun v2_5 e_v2_5 => ?_)
        have h := h v2_5 e_v2_5
        refine z_goto (tgt := 39) G dX11_order_95 (by decide) ?_
        exact b_fewer (loc2 := [(2, v0), (0, v1), (0, v2_5), (9, 0)]) (am_lk (am_lk (am_lk (am_lf am_ln)))) (hC39 _ _ h hB)
      · have h := h.2 c
        exact b_fewer (loc2 := [(9, 0), (0, v1), (0, v2), (0, r_1)]) (am_lf (am_lk (am_lk (am_lk am_ln)))) (S_X11_order_J1 X hB h)
theorem S_X11_order_L1 {F : am_F} {K : am_KK} {v0 : Int} {v1 : Int} {v2 : Int} {m : am_M} (X : am_Cx F cX11_order RX11 (some .int) 6 0 K) (hp_v0 : am_ob v0 11) (hB : am_Bt m) (h : M_X11_order_L1 v0 v1 v2 K m) : am_Z F 39 [] [(2, v0), (0, v1), (0, v2), (9, 0)] m 200 := by
  obtain ⟨I, ⟨j, hj⟩, hI⟩ := h
  have key : ∀ j v2 m, I j v2 m → am_Bt m → am_Z F 39 [] [(2, v0), (0, v1), (0, v2), (9, 0)] m 200 := by
    intro j
    induction j using Nat.strongRecOn with
    | ind j ih =>
      intro v2 m hj hB
      exact S_X11_order_L1B X hp_v0 (fun v2' m' hc hB' => by
        obtain ⟨j', g1, g2⟩ := hc
        exact ih j' g1 v2' m' g2 hB') hB (hI j v2 m hj)
  exact key j _ _ hj hB
set_option maxRecDepth 20000 in
set_option maxHeartbeats 4000000 in
theorem S_X11_order {F : am_F} {K : am_KK} {v0 : Int} {v1 : Int} {m : am_M} (X : am_Cx F cX11_order RX11 (some .int) 6 0 K) (hp_v0 : am_ob v0 11) (hB : am_Bt m) (h : M_X11_order v0 v1 K m) : am_Z F 0 [] [(2, v0), (0, v1), (9, 0), (9, 0)] m 200 := by
  have G := X.G
  unfold M_X11_order at h
  refine z_iload_n (nx := 1) (a := 1) G rfl dX11_order_0 rfl (z_iconst (nx := 2) (z := (-1)) G (R32c rfl) dX11_order_1 rfl ?_)
  refine z_icmp_ge (nx := 5) (tgt := 7) G dX11_order_2 (by decide) rfl (fun c => ?_) (fun c => ?_)
  · have h := h.1 c
    refine z_aload_n (nx := 8) (a := 0) G rfl (Or.inl rfl) dX11_order_7 rfl (b_getA (nx := 11) (k0 := 8) G hB fl_RX11_68 (Nat.le_of_ble_eq_true rfl) (Nat.le_of_ble_eq_true rfl) rfl hp_v0 dX11_order_8 rfl (z_aload_n (nx := 12) (a := 0) G rfl (Or.inl rfl) dX11_order_11 rfl (b_getA (nx := 15) (k0 := 0) G hB fl_RX11_10 (Nat.le_of_ble_eq_true rfl) (Nat.le_of_ble_eq_true rfl) rfl hp_v0 dX11_order_12 rfl (b_getA (nx := 18) (k0 := 5) G hB fl_RX11_162 (Nat.le_of_ble_eq_true rfl) (Nat.le_of_ble_eq_true rfl) rfl (sh_11_0 _ hp_v0) dX11_order_15 rfl ?_))))
    refine b_callV9 (nx := 21) (zs := [am_rfv v0 8, am_rfv (am_rfv v0 0) 5]) (as := [(2, am_rfv (am_rfv v0 0) 5)]) X hB (by decide) rfl (sh_11_8 _ hp_v0) SS_X9_takeFrom (am_ta (am_ta am_tn)) (Nat.le_of_ble_eq_true rfl) (Nat.le_of_ble_eq_true rfl) ml_RX11_216 iw_X9_takeFrom vw_X9_takeFrom cw_X9_takeFrom nw_RX9 pp_X9_takeFrom (Nat.le_of_ble_eq_true rfl) dX11_order_18 rfl (NM_X9_takeFrom (sh_11_8 _ hp_v0) (sh_0_5 _ (sh_11_0 _ hp_v0)) h) (fun r_6 m_7 h hB => ?_)
    refine z_aload_n (nx := 22) (a := 0) G rfl (Or.inl rfl) dX11_order_21 rfl (b_getA (nx := 25) (k0 := 7) G hB fl_RX11_61 (Nat.le_of_ble_eq_true rfl) (Nat.le_of_ble_eq_true rfl) rfl hp_v0 dX11_order_22 rfl (z_aload_n (nx := 26) (a := 0) G rfl (Or.inl rfl) dX11_order_25 rfl (b_getA (nx := 29) (k0 := 0) G hB fl_RX11_10 (Nat.le_of_ble_eq_true rfl) (Nat.le_of_ble_eq_true rfl) rfl hp_v0 dX11_order_26 rfl (z_aload_n (nx := 30) (a := 0) G rfl (Or.inl rfl) dX11_order_29 rfl (b_getA (nx := 33) (k0 := 8) G hB fl_RX11_68 (Nat.le_of_ble_eq_true rfl) (Nat.le_of_ble_eq_true rfl) rfl hp_v0 dX11_order_30 rfl (z_iconst (nx := 34) (z := 1) G (R32c rfl) dX11_order_33 rfl ?_))))))
    refine b_callV9 (nx := 37) (zs := [am_rfv v0 7, am_rfv v0 0, am_rfv v0 8, 1]) (as := [(2, am_rfv v0 0), (2, am_rfv v0 8), (0, 1)]) X hB (by decide) rfl (sh_11_7 _ hp_v0) SS_X2_foreseeAll (am_ta (am_ta (am_ta (am_ti am_tn)))) (Nat.le_of_ble_eq_true rfl) (Nat.le_of_ble_eq_true rfl) ml_RX11_286 iw_X2_foreseeAll vw_X2_foreseeAll cw_X2_foreseeAll nw_RX2 pp_X2_foreseeAll (Nat.le_of_ble_eq_true rfl) dX11_order_34 rfl (NM_X2_foreseeAll (sh_11_7 _ hp_v0) (sh_11_0 _ hp_v0) (sh_11_8 _ hp_v0) h) (fun r_8 m_9 h hB => ?_)
    refine z_iconst (nx := 38) (z := 0) G (R32c rfl) dX11_order_37 rfl (b_storeE_n (nx := 39) (a := 2) (loc2 := [(2, v0), (0, v1), (0, 0), (9, 0)]) G rfl (Nat.le_of_ble_eq_true rfl) (am_pl1 rfl (fun h => nomatch h)) dX11_order_38 rfl ?_)
    exact b_fewer (loc2 := [(2, v0), (0, v1), (0, 0), (9, 0)]) (am_lk (am_lk (am_lk (am_lk am_ln)))) (S_X11_order_L1 X hp_v0 hB h)
  · have h := h.2 c
    refine z_iconst (nx := 6) (z := (-1)) G (R32c rfl) dX11_order_5 rfl ?_
    exact b_ireturn X hB dX11_order_6 h
theorem NM_X11_order {v0 : Int} {v1 : Int} {K : am_KK} {m : am_M} (hp_v0 : am_ob v0 11) (h : M_X11_order v0 v1 K m) : N_X11_order [v0, v1] K m := ⟨hp_v0, h⟩
theorem SS_X11_order : am_Snd yX11_order cX11_order 4 (some .int) 0 6 (am_L [2, 0] 0 N_X11_order) := by
  refine am_SB (by decide +kernel) (Nat.le_of_ble_eq_true rfl) (fun F zs as K m X ht hB hM => ?_)
  obtain ⟨v0, zs, as, rfl, rfl, hz0, ht⟩ := am_inv ht
  obtain ⟨v1, zs, as, rfl, rfl, hz1, ht⟩ := am_inv ht
  obtain ⟨rfl, rfl⟩ := am_inv0 ht
  obtain ⟨hp_v0, hM⟩ := hM
  exact S_X11_order X hp_v0 hB hM
set_option maxRecDepth 20000 in
set_option maxHeartbeats 4000000 in
theorem S_X11_dawn {F : am_F} {K : am_KK} {v0 : Int} {m : am_M} (X : am_Cx F cX11_dawn RX11 (some .int) 7 0 K) (hp_v0 : am_ob v0 11) (hB : am_Bt m) (h : M_X11_dawn v0 K m) : am_Z F 0 [] [(2, v0), (9, 0)] m 200 := by
  have G := X.G
  unfold M_X11_dawn at h
  refine z_aload_n (nx := 1) (a := 0) G rfl (Or.inl rfl) dX11_dawn_0 rfl ?_
  refine b_callV0 (nx := 4) (zs := [v0]) (as := []) X hB (by decide) rfl hp_v0 SS_X11_tryDawn (am_ta am_tn) (Nat.le_of_ble_eq_true rfl) (Nat.le_of_ble_eq_true rfl) ml_RX11_294 iw_X11_tryDawn vw_X11_tryDawn cw_X11_tryDawn nw_RX11 pp_X11_tryDawn (Nat.le_of_ble_eq_true rfl) dX11_dawn_1 rfl (NM_X11_tryDawn hp_v0 h) (fun r_1 m_2 h hB => ?_)
  refine b_storeE_n (nx := 5) (a := 1) (loc2 := [(2, v0), (0, r_1)]) G rfl (Nat.le_of_ble_eq_true rfl) (am_pl1 rfl (fun h => nomatch h)) dX11_dawn_4 rfl (z_iload_n (nx := 6) (a := 1) G rfl dX11_dawn_5 rfl ?_)
  refine z_if_ge (nx := 9) (tgt := 17) G dX11_dawn_6 (by decide) rfl (fun c => ?_) (fun c => ?_)
  · have h := h.1 c
    refine z_aload_n (nx := 18) (a := 0) G rfl (Or.inl rfl) dX11_dawn_17 rfl (z_iload_n (nx := 19) (a := 1) G rfl dX11_dawn_18 rfl ?_)
    refine b_callV0 (nx := 22) (zs := [v0, r_1]) (as := [(0, r_1)]) X hB (by decide) rfl hp_v0 SS_X11_fine (am_ta (am_ti am_tn)) (Nat.le_of_ble_eq_true rfl) (Nat.le_of_ble_eq_true rfl) ml_RX11_132 iw_X11_fine vw_X11_fine cw_X11_fine nw_RX11 pp_X11_fine (Nat.le_of_ble_eq_true rfl) dX11_dawn_19 rfl (NM_X11_fine hp_v0 h) (fun r_3 m_4 h hB => ?_)
    exact b_ireturn X hB dX11_dawn_22 h
  · have h := h.2 c
    refine z_aload_n (nx := 10) (a := 0) G rfl (Or.inl rfl) dX11_dawn_9 rfl (z_iload_n (nx := 11) (a := 1) G rfl dX11_dawn_10 rfl ?_)
    refine b_callV0 (nx := 14) (zs := [v0, r_1]) (as := [(0, r_1)]) X hB (by decide) rfl hp_v0 SS_X11_refuse (am_ta (am_ti am_tn)) (Nat.le_of_ble_eq_true rfl) (Nat.le_of_ble_eq_true rfl) ml_RX11_117 iw_X11_refuse vw_X11_refuse cw_X11_refuse nw_RX11 pp_X11_refuse (Nat.le_of_ble_eq_true rfl) dX11_dawn_11 rfl (NM_X11_refuse hp_v0 h) (fun r_5 m_6 h hB => ?_)
    refine z_goto (tgt := 22) G dX11_dawn_14 (by decide) ?_
    exact b_ireturn X hB dX11_dawn_22 h
theorem NM_X11_dawn {v0 : Int} {K : am_KK} {m : am_M} (hp_v0 : am_ob v0 11) (h : M_X11_dawn v0 K m) : N_X11_dawn [v0] K m := ⟨hp_v0, h⟩
theorem SS_X11_dawn : am_Snd yX11_dawn cX11_dawn 2 (some .int) 0 7 (am_L [2] 0 N_X11_dawn) := by
  refine am_SB (by decide +kernel) (Nat.le_of_ble_eq_true rfl) (fun F zs as K m X ht hB hM => ?_)
  obtain ⟨v0, zs, as, rfl, rfl, hz0, ht⟩ := am_inv ht
  obtain ⟨rfl, rfl⟩ := am_inv0 ht
  obtain ⟨hp_v0, hM⟩ := hM
  exact S_X11_dawn X hp_v0 hB hM
set_option maxRecDepth 20000 in
set_option maxHeartbeats 4000000 in
theorem S_X11_undo {F : am_F} {K : am_KK} {v0 : Int} {m : am_M} (X : am_Cx F cX11_undo RX11 (some .int) 3 0 K) (hp_v0 : am_ob v0 11) (hB : am_Bt m) (h : M_X11_undo v0 K m) : am_Z F 0 [] [(2, v0), (9, 0)] m 200 := by
  have G := X.G
  unfold M_X11_undo at h
  refine z_aload_n (nx := 1) (a := 0) G rfl (Or.inl rfl) dX11_undo_0 rfl (b_getA (nx := 4) (k0 := 10) G hB fl_RX11_75 (Nat.le_of_ble_eq_true rfl) (Nat.le_of_ble_eq_true rfl) rfl hp_v0 dX11_undo_1 rfl (b_getI (nx := 7) (k0 := 2) (t := 0) G fl_RX11_188 (Nat.le_of_ble_eq_true rfl) (Nat.le_of_ble_eq_true rfl) rfl (sh_11_10 _ hp_v0) dX11_undo_4 rfl ?_))
  refine z_if_ne (nx := 10) (tgt := 17) G dX11_undo_7 (by decide) rfl (fun c => ?_) (fun c => ?_)
  · have h := h.1 c
    refine z_aload_n (nx := 18) (a := 0) G rfl (Or.inl rfl) dX11_undo_17 rfl (b_getA (nx := 21) (k0 := 10) G hB fl_RX11_75 (Nat.le_of_ble_eq_true rfl) (Nat.le_of_ble_eq_true rfl) rfl hp_v0 dX11_undo_18 rfl (z_aload_n (nx := 22) (a := 0) G rfl (Or.inl rfl) dX11_undo_21 rfl (b_getA (nx := 25) (k0 := 10) G hB fl_RX11_75 (Nat.le_of_ble_eq_true rfl) (Nat.le_of_ble_eq_true rfl) rfl hp_v0 dX11_undo_22 rfl (b_getI (nx := 28) (k0 := 2) (t := 0) G fl_RX11_188 (Nat.le_of_ble_eq_true rfl) (Nat.le_of_ble_eq_true rfl) rfl (sh_11_10 _ hp_v0) dX11_undo_25 rfl (z_iconst (nx := 29) (z := 1) G (R32c rfl) dX11_undo_28 rfl (z_isub (nx := 30) G dX11_undo_29 rfl (z_iconst (nx := 31) (z := 0) G (R32c rfl) dX11_undo_30 rfl ?_)))))))
    refine b_callV0 (nx := 34) (zs := [am_rfv v0 10, w32 ((m (am_rfv v0 10) 2) - 1), 0]) (as := [(0, w32 ((m (am_rfv v0 10) 2) - 1)), (0, 0)]) X hB (by decide) rfl (sh_11_10 _ hp_v0) SS_X7_get (am_ta (am_ti (am_ti am_tn))) (Nat.le_of_ble_eq_true rfl) (Nat.le_of_ble_eq_true rfl) ml_RX11_135 iw_X7_get vw_X7_get cw_X7_get nw_RX7 pp_X7_get (Nat.le_of_ble_eq_true rfl) dX11_undo_31 rfl (NM_X7_get (sh_11_10 _ hp_v0) h) (fun r_1 m_2 h hB => ?_)
    refine b_storeE_n (nx := 35) (a := 1) (loc2 := [(2, v0), (0, r_1)]) G rfl (Nat.le_of_ble_eq_true rfl) (am_pl1 rfl (fun h => nomatch h)) dX11_undo_34 rfl (z_aload_n (nx := 36) (a := 0) G rfl (Or.inl rfl) dX11_undo_35 rfl (b_getA (nx := 39) (k0 := 10) G hB fl_RX11_75 (Nat.le_of_ble_eq_true rfl) (Nat.le_of_ble_eq_true rfl) rfl hp_v0 dX11_undo_36 rfl (z_aload_n (nx := 40) (a := 0) G rfl (Or.inl rfl) dX11_undo_39 rfl (b_getA (nx := 43) (k0 := 10) G hB fl_RX11_75 (Nat.le_of_ble_eq_true rfl) (Nat.le_of_ble_eq_true rfl) rfl hp_v0 dX11_undo_40 rfl (b_getI (nx := 46) (k0 := 2) (t := 0) G fl_RX11_188 (Nat.le_of_ble_eq_true rfl) (Nat.le_of_ble_eq_true rfl) rfl (sh_11_10 _ hp_v0) dX11_undo_43 rfl (z_iconst (nx := 47) (z := 1) G (R32c rfl) dX11_undo_46 rfl (z_isub (nx := 48) G dX11_undo_47 rfl ?_)))))))
    refine b_callV9 (nx := 51) (zs := [am_rfv v0 10, w32 ((m_2 (am_rfv v0 10) 2) - 1)]) (as := [(0, w32 ((m_2 (am_rfv v0 10) 2) - 1))]) X hB (by decide) rfl (sh_11_10 _ hp_v0) SS_X7_cut (am_ta (am_ti am_tn)) (Nat.le_of_ble_eq_true rfl) (Nat.le_of_ble_eq_true rfl) ml_RX11_184 iw_X7_cut vw_X7_cut cw_X7_cut nw_RX7 pp_X7_cut (Nat.le_of_ble_eq_true rfl) dX11_undo_48 rfl (NM_X7_cut (sh_11_10 _ hp_v0) h) (fun r_3 m_4 h hB => ?_)
    refine z_iload_n (nx := 52) (a := 1) G rfl dX11_undo_51 rfl ?_
    refine z_if_ne (nx := 55) (tgt := 89) G dX11_undo_52 (by decide) rfl (fun c => ?_) (fun c => ?_)
    · have h := h.1 c
      refine z_aload_n (nx := 90) (a := 0) G rfl (Or.inl rfl) dX11_undo_89 rfl (b_getA (nx := 93) (k0 := 0) G hB fl_RX11_10 (Nat.le_of_ble_eq_true rfl) (Nat.le_of_ble_eq_true rfl) rfl hp_v0 dX11_undo_90 rfl (b_getA (nx := 96) (k0 := 5) G hB fl_RX11_162 (Nat.le_of_ble_eq_true rfl) (Nat.le_of_ble_eq_true rfl) rfl (sh_11_0 _ hp_v0) dX11_undo_93 rfl (z_iload_n (nx := 97) (a := 1) G rfl dX11_undo_96 rfl (z_iconst (nx := 98) (z := 1) G (R32c rfl) dX11_undo_97 rfl (z_ishr (nx := 99) G dX11_undo_98 rfl ?_)))))
      refine b_callV9 (nx := 102) (zs := [am_rfv (am_rfv v0 0) 5, am_shr r_1 1]) (as := [(0, am_shr r_1 1)]) X hB (by decide) rfl (sh_0_5 _ (sh_11_0 _ hp_v0)) SS_X9_takeBackDawn (am_ta (am_ti am_tn)) (Nat.le_of_ble_eq_true rfl) (Nat.le_of_ble_eq_true rfl) ml_RX11_297 iw_X9_takeBackDawn vw_X9_takeBackDawn cw_X9_takeBackDawn nw_RX9 pp_X9_takeBackDawn (Nat.le_of_ble_eq_true rfl) dX11_undo_99 rfl (NM_X9_takeBackDawn (sh_0_5 _ (sh_11_0 _ hp_v0)) h) (fun r_5 m_6 h hB => ?_)
      refine z_aload_n (nx := 103) (a := 0) G rfl (Or.inl rfl) dX11_undo_102 rfl (z_iconst (nx := 104) (z := 1) G (R32c rfl) dX11_undo_103 rfl ?_)
      refine b_callV0 (nx := 107) (zs := [v0, 1]) (as := [(0, 1)]) X hB (by decide) rfl hp_v0 SS_X11_fine (am_ta (am_ti am_tn)) (Nat.le_of_ble_eq_true rfl) (Nat.le_of_ble_eq_true rfl) ml_RX11_132 iw_X11_fine vw_X11_fine cw_X11_fine nw_RX11 pp_X11_fine (Nat.le_of_ble_eq_true rfl) dX11_undo_104 rfl (NM_X11_fine hp_v0 h) (fun r_7 m_8 h hB => ?_)
      exact b_ireturn X hB dX11_undo_107 h
    · have h := h.2 c
      refine z_aload_n (nx := 56) (a := 0) G rfl (Or.inl rfl) dX11_undo_55 rfl (b_getA (nx := 59) (k0 := 0) G hB fl_RX11_10 (Nat.le_of_ble_eq_true rfl) (Nat.le_of_ble_eq_true rfl) rfl hp_v0 dX11_undo_56 rfl (b_getA (nx := 62) (k0 := 5) G hB fl_RX11_162 (Nat.le_of_ble_eq_true rfl) (Nat.le_of_ble_eq_true rfl) rfl (sh_11_0 _ hp_v0) dX11_undo_59 rfl (b_getA (nx := 65) (k0 := 0) G hB fl_RX11_267 (Nat.le_of_ble_eq_true rfl) (Nat.le_of_ble_eq_true rfl) rfl (sh_0_5 _ (sh_11_0 _ hp_v0)) dX11_undo_62 rfl (z_aload_n (nx := 66) (a := 0) G rfl (Or.inl rfl) dX11_undo_65 rfl (b_getA (nx := 69) (k0 := 0) G hB fl_RX11_10 (Nat.le_of_ble_eq_true rfl) (Nat.le_of_ble_eq_true rfl) rfl hp_v0 dX11_undo_66 rfl (b_getA (nx := 72) (k0 := 5) G hB fl_RX11_162 (Nat.le_of_ble_eq_true rfl) (Nat.le_of_ble_eq_true rfl) rfl (sh_11_0 _ hp_v0) dX11_undo_69 rfl (b_getA (nx := 75) (k0 := 0) G hB fl_RX11_267 (Nat.le_of_ble_eq_true rfl) (Nat.le_of_ble_eq_true rfl) rfl (sh_0_5 _ (sh_11_0 _ hp_v0)) dX11_undo_72 rfl (b_getI (nx := 78) (k0 := 2) (t := 0) G fl_RX11_188 (Nat.le_of_ble_eq_true rfl) (Nat.le_of_ble_eq_true rfl) rfl (sh_9_0 _ (sh_0_5 _ (sh_11_0 _ hp_v0))) dX11_undo_75 rfl (z_iconst (nx := 79) (z := 1) G (R32c rfl) dX11_undo_78 rfl (z_isub (nx := 80) G dX11_undo_79 rfl ?_))))))))))
      refine b_callV9 (nx := 83) (zs := [am_rfv (am_rfv (am_rfv v0 0) 5) 0, w32 ((m_4 (am_rfv (am_rfv (am_rfv v0 0) 5) 0) 2) - 1)]) (as := [(0, w32 ((m_4 (am_rfv (am_rfv (am_rfv v0 0) 5) 0) 2) - 1))]) X hB (by decide) rfl (sh_9_0 _ (sh_0_5 _ (sh_11_0 _ hp_v0))) SS_X7_cut (am_ta (am_ti am_tn)) (Nat.le_of_ble_eq_true rfl) (Nat.le_of_ble_eq_true rfl) ml_RX11_184 iw_X7_cut vw_X7_cut cw_X7_cut nw_RX7 pp_X7_cut (Nat.le_of_ble_eq_true rfl) dX11_undo_80 rfl (NM_X7_cut (sh_9_0 _ (sh_0_5 _ (sh_11_0 _ hp_v0))) h) (fun r_9 m_10 h hB => ?_)
      refine z_aload_n (nx := 84) (a := 0) G rfl (Or.inl rfl) dX11_undo_83 rfl (z_iconst (nx := 85) (z := 0) G (R32c rfl) dX11_undo_84 rfl ?_)
      refine b_callV0 (nx := 88) (zs := [v0, 0]) (as := [(0, 0)]) X hB (by decide) rfl hp_v0 SS_X11_fine (am_ta (am_ti am_tn)) (Nat.le_of_ble_eq_true rfl) (Nat.le_of_ble_eq_true rfl) ml_RX11_132 iw_X11_fine vw_X11_fine cw_X11_fine nw_RX11 pp_X11_fine (Nat.le_of_ble_eq_true rfl) dX11_undo_85 rfl (NM_X11_fine hp_v0 h) (fun r_11 m_12 h hB => ?_)
      exact b_ireturn X hB dX11_undo_88 h
  · have h := h.2 c
    refine z_aload_n (nx := 11) (a := 0) G rfl (Or.inl rfl) dX11_undo_10 rfl (z_bipush (nx := 13) (z := (-3)) G (R32c rfl) rfl dX11_undo_11 rfl ?_)
    refine b_callV0 (nx := 16) (zs := [v0, (-3)]) (as := [(0, (-3))]) X hB (by decide) rfl hp_v0 SS_X11_refuse (am_ta (am_ti am_tn)) (Nat.le_of_ble_eq_true rfl) (Nat.le_of_ble_eq_true rfl) ml_RX11_117 iw_X11_refuse vw_X11_refuse cw_X11_refuse nw_RX11 pp_X11_refuse (Nat.le_of_ble_eq_true rfl) dX11_undo_13 rfl (NM_X11_refuse hp_v0 h) (fun r_13 m_14 h hB => ?_)
    exact b_ireturn X hB dX11_undo_16 h
theorem NM_X11_undo {v0 : Int} {K : am_KK} {m : am_M} (hp_v0 : am_ob v0 11) (h : M_X11_undo v0 K m) : N_X11_undo [v0] K m := ⟨hp_v0, h⟩
theorem SS_X11_undo : am_Snd yX11_undo cX11_undo 2 (some .int) 0 3 (am_L [2] 0 N_X11_undo) := by
  refine am_SB (by decide +kernel) (Nat.le_of_ble_eq_true rfl) (fun F zs as K m X ht hB hM => ?_)
  obtain ⟨v0, zs, as, rfl, rfl, hz0, ht⟩ := am_inv ht
  obtain ⟨rfl, rfl⟩ := am_inv0 ht
  obtain ⟨hp_v0, hM⟩ := hM
  exact S_X11_undo X hp_v0 hB hM
set_option maxRecDepth 20000 in
set_option maxHeartbeats 4000000 in
theorem S_X11_sweep {F : am_F} {K : am_KK} {v0 : Int} {m : am_M} (X : am_Cx F cX11_sweep RX11 (some .int) 4 0 K) (hp_v0 : am_ob v0 11) (hB : am_Bt m) (h : M_X11_sweep v0 K m) : am_Z F 0 [] [(2, v0)] m 200 := by
  have G := X.G
  unfold M_X11_sweep at h
  refine z_aload_n (nx := 1) (a := 0) G rfl (Or.inl rfl) dX11_sweep_0 rfl (b_getA (nx := 4) (k0 := 10) G hB fl_RX11_75 (Nat.le_of_ble_eq_true rfl) (Nat.le_of_ble_eq_true rfl) rfl hp_v0 dX11_sweep_1 rfl (z_iconst (nx := 5) (z := 0) G (R32c rfl) dX11_sweep_4 rfl ?_))
  refine b_callV9 (nx := 8) (zs := [am_rfv v0 10, 0]) (as := [(0, 0)]) X hB (by decide) rfl (sh_11_10 _ hp_v0) SS_X7_cut (am_ta (am_ti am_tn)) (Nat.le_of_ble_eq_true rfl) (Nat.le_of_ble_eq_true rfl) ml_RX11_184 iw_X7_cut vw_X7_cut cw_X7_cut nw_RX7 pp_X7_cut (Nat.le_of_ble_eq_true rfl) dX11_sweep_5 rfl (NM_X7_cut (sh_11_10 _ hp_v0) h) (fun r_1 m_2 h hB => ?_)
  refine z_aload_n (nx := 9) (a := 0) G rfl (Or.inl rfl) dX11_sweep_8 rfl (b_getA (nx := 12) (k0 := 0) G hB fl_RX11_10 (Nat.le_of_ble_eq_true rfl) (Nat.le_of_ble_eq_true rfl) rfl hp_v0 dX11_sweep_9 rfl (b_getA (nx := 15) (k0 := 5) G hB fl_RX11_162 (Nat.le_of_ble_eq_true rfl) (Nat.le_of_ble_eq_true rfl) rfl (sh_11_0 _ hp_v0) dX11_sweep_12 rfl ?_))
  refine b_callV0 (nx := 18) (zs := [am_rfv (am_rfv v0 0) 5]) (as := []) X hB (by decide) rfl (sh_0_5 _ (sh_11_0 _ hp_v0)) SS_X9_dropHeard (am_ta am_tn) (Nat.le_of_ble_eq_true rfl) (Nat.le_of_ble_eq_true rfl) ml_RX11_300 iw_X9_dropHeard vw_X9_dropHeard cw_X9_dropHeard nw_RX9 pp_X9_dropHeard (Nat.le_of_ble_eq_true rfl) dX11_sweep_15 rfl (NM_X9_dropHeard (sh_0_5 _ (sh_11_0 _ hp_v0)) h) (fun r_3 m_4 h hB => ?_)
  exact b_ireturn X hB dX11_sweep_18 h
theorem NM_X11_sweep {v0 : Int} {K : am_KK} {m : am_M} (hp_v0 : am_ob v0 11) (h : M_X11_sweep v0 K m) : N_X11_sweep [v0] K m := ⟨hp_v0, h⟩
theorem SS_X11_sweep : am_Snd yX11_sweep cX11_sweep 1 (some .int) 0 4 (am_L [2] 0 N_X11_sweep) := by
  refine am_SB (by decide +kernel) (Nat.le_of_ble_eq_true rfl) (fun F zs as K m X ht hB hM => ?_)
  obtain ⟨v0, zs, as, rfl, rfl, hz0, ht⟩ := am_inv ht
  obtain ⟨rfl, rfl⟩ := am_inv0 ht
  obtain ⟨hp_v0, hM⟩ := hM
  exact S_X11_sweep X hp_v0 hB hM
set_option maxRecDepth 20000 in
set_option maxHeartbeats 4000000 in
theorem S_X11_code {F : am_F} {K : am_KK} {v0 : Int} {v1 : Int} {v2 : Int} {m : am_M} (X : am_Cx F cX11_code RX11 (some .int) 6 0 K) (hp_v0 : am_ob v0 11) (hB : am_Bt m) (h : M_X11_code v0 v1 v2 K m) : am_Z F 0 [] [(2, v0), (0, v1), (0, v2)] m 200 := by
  have G := X.G
  unfold M_X11_code at h
  refine z_iload_n (nx := 1) (a := 2) G rfl dX11_code_0 rfl (z_iconst (nx := 2) (z := 0) G (R32c rfl) dX11_code_1 rfl (z_bipush (nx := 4) (z := 8) G (R32c rfl) rfl dX11_code_2 rfl ?_))
  refine b_callS5 (nx := 7) (zs := [v2, 0, 8]) (as := [(0, v2), (0, 0), (0, 8)]) X hB SS_X11_within (am_ti (am_ti (am_ti am_tn))) (Nat.le_of_ble_eq_true rfl) (Nat.le_of_ble_eq_true rfl) ml_RX11_113 sw_X11_within (am_plainC 11 (by decide)) cw_X11_within nw_RX11 pp_X11_within (Nat.le_of_ble_eq_true rfl) dX11_code_4 rfl (NM_X11_within h) (fun r_1 m_2 h h01_3 hB => ?_)
  refine z_if_eq (nx := 10) (tgt := 25) G dX11_code_7 (by decide) rfl (fun c => ?_) (fun c => ?_)
  · have h := h.1 c
    refine z_iconst (nx := 26) (z := (-1)) G (R32c rfl) dX11_code_25 rfl ?_
    exact b_ireturn X hB dX11_code_26 h
  · have h := h.2 c
    refine z_aload_n (nx := 11) (a := 0) G rfl (Or.inl rfl) dX11_code_10 rfl (b_getA (nx := 14) (k0 := 13) G hB fl_RX11_91 (Nat.le_of_ble_eq_true rfl) (Nat.le_of_ble_eq_true rfl) rfl hp_v0 dX11_code_11 rfl (z_aload_n (nx := 15) (a := 0) G rfl (Or.inl rfl) dX11_code_14 rfl (b_getA (nx := 18) (k0 := 0) G hB fl_RX11_10 (Nat.le_of_ble_eq_true rfl) (Nat.le_of_ble_eq_true rfl) rfl hp_v0 dX11_code_15 rfl (z_iload_n (nx := 19) (a := 1) G rfl dX11_code_18 rfl ?_))))
    refine b_callV5 (nx := 22) (zs := [am_rfv v0 13, am_rfv v0 0, v1]) (as := [(2, am_rfv v0 0), (0, v1)]) X hB (by decide) rfl (sh_11_13 _ hp_v0) SS_X1_find (am_ta (am_ta (am_ti am_tn))) (Nat.le_of_ble_eq_true rfl) (Nat.le_of_ble_eq_true rfl) ml_RX11_303 iw_X1_find vw_X1_find cw_X1_find nw_RX1 pp_X1_find (Nat.le_of_ble_eq_true rfl) dX11_code_19 rfl (NM_X1_find (sh_11_13 _ hp_v0) (sh_11_0 _ hp_v0) h) (fun r_4 m_5 h h01_6 hB => ?_)
    refine z_if_ne (nx := 25) (tgt := 27) G dX11_code_22 (by decide) rfl (fun c => ?_) (fun c => ?_)
    · have h := h.1 c
      refine z_iload_n (nx := 28) (a := 2) G rfl dX11_code_27 rfl ?_
      refine z_if_ne (nx := 31) (tgt := 41) G dX11_code_28 (by decide) rfl (fun c => ?_) (fun c => ?_)
      · have h := h.1 c
        refine z_aload_n (nx := 42) (a := 0) G rfl (Or.inl rfl) dX11_code_41 rfl (b_getA (nx := 45) (k0 := 13) G hB fl_RX11_91 (Nat.le_of_ble_eq_true rfl) (Nat.le_of_ble_eq_true rfl) rfl hp_v0 dX11_code_42 rfl (z_iload_n (nx := 46) (a := 2) G rfl dX11_code_45 rfl (z_iconst (nx := 47) (z := 1) G (R32c rfl) dX11_code_46 rfl (z_isub (nx := 48) G dX11_code_47 rfl ?_))))
        refine b_callV0 (nx := 51) (zs := [am_rfv v0 13, w32 (v2 - 1)]) (as := [(0, w32 (v2 - 1))]) X hB (by decide) rfl (sh_11_13 _ hp_v0) SS_X1_lengthFor (am_ta (am_ti am_tn)) (Nat.le_of_ble_eq_true rfl) (Nat.le_of_ble_eq_true rfl) ml_RX11_309 iw_X1_lengthFor vw_X1_lengthFor cw_X1_lengthFor nw_RX1 pp_X1_lengthFor (Nat.le_of_ble_eq_true rfl) dX11_code_48 rfl (NM_X1_lengthFor (sh_11_13 _ hp_v0) h) (fun r_7 m_8 h hB => ?_)
        exact b_ireturn X hB dX11_code_51 h
      · have h := h.2 c
        refine z_aload_n (nx := 32) (a := 0) G rfl (Or.inl rfl) dX11_code_31 rfl (b_getA (nx := 35) (k0 := 13) G hB fl_RX11_91 (Nat.le_of_ble_eq_true rfl) (Nat.le_of_ble_eq_true rfl) rfl hp_v0 dX11_code_32 rfl ?_)
        refine b_callV0 (nx := 38) (zs := [am_rfv v0 13]) (as := []) X hB (by decide) rfl (sh_11_13 _ hp_v0) SS_X1_total (am_ta am_tn) (Nat.le_of_ble_eq_true rfl) (Nat.le_of_ble_eq_true rfl) ml_RX11_306 iw_X1_total vw_X1_total cw_X1_total nw_RX1 pp_X1_total (Nat.le_of_ble_eq_true rfl) dX11_code_35 rfl (NM_X1_total (sh_11_13 _ hp_v0) h) (fun r_9 m_10 h hB => ?_)
        refine z_goto (tgt := 51) G dX11_code_38 (by decide) ?_
        exact b_ireturn X hB dX11_code_51 h
    · have h := h.2 c
      refine z_iconst (nx := 26) (z := (-1)) G (R32c rfl) dX11_code_25 rfl ?_
      exact b_ireturn X hB dX11_code_26 h
theorem NM_X11_code {v0 : Int} {v1 : Int} {v2 : Int} {K : am_KK} {m : am_M} (hp_v0 : am_ob v0 11) (h : M_X11_code v0 v1 v2 K m) : N_X11_code [v0, v1, v2] K m := ⟨hp_v0, h⟩
theorem SS_X11_code : am_Snd yX11_code cX11_code 3 (some .int) 0 6 (am_L [2, 0, 0] 0 N_X11_code) := by
  refine am_SB (by decide +kernel) (Nat.le_of_ble_eq_true rfl) (fun F zs as K m X ht hB hM => ?_)
  obtain ⟨v0, zs, as, rfl, rfl, hz0, ht⟩ := am_inv ht
  obtain ⟨v1, zs, as, rfl, rfl, hz1, ht⟩ := am_inv ht
  obtain ⟨v2, zs, as, rfl, rfl, hz2, ht⟩ := am_inv ht
  obtain ⟨rfl, rfl⟩ := am_inv0 ht
  obtain ⟨hp_v0, hM⟩ := hM
  exact S_X11_code X hp_v0 hB hM
set_option maxRecDepth 20000 in
set_option maxHeartbeats 4000000 in
theorem S_X11_bundle_J1 {F : am_F} {K : am_KK} {v0 : Int} {m : am_M} (X : am_Cx F cX11_bundle RX11 (some .int) 3 0 K) (hp_v0 : am_ob v0 11) (hB : am_Bt m) (h : M_X11_bundle_J1 v0 K m) : am_Z F 21 [] [(2, v0), (9, 0), (9, 0), (9, 0)] m 200 := by
  have G := X.G
  unfold M_X11_bundle_J1 at h
  refine z_aload_n (nx := 22) (a := 0) G rfl (Or.inl rfl) dX11_bundle_21 rfl (z_iconst (nx := 23) (z := (-1)) G (R32c rfl) dX11_bundle_22 rfl ?_)
  refine b_callV0 (nx := 26) (zs := [v0, (-1)]) (as := [(0, (-1))]) X hB (by decide) rfl hp_v0 SS_X11_refuse (am_ta (am_ti am_tn)) (Nat.le_of_ble_eq_true rfl) (Nat.le_of_ble_eq_true rfl) ml_RX11_117 iw_X11_refuse vw_X11_refuse cw_X11_refuse nw_RX11 pp_X11_refuse (Nat.le_of_ble_eq_true rfl) dX11_bundle_23 rfl (NM_X11_refuse hp_v0 h) (fun r_1 m_2 h hB => ?_)
  exact b_ireturn X hB dX11_bundle_26 h
set_option maxRecDepth 20000 in
set_option maxHeartbeats 4000000 in
theorem S_X11_bundle {F : am_F} {K : am_KK} {v0 : Int} {v1 : Int} {v2 : Int} {m : am_M} (X : am_Cx F cX11_bundle RX11 (some .int) 3 0 K) (hp_v0 : am_ob v0 11) (hB : am_Bt m) (h : M_X11_bundle v0 v1 v2 K m) : am_Z F 0 [] [(2, v0), (0, v1), (0, v2), (9, 0)] m 200 := by
  have G := X.G
  unfold M_X11_bundle at h
  refine z_iload_n (nx := 1) (a := 1) G rfl dX11_bundle_0 rfl (z_iconst (nx := 2) (z := 1) G (R32c rfl) dX11_bundle_1 rfl (z_sipush (nx := 5) (z := 255) G (R32c rfl) rfl dX11_bundle_2 rfl ?_))
  refine b_callS5 (nx := 8) (zs := [v1, 1, 255]) (as := [(0, v1), (0, 1), (0, 255)]) X hB SS_X11_within (am_ti (am_ti (am_ti am_tn))) (Nat.le_of_ble_eq_true rfl) (Nat.le_of_ble_eq_true rfl) ml_RX11_113 sw_X11_within (am_plainC 11 (by decide)) cw_X11_within nw_RX11 pp_X11_within (Nat.le_of_ble_eq_true rfl) dX11_bundle_5 rfl (NM_X11_within h) (fun r_3 m_4 h h01_5 hB => ?_)
  refine z_if_eq (nx := 11) (tgt := 21) G dX11_bundle_8 (by decide) rfl (fun c => ?_) (fun c => ?_)
  · have h := h.1 c
    exact b_fewer (loc2 := [(2, v0), (9, 0), (9, 0), (9, 0)]) (am_lk (am_lf (am_lf (am_lk am_ln)))) (S_X11_bundle_J1 X hp_v0 hB h)
  · have h := h.2 c
    refine z_iload_n (nx := 12) (a := 2) G rfl dX11_bundle_11 rfl (z_iconst (nx := 13) (z := 1) G (R32c rfl) dX11_bundle_12 rfl (z_bipush (nx := 15) (z := 99) G (R32c rfl) rfl dX11_bundle_13 rfl ?_))
    refine b_callS5 (nx := 18) (zs := [v2, 1, 99]) (as := [(0, v2), (0, 1), (0, 99)]) X hB SS_X11_within (am_ti (am_ti (am_ti am_tn))) (Nat.le_of_ble_eq_true rfl) (Nat.le_of_ble_eq_true rfl) ml_RX11_113 sw_X11_within (am_plainC 11 (by decide)) cw_X11_within nw_RX11 pp_X11_within (Nat.le_of_ble_eq_true rfl) dX11_bundle_15 rfl (NM_X11_within h) (fun r_6 m_7 h h01_8 hB => ?_)
    refine z_if_ne (nx := 21) (tgt := 27) G dX11_bundle_18 (by decide) rfl (fun c => ?_) (fun c => ?_)
    · have h := h.1 c
      refine z_aload_n (nx := 28) (a := 0) G rfl (Or.inl rfl) dX11_bundle_27 rfl (b_getA (nx := 31) (k0 := 0) G hB fl_RX11_10 (Nat.le_of_ble_eq_true rfl) (Nat.le_of_ble_eq_true rfl) rfl hp_v0 dX11_bundle_28 rfl (b_getA (nx := 34) (k0 := 3) G hB fl_RX11_310 (Nat.le_of_ble_eq_true rfl) (Nat.le_of_ble_eq_true rfl) rfl (sh_11_0 _ hp_v0) dX11_bundle_31 rfl ?_))
      refine b_callV0 (nx := 37) (zs := [am_rfv (am_rfv v0 0) 3]) (as := []) X hB (by decide) rfl (sh_0_3 _ (sh_11_0 _ hp_v0)) SS_X7_open (am_ta am_tn) (Nat.le_of_ble_eq_true rfl) (Nat.le_of_ble_eq_true rfl) ml_RX11_124 iw_X7_open vw_X7_open cw_X7_open nw_RX7 pp_X7_open (Nat.le_of_ble_eq_true rfl) dX11_bundle_34 rfl (NM_X7_open (sh_0_3 _ (sh_11_0 _ hp_v0)) h) (fun r_9 m_10 h hB => ?_)
      refine b_storeE_n (nx := 38) (a := 3) (loc2 := [(2, v0), (0, v1), (0, v2), (0, r_9)]) G rfl (Nat.le_of_ble_eq_true rfl) (am_pl1 rfl (fun h => nomatch h)) dX11_bundle_37 rfl (z_iload_n (nx := 39) (a := 3) G rfl dX11_bundle_38 rfl (z_iconst (nx := 40) (z := (-1)) G (R32c rfl) dX11_bundle_39 rfl ?_))
      refine z_icmp_ne (nx := 43) (tgt := 50) G dX11_bundle_40 (by decide) rfl (fun c => ?_) (fun c => ?_)
      · have h := h.1 c
        refine z_aload_n (nx := 51) (a := 0) G rfl (Or.inl rfl) dX11_bundle_50 rfl (b_getA (nx := 54) (k0 := 0) G hB fl_RX11_10 (Nat.le_of_ble_eq_true rfl) (Nat.le_of_ble_eq_true rfl) rfl hp_v0 dX11_bundle_51 rfl (b_getA (nx := 57) (k0 := 3) G hB fl_RX11_310 (Nat.le_of_ble_eq_true rfl) (Nat.le_of_ble_eq_true rfl) rfl (sh_11_0 _ hp_v0) dX11_bundle_54 rfl (z_iload_n (nx := 58) (a := 3) G rfl dX11_bundle_57 rfl (z_iconst (nx := 59) (z := 0) G (R32c rfl) dX11_bundle_58 rfl (z_iload_n (nx := 60) (a := 1) G rfl dX11_bundle_59 rfl ?_)))))
        refine b_callV9 (nx := 63) (zs := [am_rfv (am_rfv v0 0) 3, r_9, 0, v1]) (as := [(0, r_9), (0, 0), (0, v1)]) X hB (by decide) rfl (sh_0_3 _ (sh_11_0 _ hp_v0)) SS_X7_set (am_ta (am_ti (am_ti (am_ti am_tn)))) (Nat.le_of_ble_eq_true rfl) (Nat.le_of_ble_eq_true rfl) ml_RX11_128 iw_X7_set vw_X7_set cw_X7_set nw_RX7 pp_X7_set (Nat.le_of_ble_eq_true rfl) dX11_bundle_60 rfl (NM_X7_set (sh_0_3 _ (sh_11_0 _ hp_v0)) h) (fun r_11 m_12 h hB => ?_)
        refine z_aload_n (nx := 64) (a := 0) G rfl (Or.inl rfl) dX11_bundle_63 rfl (b_getA (nx := 67) (k0 := 0) G hB fl_RX11_10 (Nat.le_of_ble_eq_true rfl) (Nat.le_of_ble_eq_true rfl) rfl hp_v0 dX11_bundle_64 rfl (b_getA (nx := 70) (k0 := 3) G hB fl_RX11_310 (Nat.le_of_ble_eq_true rfl) (Nat.le_of_ble_eq_true rfl) rfl (sh_11_0 _ hp_v0) dX11_bundle_67 rfl (z_iload_n (nx := 71) (a := 3) G rfl dX11_bundle_70 rfl (z_iconst (nx := 72) (z := 1) G (R32c rfl) dX11_bundle_71 rfl (z_iload_n (nx := 73) (a := 2) G rfl dX11_bundle_72 rfl ?_)))))
        refine b_callV9 (nx := 76) (zs := [am_rfv (am_rfv v0 0) 3, r_9, 1, v2]) (as := [(0, r_9), (0, 1), (0, v2)]) X hB (by decide) rfl (sh_0_3 _ (sh_11_0 _ hp_v0)) SS_X7_set (am_ta (am_ti (am_ti (am_ti am_tn)))) (Nat.le_of_ble_eq_true rfl) (Nat.le_of_ble_eq_true rfl) ml_RX11_128 iw_X7_set vw_X7_set cw_X7_set nw_RX7 pp_X7_set (Nat.le_of_ble_eq_true rfl) dX11_bundle_73 rfl (NM_X7_set (sh_0_3 _ (sh_11_0 _ hp_v0)) h) (fun r_13 m_14 h hB => ?_)
        refine z_aload_n (nx := 77) (a := 0) G rfl (Or.inl rfl) dX11_bundle_76 rfl (z_iload_n (nx := 78) (a := 3) G rfl dX11_bundle_77 rfl ?_)
        refine b_callV0 (nx := 81) (zs := [v0, r_9]) (as := [(0, r_9)]) X hB (by decide) rfl hp_v0 SS_X11_fine (am_ta (am_ti am_tn)) (Nat.le_of_ble_eq_true rfl) (Nat.le_of_ble_eq_true rfl) ml_RX11_132 iw_X11_fine vw_X11_fine cw_X11_fine nw_RX11 pp_X11_fine (Nat.le_of_ble_eq_true rfl) dX11_bundle_78 rfl (NM_X11_fine hp_v0 h) (fun r_15 m_16 h hB => ?_)
        exact b_ireturn X hB dX11_bundle_81 h
      · have h := h.2 c
        refine z_aload_n (nx := 44) (a := 0) G rfl (Or.inl rfl) dX11_bundle_43 rfl (z_bipush (nx := 46) (z := (-5)) G (R32c rfl) rfl dX11_bundle_44 rfl ?_)
        refine b_callV0 (nx := 49) (zs := [v0, (-5)]) (as := [(0, (-5))]) X hB (by decide) rfl hp_v0 SS_X11_refuse (am_ta (am_ti am_tn)) (Nat.le_of_ble_eq_true rfl) (Nat.le_of_ble_eq_true rfl) ml_RX11_117 iw_X11_refuse vw_X11_refuse cw_X11_refuse nw_RX11 pp_X11_refuse (Nat.le_of_ble_eq_true rfl) dX11_bundle_46 rfl (NM_X11_refuse hp_v0 h) (fun r_17 m_18 h hB => ?_)
        exact b_ireturn X hB dX11_bundle_49 h
    · have h := h.2 c
      exact b_fewer (loc2 := [(2, v0), (9, 0), (9, 0), (9, 0)]) (am_lk (am_lf (am_lf (am_lk am_ln)))) (S_X11_bundle_J1 X hp_v0 hB h)
theorem NM_X11_bundle {v0 : Int} {v1 : Int} {v2 : Int} {K : am_KK} {m : am_M} (hp_v0 : am_ob v0 11) (h : M_X11_bundle v0 v1 v2 K m) : N_X11_bundle [v0, v1, v2] K m := ⟨hp_v0, h⟩
theorem SS_X11_bundle : am_Snd yX11_bundle cX11_bundle 4 (some .int) 0 3 (am_L [2, 0, 0] 0 N_X11_bundle) := by
  refine am_SB (by decide +kernel) (Nat.le_of_ble_eq_true rfl) (fun F zs as K m X ht hB hM => ?_)
  obtain ⟨v0, zs, as, rfl, rfl, hz0, ht⟩ := am_inv ht
  obtain ⟨v1, zs, as, rfl, rfl, hz1, ht⟩ := am_inv ht
  obtain ⟨v2, zs, as, rfl, rfl, hz2, ht⟩ := am_inv ht
  obtain ⟨rfl, rfl⟩ := am_inv0 ht
  obtain ⟨hp_v0, hM⟩ := hM
  exact S_X11_bundle X hp_v0 hB hM
set_option maxRecDepth 20000 in
set_option maxHeartbeats 4000000 in
theorem S_X11_cover_J2 {F : am_F} {K : am_KK} {v0 : Int} {v1 : Int} {v2 : Int} {v3 : Int} {v4 : Int} {v5 : Int} {C30 : Int → Int → Int → am_M → Prop} {m : am_M} (X : am_Cx F cX11_cover RX11 (some .int) 3 0 K) (hp_v0 : am_ob v0 11) (hC30 : ∀ w3 w4 w5 m, C30 w3 w4 w5 m → am_Bt m → am_Z F 30 [] [(2, v0), (0, v1), (0, v2), (0, w3), (0, w4), (0, w5), (9, 0)] m 200) (hB : am_Bt m) (h : M_X11_cover_J2 v0 v1 v2 v3 v4 v5 C30 K m) : am_Z F 84 [] [(2, v0), (0, v1), (0, v2), (0, v3), (0, v4), (0, v5), (9, 0)] m 200 := by
  have G := X.G
  unfold M_X11_cover_J2 at h
  refine b_iinc (nx := 87) (a := 5) (loc2 := fun v5_1 => [(2, v0), (0, v1), (0, v2), (0, v3), (0, v4), (0, v5_1), (9, 0)]) G (fun _ => rfl) rfl (am_pl1 rfl (fun h => nomatch h)) dX11_cover_84 rfl (fun v5_1 e_v5_1 => ?_)
  have h := h v5_1 e_v5_1
  refine z_goto (tgt := 30) G dX11_cover_87 (by decide) ?_
  exact b_fewer (loc2 := [(2, v0), (0, v1), (0, v2), (0, v3), (0, v4), (0, v5_1), (9, 0)]) (am_lk (am_lk (am_lk (am_lk (am_lk (am_lk (am_lk am_ln))))))) (hC30 _ _ _ _ h hB)
set_option maxRecDepth 20000 in
set_option maxHeartbeats 4000000 in
theorem S_X11_cover_J1 {F : am_F} {K : am_KK} {v0 : Int} {v1 : Int} {v2 : Int} {v5 : Int} {v6 : Int} {C30 : Int → Int → Int → am_M → Prop} {m : am_M} (X : am_Cx F cX11_cover RX11 (some .int) 3 0 K) (hp_v0 : am_ob v0 11) (hC30 : ∀ w3 w4 w5 m, C30 w3 w4 w5 m → am_Bt m → am_Z F 30 [] [(2, v0), (0, v1), (0, v2), (0, w3), (0, w4), (0, w5), (9, 0)] m 200) (hB : am_Bt m) (h : M_X11_cover_J1 v0 v1 v2 v5 v6 C30 K m) : am_Z F 77 [] [(2, v0), (0, v1), (0, v2), (9, 0), (9, 0), (0, v5), (0, v6)] m 200 := by
  have G := X.G
  unfold M_X11_cover_J1 at h
  refine z_iload (nx := 79) (a := 5) G rfl dX11_cover_77 rfl (b_storeE_n (nx := 80) (a := 3) (loc2 := [(2, v0), (0, v1), (0, v2), (0, v5), (9, 0), (0, v5), (0, v6)]) G rfl (Nat.le_of_ble_eq_true rfl) (am_pl1 rfl (fun h => nomatch h)) dX11_cover_79 rfl (z_iload (nx := 82) (a := 6) G rfl dX11_cover_80 rfl (b_storeE (nx := 84) (a := 4) (loc2 := [(2, v0), (0, v1), (0, v2), (0, v5), (0, v6), (0, v5), (0, v6)]) G rfl (Nat.le_of_ble_eq_true rfl) (am_pl1 rfl (fun h => nomatch h)) dX11_cover_82 rfl ?_)))
  exact b_fewer (loc2 := [(2, v0), (0, v1), (0, v2), (0, v5), (0, v6), (0, v5), (9, 0)]) (am_lk (am_lk (am_lk (am_lk (am_lk (am_lk (am_lf am_ln))))))) (S_X11_cover_J2 X hp_v0 hC30 hB h)
set_option maxRecDepth 20000 in
set_option maxHeartbeats 4000000 in
theorem S_X11_cover_L1B {F : am_F} {K : am_KK} {v0 : Int} {v1 : Int} {v2 : Int} {v3 : Int} {v4 : Int} {v5 : Int} {C30 : Int → Int → Int → am_M → Prop} {m : am_M} (X : am_Cx F cX11_cover RX11 (some .int) 3 0 K) (hp_v0 : am_ob v0 11) (hC30 : ∀ w3 w4 w5 m, C30 w3 w4 w5 m → am_Bt m → am_Z F 30 [] [(2, v0), (0, v1), (0, v2), (0, w3), (0, w4), (0, w5), (9, 0)] m 200) (hB : am_Bt m) (h : M_X11_cover_L1B v0 v1 v2 v3 v4 v5 C30 K m) : am_Z F 30 [] [(2, v0), (0, v1), (0, v2), (0, v3), (0, v4), (0, v5), (9, 0)] m 200 := by
  have G := X.G
  unfold M_X11_cover_L1B at h
  refine z_iload (nx := 32) (a := 5) G rfl dX11_cover_30 rfl (z_iconst (nx := 33) (z := 1) G (R32c rfl) dX11_cover_32 rfl (z_aload_n (nx := 34) (a := 0) G rfl (Or.inl rfl) dX11_cover_33 rfl (b_getA (nx := 37) (k0 := 0) G hB fl_RX11_10 (Nat.le_of_ble_eq_true rfl) (Nat.le_of_ble_eq_true rfl) rfl hp_v0 dX11_cover_34 rfl (b_getA (nx := 40) (k0 := 3) G hB fl_RX11_310 (Nat.le_of_ble_eq_true rfl) (Nat.le_of_ble_eq_true rfl) rfl (sh_11_0 _ hp_v0) dX11_cover_37 rfl (b_getI (nx := 43) (k0 := 2) (t := 0) G fl_RX11_188 (Nat.le_of_ble_eq_true rfl) (Nat.le_of_ble_eq_true rfl) rfl (sh_0_3 _ (sh_11_0 _ hp_v0)) dX11_cover_40 rfl (z_ishl (nx := 44) G dX11_cover_43 rfl ?_))))))
  refine z_icmp_ge (nx := 47) (tgt := 90) G dX11_cover_44 (by decide) rfl (fun c => ?_) (fun c => ?_)
  · have h := h.1 c
    refine z_iload_n (nx := 91) (a := 3) G rfl dX11_cover_90 rfl (z_iconst (nx := 92) (z := (-1)) G (R32c rfl) dX11_cover_91 rfl ?_)
    refine z_icmp_ne (nx := 95) (tgt := 97) G dX11_cover_92 (by decide) rfl (fun c => ?_) (fun c => ?_)
    · have h := h.1 c
      refine z_iload_n (nx := 98) (a := 2) G rfl dX11_cover_97 rfl ?_
      refine z_if_ne (nx := 101) (tgt := 109) G dX11_cover_98 (by decide) rfl (fun c => ?_) (fun c => ?_)
      · have h := h.1 c
        refine z_iload_n (nx := 110) (a := 3) G rfl dX11_cover_109 rfl ?_
        exact b_ireturn X hB dX11_cover_110 h
      · have h := h.2 c
        refine z_iload (nx := 103) (a := 4) G rfl dX11_cover_101 rfl (z_bipush (nx := 105) (z := 16) G (R32c rfl) rfl dX11_cover_103 rfl (z_idiv (nx := 106) G (by decide) dX11_cover_105 rfl (z_goto (tgt := 110) G dX11_cover_106 (by decide) ?_)))
        exact b_ireturn X hB dX11_cover_110 h
    · have h := h.2 c
      refine z_iconst (nx := 96) (z := (-1)) G (R32c rfl) dX11_cover_95 rfl ?_
      exact b_ireturn X hB dX11_cover_96 h
  · have h := h.2 c
    refine z_aload_n (nx := 48) (a := 0) G rfl (Or.inl rfl) dX11_cover_47 rfl (b_getA (nx := 51) (k0 := 0) G hB fl_RX11_10 (Nat.le_of_ble_eq_true rfl) (Nat.le_of_ble_eq_true rfl) rfl hp_v0 dX11_cover_48 rfl (z_iload (nx := 53) (a := 5) G rfl dX11_cover_51 rfl (z_iload_n (nx := 54) (a := 1) G rfl dX11_cover_53 rfl ?_)))
    refine b_callV0 (nx := 57) (zs := [am_rfv v0 0, v5, v1]) (as := [(0, v5), (0, v1)]) X hB (by decide) rfl (sh_11_0 _ hp_v0) SS_X0_coverCost (am_ta (am_ti (am_ti am_tn))) (Nat.le_of_ble_eq_true rfl) (Nat.le_of_ble_eq_true rfl) ml_RX11_313 iw_X0_coverCost vw_X0_coverCost cw_X0_coverCost nw_RX0 pp_X0_coverCost (Nat.le_of_ble_eq_true rfl) dX11_cover_54 rfl (NM_X0_coverCost (sh_11_0 _ hp_v0) h) (fun r_2 m_3 h hB => ?_)
    refine b_storeE (nx := 59) (a := 6) (loc2 := [(2, v0), (0, v1), (0, v2), (0, v3), (0, v4), (0, v5), (0, r_2)]) G rfl (Nat.le_of_ble_eq_true rfl) (am_pl1 rfl (fun h => nomatch h)) dX11_cover_57 rfl (z_iload (nx := 61) (a := 6) G rfl dX11_cover_59 rfl (z_iconst (nx := 62) (z := (-1)) G (R32c rfl) dX11_cover_61 rfl ?_))
    refine z_icmp_eq (nx := 65) (tgt := 84) G dX11_cover_62 (by decide) rfl (fun c => ?_) (fun c => ?_)
    · have h := h.1 c
      exact b_fewer (loc2 := [(2, v0), (0, v1), (0, v2), (0, v3), (0, v4), (0, v5), (9, 0)]) (am_lk (am_lk (am_lk (am_lk (am_lk (am_lk (am_lf am_ln))))))) (S_X11_cover_J2 X hp_v0 hC30 hB h)
    · have h := h.2 c
      refine z_iload_n (nx := 66) (a := 3) G rfl dX11_cover_65 rfl (z_iconst (nx := 67) (z := (-1)) G (R32c rfl) dX11_cover_66 rfl ?_)
      refine z_icmp_eq (nx := 70) (tgt := 77) G dX11_cover_67 (by decide) rfl (fun c => ?_) (fun c => ?_)
      · have h := h.1 c
        exact b_fewer (loc2 := [(2, v0), (0, v1), (0, v2), (9, 0), (9, 0), (0, v5), (0, r_2)]) (am_lk (am_lk (am_lk (am_lf (am_lf (am_lk (am_lk am_ln))))))) (S_X11_cover_J1 X hp_v0 hC30 hB h)
      · have h := h.2 c
        refine z_iload (nx := 72) (a := 6) G rfl dX11_cover_70 rfl (z_iload (nx := 74) (a := 4) G rfl dX11_cover_72 rfl ?_)
        refine z_icmp_ge (nx := 77) (tgt := 84) G dX11_cover_74 (by decide) rfl (fun c => ?_) (fun c => ?_)
        · have h := h.1 c
          exact b_fewer (loc2 := [(2, v0), (0, v1), (0, v2), (0, v3), (0, v4), (0, v5), (9, 0)]) (am_lk (am_lk (am_lk (am_lk (am_lk (am_lk (am_lf am_ln))))))) (S_X11_cover_J2 X hp_v0 hC30 hB h)
        · have h := h.2 c
          exact b_fewer (loc2 := [(2, v0), (0, v1), (0, v2), (9, 0), (9, 0), (0, v5), (0, r_2)]) (am_lk (am_lk (am_lk (am_lf (am_lf (am_lk (am_lk am_ln))))))) (S_X11_cover_J1 X hp_v0 hC30 hB h)
theorem S_X11_cover_L1 {F : am_F} {K : am_KK} {v0 : Int} {v1 : Int} {v2 : Int} {v3 : Int} {v4 : Int} {v5 : Int} {m : am_M} (X : am_Cx F cX11_cover RX11 (some .int) 3 0 K) (hp_v0 : am_ob v0 11) (hB : am_Bt m) (h : M_X11_cover_L1 v0 v1 v2 v3 v4 v5 K m) : am_Z F 30 [] [(2, v0), (0, v1), (0, v2), (0, v3), (0, v4), (0, v5), (9, 0)] m 200 := by
  obtain ⟨I, ⟨j, hj⟩, hI⟩ := h
  have key : ∀ j v3 v4 v5 m, I j v3 v4 v5 m → am_Bt m → am_Z F 30 [] [(2, v0), (0, v1), (0, v2), (0, v3), (0, v4), (0, v5), (9, 0)] m 200 := by
    intro j
    induction j using Nat.strongRecOn with
    | ind j ih =>
      intro v3 v4 v5 m hj hB
      exact S_X11_cover_L1B X hp_v0 (fun v3' v4' v5' m' hc hB' => by
        obtain ⟨j', g1, g2⟩ := hc
        exact ih j' g1 v3' v4' v5' m' g2 hB') hB (hI j v3 v4 v5 m hj)
  exact key j _ _ _ _ hj hB
set_option maxRecDepth 20000 in
set_option maxHeartbeats 4000000 in
theorem S_X11_cover {F : am_F} {K : am_KK} {v0 : Int} {v1 : Int} {v2 : Int} {m : am_M} (X : am_Cx F cX11_cover RX11 (some .int) 3 0 K) (hp_v0 : am_ob v0 11) (hB : am_Bt m) (h : M_X11_cover v0 v1 v2 K m) : am_Z F 0 [] [(2, v0), (0, v1), (0, v2), (9, 0), (9, 0), (9, 0), (9, 0)] m 200 := by
  have G := X.G
  unfold M_X11_cover at h
  refine z_iload_n (nx := 1) (a := 1) G rfl dX11_cover_0 rfl (z_iconst (nx := 2) (z := 1) G (R32c rfl) dX11_cover_1 rfl (z_sipush (nx := 5) (z := 255) G (R32c rfl) rfl dX11_cover_2 rfl ?_))
  refine b_callS5 (nx := 8) (zs := [v1, 1, 255]) (as := [(0, v1), (0, 1), (0, 255)]) X hB SS_X11_within (am_ti (am_ti (am_ti am_tn))) (Nat.le_of_ble_eq_true rfl) (Nat.le_of_ble_eq_true rfl) ml_RX11_113 sw_X11_within (am_plainC 11 (by decide)) cw_X11_within nw_RX11 pp_X11_within (Nat.le_of_ble_eq_true rfl) dX11_cover_5 rfl (NM_X11_within h) (fun r_4 m_5 h h01_6 hB => ?_)
  refine z_if_eq (nx := 11) (tgt := 20) G dX11_cover_8 (by decide) rfl (fun c => ?_) (fun c => ?_)
  · have h := h.1 c
    refine z_iconst (nx := 21) (z := (-1)) G (R32c rfl) dX11_cover_20 rfl ?_
    exact b_ireturn X hB dX11_cover_21 h
  · have h := h.2 c
    refine z_iload_n (nx := 12) (a := 2) G rfl dX11_cover_11 rfl (z_iconst (nx := 13) (z := 0) G (R32c rfl) dX11_cover_12 rfl (z_iconst (nx := 14) (z := 1) G (R32c rfl) dX11_cover_13 rfl ?_))
    refine b_callS5 (nx := 17) (zs := [v2, 0, 1]) (as := [(0, v2), (0, 0), (0, 1)]) X hB SS_X11_within (am_ti (am_ti (am_ti am_tn))) (Nat.le_of_ble_eq_true rfl) (Nat.le_of_ble_eq_true rfl) ml_RX11_113 sw_X11_within (am_plainC 11 (by decide)) cw_X11_within nw_RX11 pp_X11_within (Nat.le_of_ble_eq_true rfl) dX11_cover_14 rfl (NM_X11_within h) (fun r_7 m_8 h h01_9 hB => ?_)
    refine z_if_ne (nx := 20) (tgt := 22) G dX11_cover_17 (by decide) rfl (fun c => ?_) (fun c => ?_)
    · have h := h.1 c
      refine z_iconst (nx := 23) (z := (-1)) G (R32c rfl) dX11_cover_22 rfl (b_storeE_n (nx := 24) (a := 3) (loc2 := [(2, v0), (0, v1), (0, v2), (0, (-1)), (9, 0), (9, 0), (9, 0)]) G rfl (Nat.le_of_ble_eq_true rfl) (am_pl1 rfl (fun h => nomatch h)) dX11_cover_23 rfl (z_iconst (nx := 25) (z := 0) G (R32c rfl) dX11_cover_24 rfl (b_storeE (nx := 27) (a := 4) (loc2 := [(2, v0), (0, v1), (0, v2), (0, (-1)), (0, 0), (9, 0), (9, 0)]) G rfl (Nat.le_of_ble_eq_true rfl) (am_pl1 rfl (fun h => nomatch h)) dX11_cover_25 rfl (z_iconst (nx := 28) (z := 1) G (R32c rfl) dX11_cover_27 rfl (b_storeE (nx := 30) (a := 5) (loc2 := [(2, v0), (0, v1), (0, v2), (0, (-1)), (0, 0), (0, 1), (9, 0)]) G rfl (Nat.le_of_ble_eq_true rfl) (am_pl1 rfl (fun h => nomatch h)) dX11_cover_28 rfl ?_)))))
      exact b_fewer (loc2 := [(2, v0), (0, v1), (0, v2), (0, (-1)), (0, 0), (0, 1), (9, 0)]) (am_lk (am_lk (am_lk (am_lk (am_lk (am_lk (am_lk am_ln))))))) (S_X11_cover_L1 X hp_v0 hB h)
    · have h := h.2 c
      refine z_iconst (nx := 21) (z := (-1)) G (R32c rfl) dX11_cover_20 rfl ?_
      exact b_ireturn X hB dX11_cover_21 h
theorem NM_X11_cover {v0 : Int} {v1 : Int} {v2 : Int} {K : am_KK} {m : am_M} (hp_v0 : am_ob v0 11) (h : M_X11_cover v0 v1 v2 K m) : N_X11_cover [v0, v1, v2] K m := ⟨hp_v0, h⟩
theorem SS_X11_cover : am_Snd yX11_cover cX11_cover 7 (some .int) 0 3 (am_L [2, 0, 0] 0 N_X11_cover) := by
  refine am_SB (by decide +kernel) (Nat.le_of_ble_eq_true rfl) (fun F zs as K m X ht hB hM => ?_)
  obtain ⟨v0, zs, as, rfl, rfl, hz0, ht⟩ := am_inv ht
  obtain ⟨v1, zs, as, rfl, rfl, hz1, ht⟩ := am_inv ht
  obtain ⟨v2, zs, as, rfl, rfl, hz2, ht⟩ := am_inv ht
  obtain ⟨rfl, rfl⟩ := am_inv0 ht
  obtain ⟨hp_v0, hM⟩ := hM
  exact S_X11_cover X hp_v0 hB hM
set_option maxRecDepth 20000 in
set_option maxHeartbeats 4000000 in
theorem S_X11_when_J2 {F : am_F} {K : am_KK} {v0 : Int} {v1 : Int} {v3 : Int} {s0 : Int} {m : am_M} (X : am_Cx F cX11_when RX11 (some .int) 6 0 K) (hp_v0 : am_ob v0 11) (hp_s0 : s0 = 0 ∨ s0 = 1) (hB : am_Bt m) (h : M_X11_when_J2 v0 v1 v3 s0 K m) : am_Z F 155 [(0, s0)] [(2, v0), (0, v1), (9, 0), (0, v3), (9, 0)] m 200 := by
  have G := X.G
  unfold M_X11_when_J2 at h
  refine b_storeE (nx := 157) (a := 4) (loc2 := [(2, v0), (0, v1), (9, 0), (0, v3), (0, s0)]) G rfl (Nat.le_of_ble_eq_true rfl) (am_pl1 rfl (fun h => nomatch h)) dX11_when_155 rfl (z_iload_n (nx := 158) (a := 3) G rfl dX11_when_157 rfl ?_)
  refine z_if_ne (nx := 161) (tgt := 177) G dX11_when_158 (by decide) rfl (fun c => ?_) (fun c => ?_)
  · have h := h.1 c
    refine z_iload (nx := 179) (a := 4) G rfl dX11_when_177 rfl ?_
    exact b_ireturn X hB dX11_when_179 h
  · have h := h.2 c
    refine z_aload_n (nx := 162) (a := 0) G rfl (Or.inl rfl) dX11_when_161 rfl (b_getA (nx := 165) (k0 := 8) G hB fl_RX11_68 (Nat.le_of_ble_eq_true rfl) (Nat.le_of_ble_eq_true rfl) rfl hp_v0 dX11_when_162 rfl (b_getA (nx := 168) (k0 := 0) G hB fl_RX11_267 (Nat.le_of_ble_eq_true rfl) (Nat.le_of_ble_eq_true rfl) rfl (sh_11_8 _ hp_v0) dX11_when_165 rfl (z_iload_n (nx := 169) (a := 1) G rfl dX11_when_168 rfl (z_bipush (nx := 171) (z := 6) G (R32c rfl) rfl dX11_when_169 rfl ?_))))
    refine b_callV0 (nx := 174) (zs := [am_rfv (am_rfv v0 8) 0, v1, 6]) (as := [(0, v1), (0, 6)]) X hB (by decide) rfl (sh_9_0 _ (sh_11_8 _ hp_v0)) SS_X7_get (am_ta (am_ti (am_ti am_tn))) (Nat.le_of_ble_eq_true rfl) (Nat.le_of_ble_eq_true rfl) ml_RX11_135 iw_X7_get vw_X7_get cw_X7_get nw_RX7 pp_X7_get (Nat.le_of_ble_eq_true rfl) dX11_when_171 rfl (NM_X7_get (sh_9_0 _ (sh_11_8 _ hp_v0)) h) (fun r_1 m_2 h hB => ?_)
    refine z_goto (tgt := 179) G dX11_when_174 (by decide) ?_
    exact b_ireturn X hB dX11_when_179 h
set_option maxRecDepth 20000 in
set_option maxHeartbeats 4000000 in
theorem S_X11_when_J1 {F : am_F} {K : am_KK} {v0 : Int} {v1 : Int} {v3 : Int} {m : am_M} (X : am_Cx F cX11_when RX11 (some .int) 6 0 K) (hp_v0 : am_ob v0 11) (hB : am_Bt m) (h : M_X11_when_J1 v0 v1 v3 K m) : am_Z F 121 [] [(2, v0), (0, v1), (9, 0), (0, v3), (9, 0)] m 200 := by
  have G := X.G
  unfold M_X11_when_J1 at h
  refine z_aload_n (nx := 122) (a := 0) G rfl (Or.inl rfl) dX11_when_121 rfl (b_getA (nx := 125) (k0 := 8) G hB fl_RX11_68 (Nat.le_of_ble_eq_true rfl) (Nat.le_of_ble_eq_true rfl) rfl hp_v0 dX11_when_122 rfl (z_iload_n (nx := 126) (a := 1) G rfl dX11_when_125 rfl ?_))
  refine b_callV5 (nx := 129) (zs := [am_rfv v0 8, v1]) (as := [(0, v1)]) X hB (by decide) rfl (sh_11_8 _ hp_v0) SS_X9_waits (am_ta (am_ti am_tn)) (Nat.le_of_ble_eq_true rfl) (Nat.le_of_ble_eq_true rfl) ml_RX11_270 iw_X9_waits vw_X9_waits cw_X9_waits nw_RX9 pp_X9_waits (Nat.le_of_ble_eq_true rfl) dX11_when_126 rfl (NM_X9_waits (sh_11_8 _ hp_v0) h) (fun r_3 m_4 h h01_5 hB => ?_)
  refine z_if_eq (nx := 132) (tgt := 134) G dX11_when_129 (by decide) rfl (fun c => ?_) (fun c => ?_)
  · have h := h.1 c
    refine z_aload_n (nx := 135) (a := 0) G rfl (Or.inl rfl) dX11_when_134 rfl (b_getA (nx := 138) (k0 := 8) G hB fl_RX11_68 (Nat.le_of_ble_eq_true rfl) (Nat.le_of_ble_eq_true rfl) rfl hp_v0 dX11_when_135 rfl (b_getA (nx := 141) (k0 := 0) G hB fl_RX11_267 (Nat.le_of_ble_eq_true rfl) (Nat.le_of_ble_eq_true rfl) rfl (sh_11_8 _ hp_v0) dX11_when_138 rfl (z_iload_n (nx := 142) (a := 1) G rfl dX11_when_141 rfl (z_iconst (nx := 143) (z := 5) G (R32c rfl) dX11_when_142 rfl ?_))))
    refine b_callV0 (nx := 146) (zs := [am_rfv (am_rfv v0 8) 0, v1, 5]) (as := [(0, v1), (0, 5)]) X hB (by decide) rfl (sh_9_0 _ (sh_11_8 _ hp_v0)) SS_X7_get (am_ta (am_ti (am_ti am_tn))) (Nat.le_of_ble_eq_true rfl) (Nat.le_of_ble_eq_true rfl) ml_RX11_135 iw_X7_get vw_X7_get cw_X7_get nw_RX7 pp_X7_get (Nat.le_of_ble_eq_true rfl) dX11_when_143 rfl (NM_X7_get (sh_9_0 _ (sh_11_8 _ hp_v0)) h) (fun r_6 m_7 h hB => ?_)
    refine z_iconst (nx := 147) (z := 1) G (R32c rfl) dX11_when_146 rfl ?_
    refine z_icmp_ne (nx := 150) (tgt := 154) G dX11_when_147 (by decide) rfl (fun c => ?_) (fun c => ?_)
    · have h := h.1 c
      refine z_iconst (nx := 155) (z := 0) G (R32c rfl) dX11_when_154 rfl ?_
      exact b_fewer (loc2 := [(2, v0), (0, v1), (9, 0), (0, v3), (9, 0)]) (am_lk (am_lk (am_lk (am_lk (am_lk am_ln))))) (S_X11_when_J2 X hp_v0 (Or.inl rfl) hB h)
    · have h := h.2 c
      refine z_iconst (nx := 151) (z := 1) G (R32c rfl) dX11_when_150 rfl (z_goto (tgt := 155) G dX11_when_151 (by decide) ?_)
      exact b_fewer (loc2 := [(2, v0), (0, v1), (9, 0), (0, v3), (9, 0)]) (am_lk (am_lk (am_lk (am_lk (am_lk am_ln))))) (S_X11_when_J2 X hp_v0 (Or.inr rfl) hB h)
  · have h := h.2 c
    refine z_iconst (nx := 133) (z := (-1)) G (R32c rfl) dX11_when_132 rfl ?_
    exact b_ireturn X hB dX11_when_133 h
set_option maxRecDepth 20000 in
set_option maxHeartbeats 4000000 in
theorem S_X11_when_L1B {F : am_F} {K : am_KK} {v0 : Int} {v1 : Int} {v2 : Int} {v3 : Int} {v4 : Int} {C52 : Int → am_M → Prop} {m : am_M} (X : am_Cx F cX11_when RX11 (some .int) 6 0 K) (hp_v0 : am_ob v0 11) (hC52 : ∀ w4 m, C52 w4 m → am_Bt m → am_Z F 52 [] [(2, v0), (0, v1), (0, v2), (0, v3), (0, w4)] m 200) (hB : am_Bt m) (h : M_X11_when_L1B v0 v1 v2 v3 v4 C52 K m) : am_Z F 52 [] [(2, v0), (0, v1), (0, v2), (0, v3), (0, v4)] m 200 := by
  have G := X.G
  unfold M_X11_when_L1B at h
  refine z_iload (nx := 54) (a := 4) G rfl dX11_when_52 rfl (z_iload_n (nx := 55) (a := 2) G rfl dX11_when_54 rfl ?_)
  refine z_icmp_ge (nx := 58) (tgt := 121) G dX11_when_55 (by decide) rfl (fun c => ?_) (fun c => ?_)
  · have h := h.1 c
    exact b_fewer (loc2 := [(2, v0), (0, v1), (9, 0), (0, v3), (9, 0)]) (am_lk (am_lk (am_lf (am_lk (am_lf am_ln))))) (S_X11_when_J1 X hp_v0 hB h)
  · have h := h.2 c
    refine z_aload_n (nx := 59) (a := 0) G rfl (Or.inl rfl) dX11_when_58 rfl (b_getA (nx := 62) (k0 := 8) G hB fl_RX11_68 (Nat.le_of_ble_eq_true rfl) (Nat.le_of_ble_eq_true rfl) rfl hp_v0 dX11_when_59 rfl (z_iload_n (nx := 63) (a := 1) G rfl dX11_when_62 rfl ?_))
    refine b_callV5 (nx := 66) (zs := [am_rfv v0 8, v1]) (as := [(0, v1)]) X hB (by decide) rfl (sh_11_8 _ hp_v0) SS_X9_waits (am_ta (am_ti am_tn)) (Nat.le_of_ble_eq_true rfl) (Nat.le_of_ble_eq_true rfl) ml_RX11_270 iw_X9_waits vw_X9_waits cw_X9_waits nw_RX9 pp_X9_waits (Nat.le_of_ble_eq_true rfl) dX11_when_63 rfl (NM_X9_waits (sh_11_8 _ hp_v0) h) (fun r_8 m_9 h h01_10 hB => ?_)
    refine z_if_eq (nx := 69) (tgt := 121) G dX11_when_66 (by decide) rfl (fun c => ?_) (fun c => ?_)
    · have h := h.1 c
      exact b_fewer (loc2 := [(2, v0), (0, v1), (9, 0), (0, v3), (9, 0)]) (am_lk (am_lk (am_lf (am_lk (am_lf am_ln))))) (S_X11_when_J1 X hp_v0 hB h)
    · have h := h.2 c
      refine z_aload_n (nx := 70) (a := 0) G rfl (Or.inl rfl) dX11_when_69 rfl (b_getA (nx := 73) (k0 := 8) G hB fl_RX11_68 (Nat.le_of_ble_eq_true rfl) (Nat.le_of_ble_eq_true rfl) rfl hp_v0 dX11_when_70 rfl (b_getI (nx := 76) (k0 := 1) (t := 0) G fl_RX11_165 (Nat.le_of_ble_eq_true rfl) (Nat.le_of_ble_eq_true rfl) rfl (sh_11_8 _ hp_v0) dX11_when_73 rfl (z_sipush (nx := 79) (z := 999) G (R32c rfl) rfl dX11_when_76 rfl ?_)))
      refine z_icmp_ge (nx := 82) (tgt := 121) G dX11_when_79 (by decide) rfl (fun c => ?_) (fun c => ?_)
      · have h := h.1 c
        exact b_fewer (loc2 := [(2, v0), (0, v1), (9, 0), (0, v3), (9, 0)]) (am_lk (am_lk (am_lf (am_lk (am_lf am_ln))))) (S_X11_when_J1 X hp_v0 hB h)
      · have h := h.2 c
        refine z_aload_n (nx := 83) (a := 0) G rfl (Or.inl rfl) dX11_when_82 rfl (b_getA (nx := 86) (k0 := 7) G hB fl_RX11_61 (Nat.le_of_ble_eq_true rfl) (Nat.le_of_ble_eq_true rfl) rfl hp_v0 dX11_when_83 rfl (z_aload_n (nx := 87) (a := 0) G rfl (Or.inl rfl) dX11_when_86 rfl (b_getA (nx := 90) (k0 := 0) G hB fl_RX11_10 (Nat.le_of_ble_eq_true rfl) (Nat.le_of_ble_eq_true rfl) rfl hp_v0 dX11_when_87 rfl (z_aload_n (nx := 91) (a := 0) G rfl (Or.inl rfl) dX11_when_90 rfl (b_getA (nx := 94) (k0 := 8) G hB fl_RX11_68 (Nat.le_of_ble_eq_true rfl) (Nat.le_of_ble_eq_true rfl) rfl hp_v0 dX11_when_91 rfl (z_iconst (nx := 95) (z := 1) G (R32c rfl) dX11_when_94 rfl ?_))))))
        refine b_callV9 (nx := 98) (zs := [am_rfv v0 7, am_rfv v0 0, am_rfv v0 8, 1]) (as := [(2, am_rfv v0 0), (2, am_rfv v0 8), (0, 1)]) X hB (by decide) rfl (sh_11_7 _ hp_v0) SS_X2_foreseeAll (am_ta (am_ta (am_ta (am_ti am_tn)))) (Nat.le_of_ble_eq_true rfl) (Nat.le_of_ble_eq_true rfl) ml_RX11_286 iw_X2_foreseeAll vw_X2_foreseeAll cw_X2_foreseeAll nw_RX2 pp_X2_foreseeAll (Nat.le_of_ble_eq_true rfl) dX11_when_95 rfl (NM_X2_foreseeAll (sh_11_7 _ hp_v0) (sh_11_0 _ hp_v0) (sh_11_8 _ hp_v0) h) (fun r_11 m_12 h hB => ?_)
        refine z_aload_n (nx := 99) (a := 0) G rfl (Or.inl rfl) dX11_when_98 rfl (b_getA (nx := 102) (k0 := 7) G hB fl_RX11_61 (Nat.le_of_ble_eq_true rfl) (Nat.le_of_ble_eq_true rfl) rfl hp_v0 dX11_when_99 rfl (z_aload_n (nx := 103) (a := 0) G rfl (Or.inl rfl) dX11_when_102 rfl (b_getA (nx := 106) (k0 := 0) G hB fl_RX11_10 (Nat.le_of_ble_eq_true rfl) (Nat.le_of_ble_eq_true rfl) rfl hp_v0 dX11_when_103 rfl (z_aload_n (nx := 107) (a := 0) G rfl (Or.inl rfl) dX11_when_106 rfl (b_getA (nx := 110) (k0 := 8) G hB fl_RX11_68 (Nat.le_of_ble_eq_true rfl) (Nat.le_of_ble_eq_true rfl) rfl hp_v0 dX11_when_107 rfl (z_iconst (nx := 111) (z := 1) G (R32c rfl) dX11_when_110 rfl ?_))))))
        refine b_callV0 (nx := 114) (zs := [am_rfv v0 7, am_rfv v0 0, am_rfv v0 8, 1]) (as := [(2, am_rfv v0 0), (2, am_rfv v0 8), (0, 1)]) X hB (by decide) rfl (sh_11_7 _ hp_v0) SS_X2_hear (am_ta (am_ta (am_ta (am_ti am_tn)))) (Nat.le_of_ble_eq_true rfl) (Nat.le_of_ble_eq_true rfl) ml_RX11_316 iw_X2_hear vw_X2_hear cw_X2_hear nw_RX2 pp_X2_hear (Nat.le_of_ble_eq_true rfl) dX11_when_111 rfl (NM_X2_hear (sh_11_7 _ hp_v0) (sh_11_0 _ hp_v0) (sh_11_8 _ hp_v0) h) (fun r_13 m_14 h hB => ?_)
        refine z_pop (nx := 115) G (fun h => nomatch h) dX11_when_114 rfl ?_
        refine b_iinc (nx := 118) (a := 4) (loc2 := fun v4_15 => [(2, v0), (0, v1), (0, v2), (0, v3), (0, v4_15)]) G (fun _ => rfl) rfl (am_pl1 rfl (fun h => nomatch h)) dX11_when_115 rfl (fun v4_15 e_v4_15 => ?_)
        have h := h v4_15 e_v4_15
        refine z_goto (tgt := 52) G dX11_when_118 (by decide) ?_
        exact b_fewer (loc2 := [(2, v0), (0, v1), (0, v2), (0, v3), (0, v4_15)]) (am_lk (am_lk (am_lk (am_lk (am_lk am_ln))))) (hC52 _ _ h hB)
theorem S_X11_when_L1 {F : am_F} {K : am_KK} {v0 : Int} {v1 : Int} {v2 : Int} {v3 : Int} {v4 : Int} {m : am_M} (X : am_Cx F cX11_when RX11 (some .int) 6 0 K) (hp_v0 : am_ob v0 11) (hB : am_Bt m) (h : M_X11_when_L1 v0 v1 v2 v3 v4 K m) : am_Z F 52 [] [(2, v0), (0, v1), (0, v2), (0, v3), (0, v4)] m 200 := by
  obtain ⟨I, ⟨j, hj⟩, hI⟩ := h
  have key : ∀ j v4 m, I j v4 m → am_Bt m → am_Z F 52 [] [(2, v0), (0, v1), (0, v2), (0, v3), (0, v4)] m 200 := by
    intro j
    induction j using Nat.strongRecOn with
    | ind j ih =>
      intro v4 m hj hB
      exact S_X11_when_L1B X hp_v0 (fun v4' m' hc hB' => by
        obtain ⟨j', g1, g2⟩ := hc
        exact ih j' g1 v4' m' g2 hB') hB (hI j v4 m hj)
  exact key j _ _ hj hB
set_option maxRecDepth 20000 in
set_option maxHeartbeats 4000000 in
theorem S_X11_when {F : am_F} {K : am_KK} {v0 : Int} {v1 : Int} {v2 : Int} {v3 : Int} {m : am_M} (X : am_Cx F cX11_when RX11 (some .int) 6 0 K) (hp_v0 : am_ob v0 11) (hB : am_Bt m) (h : M_X11_when v0 v1 v2 v3 K m) : am_Z F 0 [] [(2, v0), (0, v1), (0, v2), (0, v3), (9, 0)] m 200 := by
  have G := X.G
  unfold M_X11_when at h
  refine z_aload_n (nx := 1) (a := 0) G rfl (Or.inl rfl) dX11_when_0 rfl (b_getA (nx := 4) (k0 := 0) G hB fl_RX11_10 (Nat.le_of_ble_eq_true rfl) (Nat.le_of_ble_eq_true rfl) rfl hp_v0 dX11_when_1 rfl (b_getA (nx := 7) (k0 := 5) G hB fl_RX11_162 (Nat.le_of_ble_eq_true rfl) (Nat.le_of_ble_eq_true rfl) rfl (sh_11_0 _ hp_v0) dX11_when_4 rfl (z_iload_n (nx := 8) (a := 1) G rfl dX11_when_7 rfl ?_)))
  refine b_callV5 (nx := 11) (zs := [am_rfv (am_rfv v0 0) 5, v1]) (as := [(0, v1)]) X hB (by decide) rfl (sh_0_5 _ (sh_11_0 _ hp_v0)) SS_X9_waits (am_ta (am_ti am_tn)) (Nat.le_of_ble_eq_true rfl) (Nat.le_of_ble_eq_true rfl) ml_RX11_270 iw_X9_waits vw_X9_waits cw_X9_waits nw_RX9 pp_X9_waits (Nat.le_of_ble_eq_true rfl) dX11_when_8 rfl (NM_X9_waits (sh_0_5 _ (sh_11_0 _ hp_v0)) h) (fun r_16 m_17 h h01_18 hB => ?_)
  refine z_if_eq (nx := 14) (tgt := 33) G dX11_when_11 (by decide) rfl (fun c => ?_) (fun c => ?_)
  · have h := h.1 c
    refine z_iconst (nx := 34) (z := (-1)) G (R32c rfl) dX11_when_33 rfl ?_
    exact b_ireturn X hB dX11_when_34 h
  · have h := h.2 c
    refine z_iload_n (nx := 15) (a := 2) G rfl dX11_when_14 rfl (z_iconst (nx := 16) (z := 1) G (R32c rfl) dX11_when_15 rfl (z_bipush (nx := 18) (z := 50) G (R32c rfl) rfl dX11_when_16 rfl ?_))
    refine b_callS5 (nx := 21) (zs := [v2, 1, 50]) (as := [(0, v2), (0, 1), (0, 50)]) X hB SS_X11_within (am_ti (am_ti (am_ti am_tn))) (Nat.le_of_ble_eq_true rfl) (Nat.le_of_ble_eq_true rfl) ml_RX11_113 sw_X11_within (am_plainC 11 (by decide)) cw_X11_within nw_RX11 pp_X11_within (Nat.le_of_ble_eq_true rfl) dX11_when_18 rfl (NM_X11_within h) (fun r_19 m_20 h h01_21 hB => ?_)
    refine z_if_eq (nx := 24) (tgt := 33) G dX11_when_21 (by decide) rfl (fun c => ?_) (fun c => ?_)
    · have h := h.1 c
      refine z_iconst (nx := 34) (z := (-1)) G (R32c rfl) dX11_when_33 rfl ?_
      exact b_ireturn X hB dX11_when_34 h
    · have h := h.2 c
      refine z_iload_n (nx := 25) (a := 3) G rfl dX11_when_24 rfl (z_iconst (nx := 26) (z := 0) G (R32c rfl) dX11_when_25 rfl (z_iconst (nx := 27) (z := 1) G (R32c rfl) dX11_when_26 rfl ?_))
      refine b_callS5 (nx := 30) (zs := [v3, 0, 1]) (as := [(0, v3), (0, 0), (0, 1)]) X hB SS_X11_within (am_ti (am_ti (am_ti am_tn))) (Nat.le_of_ble_eq_true rfl) (Nat.le_of_ble_eq_true rfl) ml_RX11_113 sw_X11_within (am_plainC 11 (by decide)) cw_X11_within nw_RX11 pp_X11_within (Nat.le_of_ble_eq_true rfl) dX11_when_27 rfl (NM_X11_within h) (fun r_22 m_23 h h01_24 hB => ?_)
      refine z_if_ne (nx := 33) (tgt := 35) G dX11_when_30 (by decide) rfl (fun c => ?_) (fun c => ?_)
      · have h := h.1 c
        refine z_aload_n (nx := 36) (a := 0) G rfl (Or.inl rfl) dX11_when_35 rfl (b_getA (nx := 39) (k0 := 8) G hB fl_RX11_68 (Nat.le_of_ble_eq_true rfl) (Nat.le_of_ble_eq_true rfl) rfl hp_v0 dX11_when_36 rfl (z_aload_n (nx := 40) (a := 0) G rfl (Or.inl rfl) dX11_when_39 rfl (b_getA (nx := 43) (k0 := 0) G hB fl_RX11_10 (Nat.le_of_ble_eq_true rfl) (Nat.le_of_ble_eq_true rfl) rfl hp_v0 dX11_when_40 rfl (b_getA (nx := 46) (k0 := 5) G hB fl_RX11_162 (Nat.le_of_ble_eq_true rfl) (Nat.le_of_ble_eq_true rfl) rfl (sh_11_0 _ hp_v0) dX11_when_43 rfl ?_))))
        refine b_callV9 (nx := 49) (zs := [am_rfv v0 8, am_rfv (am_rfv v0 0) 5]) (as := [(2, am_rfv (am_rfv v0 0) 5)]) X hB (by decide) rfl (sh_11_8 _ hp_v0) SS_X9_takeFrom (am_ta (am_ta am_tn)) (Nat.le_of_ble_eq_true rfl) (Nat.le_of_ble_eq_true rfl) ml_RX11_216 iw_X9_takeFrom vw_X9_takeFrom cw_X9_takeFrom nw_RX9 pp_X9_takeFrom (Nat.le_of_ble_eq_true rfl) dX11_when_46 rfl (NM_X9_takeFrom (sh_11_8 _ hp_v0) (sh_0_5 _ (sh_11_0 _ hp_v0)) h) (fun r_25 m_26 h hB => ?_)
        refine z_iconst (nx := 50) (z := 0) G (R32c rfl) dX11_when_49 rfl (b_storeE (nx := 52) (a := 4) (loc2 := [(2, v0), (0, v1), (0, v2), (0, v3), (0, 0)]) G rfl (Nat.le_of_ble_eq_true rfl) (am_pl1 rfl (fun h => nomatch h)) dX11_when_50 rfl ?_)
        exact b_fewer (loc2 := [(2, v0), (0, v1), (0, v2), (0, v3), (0, 0)]) (am_lk (am_lk (am_lk (am_lk (am_lk am_ln))))) (S_X11_when_L1 X hp_v0 hB h)
      · have h := h.2 c
        refine z_iconst (nx := 34) (z := (-1)) G (R32c rfl) dX11_when_33 rfl ?_
        exact b_ireturn X hB dX11_when_34 h
theorem NM_X11_when {v0 : Int} {v1 : Int} {v2 : Int} {v3 : Int} {K : am_KK} {m : am_M} (hp_v0 : am_ob v0 11) (h : M_X11_when v0 v1 v2 v3 K m) : N_X11_when [v0, v1, v2, v3] K m := ⟨hp_v0, h⟩
theorem SS_X11_when : am_Snd yX11_when cX11_when 5 (some .int) 0 6 (am_L [2, 0, 0, 0] 0 N_X11_when) := by
  refine am_SB (by decide +kernel) (Nat.le_of_ble_eq_true rfl) (fun F zs as K m X ht hB hM => ?_)
  obtain ⟨v0, zs, as, rfl, rfl, hz0, ht⟩ := am_inv ht
  obtain ⟨v1, zs, as, rfl, rfl, hz1, ht⟩ := am_inv ht
  obtain ⟨v2, zs, as, rfl, rfl, hz2, ht⟩ := am_inv ht
  obtain ⟨v3, zs, as, rfl, rfl, hz3, ht⟩ := am_inv ht
  obtain ⟨rfl, rfl⟩ := am_inv0 ht
  obtain ⟨hp_v0, hM⟩ := hM
  exact S_X11_when X hp_v0 hB hM
