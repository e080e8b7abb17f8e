/-! the machine does what the forms say, 1 -/
set_option maxRecDepth 20000 in
set_option maxHeartbeats 4000000 in
theorem S_X2_isKeptOff_J1 {F : am_F} {K : am_KK} {v0 : Int} {v1 : Int} {v3 : Int} {v4 : Int} {C17 : Int → am_M → Prop} {m : am_M} (X : am_Cx F cX2_isKeptOff RX2 (some .boolean) 4 5 K) (hp_v0 : am_ob v0 0) (hp_v1 : am_ob v1 9) (hC17 : ∀ w4 m, C17 w4 m → am_Bt m → am_Z F 17 [] [(2, v0), (2, v1), (9, 0), (0, v3), (0, w4)] m 200) (hB : am_Bt m) (h : M_X2_isKeptOff_J1 v0 v1 v3 v4 C17 K m) : am_Z F 87 [] [(2, v0), (2, v1), (9, 0), (0, v3), (0, v4)] m 200 := by
  have G := X.G
  unfold M_X2_isKeptOff_J1 at h
  refine b_iinc (nx := 90) (a := 4) (loc2 := fun v4_1 => [(2, v0), (2, v1), (9, 0), (0, v3), (0, v4_1)]) G (fun _ => rfl) rfl (am_pl1 rfl (fun h => nomatch h)) dX2_isKeptOff_87 rfl (fun v4_1 e_v4_1 => ?_)
  have h := h v4_1 e_v4_1
  refine z_goto (tgt := 17) G dX2_isKeptOff_90 (by decide) ?_
  exact b_fewer (loc2 := [(2, v0), (2, v1), (9, 0), (0, v3), (0, v4_1)]) (am_lk (am_lk (am_lk (am_lk (am_lk am_ln))))) (hC17 _ _ h hB)
set_option maxRecDepth 20000 in
set_option maxHeartbeats 4000000 in
theorem S_X2_isKeptOff_L1B {F : am_F} {K : am_KK} {v0 : Int} {v1 : Int} {v3 : Int} {v4 : Int} {C17 : Int → am_M → Prop} {m : am_M} (X : am_Cx F cX2_isKeptOff RX2 (some .boolean) 4 5 K) (hp_v0 : am_ob v0 0) (hp_v1 : am_ob v1 9) (hC17 : ∀ w4 m, C17 w4 m → am_Bt m → am_Z F 17 [] [(2, v0), (2, v1), (9, 0), (0, v3), (0, w4)] m 200) (hB : am_Bt m) (h : M_X2_isKeptOff_L1B v0 v1 v3 v4 C17 K m) : am_Z F 17 [] [(2, v0), (2, v1), (9, 0), (0, v3), (0, v4)] m 200 := by
  have G := X.G
  unfold M_X2_isKeptOff_L1B at h
  refine z_iload (nx := 19) (a := 4) G rfl dX2_isKeptOff_17 rfl (z_aload_n (nx := 20) (a := 1) G rfl (Or.inl rfl) dX2_isKeptOff_19 rfl (b_getA (nx := 23) (k0 := 0) G hB fl_RX2_21 (Nat.le_of_ble_eq_true rfl) (Nat.le_of_ble_eq_true rfl) rfl hp_v1 dX2_isKeptOff_20 rfl (b_getI (nx := 26) (k0 := 2) (t := 0) G fl_RX2_25 (Nat.le_of_ble_eq_true rfl) (Nat.le_of_ble_eq_true rfl) rfl (sh_9_0 _ hp_v1) dX2_isKeptOff_23 rfl ?_)))
  refine z_icmp_ge (nx := 29) (tgt := 93) G dX2_isKeptOff_26 (by decide) rfl (fun c => ?_) (fun c => ?_)
  · have h := h.1 c
    refine z_iconst (nx := 94) (z := 0) G (R32c rfl) dX2_isKeptOff_93 rfl ?_
    exact b_zreturn X hB (Or.inl rfl) dX2_isKeptOff_94 h
  · have h := h.2 c
    refine z_aload_n (nx := 30) (a := 1) G rfl (Or.inl rfl) dX2_isKeptOff_29 rfl (b_getA (nx := 33) (k0 := 0) G hB fl_RX2_21 (Nat.le_of_ble_eq_true rfl) (Nat.le_of_ble_eq_true rfl) rfl hp_v1 dX2_isKeptOff_30 rfl (z_iload (nx := 35) (a := 4) G rfl dX2_isKeptOff_33 rfl (z_iconst (nx := 36) (z := 5) G (R32c rfl) dX2_isKeptOff_35 rfl ?_)))
    refine b_callV0 (nx := 39) (zs := [am_rfv v1 0, v4, 5]) (as := [(0, v4), (0, 5)]) X hB (by decide) rfl (sh_9_0 _ hp_v1) SS_X7_get (am_ta (am_ti (am_ti am_tn))) (Nat.le_of_ble_eq_true rfl) (Nat.le_of_ble_eq_true rfl) ml_RX2_56 iw_X7_get vw_X7_get cw_X7_get nw_RX7 pp_X7_get (Nat.le_of_ble_eq_true rfl) dX2_isKeptOff_36 rfl (NM_X7_get (sh_9_0 _ hp_v1) h) (fun r_2 m_3 h hB => ?_)
    refine z_iconst (nx := 40) (z := 1) G (R32c rfl) dX2_isKeptOff_39 rfl ?_
    refine z_icmp_ne (nx := 43) (tgt := 87) G dX2_isKeptOff_40 (by decide) rfl (fun c => ?_) (fun c => ?_)
    · have h := h.1 c
      exact b_fewer (loc2 := [(2, v0), (2, v1), (9, 0), (0, v3), (0, v4)]) (am_lk (am_lk (am_lk (am_lk (am_lk am_ln))))) (S_X2_isKeptOff_J1 X hp_v0 hp_v1 hC17 hB h)
    · have h := h.2 c
      refine z_iload_n (nx := 44) (a := 3) G rfl dX2_isKeptOff_43 rfl (z_aload_n (nx := 45) (a := 1) G rfl (Or.inl rfl) dX2_isKeptOff_44 rfl (b_getA (nx := 48) (k0 := 0) G hB fl_RX2_21 (Nat.le_of_ble_eq_true rfl) (Nat.le_of_ble_eq_true rfl) rfl hp_v1 dX2_isKeptOff_45 rfl (z_iload (nx := 50) (a := 4) G rfl dX2_isKeptOff_48 rfl (z_iconst (nx := 51) (z := 1) G (R32c rfl) dX2_isKeptOff_50 rfl ?_))))
      refine b_callV0 (nx := 54) (zs := [am_rfv v1 0, v4, 1]) (as := [(0, v4), (0, 1)]) X hB (by decide) rfl (sh_9_0 _ hp_v1) SS_X7_get (am_ta (am_ti (am_ti am_tn))) (Nat.le_of_ble_eq_true rfl) (Nat.le_of_ble_eq_true rfl) ml_RX2_56 iw_X7_get vw_X7_get cw_X7_get nw_RX7 pp_X7_get (Nat.le_of_ble_eq_true rfl) dX2_isKeptOff_51 rfl (NM_X7_get (sh_9_0 _ hp_v1) h) (fun r_4 m_5 h hB => ?_)
      refine z_ishr (nx := 55) G dX2_isKeptOff_54 rfl (z_iconst (nx := 56) (z := 1) G (R32c rfl) dX2_isKeptOff_55 rfl (z_iand (nx := 57) G dX2_isKeptOff_56 rfl (z_iconst (nx := 58) (z := 1) G (R32c rfl) dX2_isKeptOff_57 rfl ?_)))
      refine z_icmp_ne (nx := 61) (tgt := 87) G dX2_isKeptOff_58 (by decide) rfl (fun c => ?_) (fun c => ?_)
      · have h := h.1 c
        exact b_fewer (loc2 := [(2, v0), (2, v1), (9, 0), (0, v3), (0, v4)]) (am_lk (am_lk (am_lk (am_lk (am_lk am_ln))))) (S_X2_isKeptOff_J1 X hp_v0 hp_v1 hC17 hB h)
      · have h := h.2 c
        refine z_aload_n (nx := 62) (a := 1) G rfl (Or.inl rfl) dX2_isKeptOff_61 rfl (b_getI (nx := 65) (k0 := 1) (t := 0) G fl_RX2_35 (Nat.le_of_ble_eq_true rfl) (Nat.le_of_ble_eq_true rfl) rfl hp_v1 dX2_isKeptOff_62 rfl (z_aload_n (nx := 66) (a := 1) G rfl (Or.inl rfl) dX2_isKeptOff_65 rfl (b_getA (nx := 69) (k0 := 0) G hB fl_RX2_21 (Nat.le_of_ble_eq_true rfl) (Nat.le_of_ble_eq_true rfl) rfl hp_v1 dX2_isKeptOff_66 rfl (z_iload (nx := 71) (a := 4) G rfl dX2_isKeptOff_69 rfl (z_bipush (nx := 73) (z := 6) G (R32c rfl) rfl dX2_isKeptOff_71 rfl ?_)))))
        refine b_callV0 (nx := 76) (zs := [am_rfv v1 0, v4, 6]) (as := [(0, v4), (0, 6)]) X hB (by decide) rfl (sh_9_0 _ hp_v1) SS_X7_get (am_ta (am_ti (am_ti am_tn))) (Nat.le_of_ble_eq_true rfl) (Nat.le_of_ble_eq_true rfl) ml_RX2_56 iw_X7_get vw_X7_get cw_X7_get nw_RX7 pp_X7_get (Nat.le_of_ble_eq_true rfl) dX2_isKeptOff_73 rfl (NM_X7_get (sh_9_0 _ hp_v1) h) (fun r_6 m_7 h hB => ?_)
        refine z_isub (nx := 77) G dX2_isKeptOff_76 rfl (z_aload_n (nx := 78) (a := 0) G rfl (Or.inl rfl) dX2_isKeptOff_77 rfl (z_iconst (nx := 79) (z := 2) G (R32c rfl) dX2_isKeptOff_78 rfl ?_))
        refine b_callV0 (nx := 82) (zs := [v0, 2]) (as := [(0, 2)]) X hB (by decide) rfl hp_v0 SS_X0_term (am_ta (am_ti am_tn)) (Nat.le_of_ble_eq_true rfl) (Nat.le_of_ble_eq_true rfl) ml_RX2_71 iw_X0_term vw_X0_term cw_X0_term nw_RX0 pp_X0_term (Nat.le_of_ble_eq_true rfl) dX2_isKeptOff_79 rfl (NM_X0_term hp_v0 h) (fun r_8 m_9 h hB => ?_)
        refine z_icmp_ge (nx := 85) (tgt := 87) G dX2_isKeptOff_82 (by decide) rfl (fun c => ?_) (fun c => ?_)
        · have h := h.1 c
          exact b_fewer (loc2 := [(2, v0), (2, v1), (9, 0), (0, v3), (0, v4)]) (am_lk (am_lk (am_lk (am_lk (am_lk am_ln))))) (S_X2_isKeptOff_J1 X hp_v0 hp_v1 hC17 hB h)
        · have h := h.2 c
          refine z_iconst (nx := 86) (z := 1) G (R32c rfl) dX2_isKeptOff_85 rfl ?_
          exact b_zreturn X hB (Or.inr rfl) dX2_isKeptOff_86 h
theorem S_X2_isKeptOff_L1 {F : am_F} {K : am_KK} {v0 : Int} {v1 : Int} {v3 : Int} {v4 : Int} {m : am_M} (X : am_Cx F cX2_isKeptOff RX2 (some .boolean) 4 5 K) (hp_v0 : am_ob v0 0) (hp_v1 : am_ob v1 9) (hB : am_Bt m) (h : M_X2_isKeptOff_L1 v0 v1 v3 v4 K m) : am_Z F 17 [] [(2, v0), (2, v1), (9, 0), (0, v3), (0, v4)] m 200 := by
  obtain ⟨I, ⟨j, hj⟩, hI⟩ := h
  have key : ∀ j v4 m, I j v4 m → am_Bt m → am_Z F 17 [] [(2, v0), (2, v1), (9, 0), (0, v3), (0, v4)] m 200 := by
    intro j
    induction j using Nat.strongRecOn with
    | ind j ih =>
      intro v4 m hj hB
      exact S_X2_isKeptOff_L1B X hp_v0 hp_v1 (fun v4' m' hc hB' => by
        obtain ⟨j', g1, g2⟩ := hc
        exact ih j' g1 v4' m' g2 hB') hB (hI j v4 m hj)
  exact key j _ _ hj hB
set_option maxRecDepth 20000 in
set_option maxHeartbeats 4000000 in
theorem S_X2_isKeptOff {F : am_F} {K : am_KK} {v0 : Int} {v1 : Int} {v2 : Int} {m : am_M} (X : am_Cx F cX2_isKeptOff RX2 (some .boolean) 4 5 K) (hp_v0 : am_ob v0 0) (hp_v1 : am_ob v1 9) (hB : am_Bt m) (h : M_X2_isKeptOff v0 v1 v2 K m) : am_Z F 0 [] [(2, v0), (2, v1), (0, v2), (9, 0), (9, 0)] m 200 := by
  have G := X.G
  unfold M_X2_isKeptOff at h
  refine z_aload_n (nx := 1) (a := 0) G rfl (Or.inl rfl) dX2_isKeptOff_0 rfl (z_aload_n (nx := 2) (a := 1) G rfl (Or.inl rfl) dX2_isKeptOff_1 rfl (b_getA (nx := 5) (k0 := 0) G hB fl_RX2_21 (Nat.le_of_ble_eq_true rfl) (Nat.le_of_ble_eq_true rfl) rfl hp_v1 dX2_isKeptOff_2 rfl (z_iload_n (nx := 6) (a := 2) G rfl dX2_isKeptOff_5 rfl (z_iconst (nx := 7) (z := 1) G (R32c rfl) dX2_isKeptOff_6 rfl ?_))))
  refine b_callV0 (nx := 10) (zs := [am_rfv v1 0, v2, 1]) (as := [(0, v2), (0, 1)]) X hB (by decide) rfl (sh_9_0 _ hp_v1) SS_X7_get (am_ta (am_ti (am_ti am_tn))) (Nat.le_of_ble_eq_true rfl) (Nat.le_of_ble_eq_true rfl) ml_RX2_56 iw_X7_get vw_X7_get cw_X7_get nw_RX7 pp_X7_get (Nat.le_of_ble_eq_true rfl) dX2_isKeptOff_7 rfl (NM_X7_get (sh_9_0 _ hp_v1) h) (fun r_10 m_11 h hB => ?_)
  refine b_callV0 (nx := 13) (zs := [v0, r_10]) (as := [(0, r_10)]) X hB (by decide) rfl hp_v0 SS_X0_keptOffBy (am_ta (am_ti am_tn)) (Nat.le_of_ble_eq_true rfl) (Nat.le_of_ble_eq_true rfl) ml_RX2_89 iw_X0_keptOffBy vw_X0_keptOffBy cw_X0_keptOffBy nw_RX0 pp_X0_keptOffBy (Nat.le_of_ble_eq_true rfl) dX2_isKeptOff_10 rfl (NM_X0_keptOffBy hp_v0 h) (fun r_12 m_13 h hB => ?_)
  refine b_storeE_n (nx := 14) (a := 3) (loc2 := [(2, v0), (2, v1), (0, v2), (0, r_12), (9, 0)]) G rfl (Nat.le_of_ble_eq_true rfl) (am_pl1 rfl (fun h => nomatch h)) dX2_isKeptOff_13 rfl (z_iconst (nx := 15) (z := 0) G (R32c rfl) dX2_isKeptOff_14 rfl (b_storeE (nx := 17) (a := 4) (loc2 := [(2, v0), (2, v1), (0, v2), (0, r_12), (0, 0)]) G rfl (Nat.le_of_ble_eq_true rfl) (am_pl1 rfl (fun h => nomatch h)) dX2_isKeptOff_15 rfl ?_))
  exact b_fewer (loc2 := [(2, v0), (2, v1), (9, 0), (0, r_12), (0, 0)]) (am_lk (am_lk (am_lf (am_lk (am_lk am_ln))))) (S_X2_isKeptOff_L1 X hp_v0 hp_v1 hB h)
theorem NM_X2_isKeptOff {v0 : Int} {v1 : Int} {v2 : Int} {K : am_KK} {m : am_M} (hp_v0 : am_ob v0 0) (hp_v1 : am_ob v1 9) (h : M_X2_isKeptOff v0 v1 v2 K m) : N_X2_isKeptOff [v0, v1, v2] K m := ⟨hp_v0, hp_v1, h⟩
theorem SS_X2_isKeptOff : am_Snd yX2_isKeptOff cX2_isKeptOff 5 (some .boolean) 0 4 (am_L [2, 2, 0] 5 N_X2_isKeptOff) := by
  refine am_SB (by decide +kernel) (Nat.le_of_ble_eq_true rfl) (fun F zs as K m X ht hB hM => ?_)
  obtain ⟨v0, zs, as, rfl, rfl, hz0, ht⟩ := am_inv ht
  obtain ⟨v1, zs, as, rfl, rfl, hz1, ht⟩ := am_inv ht
  obtain ⟨v2, zs, as, rfl, rfl, hz2, ht⟩ := am_inv ht
  obtain ⟨rfl, rfl⟩ := am_inv0 ht
  obtain ⟨hp_v0, hp_v1, hM⟩ := hM
  exact S_X2_isKeptOff X hp_v0 hp_v1 hB hM
set_option maxRecDepth 20000 in
set_option maxHeartbeats 4000000 in
theorem S_X7_set {F : am_F} {K : am_KK} {v0 : Int} {v1 : Int} {v2 : Int} {v3 : Int} {m : am_M} (X : am_Cx F cX7_set RX7 none 1 9 K) (hp_v0 : am_ob v0 7) (hB : am_Bt m) (h : M_X7_set v0 v1 v2 v3 K m) : am_Z F 0 [] [(2, v0), (0, v1), (0, v2), (0, v3)] m 200 := by
  have G := X.G
  unfold M_X7_set at h
  refine z_iload_n (nx := 1) (a := 1) G rfl dX7_set_0 rfl ?_
  refine z_if_lt (nx := 4) (tgt := 38) G dX7_set_1 (by decide) rfl (fun c => ?_) (fun c => ?_)
  · have h := h.1 c
    exact b_return X hB dX7_set_38 h
  · have h := h.2 c
    refine z_iload_n (nx := 5) (a := 1) G rfl dX7_set_4 rfl (z_aload_n (nx := 6) (a := 0) G rfl (Or.inl rfl) dX7_set_5 rfl (b_getI (nx := 9) (k0 := 2) (t := 0) G fl_RX7_25 (Nat.le_of_ble_eq_true rfl) (Nat.le_of_ble_eq_true rfl) rfl hp_v0 dX7_set_6 rfl ?_))
    refine z_icmp_ge (nx := 12) (tgt := 38) G dX7_set_9 (by decide) rfl (fun c => ?_) (fun c => ?_)
    · have h := h.1 c
      exact b_return X hB dX7_set_38 h
    · have h := h.2 c
      refine z_iload_n (nx := 13) (a := 2) G rfl dX7_set_12 rfl ?_
      refine z_if_lt (nx := 16) (tgt := 38) G dX7_set_13 (by decide) rfl (fun c => ?_) (fun c => ?_)
      · have h := h.1 c
        exact b_return X hB dX7_set_38 h
      · have h := h.2 c
        refine z_iload_n (nx := 17) (a := 2) G rfl dX7_set_16 rfl (z_aload_n (nx := 18) (a := 0) G rfl (Or.inl rfl) dX7_set_17 rfl (b_getI (nx := 21) (k0 := 1) (t := 0) G fl_RX7_15 (Nat.le_of_ble_eq_true rfl) (Nat.le_of_ble_eq_true rfl) rfl hp_v0 dX7_set_18 rfl ?_))
        refine z_icmp_ge (nx := 24) (tgt := 38) G dX7_set_21 (by decide) rfl (fun c => ?_) (fun c => ?_)
        · have h := h.1 c
          exact b_return X hB dX7_set_38 h
        · have h := h.2 c
          refine z_aload_n (nx := 25) (a := 0) G rfl (Or.inl rfl) dX7_set_24 rfl (b_getA (nx := 28) (k0 := 0) G hB fl_RX7_21 (Nat.le_of_ble_eq_true rfl) (Nat.le_of_ble_eq_true rfl) rfl hp_v0 dX7_set_25 rfl (z_iload_n (nx := 29) (a := 1) G rfl dX7_set_28 rfl (z_aload_n (nx := 30) (a := 0) G rfl (Or.inl rfl) dX7_set_29 rfl (b_getI (nx := 33) (k0 := 1) (t := 0) G fl_RX7_15 (Nat.le_of_ble_eq_true rfl) (Nat.le_of_ble_eq_true rfl) rfl hp_v0 dX7_set_30 rfl (z_imul (nx := 34) G dX7_set_33 rfl (z_iload_n (nx := 35) (a := 2) G rfl dX7_set_34 rfl (z_iadd (nx := 36) G dX7_set_35 rfl (z_iload_n (nx := 37) (a := 3) G rfl dX7_set_36 rfl ?_))))))))
          obtain ⟨hb, h⟩ := h
          refine b_iast (nx := 38) G hB (sh_7_0 _ hp_v0) hb.1 hb.2 dX7_set_37 rfl (fun m_1 e_m_1 hB => ?_)
          have h := h m_1 e_m_1
          exact b_return X hB dX7_set_38 h
theorem NM_X7_set {v0 : Int} {v1 : Int} {v2 : Int} {v3 : Int} {K : am_KK} {m : am_M} (hp_v0 : am_ob v0 7) (h : M_X7_set v0 v1 v2 v3 K m) : N_X7_set [v0, v1, v2, v3] K m := ⟨hp_v0, h⟩
theorem SS_X7_set : am_Snd yX7_set cX7_set 4 none 0 1 (am_L [2, 0, 0, 0] 9 N_X7_set) := by
  refine am_SB (by decide +kernel) (Nat.le_of_ble_eq_true rfl) (fun F zs as K m X ht hB hM => ?_)
  obtain ⟨v0, zs, as, rfl, rfl, hz0, ht⟩ := am_inv ht
  obtain ⟨v1, zs, as, rfl, rfl, hz1, ht⟩ := am_inv ht
  obtain ⟨v2, zs, as, rfl, rfl, hz2, ht⟩ := am_inv ht
  obtain ⟨v3, zs, as, rfl, rfl, hz3, ht⟩ := am_inv ht
  obtain ⟨rfl, rfl⟩ := am_inv0 ht
  obtain ⟨hp_v0, hM⟩ := hM
  exact S_X7_set X hp_v0 hB hM
set_option maxRecDepth 20000 in
set_option maxHeartbeats 4000000 in
theorem S_X2_hear_J2 {F : am_F} {K : am_KK} {v0 : Int} {v1 : Int} {v2 : Int} {v3 : Int} {v4 : Int} {v5 : Int} {C26 : Int → Int → am_M → Prop} {m : am_M} (X : am_Cx F cX2_hear RX2 (some .int) 5 0 K) (hp_v0 : am_ob v0 2) (hp_v1 : am_ob v1 0) (hp_v2 : am_ob v2 9) (hC26 : ∀ w4 w5 m, C26 w4 w5 m → am_Bt m → am_Z F 26 [] [(2, v0), (2, v1), (2, v2), (0, v3), (0, w4), (0, w5), (9, 0), (9, 0)] m 200) (hB : am_Bt m) (h : M_X2_hear_J2 v0 v1 v2 v3 v4 v5 C26 K m) : am_Z F 139 [] [(2, v0), (2, v1), (2, v2), (0, v3), (0, v4), (0, v5), (9, 0), (9, 0)] m 200 := by
  have G := X.G
  unfold M_X2_hear_J2 at h
  refine b_iinc (nx := 142) (a := 5) (loc2 := fun v5_1 => [(2, v0), (2, v1), (2, v2), (0, v3), (0, v4), (0, v5_1), (9, 0), (9, 0)]) G (fun _ => rfl) rfl (am_pl1 rfl (fun h => nomatch h)) dX2_hear_139 rfl (fun v5_1 e_v5_1 => ?_)
  have h := h v5_1 e_v5_1
  refine z_goto (tgt := 26) G dX2_hear_142 (by decide) ?_
  exact b_fewer (loc2 := [(2, v0), (2, v1), (2, v2), (0, v3), (0, v4), (0, v5_1), (9, 0), (9, 0)]) (am_lk (am_lk (am_lk (am_lk (am_lk (am_lk (am_lk (am_lk am_ln)))))))) (hC26 _ _ _ h hB)
set_option maxRecDepth 20000 in
set_option maxHeartbeats 4000000 in
theorem S_X2_hear_J1 {F : am_F} {K : am_KK} {v0 : Int} {v1 : Int} {v2 : Int} {v3 : Int} {v4 : Int} {v5 : Int} {v6 : Int} {v7 : Int} {s0 : Int} {s1 : Int} {s2 : Int} {s3 : Int} {C26 : Int → Int → am_M → Prop} {m : am_M} (X : am_Cx F cX2_hear RX2 (some .int) 5 0 K) (hp_v0 : am_ob v0 2) (hp_v1 : am_ob v1 0) (hp_v2 : am_ob v2 9) (hp_s0 : am_ob s0 7) (hC26 : ∀ w4 w5 m, C26 w4 w5 m → am_Bt m → am_Z F 26 [] [(2, v0), (2, v1), (2, v2), (0, v3), (0, w4), (0, w5), (9, 0), (9, 0)] m 200) (hB : am_Bt m) (h : M_X2_hear_J1 v0 v1 v2 v3 v4 v5 v6 v7 s0 s1 s2 s3 C26 K m) : am_Z F 79 [(0, s3), (0, s2), (0, s1), (2, s0)] [(2, v0), (2, v1), (2, v2), (0, v3), (0, v4), (0, v5), (0, v6), (0, v7)] m 200 := by
  have G := X.G
  unfold M_X2_hear_J1 at h
  refine b_callV9 (nx := 82) (zs := [s0, s1, s2, s3]) (as := [(0, s1), (0, s2), (0, s3)]) X hB (by decide) rfl hp_s0 SS_X7_set (am_ta (am_ti (am_ti (am_ti am_tn)))) (Nat.le_of_ble_eq_true rfl) (Nat.le_of_ble_eq_true rfl) ml_RX2_85 iw_X7_set vw_X7_set cw_X7_set nw_RX7 pp_X7_set (Nat.le_of_ble_eq_true rfl) dX2_hear_79 rfl (NM_X7_set hp_s0 h) (fun r_2 m_3 h hB => ?_)
  refine z_aload_n (nx := 83) (a := 2) G rfl (Or.inl rfl) dX2_hear_82 rfl (b_getA (nx := 86) (k0 := 0) G hB fl_RX2_21 (Nat.le_of_ble_eq_true rfl) (Nat.le_of_ble_eq_true rfl) rfl hp_v2 dX2_hear_83 rfl (z_iload (nx := 88) (a := 6) G rfl dX2_hear_86 rfl (z_bipush (nx := 90) (z := 6) G (R32c rfl) rfl dX2_hear_88 rfl (z_aload_n (nx := 91) (a := 2) G rfl (Or.inl rfl) dX2_hear_90 rfl (b_getI (nx := 94) (k0 := 1) (t := 0) G fl_RX2_35 (Nat.le_of_ble_eq_true rfl) (Nat.le_of_ble_eq_true rfl) rfl hp_v2 dX2_hear_91 rfl ?_)))))
  refine b_callV9 (nx := 97) (zs := [am_rfv v2 0, v6, 6, m_3 v2 1]) (as := [(0, v6), (0, 6), (0, m_3 v2 1)]) X hB (by decide) rfl (sh_9_0 _ hp_v2) SS_X7_set (am_ta (am_ti (am_ti (am_ti am_tn)))) (Nat.le_of_ble_eq_true rfl) (Nat.le_of_ble_eq_true rfl) ml_RX2_85 iw_X7_set vw_X7_set cw_X7_set nw_RX7 pp_X7_set (Nat.le_of_ble_eq_true rfl) dX2_hear_94 rfl (NM_X7_set (sh_9_0 _ hp_v2) h) (fun r_4 m_5 h hB => ?_)
  refine z_aload_n (nx := 98) (a := 0) G rfl (Or.inl rfl) dX2_hear_97 rfl (z_dup (nx := 99) G (fun h => nomatch h) dX2_hear_98 rfl (b_getI (nx := 102) (k0 := 2) (t := 0) G fl_RX2_65 (Nat.le_of_ble_eq_true rfl) (Nat.le_of_ble_eq_true rfl) rfl hp_v0 dX2_hear_99 rfl (z_iconst (nx := 103) (z := 1) G (R32c rfl) dX2_hear_102 rfl (z_iload (nx := 105) (a := 6) G rfl dX2_hear_103 rfl (z_ishl (nx := 106) G dX2_hear_105 rfl (z_ior (nx := 107) G dX2_hear_106 rfl ?_))))))
  refine b_put (nx := 110) (k0 := 2) (t := 0) G hB fl_RX2_65 (Nat.le_of_ble_eq_true rfl) (Nat.le_of_ble_eq_true rfl) rfl (fun h => nomatch h) rfl hp_v0 dX2_hear_107 rfl (fun m_6 e_m_6 hB => ?_)
  have h := h m_6 e_m_6
  refine z_iload (nx := 112) (a := 7) G rfl dX2_hear_110 rfl ?_
  refine z_if_ne (nx := 115) (tgt := 139) G dX2_hear_112 (by decide) rfl (fun c => ?_) (fun c => ?_)
  · have h := h.1 c
    exact b_fewer (loc2 := [(2, v0), (2, v1), (2, v2), (0, v3), (0, v4), (0, v5), (9, 0), (9, 0)]) (am_lk (am_lk (am_lk (am_lk (am_lk (am_lk (am_lf (am_lf am_ln)))))))) (S_X2_hear_J2 X hp_v0 hp_v1 hp_v2 hC26 hB h)
  · have h := h.2 c
    refine b_iinc (nx := 118) (a := 4) (loc2 := fun v4_7 => [(2, v0), (2, v1), (2, v2), (0, v3), (0, v4_7), (0, v5), (0, v6), (0, v7)]) G (fun _ => rfl) rfl (am_pl1 rfl (fun h => nomatch h)) dX2_hear_115 rfl (fun v4_7 e_v4_7 => ?_)
    have h := h v4_7 e_v4_7
    refine z_aload_n (nx := 119) (a := 0) G rfl (Or.inl rfl) dX2_hear_118 rfl (z_dup (nx := 120) G (fun h => nomatch h) dX2_hear_119 rfl (b_getI (nx := 123) (k0 := 3) (t := 0) G fl_RX2_68 (Nat.le_of_ble_eq_true rfl) (Nat.le_of_ble_eq_true rfl) rfl hp_v0 dX2_hear_120 rfl (z_iconst (nx := 124) (z := 1) G (R32c rfl) dX2_hear_123 rfl (z_aload_n (nx := 125) (a := 2) G rfl (Or.inl rfl) dX2_hear_124 rfl (b_getA (nx := 128) (k0 := 0) G hB fl_RX2_21 (Nat.le_of_ble_eq_true rfl) (Nat.le_of_ble_eq_true rfl) rfl hp_v2 dX2_hear_125 rfl (z_iload (nx := 130) (a := 6) G rfl dX2_hear_128 rfl (z_iconst (nx := 131) (z := 1) G (R32c rfl) dX2_hear_130 rfl ?_)))))))
    refine b_callV0 (nx := 134) (zs := [am_rfv v2 0, v6, 1]) (as := [(0, v6), (0, 1)]) X hB (by decide) rfl (sh_9_0 _ hp_v2) SS_X7_get (am_ta (am_ti (am_ti am_tn))) (Nat.le_of_ble_eq_true rfl) (Nat.le_of_ble_eq_true rfl) ml_RX2_56 iw_X7_get vw_X7_get cw_X7_get nw_RX7 pp_X7_get (Nat.le_of_ble_eq_true rfl) dX2_hear_131 rfl (NM_X7_get (sh_9_0 _ hp_v2) h) (fun r_8 m_9 h hB => ?_)
    refine z_ishl (nx := 135) G dX2_hear_134 rfl (z_ior (nx := 136) G dX2_hear_135 rfl ?_)
    refine b_put (nx := 139) (k0 := 3) (t := 0) G hB fl_RX2_68 (Nat.le_of_ble_eq_true rfl) (Nat.le_of_ble_eq_true rfl) rfl (fun h => nomatch h) rfl hp_v0 dX2_hear_136 rfl (fun m_10 e_m_10 hB => ?_)
    have h := h m_10 e_m_10
    exact b_fewer (loc2 := [(2, v0), (2, v1), (2, v2), (0, v3), (0, v4_7), (0, v5), (9, 0), (9, 0)]) (am_lk (am_lk (am_lk (am_lk (am_lk (am_lk (am_lf (am_lf am_ln)))))))) (S_X2_hear_J2 X hp_v0 hp_v1 hp_v2 hC26 hB h)
set_option maxRecDepth 20000 in
set_option maxHeartbeats 4000000 in
theorem S_X2_hear_L1B {F : am_F} {K : am_KK} {v0 : Int} {v1 : Int} {v2 : Int} {v3 : Int} {v4 : Int} {v5 : Int} {C26 : Int → Int → am_M → Prop} {m : am_M} (X : am_Cx F cX2_hear RX2 (some .int) 5 0 K) (hp_v0 : am_ob v0 2) (hp_v1 : am_ob v1 0) (hp_v2 : am_ob v2 9) (hC26 : ∀ w4 w5 m, C26 w4 w5 m → am_Bt m → am_Z F 26 [] [(2, v0), (2, v1), (2, v2), (0, v3), (0, w4), (0, w5), (9, 0), (9, 0)] m 200) (hB : am_Bt m) (h : M_X2_hear_L1B v0 v1 v2 v3 v4 v5 C26 K m) : am_Z F 26 [] [(2, v0), (2, v1), (2, v2), (0, v3), (0, v4), (0, v5), (9, 0), (9, 0)] m 200 := by
  have G := X.G
  unfold M_X2_hear_L1B at h
  refine z_iload (nx := 28) (a := 5) G rfl dX2_hear_26 rfl (z_aload_n (nx := 29) (a := 1) G rfl (Or.inl rfl) dX2_hear_28 rfl (z_iconst (nx := 30) (z := 1) G (R32c rfl) dX2_hear_29 rfl ?_))
  refine b_callV0 (nx := 33) (zs := [v1, 1]) (as := [(0, 1)]) X hB (by decide) rfl hp_v1 SS_X0_term (am_ta (am_ti am_tn)) (Nat.le_of_ble_eq_true rfl) (Nat.le_of_ble_eq_true rfl) ml_RX2_71 iw_X0_term vw_X0_term cw_X0_term nw_RX0 pp_X0_term (Nat.le_of_ble_eq_true rfl) dX2_hear_30 rfl (NM_X0_term hp_v1 h) (fun r_11 m_12 h hB => ?_)
  refine z_icmp_ge (nx := 36) (tgt := 145) G dX2_hear_33 (by decide) rfl (fun c => ?_) (fun c => ?_)
  · have h := h.1 c
    refine z_iload (nx := 147) (a := 4) G rfl dX2_hear_145 rfl ?_
    exact b_ireturn X hB dX2_hear_147 h
  · have h := h.2 c
    refine z_aload_n (nx := 37) (a := 0) G rfl (Or.inl rfl) dX2_hear_36 rfl (z_aload_n (nx := 38) (a := 2) G rfl (Or.inl rfl) dX2_hear_37 rfl (z_iload_n (nx := 39) (a := 3) G rfl dX2_hear_38 rfl ?_))
    refine b_callV0 (nx := 42) (zs := [v0, v2, v3]) (as := [(2, v2), (0, v3)]) X hB (by decide) rfl hp_v0 SS_X2_lowest (am_ta (am_ta (am_ti am_tn))) (Nat.le_of_ble_eq_true rfl) (Nat.le_of_ble_eq_true rfl) ml_RX2_77 iw_X2_lowest vw_X2_lowest cw_X2_lowest nw_RX2 pp_X2_lowest (Nat.le_of_ble_eq_true rfl) dX2_hear_39 rfl (NM_X2_lowest hp_v0 hp_v2 h) (fun r_13 m_14 h hB => ?_)
    refine b_storeE (nx := 44) (a := 6) (loc2 := [(2, v0), (2, v1), (2, v2), (0, v3), (0, v4), (0, v5), (0, r_13), (9, 0)]) G rfl (Nat.le_of_ble_eq_true rfl) (am_pl1 rfl (fun h => nomatch h)) dX2_hear_42 rfl (z_iload (nx := 46) (a := 6) G rfl dX2_hear_44 rfl (z_iconst (nx := 47) (z := (-1)) G (R32c rfl) dX2_hear_46 rfl ?_))
    refine z_icmp_ne (nx := 50) (tgt := 53) G dX2_hear_47 (by decide) rfl (fun c => ?_) (fun c => ?_)
    · have h := h.1 c
      refine z_aload_n (nx := 54) (a := 1) G rfl (Or.inl rfl) dX2_hear_53 rfl (z_aload_n (nx := 55) (a := 2) G rfl (Or.inl rfl) dX2_hear_54 rfl (z_iload (nx := 57) (a := 6) G rfl dX2_hear_55 rfl ?_))
      refine b_callS5 (nx := 60) (zs := [v1, v2, r_13]) (as := [(2, v1), (2, v2), (0, r_13)]) X hB SS_X2_isKeptOff (am_ta (am_ta (am_ti am_tn))) (Nat.le_of_ble_eq_true rfl) (Nat.le_of_ble_eq_true rfl) ml_RX2_81 sw_X2_isKeptOff (am_plainC 2 (by decide)) cw_X2_isKeptOff nw_RX2 pp_X2_isKeptOff (Nat.le_of_ble_eq_true rfl) dX2_hear_57 rfl (NM_X2_isKeptOff hp_v1 hp_v2 h) (fun r_15 m_16 h h01_17 hB => ?_)
      refine b_storeE (nx := 62) (a := 7) (loc2 := [(2, v0), (2, v1), (2, v2), (0, v3), (0, v4), (0, v5), (0, r_13), (0, r_15)]) G rfl (Nat.le_of_ble_eq_true rfl) (am_pl1 rfl (fun h => nomatch h)) dX2_hear_60 rfl (z_aload_n (nx := 63) (a := 2) G rfl (Or.inl rfl) dX2_hear_62 rfl (b_getA (nx := 66) (k0 := 0) G hB fl_RX2_21 (Nat.le_of_ble_eq_true rfl) (Nat.le_of_ble_eq_true rfl) rfl hp_v2 dX2_hear_63 rfl (z_iload (nx := 68) (a := 6) G rfl dX2_hear_66 rfl (z_iconst (nx := 69) (z := 5) G (R32c rfl) dX2_hear_68 rfl (z_iload (nx := 71) (a := 7) G rfl dX2_hear_69 rfl ?_)))))
      refine z_if_eq (nx := 74) (tgt := 78) G dX2_hear_71 (by decide) rfl (fun c => ?_) (fun c => ?_)
      · have h := h.1 c
        refine z_iconst (nx := 79) (z := 1) G (R32c rfl) dX2_hear_78 rfl ?_
        exact b_fewer (loc2 := [(2, v0), (2, v1), (2, v2), (0, v3), (0, v4), (0, v5), (0, r_13), (0, r_15)]) (am_lk (am_lk (am_lk (am_lk (am_lk (am_lk (am_lk (am_lk am_ln)))))))) (S_X2_hear_J1 X hp_v0 hp_v1 hp_v2 (sh_9_0 _ hp_v2) hC26 hB h)
      · have h := h.2 c
        refine z_iconst (nx := 75) (z := 2) G (R32c rfl) dX2_hear_74 rfl (z_goto (tgt := 79) G dX2_hear_75 (by decide) ?_)
        exact b_fewer (loc2 := [(2, v0), (2, v1), (2, v2), (0, v3), (0, v4), (0, v5), (0, r_13), (0, r_15)]) (am_lk (am_lk (am_lk (am_lk (am_lk (am_lk (am_lk (am_lk am_ln)))))))) (S_X2_hear_J1 X hp_v0 hp_v1 hp_v2 (sh_9_0 _ hp_v2) hC26 hB h)
    · have h := h.2 c
      refine z_goto (tgt := 145) G dX2_hear_50 (by decide) (z_iload (nx := 147) (a := 4) G rfl dX2_hear_145 rfl ?_)
      exact b_ireturn X hB dX2_hear_147 h
theorem S_X2_hear_L1 {F : am_F} {K : am_KK} {v0 : Int} {v1 : Int} {v2 : Int} {v3 : Int} {v4 : Int} {v5 : Int} {m : am_M} (X : am_Cx F cX2_hear RX2 (some .int) 5 0 K) (hp_v0 : am_ob v0 2) (hp_v1 : am_ob v1 0) (hp_v2 : am_ob v2 9) (hB : am_Bt m) (h : M_X2_hear_L1 v0 v1 v2 v3 v4 v5 K m) : am_Z F 26 [] [(2, v0), (2, v1), (2, v2), (0, v3), (0, v4), (0, v5), (9, 0), (9, 0)] m 200 := by
  obtain ⟨I, ⟨j, hj⟩, hI⟩ := h
  have key : ∀ j v4 v5 m, I j v4 v5 m → am_Bt m → am_Z F 26 [] [(2, v0), (2, v1), (2, v2), (0, v3), (0, v4), (0, v5), (9, 0), (9, 0)] m 200 := by
    intro j
    induction j using Nat.strongRecOn with
    | ind j ih =>
      intro v4 v5 m hj hB
      exact S_X2_hear_L1B X hp_v0 hp_v1 hp_v2 (fun v4' v5' m' hc hB' => by
        obtain ⟨j', g1, g2⟩ := hc
        exact ih j' g1 v4' v5' m' g2 hB') hB (hI j v4 v5 m hj)
  exact key j _ _ _ hj hB
set_option maxRecDepth 20000 in
set_option maxHeartbeats 4000000 in
theorem S_X2_hear {F : am_F} {K : am_KK} {v0 : Int} {v1 : Int} {v2 : Int} {v3 : Int} {m : am_M} (X : am_Cx F cX2_hear RX2 (some .int) 5 0 K) (hp_v0 : am_ob v0 2) (hp_v1 : am_ob v1 0) (hp_v2 : am_ob v2 9) (hB : am_Bt m) (h : M_X2_hear v0 v1 v2 v3 K m) : am_Z F 0 [] [(2, v0), (2, v1), (2, v2), (0, v3), (9, 0), (9, 0), (9, 0), (9, 0)] m 200 := by
  have G := X.G
  unfold M_X2_hear at h
  refine z_iconst (nx := 1) (z := 0) G (R32c rfl) dX2_hear_0 rfl (b_storeE (nx := 3) (a := 4) (loc2 := [(2, v0), (2, v1), (2, v2), (0, v3), (0, 0), (9, 0), (9, 0), (9, 0)]) G rfl (Nat.le_of_ble_eq_true rfl) (am_pl1 rfl (fun h => nomatch h)) dX2_hear_1 rfl (z_aload_n (nx := 4) (a := 0) G rfl (Or.inl rfl) dX2_hear_3 rfl (z_iconst (nx := 5) (z := 0) G (R32c rfl) dX2_hear_4 rfl ?_)))
  refine b_put (nx := 8) (k0 := 2) (t := 0) G hB fl_RX2_65 (Nat.le_of_ble_eq_true rfl) (Nat.le_of_ble_eq_true rfl) rfl (fun h => nomatch h) rfl hp_v0 dX2_hear_5 rfl (fun m_18 e_m_18 hB => ?_)
  have h := h m_18 e_m_18
  refine z_aload_n (nx := 9) (a := 0) G rfl (Or.inl rfl) dX2_hear_8 rfl (z_iconst (nx := 10) (z := 0) G (R32c rfl) dX2_hear_9 rfl ?_)
  refine b_put (nx := 13) (k0 := 3) (t := 0) G hB fl_RX2_68 (Nat.le_of_ble_eq_true rfl) (Nat.le_of_ble_eq_true rfl) rfl (fun h => nomatch h) rfl hp_v0 dX2_hear_10 rfl (fun m_19 e_m_19 hB => ?_)
  have h := h m_19 e_m_19
  refine z_aload_n (nx := 14) (a := 2) G rfl (Or.inl rfl) dX2_hear_13 rfl (z_dup (nx := 15) G (fun h => nomatch h) dX2_hear_14 rfl (b_getI (nx := 18) (k0 := 1) (t := 0) G fl_RX2_35 (Nat.le_of_ble_eq_true rfl) (Nat.le_of_ble_eq_true rfl) rfl hp_v2 dX2_hear_15 rfl (z_iconst (nx := 19) (z := 1) G (R32c rfl) dX2_hear_18 rfl (z_iadd (nx := 20) G dX2_hear_19 rfl ?_))))
  refine b_put (nx := 23) (k0 := 1) (t := 0) G hB fl_RX2_35 (Nat.le_of_ble_eq_true rfl) (Nat.le_of_ble_eq_true rfl) rfl (fun h => nomatch h) rfl hp_v2 dX2_hear_20 rfl (fun m_20 e_m_20 hB => ?_)
  have h := h m_20 e_m_20
  refine z_iconst (nx := 24) (z := 0) G (R32c rfl) dX2_hear_23 rfl (b_storeE (nx := 26) (a := 5) (loc2 := [(2, v0), (2, v1), (2, v2), (0, v3), (0, 0), (0, 0), (9, 0), (9, 0)]) G rfl (Nat.le_of_ble_eq_true rfl) (am_pl1 rfl (fun h => nomatch h)) dX2_hear_24 rfl ?_)
  exact b_fewer (loc2 := [(2, v0), (2, v1), (2, v2), (0, v3), (0, 0), (0, 0), (9, 0), (9, 0)]) (am_lk (am_lk (am_lk (am_lk (am_lk (am_lk (am_lk (am_lk am_ln)))))))) (S_X2_hear_L1 X hp_v0 hp_v1 hp_v2 hB h)
theorem NM_X2_hear {v0 : Int} {v1 : Int} {v2 : Int} {v3 : Int} {K : am_KK} {m : am_M} (hp_v0 : am_ob v0 2) (hp_v1 : am_ob v1 0) (hp_v2 : am_ob v2 9) (h : M_X2_hear v0 v1 v2 v3 K m) : N_X2_hear [v0, v1, v2, v3] K m := ⟨hp_v0, hp_v1, hp_v2, h⟩
theorem SS_X2_hear : am_Snd yX2_hear cX2_hear 8 (some .int) 0 5 (am_L [2, 2, 2, 0] 0 N_X2_hear) := by
  refine am_SB (by decide +kernel) (Nat.le_of_ble_eq_true rfl) (fun F zs as K m X ht hB hM => ?_)
  obtain ⟨v0, zs, as, rfl, rfl, hz0, ht⟩ := am_inv ht
  obtain ⟨v1, zs, as, rfl, rfl, hz1, ht⟩ := am_inv ht
  obtain ⟨v2, zs, as, rfl, rfl, hz2, ht⟩ := am_inv ht
  obtain ⟨v3, zs, as, rfl, rfl, hz3, ht⟩ := am_inv ht
  obtain ⟨rfl, rfl⟩ := am_inv0 ht
  obtain ⟨hp_v0, hp_v1, hp_v2, hM⟩ := hM
  exact S_X2_hear X hp_v0 hp_v1 hp_v2 hB hM
set_option maxRecDepth 20000 in
set_option maxHeartbeats 4000000 in
theorem S_X3_rankTold {F : am_F} {K : am_KK} {v0 : Int} {v1 : Int} {m : am_M} (X : am_Cx F cX3_rankTold RX3 (some .int) 4 0 K) (hp_v0 : am_ob v0 3) (hp_v1 : am_ob v1 0) (hB : am_Bt m) (h : M_X3_rankTold v0 v1 K m) : am_Z F 0 [] [(2, v0), (2, v1)] m 200 := by
  have G := X.G
  unfold M_X3_rankTold at h
  refine z_aload_n (nx := 1) (a := 0) G rfl (Or.inl rfl) dX3_rankTold_0 rfl (z_aload_n (nx := 2) (a := 1) G rfl (Or.inl rfl) dX3_rankTold_1 rfl (z_iconst (nx := 3) (z := 0) G (R32c rfl) dX3_rankTold_2 rfl (z_aload_n (nx := 4) (a := 0) G rfl (Or.inl rfl) dX3_rankTold_3 rfl (b_getA (nx := 7) (k0 := 0) G hB fl_RX3_9 (Nat.le_of_ble_eq_true rfl) (Nat.le_of_ble_eq_true rfl) rfl hp_v0 dX3_rankTold_4 rfl (z_iconst (nx := 8) (z := 0) G (R32c rfl) dX3_rankTold_7 rfl ?_)))))
  obtain ⟨hb, h⟩ := h
  refine z_iald (nx := 9) G (sh_3_0 _ hp_v0) hb.1 hb.2 dX3_rankTold_8 rfl ?_
  refine z_sipush (nx := 12) (z := (-9999)) G (R32c rfl) rfl dX3_rankTold_9 rfl (z_sipush (nx := 15) (z := 9999) G (R32c rfl) rfl dX3_rankTold_12 rfl ?_)
  refine b_callV0 (nx := 18) (zs := [v0, v1, 0, m (am_rfv v0 0) 0, (-9999), 9999]) (as := [(2, v1), (0, 0), (0, m (am_rfv v0 0) 0), (0, (-9999)), (0, 9999)]) X hB (by decide) rfl hp_v0 SS_X3_tells (am_ta (am_ta (am_ti (am_ti (am_ti (am_ti am_tn)))))) (Nat.le_of_ble_eq_true rfl) (Nat.le_of_ble_eq_true rfl) ml_RX3_43 iw_X3_tells vw_X3_tells cw_X3_tells nw_RX3 pp_X3_tells (Nat.le_of_ble_eq_true rfl) dX3_rankTold_15 rfl (NM_X3_tells hp_v0 hp_v1 h) (fun r_1 m_2 h hB => ?_)
  exact b_ireturn X hB dX3_rankTold_18 h
theorem NM_X3_rankTold {v0 : Int} {v1 : Int} {K : am_KK} {m : am_M} (hp_v0 : am_ob v0 3) (hp_v1 : am_ob v1 0) (h : M_X3_rankTold v0 v1 K m) : N_X3_rankTold [v0, v1] K m := ⟨hp_v0, hp_v1, h⟩
theorem SS_X3_rankTold : am_Snd yX3_rankTold cX3_rankTold 2 (some .int) 0 4 (am_L [2, 2] 0 N_X3_rankTold) := by
  refine am_SB (by decide +kernel) (Nat.le_of_ble_eq_true rfl) (fun F zs as K m X ht hB hM => ?_)
  obtain ⟨v0, zs, as, rfl, rfl, hz0, ht⟩ := am_inv ht
  obtain ⟨v1, zs, as, rfl, rfl, hz1, ht⟩ := am_inv ht
  obtain ⟨rfl, rfl⟩ := am_inv0 ht
  obtain ⟨hp_v0, hp_v1, hM⟩ := hM
  exact S_X3_rankTold X hp_v0 hp_v1 hB hM
set_option maxRecDepth 20000 in
set_option maxHeartbeats 4000000 in
theorem S_X3_breathOf {F : am_F} {K : am_KK} {v0 : Int} {v1 : Int} {v2 : Int} {v3 : Int} {m : am_M} (X : am_Cx F cX3_breathOf RX3 (some .int) 4 0 K) (hp_v0 : am_ob v0 3) (hp_v1 : am_ob v1 0) (hB : am_Bt m) (h : M_X3_breathOf v0 v1 v2 v3 K m) : am_Z F 0 [] [(2, v0), (2, v1), (0, v2), (0, v3)] m 200 := by
  have G := X.G
  unfold M_X3_breathOf at h
  refine z_aload_n (nx := 1) (a := 0) G rfl (Or.inl rfl) dX3_breathOf_0 rfl (b_getA (nx := 4) (k0 := 0) G hB fl_RX3_9 (Nat.le_of_ble_eq_true rfl) (Nat.le_of_ble_eq_true rfl) rfl hp_v0 dX3_breathOf_1 rfl (z_iconst (nx := 5) (z := 0) G (R32c rfl) dX3_breathOf_4 rfl (z_iconst (nx := 6) (z := (-1)) G (R32c rfl) dX3_breathOf_5 rfl ?_)))
  obtain ⟨hb, h⟩ := h
  refine b_iast (nx := 7) G hB (sh_3_0 _ hp_v0) hb.1 hb.2 dX3_breathOf_6 rfl (fun m_1 e_m_1 hB => ?_)
  have h := h m_1 e_m_1
  refine z_aload_n (nx := 8) (a := 0) G rfl (Or.inl rfl) dX3_breathOf_7 rfl (b_getA (nx := 11) (k0 := 0) G hB fl_RX3_9 (Nat.le_of_ble_eq_true rfl) (Nat.le_of_ble_eq_true rfl) rfl hp_v0 dX3_breathOf_8 rfl (z_iconst (nx := 12) (z := 1) G (R32c rfl) dX3_breathOf_11 rfl (z_iconst (nx := 13) (z := (-1)) G (R32c rfl) dX3_breathOf_12 rfl ?_)))
  obtain ⟨hb, h⟩ := h
  refine b_iast (nx := 14) G hB (sh_3_0 _ hp_v0) hb.1 hb.2 dX3_breathOf_13 rfl (fun m_2 e_m_2 hB => ?_)
  have h := h m_2 e_m_2
  refine z_aload_n (nx := 15) (a := 0) G rfl (Or.inl rfl) dX3_breathOf_14 rfl (b_getA (nx := 18) (k0 := 0) G hB fl_RX3_9 (Nat.le_of_ble_eq_true rfl) (Nat.le_of_ble_eq_true rfl) rfl hp_v0 dX3_breathOf_15 rfl (z_iconst (nx := 19) (z := 2) G (R32c rfl) dX3_breathOf_18 rfl (z_iload_n (nx := 20) (a := 2) G rfl dX3_breathOf_19 rfl ?_)))
  obtain ⟨hb, h⟩ := h
  refine b_iast (nx := 21) G hB (sh_3_0 _ hp_v0) hb.1 hb.2 dX3_breathOf_20 rfl (fun m_3 e_m_3 hB => ?_)
  have h := h m_3 e_m_3
  refine z_aload_n (nx := 22) (a := 0) G rfl (Or.inl rfl) dX3_breathOf_21 rfl (b_getA (nx := 25) (k0 := 0) G hB fl_RX3_9 (Nat.le_of_ble_eq_true rfl) (Nat.le_of_ble_eq_true rfl) rfl hp_v0 dX3_breathOf_22 rfl (z_iconst (nx := 26) (z := 3) G (R32c rfl) dX3_breathOf_25 rfl (z_aload_n (nx := 27) (a := 1) G rfl (Or.inl rfl) dX3_breathOf_26 rfl (b_getA (nx := 30) (k0 := 2) G hB fl_RX3_34 (Nat.le_of_ble_eq_true rfl) (Nat.le_of_ble_eq_true rfl) rfl hp_v1 dX3_breathOf_27 rfl (z_iload_n (nx := 31) (a := 2) G rfl dX3_breathOf_30 rfl (z_iconst (nx := 32) (z := 0) G (R32c rfl) dX3_breathOf_31 rfl ?_))))))
  refine b_callV0 (nx := 35) (zs := [am_rfv v1 2, v2, 0]) (as := [(0, v2), (0, 0)]) X hB (by decide) rfl (sh_0_2 _ hp_v1) SS_X7_get (am_ta (am_ti (am_ti am_tn))) (Nat.le_of_ble_eq_true rfl) (Nat.le_of_ble_eq_true rfl) ml_RX3_28 iw_X7_get vw_X7_get cw_X7_get nw_RX7 pp_X7_get (Nat.le_of_ble_eq_true rfl) dX3_breathOf_32 rfl (NM_X7_get (sh_0_2 _ hp_v1) h) (fun r_4 m_5 h hB => ?_)
  obtain ⟨hb, h⟩ := h
  refine b_iast (nx := 36) G hB (sh_3_0 _ hp_v0) hb.1 hb.2 dX3_breathOf_35 rfl (fun m_6 e_m_6 hB => ?_)
  have h := h m_6 e_m_6
  refine z_aload_n (nx := 37) (a := 0) G rfl (Or.inl rfl) dX3_breathOf_36 rfl (b_getA (nx := 40) (k0 := 0) G hB fl_RX3_9 (Nat.le_of_ble_eq_true rfl) (Nat.le_of_ble_eq_true rfl) rfl hp_v0 dX3_breathOf_37 rfl (z_iconst (nx := 41) (z := 4) G (R32c rfl) dX3_breathOf_40 rfl (z_iconst (nx := 42) (z := (-1)) G (R32c rfl) dX3_breathOf_41 rfl ?_)))
  obtain ⟨hb, h⟩ := h
  refine b_iast (nx := 43) G hB (sh_3_0 _ hp_v0) hb.1 hb.2 dX3_breathOf_42 rfl (fun m_7 e_m_7 hB => ?_)
  have h := h m_7 e_m_7
  refine z_aload_n (nx := 44) (a := 0) G rfl (Or.inl rfl) dX3_breathOf_43 rfl (b_getA (nx := 47) (k0 := 0) G hB fl_RX3_9 (Nat.le_of_ble_eq_true rfl) (Nat.le_of_ble_eq_true rfl) rfl hp_v0 dX3_breathOf_44 rfl (z_iconst (nx := 48) (z := 5) G (R32c rfl) dX3_breathOf_47 rfl (z_iconst (nx := 49) (z := (-1)) G (R32c rfl) dX3_breathOf_48 rfl ?_)))
  obtain ⟨hb, h⟩ := h
  refine b_iast (nx := 50) G hB (sh_3_0 _ hp_v0) hb.1 hb.2 dX3_breathOf_49 rfl (fun m_8 e_m_8 hB => ?_)
  have h := h m_8 e_m_8
  refine z_aload_n (nx := 51) (a := 0) G rfl (Or.inl rfl) dX3_breathOf_50 rfl (b_getA (nx := 54) (k0 := 0) G hB fl_RX3_9 (Nat.le_of_ble_eq_true rfl) (Nat.le_of_ble_eq_true rfl) rfl hp_v0 dX3_breathOf_51 rfl (z_bipush (nx := 56) (z := 6) G (R32c rfl) rfl dX3_breathOf_54 rfl (z_iload_n (nx := 57) (a := 3) G rfl dX3_breathOf_56 rfl ?_)))
  obtain ⟨hb, h⟩ := h
  refine b_iast (nx := 58) G hB (sh_3_0 _ hp_v0) hb.1 hb.2 dX3_breathOf_57 rfl (fun m_9 e_m_9 hB => ?_)
  have h := h m_9 e_m_9
  refine z_aload_n (nx := 59) (a := 0) G rfl (Or.inl rfl) dX3_breathOf_58 rfl (b_getA (nx := 62) (k0 := 0) G hB fl_RX3_9 (Nat.le_of_ble_eq_true rfl) (Nat.le_of_ble_eq_true rfl) rfl hp_v0 dX3_breathOf_59 rfl (z_bipush (nx := 64) (z := 7) G (R32c rfl) rfl dX3_breathOf_62 rfl (z_aload_n (nx := 65) (a := 1) G rfl (Or.inl rfl) dX3_breathOf_64 rfl (z_iconst (nx := 66) (z := 3) G (R32c rfl) dX3_breathOf_65 rfl ?_))))
  refine b_callV0 (nx := 69) (zs := [v1, 3]) (as := [(0, 3)]) X hB (by decide) rfl hp_v1 SS_X0_term (am_ta (am_ti am_tn)) (Nat.le_of_ble_eq_true rfl) (Nat.le_of_ble_eq_true rfl) ml_RX3_39 iw_X0_term vw_X0_term cw_X0_term nw_RX0 pp_X0_term (Nat.le_of_ble_eq_true rfl) dX3_breathOf_66 rfl (NM_X0_term hp_v1 h) (fun r_10 m_11 h hB => ?_)
  obtain ⟨hb, h⟩ := h
  refine b_iast (nx := 70) G hB (sh_3_0 _ hp_v0) hb.1 hb.2 dX3_breathOf_69 rfl (fun m_12 e_m_12 hB => ?_)
  have h := h m_12 e_m_12
  refine z_aload_n (nx := 71) (a := 0) G rfl (Or.inl rfl) dX3_breathOf_70 rfl (z_aload_n (nx := 72) (a := 1) G rfl (Or.inl rfl) dX3_breathOf_71 rfl (z_iconst (nx := 73) (z := 1) G (R32c rfl) dX3_breathOf_72 rfl (z_bipush (nx := 75) (z := 99) G (R32c rfl) rfl dX3_breathOf_73 rfl (z_iconst (nx := 76) (z := 0) G (R32c rfl) dX3_breathOf_75 rfl (z_bipush (nx := 78) (z := 99) G (R32c rfl) rfl dX3_breathOf_76 rfl ?_)))))
  refine b_callV0 (nx := 81) (zs := [v0, v1, 1, 99, 0, 99]) (as := [(2, v1), (0, 1), (0, 99), (0, 0), (0, 99)]) X hB (by decide) rfl hp_v0 SS_X3_tells (am_ta (am_ta (am_ti (am_ti (am_ti (am_ti am_tn)))))) (Nat.le_of_ble_eq_true rfl) (Nat.le_of_ble_eq_true rfl) ml_RX3_43 iw_X3_tells vw_X3_tells cw_X3_tells nw_RX3 pp_X3_tells (Nat.le_of_ble_eq_true rfl) dX3_breathOf_78 rfl (NM_X3_tells hp_v0 hp_v1 h) (fun r_13 m_14 h hB => ?_)
  exact b_ireturn X hB dX3_breathOf_81 h
theorem NM_X3_breathOf {v0 : Int} {v1 : Int} {v2 : Int} {v3 : Int} {K : am_KK} {m : am_M} (hp_v0 : am_ob v0 3) (hp_v1 : am_ob v1 0) (h : M_X3_breathOf v0 v1 v2 v3 K m) : N_X3_breathOf [v0, v1, v2, v3] K m := ⟨hp_v0, hp_v1, h⟩
theorem SS_X3_breathOf : am_Snd yX3_breathOf cX3_breathOf 4 (some .int) 0 4 (am_L [2, 2, 0, 0] 0 N_X3_breathOf) := by
  refine am_SB (by decide +kernel) (Nat.le_of_ble_eq_true rfl) (fun F zs as K m X ht hB hM => ?_)
  obtain ⟨v0, zs, as, rfl, rfl, hz0, ht⟩ := am_inv ht
  obtain ⟨v1, zs, as, rfl, rfl, hz1, ht⟩ := am_inv ht
  obtain ⟨v2, zs, as, rfl, rfl, hz2, ht⟩ := am_inv ht
  obtain ⟨v3, zs, as, rfl, rfl, hz3, ht⟩ := am_inv ht
  obtain ⟨rfl, rfl⟩ := am_inv0 ht
  obtain ⟨hp_v0, hp_v1, hM⟩ := hM
  exact S_X3_breathOf X hp_v0 hp_v1 hB hM
set_option maxRecDepth 20000 in
set_option maxHeartbeats 4000000 in
theorem S_X4_add {F : am_F} {K : am_KK} {v0 : Int} {v1 : Int} {m : am_M} (X : am_Cx F cX4_add RX4 none 1 9 K) (hp_v0 : am_ob v0 4) (hB : am_Bt m) (h : M_X4_add v0 v1 K m) : am_Z F 0 [] [(2, v0), (0, v1)] m 200 := by
  have G := X.G
  unfold M_X4_add at h
  refine z_aload_n (nx := 1) (a := 0) G rfl (Or.inl rfl) dX4_add_0 rfl (b_getI (nx := 4) (k0 := 1) (t := 0) G fl_RX4_24 (Nat.le_of_ble_eq_true rfl) (Nat.le_of_ble_eq_true rfl) rfl hp_v0 dX4_add_1 rfl (z_aload_n (nx := 5) (a := 0) G rfl (Or.inl rfl) dX4_add_4 rfl (b_getA (nx := 8) (k0 := 0) G hB fl_RX4_9 (Nat.le_of_ble_eq_true rfl) (Nat.le_of_ble_eq_true rfl) rfl hp_v0 dX4_add_5 rfl (b_alen (nx := 9) G (by decide) (by decide) (sh_4_0 _ hp_v0) dX4_add_8 rfl ?_))))
  refine z_icmp_ge (nx := 12) (tgt := 32) G dX4_add_9 (by decide) rfl (fun c => ?_) (fun c => ?_)
  · have h := h.1 c
    exact b_return X hB dX4_add_32 h
  · have h := h.2 c
    refine z_aload_n (nx := 13) (a := 0) G rfl (Or.inl rfl) dX4_add_12 rfl (b_getA (nx := 16) (k0 := 0) G hB fl_RX4_9 (Nat.le_of_ble_eq_true rfl) (Nat.le_of_ble_eq_true rfl) rfl hp_v0 dX4_add_13 rfl (z_aload_n (nx := 17) (a := 0) G rfl (Or.inl rfl) dX4_add_16 rfl (b_getI (nx := 20) (k0 := 1) (t := 0) G fl_RX4_24 (Nat.le_of_ble_eq_true rfl) (Nat.le_of_ble_eq_true rfl) rfl hp_v0 dX4_add_17 rfl (z_iload_n (nx := 21) (a := 1) G rfl dX4_add_20 rfl ?_))))
    obtain ⟨hb, h⟩ := h
    refine b_iast (nx := 22) G hB (sh_4_0 _ hp_v0) hb.1 hb.2 dX4_add_21 rfl (fun m_1 e_m_1 hB => ?_)
    have h := h m_1 e_m_1
    refine z_aload_n (nx := 23) (a := 0) G rfl (Or.inl rfl) dX4_add_22 rfl (z_dup (nx := 24) G (fun h => nomatch h) dX4_add_23 rfl (b_getI (nx := 27) (k0 := 1) (t := 0) G fl_RX4_24 (Nat.le_of_ble_eq_true rfl) (Nat.le_of_ble_eq_true rfl) rfl hp_v0 dX4_add_24 rfl (z_iconst (nx := 28) (z := 1) G (R32c rfl) dX4_add_27 rfl (z_iadd (nx := 29) G dX4_add_28 rfl ?_))))
    refine b_put (nx := 32) (k0 := 1) (t := 0) G hB fl_RX4_24 (Nat.le_of_ble_eq_true rfl) (Nat.le_of_ble_eq_true rfl) rfl (fun h => nomatch h) rfl hp_v0 dX4_add_29 rfl (fun m_2 e_m_2 hB => ?_)
    have h := h m_2 e_m_2
    exact b_return X hB dX4_add_32 h
theorem NM_X4_add {v0 : Int} {v1 : Int} {K : am_KK} {m : am_M} (hp_v0 : am_ob v0 4) (h : M_X4_add v0 v1 K m) : N_X4_add [v0, v1] K m := ⟨hp_v0, h⟩
theorem SS_X4_add : am_Snd yX4_add cX4_add 2 none 0 1 (am_L [2, 0] 9 N_X4_add) := by
  refine am_SB (by decide +kernel) (Nat.le_of_ble_eq_true rfl) (fun F zs as K m X ht hB hM => ?_)
  obtain ⟨v0, zs, as, rfl, rfl, hz0, ht⟩ := am_inv ht
  obtain ⟨v1, zs, as, rfl, rfl, hz1, ht⟩ := am_inv ht
  obtain ⟨rfl, rfl⟩ := am_inv0 ht
  obtain ⟨hp_v0, hM⟩ := hM
  exact S_X4_add X hp_v0 hB hM
set_option maxRecDepth 20000 in
set_option maxHeartbeats 4000000 in
theorem S_X4_mark {F : am_F} {K : am_KK} {v0 : Int} {v1 : Int} {m : am_M} (X : am_Cx F cX4_mark RX4 none 2 9 K) (hp_v0 : am_ob v0 4) (hB : am_Bt m) (h : M_X4_mark v0 v1 K m) : am_Z F 0 [] [(2, v0), (0, v1)] m 200 := by
  have G := X.G
  unfold M_X4_mark at h
  refine z_aload_n (nx := 1) (a := 0) G rfl (Or.inl rfl) dX4_mark_0 rfl (b_getA (nx := 4) (k0 := 2) G hB fl_RX4_20 (Nat.le_of_ble_eq_true rfl) (Nat.le_of_ble_eq_true rfl) rfl hp_v0 dX4_mark_1 rfl (z_aload_n (nx := 5) (a := 0) G rfl (Or.inl rfl) dX4_mark_4 rfl (b_getA (nx := 8) (k0 := 2) G hB fl_RX4_20 (Nat.le_of_ble_eq_true rfl) (Nat.le_of_ble_eq_true rfl) rfl hp_v0 dX4_mark_5 rfl (b_getI (nx := 11) (k0 := 2) (t := 0) G fl_RX4_28 (Nat.le_of_ble_eq_true rfl) (Nat.le_of_ble_eq_true rfl) rfl (sh_4_2 _ hp_v0) dX4_mark_8 rfl (z_iconst (nx := 12) (z := 1) G (R32c rfl) dX4_mark_11 rfl (z_isub (nx := 13) G dX4_mark_12 rfl (z_iconst (nx := 14) (z := 2) G (R32c rfl) dX4_mark_13 rfl (z_iload_n (nx := 15) (a := 1) G rfl dX4_mark_14 rfl (z_iadd (nx := 16) G dX4_mark_15 rfl (z_aload_n (nx := 17) (a := 0) G rfl (Or.inl rfl) dX4_mark_16 rfl (b_getI (nx := 20) (k0 := 1) (t := 0) G fl_RX4_24 (Nat.le_of_ble_eq_true rfl) (Nat.le_of_ble_eq_true rfl) rfl hp_v0 dX4_mark_17 rfl ?_)))))))))))
  refine b_callV9 (nx := 23) (zs := [am_rfv v0 2, w32 ((m (am_rfv v0 2) 2) - 1), w32 (2 + v1), m v0 1]) (as := [(0, w32 ((m (am_rfv v0 2) 2) - 1)), (0, w32 (2 + v1)), (0, m v0 1)]) X hB (by decide) rfl (sh_4_2 _ hp_v0) SS_X7_set (am_ta (am_ti (am_ti (am_ti am_tn)))) (Nat.le_of_ble_eq_true rfl) (Nat.le_of_ble_eq_true rfl) ml_RX4_29 iw_X7_set vw_X7_set cw_X7_set nw_RX7 pp_X7_set (Nat.le_of_ble_eq_true rfl) dX4_mark_20 rfl (NM_X7_set (sh_4_2 _ hp_v0) h) (fun r_1 m_2 h hB => ?_)
  exact b_return X hB dX4_mark_23 h
theorem NM_X4_mark {v0 : Int} {v1 : Int} {K : am_KK} {m : am_M} (hp_v0 : am_ob v0 4) (h : M_X4_mark v0 v1 K m) : N_X4_mark [v0, v1] K m := ⟨hp_v0, h⟩
theorem SS_X4_mark : am_Snd yX4_mark cX4_mark 2 none 0 2 (am_L [2, 0] 9 N_X4_mark) := by
  refine am_SB (by decide +kernel) (Nat.le_of_ble_eq_true rfl) (fun F zs as K m X ht hB hM => ?_)
  obtain ⟨v0, zs, as, rfl, rfl, hz0, ht⟩ := am_inv ht
  obtain ⟨v1, zs, as, rfl, rfl, hz1, ht⟩ := am_inv ht
  obtain ⟨rfl, rfl⟩ := am_inv0 ht
  obtain ⟨hp_v0, hM⟩ := hM
  exact S_X4_mark X hp_v0 hB hM
set_option maxRecDepth 20000 in
set_option maxHeartbeats 4000000 in
theorem S_X4_skipFrom {F : am_F} {K : am_KK} {v0 : Int} {v1 : Int} {m : am_M} (X : am_Cx F cX4_skipFrom RX4 none 1 9 K) (hp_v0 : am_ob v0 4) (hB : am_Bt m) (h : M_X4_skipFrom v0 v1 K m) : am_Z F 0 [] [(2, v0), (0, v1)] m 200 := by
  have G := X.G
  unfold M_X4_skipFrom at h
  refine z_iload_n (nx := 1) (a := 1) G rfl dX4_skipFrom_0 rfl ?_
  refine z_if_lt (nx := 4) (tgt := 29) G dX4_skipFrom_1 (by decide) rfl (fun c => ?_) (fun c => ?_)
  · have h := h.1 c
    exact b_return X hB dX4_skipFrom_29 h
  · have h := h.2 c
    refine z_iload_n (nx := 5) (a := 1) G rfl dX4_skipFrom_4 rfl (z_aload_n (nx := 6) (a := 0) G rfl (Or.inl rfl) dX4_skipFrom_5 rfl (b_getI (nx := 9) (k0 := 1) (t := 0) G fl_RX4_24 (Nat.le_of_ble_eq_true rfl) (Nat.le_of_ble_eq_true rfl) rfl hp_v0 dX4_skipFrom_6 rfl ?_))
    refine z_icmp_ge (nx := 12) (tgt := 29) G dX4_skipFrom_9 (by decide) rfl (fun c => ?_) (fun c => ?_)
    · have h := h.1 c
      exact b_return X hB dX4_skipFrom_29 h
    · have h := h.2 c
      refine z_aload_n (nx := 13) (a := 0) G rfl (Or.inl rfl) dX4_skipFrom_12 rfl (b_getA (nx := 16) (k0 := 0) G hB fl_RX4_9 (Nat.le_of_ble_eq_true rfl) (Nat.le_of_ble_eq_true rfl) rfl hp_v0 dX4_skipFrom_13 rfl (z_iload_n (nx := 17) (a := 1) G rfl dX4_skipFrom_16 rfl (z_dup2 (nx := 18) G (fun h => nomatch h) (fun h => nomatch h) dX4_skipFrom_17 rfl ?_)))
      obtain ⟨hb, h⟩ := h
      refine z_iald (nx := 19) G (sh_4_0 _ hp_v0) hb.1 hb.2 dX4_skipFrom_18 rfl ?_
      refine z_aload_n (nx := 20) (a := 0) G rfl (Or.inl rfl) dX4_skipFrom_19 rfl (b_getI (nx := 23) (k0 := 1) (t := 0) G fl_RX4_24 (Nat.le_of_ble_eq_true rfl) (Nat.le_of_ble_eq_true rfl) rfl hp_v0 dX4_skipFrom_20 rfl (z_iload_n (nx := 24) (a := 1) G rfl dX4_skipFrom_23 rfl (z_isub (nx := 25) G dX4_skipFrom_24 rfl (z_iconst (nx := 26) (z := 1) G (R32c rfl) dX4_skipFrom_25 rfl (z_isub (nx := 27) G dX4_skipFrom_26 rfl (z_iadd (nx := 28) G dX4_skipFrom_27 rfl ?_))))))
      obtain ⟨hb, h⟩ := h
      refine b_iast (nx := 29) G hB (sh_4_0 _ hp_v0) hb.1 hb.2 dX4_skipFrom_28 rfl (fun m_1 e_m_1 hB => ?_)
      have h := h m_1 e_m_1
      exact b_return X hB dX4_skipFrom_29 h
theorem NM_X4_skipFrom {v0 : Int} {v1 : Int} {K : am_KK} {m : am_M} (hp_v0 : am_ob v0 4) (h : M_X4_skipFrom v0 v1 K m) : N_X4_skipFrom [v0, v1] K m := ⟨hp_v0, h⟩
theorem SS_X4_skipFrom : am_Snd yX4_skipFrom cX4_skipFrom 2 none 0 1 (am_L [2, 0] 9 N_X4_skipFrom) := by
  refine am_SB (by decide +kernel) (Nat.le_of_ble_eq_true rfl) (fun F zs as K m X ht hB hM => ?_)
  obtain ⟨v0, zs, as, rfl, rfl, hz0, ht⟩ := am_inv ht
  obtain ⟨v1, zs, as, rfl, rfl, hz1, ht⟩ := am_inv ht
  obtain ⟨rfl, rfl⟩ := am_inv0 ht
  obtain ⟨hp_v0, hM⟩ := hM
  exact S_X4_skipFrom X hp_v0 hB hM
set_option maxRecDepth 20000 in
set_option maxHeartbeats 4000000 in
theorem S_X7_cut {F : am_F} {K : am_KK} {v0 : Int} {v1 : Int} {m : am_M} (X : am_Cx F cX7_cut RX7 none 1 9 K) (hp_v0 : am_ob v0 7) (hB : am_Bt m) (h : M_X7_cut v0 v1 K m) : am_Z F 0 [] [(2, v0), (0, v1)] m 200 := by
  have G := X.G
  unfold M_X7_cut at h
  refine z_iload_n (nx := 1) (a := 1) G rfl dX7_cut_0 rfl ?_
  refine z_if_lt (nx := 4) (tgt := 17) G dX7_cut_1 (by decide) rfl (fun c => ?_) (fun c => ?_)
  · have h := h.1 c
    exact b_return X hB dX7_cut_17 h
  · have h := h.2 c
    refine z_iload_n (nx := 5) (a := 1) G rfl dX7_cut_4 rfl (z_aload_n (nx := 6) (a := 0) G rfl (Or.inl rfl) dX7_cut_5 rfl (b_getI (nx := 9) (k0 := 2) (t := 0) G fl_RX7_25 (Nat.le_of_ble_eq_true rfl) (Nat.le_of_ble_eq_true rfl) rfl hp_v0 dX7_cut_6 rfl ?_))
    refine z_icmp_ge (nx := 12) (tgt := 17) G dX7_cut_9 (by decide) rfl (fun c => ?_) (fun c => ?_)
    · have h := h.1 c
      exact b_return X hB dX7_cut_17 h
    · have h := h.2 c
      refine z_aload_n (nx := 13) (a := 0) G rfl (Or.inl rfl) dX7_cut_12 rfl (z_iload_n (nx := 14) (a := 1) G rfl dX7_cut_13 rfl ?_)
      refine b_put (nx := 17) (k0 := 2) (t := 0) G hB fl_RX7_25 (Nat.le_of_ble_eq_true rfl) (Nat.le_of_ble_eq_true rfl) rfl (fun h => nomatch h) rfl hp_v0 dX7_cut_14 rfl (fun m_1 e_m_1 hB => ?_)
      have h := h m_1 e_m_1
      exact b_return X hB dX7_cut_17 h
theorem NM_X7_cut {v0 : Int} {v1 : Int} {K : am_KK} {m : am_M} (hp_v0 : am_ob v0 7) (h : M_X7_cut v0 v1 K m) : N_X7_cut [v0, v1] K m := ⟨hp_v0, h⟩
theorem SS_X7_cut : am_Snd yX7_cut cX7_cut 2 none 0 1 (am_L [2, 0] 9 N_X7_cut) := by
  refine am_SB (by decide +kernel) (Nat.le_of_ble_eq_true rfl) (fun F zs as K m X ht hB hM => ?_)
  obtain ⟨v0, zs, as, rfl, rfl, hz0, ht⟩ := am_inv ht
  obtain ⟨v1, zs, as, rfl, rfl, hz1, ht⟩ := am_inv ht
  obtain ⟨rfl, rfl⟩ := am_inv0 ht
  obtain ⟨hp_v0, hM⟩ := hM
  exact S_X7_cut X hp_v0 hB hM
set_option maxRecDepth 20000 in
set_option maxHeartbeats 4000000 in
theorem S_X4_clear {F : am_F} {K : am_KK} {v0 : Int} {m : am_M} (X : am_Cx F cX4_clear RX4 none 2 9 K) (hp_v0 : am_ob v0 4) (hB : am_Bt m) (h : M_X4_clear v0 K m) : am_Z F 0 [] [(2, v0)] m 200 := by
  have G := X.G
  unfold M_X4_clear at h
  refine z_aload_n (nx := 1) (a := 0) G rfl (Or.inl rfl) dX4_clear_0 rfl (z_iconst (nx := 2) (z := 0) G (R32c rfl) dX4_clear_1 rfl ?_)
  refine b_put (nx := 5) (k0 := 1) (t := 0) G hB fl_RX4_24 (Nat.le_of_ble_eq_true rfl) (Nat.le_of_ble_eq_true rfl) rfl (fun h => nomatch h) rfl hp_v0 dX4_clear_2 rfl (fun m_1 e_m_1 hB => ?_)
  have h := h m_1 e_m_1
  refine z_aload_n (nx := 6) (a := 0) G rfl (Or.inl rfl) dX4_clear_5 rfl (b_getA (nx := 9) (k0 := 2) G hB fl_RX4_20 (Nat.le_of_ble_eq_true rfl) (Nat.le_of_ble_eq_true rfl) rfl hp_v0 dX4_clear_6 rfl (z_iconst (nx := 10) (z := 0) G (R32c rfl) dX4_clear_9 rfl ?_))
  refine b_callV9 (nx := 13) (zs := [am_rfv v0 2, 0]) (as := [(0, 0)]) X hB (by decide) rfl (sh_4_2 _ hp_v0) SS_X7_cut (am_ta (am_ti am_tn)) (Nat.le_of_ble_eq_true rfl) (Nat.le_of_ble_eq_true rfl) ml_RX4_33 iw_X7_cut vw_X7_cut cw_X7_cut nw_RX7 pp_X7_cut (Nat.le_of_ble_eq_true rfl) dX4_clear_10 rfl (NM_X7_cut (sh_4_2 _ hp_v0) h) (fun r_2 m_3 h hB => ?_)
  exact b_return X hB dX4_clear_13 h
theorem NM_X4_clear {v0 : Int} {K : am_KK} {m : am_M} (hp_v0 : am_ob v0 4) (h : M_X4_clear v0 K m) : N_X4_clear [v0] K m := ⟨hp_v0, h⟩
theorem SS_X4_clear : am_Snd yX4_clear cX4_clear 1 none 0 2 (am_L [2] 9 N_X4_clear) := by
  refine am_SB (by decide +kernel) (Nat.le_of_ble_eq_true rfl) (fun F zs as K m X ht hB hM => ?_)
  obtain ⟨v0, zs, as, rfl, rfl, hz0, ht⟩ := am_inv ht
  obtain ⟨rfl, rfl⟩ := am_inv0 ht
  obtain ⟨hp_v0, hM⟩ := hM
  exact S_X4_clear X hp_v0 hB hM
set_option maxRecDepth 20000 in
set_option maxHeartbeats 4000000 in
theorem S_X5_kindOf_J1 {F : am_F} {K : am_KK} {v0 : Int} {m : am_M} (X : am_Cx F cX5_kindOf RX5 (some .int) 1 0 K) (hB : am_Bt m) (h : M_X5_kindOf_J1 v0 K m) : am_Z F 14 [] [(0, v0)] m 200 := by
  have G := X.G
  unfold M_X5_kindOf_J1 at h
  refine z_iload_n (nx := 15) (a := 0) G rfl dX5_kindOf_14 rfl (z_bipush (nx := 17) (z := 48) G (R32c rfl) rfl dX5_kindOf_15 rfl ?_)
  refine z_icmp_lt (nx := 20) (tgt := 30) G dX5_kindOf_17 (by decide) rfl (fun c => ?_) (fun c => ?_)
  · have h := h.1 c
    refine z_iconst (nx := 31) (z := 0) G (R32c rfl) dX5_kindOf_30 rfl ?_
    exact b_ireturn X hB dX5_kindOf_31 h
  · have h := h.2 c
    refine z_iload_n (nx := 21) (a := 0) G rfl dX5_kindOf_20 rfl (z_bipush (nx := 23) (z := 57) G (R32c rfl) rfl dX5_kindOf_21 rfl ?_)
    refine z_icmp_gt (nx := 26) (tgt := 30) G dX5_kindOf_23 (by decide) rfl (fun c => ?_) (fun c => ?_)
    · have h := h.1 c
      refine z_iconst (nx := 31) (z := 0) G (R32c rfl) dX5_kindOf_30 rfl ?_
      exact b_ireturn X hB dX5_kindOf_31 h
    · have h := h.2 c
      refine z_iconst (nx := 27) (z := 1) G (R32c rfl) dX5_kindOf_26 rfl (z_goto (tgt := 31) G dX5_kindOf_27 (by decide) ?_)
      exact b_ireturn X hB dX5_kindOf_31 h
set_option maxRecDepth 20000 in
set_option maxHeartbeats 4000000 in
theorem S_X5_kindOf {F : am_F} {K : am_KK} {v0 : Int} {m : am_M} (X : am_Cx F cX5_kindOf RX5 (some .int) 1 0 K) (hB : am_Bt m) (h : M_X5_kindOf v0 K m) : am_Z F 0 [] [(0, v0)] m 200 := by
  have G := X.G
  unfold M_X5_kindOf at h
  refine z_iload_n (nx := 1) (a := 0) G rfl dX5_kindOf_0 rfl (z_bipush (nx := 3) (z := 97) G (R32c rfl) rfl dX5_kindOf_1 rfl ?_)
  refine z_icmp_lt (nx := 6) (tgt := 14) G dX5_kindOf_3 (by decide) rfl (fun c => ?_) (fun c => ?_)
  · have h := h.1 c
    exact b_fewer (loc2 := [(0, v0)]) (am_lk am_ln) (S_X5_kindOf_J1 X hB h)
  · have h := h.2 c
    refine z_iload_n (nx := 7) (a := 0) G rfl dX5_kindOf_6 rfl (z_bipush (nx := 9) (z := 122) G (R32c rfl) rfl dX5_kindOf_7 rfl ?_)
    refine z_icmp_gt (nx := 12) (tgt := 14) G dX5_kindOf_9 (by decide) rfl (fun c => ?_) (fun c => ?_)
    · have h := h.1 c
      exact b_fewer (loc2 := [(0, v0)]) (am_lk am_ln) (S_X5_kindOf_J1 X hB h)
    · have h := h.2 c
      refine z_iconst (nx := 13) (z := 2) G (R32c rfl) dX5_kindOf_12 rfl ?_
      exact b_ireturn X hB dX5_kindOf_13 h
theorem NM_X5_kindOf {v0 : Int} {K : am_KK} {m : am_M} (h : M_X5_kindOf v0 K m) : N_X5_kindOf [v0] K m := h
theorem SS_X5_kindOf : am_Snd yX5_kindOf cX5_kindOf 1 (some .int) 0 1 (am_L [0] 0 N_X5_kindOf) := by
  refine am_SB (by decide +kernel) (Nat.le_of_ble_eq_true rfl) (fun F zs as K m X ht hB hM => ?_)
  obtain ⟨v0, zs, as, rfl, rfl, hz0, ht⟩ := am_inv ht
  obtain ⟨rfl, rfl⟩ := am_inv0 ht
  exact S_X5_kindOf X hB hM
set_option maxRecDepth 20000 in
set_option maxHeartbeats 4000000 in
theorem S_X5_advance_L2B {F : am_F} {K : am_KK} {v0 : Int} {v1 : Int} {C88 : am_M → Prop} {m : am_M} (X : am_Cx F cX5_advance RX5 none 2 9 K) (hp_v0 : am_ob v0 5) (hC88 : ∀ m, C88 m → am_Bt m → am_Z F 88 [] [(2, v0), (0, v1)] m 200) (hB : am_Bt m) (h : M_X5_advance_L2B v0 v1 C88 K m) : am_Z F 88 [] [(2, v0), (0, v1)] m 200 := by
  have G := X.G
  unfold M_X5_advance_L2B at h
  refine z_iload_n (nx := 89) (a := 1) G rfl dX5_advance_88 rfl ?_
  refine z_if_eq (nx := 92) (tgt := 138) G dX5_advance_89 (by decide) rfl (fun c => ?_) (fun c => ?_)
  · have h := h.1 c
    exact b_return X hB dX5_advance_138 h
  · have h := h.2 c
    refine z_aload_n (nx := 93) (a := 0) G rfl (Or.inl rfl) dX5_advance_92 rfl (b_getI (nx := 96) (k0 := 4) (t := 0) G fl_RX5_27 (Nat.le_of_ble_eq_true rfl) (Nat.le_of_ble_eq_true rfl) rfl hp_v0 dX5_advance_93 rfl (z_aload_n (nx := 97) (a := 0) G rfl (Or.inl rfl) dX5_advance_96 rfl (b_getA (nx := 100) (k0 := 0) G hB fl_RX5_15 (Nat.le_of_ble_eq_true rfl) (Nat.le_of_ble_eq_true rfl) rfl hp_v0 dX5_advance_97 rfl (b_getI (nx := 103) (k0 := 2) (t := 0) G fl_RX5_48 (Nat.le_of_ble_eq_true rfl) (Nat.le_of_ble_eq_true rfl) rfl (sh_5_0 _ hp_v0) dX5_advance_100 rfl ?_))))
    refine z_icmp_ge (nx := 106) (tgt := 138) G dX5_advance_103 (by decide) rfl (fun c => ?_) (fun c => ?_)
    · have h := h.1 c
      exact b_return X hB dX5_advance_138 h
    · have h := h.2 c
      refine z_aload_n (nx := 107) (a := 0) G rfl (Or.inl rfl) dX5_advance_106 rfl (b_getA (nx := 110) (k0 := 0) G hB fl_RX5_15 (Nat.le_of_ble_eq_true rfl) (Nat.le_of_ble_eq_true rfl) rfl hp_v0 dX5_advance_107 rfl (z_aload_n (nx := 111) (a := 0) G rfl (Or.inl rfl) dX5_advance_110 rfl (b_getI (nx := 114) (k0 := 4) (t := 0) G fl_RX5_27 (Nat.le_of_ble_eq_true rfl) (Nat.le_of_ble_eq_true rfl) rfl hp_v0 dX5_advance_111 rfl (z_iconst (nx := 115) (z := 0) G (R32c rfl) dX5_advance_114 rfl ?_))))
      refine b_callV0 (nx := 118) (zs := [am_rfv v0 0, m v0 4, 0]) (as := [(0, m v0 4), (0, 0)]) X hB (by decide) rfl (sh_5_0 _ hp_v0) SS_X7_get (am_ta (am_ti (am_ti am_tn))) (Nat.le_of_ble_eq_true rfl) (Nat.le_of_ble_eq_true rfl) ml_RX5_62 iw_X7_get vw_X7_get cw_X7_get nw_RX7 pp_X7_get (Nat.le_of_ble_eq_true rfl) dX5_advance_115 rfl (NM_X7_get (sh_5_0 _ hp_v0) h) (fun r_1 m_2 h hB => ?_)
      refine b_callS0 (nx := 121) (zs := [r_1]) (as := [(0, r_1)]) X hB SS_X5_kindOf (am_ti am_tn) (Nat.le_of_ble_eq_true rfl) (Nat.le_of_ble_eq_true rfl) ml_RX5_66 sw_X5_kindOf (am_plainC 5 (by decide)) cw_X5_kindOf nw_RX5 pp_X5_kindOf (Nat.le_of_ble_eq_true rfl) dX5_advance_118 rfl (NM_X5_kindOf h) (fun r_3 m_4 h hB => ?_)
      refine z_iload_n (nx := 122) (a := 1) G rfl dX5_advance_121 rfl ?_
      refine z_icmp_ne (nx := 125) (tgt := 138) G dX5_advance_122 (by decide) rfl (fun c => ?_) (fun c => ?_)
      · have h := h.1 c
        exact b_return X hB dX5_advance_138 h
      · have h := h.2 c
        refine z_aload_n (nx := 126) (a := 0) G rfl (Or.inl rfl) dX5_advance_125 rfl (z_dup (nx := 127) G (fun h => nomatch h) dX5_advance_126 rfl (b_getI (nx := 130) (k0 := 4) (t := 0) G fl_RX5_27 (Nat.le_of_ble_eq_true rfl) (Nat.le_of_ble_eq_true rfl) rfl hp_v0 dX5_advance_127 rfl (z_iconst (nx := 131) (z := 1) G (R32c rfl) dX5_advance_130 rfl (z_iadd (nx := 132) G dX5_advance_131 rfl ?_))))
        refine b_put (nx := 135) (k0 := 4) (t := 0) G hB fl_RX5_27 (Nat.le_of_ble_eq_true rfl) (Nat.le_of_ble_eq_true rfl) rfl (fun h => nomatch h) rfl hp_v0 dX5_advance_132 rfl (fun m_5 e_m_5 hB => ?_)
        have h := h m_5 e_m_5
        refine z_goto (tgt := 88) G dX5_advance_135 (by decide) ?_
        exact b_fewer (loc2 := [(2, v0), (0, v1)]) (am_lk (am_lk am_ln)) (hC88 _ h hB)
theorem S_X5_advance_L2 {F : am_F} {K : am_KK} {v0 : Int} {v1 : Int} {m : am_M} (X : am_Cx F cX5_advance RX5 none 2 9 K) (hp_v0 : am_ob v0 5) (hB : am_Bt m) (h : M_X5_advance_L2 v0 v1 K m) : am_Z F 88 [] [(2, v0), (0, v1)] m 200 := by
  obtain ⟨I, ⟨j, hj⟩, hI⟩ := h
  have key : ∀ j  m, I j  m → am_Bt m → am_Z F 88 [] [(2, v0), (0, v1)] m 200 := by
    intro j
    induction j using Nat.strongRecOn with
    | ind j ih =>
      intro  m hj hB
      exact S_X5_advance_L2B X hp_v0 (fun  m' hc hB' => by
        obtain ⟨j', g1, g2⟩ := hc
        exact ih j' g1  m' g2 hB') hB (hI j  m hj)
  exact key j  _ hj hB
set_option maxRecDepth 20000 in
set_option maxHeartbeats 4000000 in
theorem S_X5_advance_J1 {F : am_F} {K : am_KK} {v0 : Int} {m : am_M} (X : am_Cx F cX5_advance RX5 none 2 9 K) (hp_v0 : am_ob v0 5) (hB : am_Bt m) (h : M_X5_advance_J1 v0 K m) : am_Z F 52 [] [(2, v0), (9, 0)] m 200 := by
  have G := X.G
  unfold M_X5_advance_J1 at h
  refine z_aload_n (nx := 53) (a := 0) G rfl (Or.inl rfl) dX5_advance_52 rfl (b_getA (nx := 56) (k0 := 0) G hB fl_RX5_15 (Nat.le_of_ble_eq_true rfl) (Nat.le_of_ble_eq_true rfl) rfl hp_v0 dX5_advance_53 rfl (z_aload_n (nx := 57) (a := 0) G rfl (Or.inl rfl) dX5_advance_56 rfl (b_getI (nx := 60) (k0 := 3) (t := 0) G fl_RX5_45 (Nat.le_of_ble_eq_true rfl) (Nat.le_of_ble_eq_true rfl) rfl hp_v0 dX5_advance_57 rfl (z_iconst (nx := 61) (z := 0) G (R32c rfl) dX5_advance_60 rfl ?_))))
  refine b_callV0 (nx := 64) (zs := [am_rfv v0 0, m v0 3, 0]) (as := [(0, m v0 3), (0, 0)]) X hB (by decide) rfl (sh_5_0 _ hp_v0) SS_X7_get (am_ta (am_ti (am_ti am_tn))) (Nat.le_of_ble_eq_true rfl) (Nat.le_of_ble_eq_true rfl) ml_RX5_62 iw_X7_get vw_X7_get cw_X7_get nw_RX7 pp_X7_get (Nat.le_of_ble_eq_true rfl) dX5_advance_61 rfl (NM_X7_get (sh_5_0 _ hp_v0) h) (fun r_6 m_7 h hB => ?_)
  refine b_callS0 (nx := 67) (zs := [r_6]) (as := [(0, r_6)]) X hB SS_X5_kindOf (am_ti am_tn) (Nat.le_of_ble_eq_true rfl) (Nat.le_of_ble_eq_true rfl) ml_RX5_66 sw_X5_kindOf (am_plainC 5 (by decide)) cw_X5_kindOf nw_RX5 pp_X5_kindOf (Nat.le_of_ble_eq_true rfl) dX5_advance_64 rfl (NM_X5_kindOf h) (fun r_8 m_9 h hB => ?_)
  refine b_storeE_n (nx := 68) (a := 1) (loc2 := [(2, v0), (0, r_8)]) G rfl (Nat.le_of_ble_eq_true rfl) (am_pl1 rfl (fun h => nomatch h)) dX5_advance_67 rfl (z_aload_n (nx := 69) (a := 0) G rfl (Or.inl rfl) dX5_advance_68 rfl (z_aload_n (nx := 70) (a := 0) G rfl (Or.inl rfl) dX5_advance_69 rfl (b_getI (nx := 73) (k0 := 3) (t := 0) G fl_RX5_45 (Nat.le_of_ble_eq_true rfl) (Nat.le_of_ble_eq_true rfl) rfl hp_v0 dX5_advance_70 rfl (z_iconst (nx := 74) (z := 1) G (R32c rfl) dX5_advance_73 rfl (z_iadd (nx := 75) G dX5_advance_74 rfl (z_aload_n (nx := 76) (a := 0) G rfl (Or.inl rfl) dX5_advance_75 rfl (b_getA (nx := 79) (k0 := 0) G hB fl_RX5_15 (Nat.le_of_ble_eq_true rfl) (Nat.le_of_ble_eq_true rfl) rfl hp_v0 dX5_advance_76 rfl (b_getI (nx := 82) (k0 := 2) (t := 0) G fl_RX5_48 (Nat.le_of_ble_eq_true rfl) (Nat.le_of_ble_eq_true rfl) rfl (sh_5_0 _ hp_v0) dX5_advance_79 rfl (b_mmin (nx := 85) X ml_RX5_70 (Nat.le_of_ble_eq_true rfl) dX5_advance_82 rfl ?_)))))))))
  refine b_put (nx := 88) (k0 := 4) (t := 0) G hB fl_RX5_27 (Nat.le_of_ble_eq_true rfl) (Nat.le_of_ble_eq_true rfl) rfl (fun h => nomatch h) rfl hp_v0 dX5_advance_85 rfl (fun m_10 e_m_10 hB => ?_)
  have h := h m_10 e_m_10
  exact b_fewer (loc2 := [(2, v0), (0, r_8)]) (am_lk (am_lk am_ln)) (S_X5_advance_L2 X hp_v0 hB h)
set_option maxRecDepth 20000 in
set_option maxHeartbeats 4000000 in
theorem S_X5_advance_L1B {F : am_F} {K : am_KK} {v0 : Int} {C8 : am_M → Prop} {m : am_M} (X : am_Cx F cX5_advance RX5 none 2 9 K) (hp_v0 : am_ob v0 5) (hC8 : ∀ m, C8 m → am_Bt m → am_Z F 8 [] [(2, v0), (9, 0)] m 200) (hB : am_Bt m) (h : M_X5_advance_L1B v0 C8 K m) : am_Z F 8 [] [(2, v0), (9, 0)] m 200 := by
  have G := X.G
  unfold M_X5_advance_L1B at h
  refine z_aload_n (nx := 9) (a := 0) G rfl (Or.inl rfl) dX5_advance_8 rfl (b_getI (nx := 12) (k0 := 3) (t := 0) G fl_RX5_45 (Nat.le_of_ble_eq_true rfl) (Nat.le_of_ble_eq_true rfl) rfl hp_v0 dX5_advance_9 rfl (z_aload_n (nx := 13) (a := 0) G rfl (Or.inl rfl) dX5_advance_12 rfl (b_getA (nx := 16) (k0 := 0) G hB fl_RX5_15 (Nat.le_of_ble_eq_true rfl) (Nat.le_of_ble_eq_true rfl) rfl hp_v0 dX5_advance_13 rfl (b_getI (nx := 19) (k0 := 2) (t := 0) G fl_RX5_48 (Nat.le_of_ble_eq_true rfl) (Nat.le_of_ble_eq_true rfl) rfl (sh_5_0 _ hp_v0) dX5_advance_16 rfl ?_))))
  refine z_icmp_ge (nx := 22) (tgt := 52) G dX5_advance_19 (by decide) rfl (fun c => ?_) (fun c => ?_)
  · have h := h.1 c
    exact b_fewer (loc2 := [(2, v0), (9, 0)]) (am_lk (am_lk am_ln)) (S_X5_advance_J1 X hp_v0 hB h)
  · have h := h.2 c
    refine z_aload_n (nx := 23) (a := 0) G rfl (Or.inl rfl) dX5_advance_22 rfl (b_getA (nx := 26) (k0 := 0) G hB fl_RX5_15 (Nat.le_of_ble_eq_true rfl) (Nat.le_of_ble_eq_true rfl) rfl hp_v0 dX5_advance_23 rfl (z_aload_n (nx := 27) (a := 0) G rfl (Or.inl rfl) dX5_advance_26 rfl (b_getI (nx := 30) (k0 := 3) (t := 0) G fl_RX5_45 (Nat.le_of_ble_eq_true rfl) (Nat.le_of_ble_eq_true rfl) rfl hp_v0 dX5_advance_27 rfl (z_iconst (nx := 31) (z := 0) G (R32c rfl) dX5_advance_30 rfl ?_))))
    refine b_callV0 (nx := 34) (zs := [am_rfv v0 0, m v0 3, 0]) (as := [(0, m v0 3), (0, 0)]) X hB (by decide) rfl (sh_5_0 _ hp_v0) SS_X7_get (am_ta (am_ti (am_ti am_tn))) (Nat.le_of_ble_eq_true rfl) (Nat.le_of_ble_eq_true rfl) ml_RX5_62 iw_X7_get vw_X7_get cw_X7_get nw_RX7 pp_X7_get (Nat.le_of_ble_eq_true rfl) dX5_advance_31 rfl (NM_X7_get (sh_5_0 _ hp_v0) h) (fun r_11 m_12 h hB => ?_)
    refine z_bipush (nx := 36) (z := 32) G (R32c rfl) rfl dX5_advance_34 rfl ?_
    refine z_icmp_ne (nx := 39) (tgt := 52) G dX5_advance_36 (by decide) rfl (fun c => ?_) (fun c => ?_)
    · have h := h.1 c
      exact b_fewer (loc2 := [(2, v0), (9, 0)]) (am_lk (am_lk am_ln)) (S_X5_advance_J1 X hp_v0 hB h)
    · have h := h.2 c
      refine z_aload_n (nx := 40) (a := 0) G rfl (Or.inl rfl) dX5_advance_39 rfl (z_dup (nx := 41) G (fun h => nomatch h) dX5_advance_40 rfl (b_getI (nx := 44) (k0 := 3) (t := 0) G fl_RX5_45 (Nat.le_of_ble_eq_true rfl) (Nat.le_of_ble_eq_true rfl) rfl hp_v0 dX5_advance_41 rfl (z_iconst (nx := 45) (z := 1) G (R32c rfl) dX5_advance_44 rfl (z_iadd (nx := 46) G dX5_advance_45 rfl ?_))))
      refine b_put (nx := 49) (k0 := 3) (t := 0) G hB fl_RX5_45 (Nat.le_of_ble_eq_true rfl) (Nat.le_of_ble_eq_true rfl) rfl (fun h => nomatch h) rfl hp_v0 dX5_advance_46 rfl (fun m_13 e_m_13 hB => ?_)
      have h := h m_13 e_m_13
      refine z_goto (tgt := 8) G dX5_advance_49 (by decide) ?_
      exact b_fewer (loc2 := [(2, v0), (9, 0)]) (am_lk (am_lk am_ln)) (hC8 _ h hB)
theorem S_X5_advance_L1 {F : am_F} {K : am_KK} {v0 : Int} {m : am_M} (X : am_Cx F cX5_advance RX5 none 2 9 K) (hp_v0 : am_ob v0 5) (hB : am_Bt m) (h : M_X5_advance_L1 v0 K m) : am_Z F 8 [] [(2, v0), (9, 0)] m 200 := by
  obtain ⟨I, ⟨j, hj⟩, hI⟩ := h
  have key : ∀ j  m, I j  m → am_Bt m → am_Z F 8 [] [(2, v0), (9, 0)] m 200 := by
    intro j
    induction j using Nat.strongRecOn with
    | ind j ih =>
      intro  m hj hB
      exact S_X5_advance_L1B X hp_v0 (fun  m' hc hB' => by
        obtain ⟨j', g1, g2⟩ := hc
        exact ih j' g1  m' g2 hB') hB (hI j  m hj)
  exact key j  _ hj hB
set_option maxRecDepth 20000 in
set_option maxHeartbeats 4000000 in
theorem S_X5_advance {F : am_F} {K : am_KK} {v0 : Int} {m : am_M} (X : am_Cx F cX5_advance RX5 none 2 9 K) (hp_v0 : am_ob v0 5) (hB : am_Bt m) (h : M_X5_advance v0 K m) : am_Z F 0 [] [(2, v0), (9, 0)] m 200 := by
  have G := X.G
  unfold M_X5_advance at h
  refine z_aload_n (nx := 1) (a := 0) G rfl (Or.inl rfl) dX5_advance_0 rfl (z_aload_n (nx := 2) (a := 0) G rfl (Or.inl rfl) dX5_advance_1 rfl (b_getI (nx := 5) (k0 := 4) (t := 0) G fl_RX5_27 (Nat.le_of_ble_eq_true rfl) (Nat.le_of_ble_eq_true rfl) rfl hp_v0 dX5_advance_2 rfl ?_))
  refine b_put (nx := 8) (k0 := 3) (t := 0) G hB fl_RX5_45 (Nat.le_of_ble_eq_true rfl) (Nat.le_of_ble_eq_true rfl) rfl (fun h => nomatch h) rfl hp_v0 dX5_advance_5 rfl (fun m_14 e_m_14 hB => ?_)
  have h := h m_14 e_m_14
  exact b_fewer (loc2 := [(2, v0), (9, 0)]) (am_lk (am_lk am_ln)) (S_X5_advance_L1 X hp_v0 hB h)
theorem NM_X5_advance {v0 : Int} {K : am_KK} {m : am_M} (hp_v0 : am_ob v0 5) (h : M_X5_advance v0 K m) : N_X5_advance [v0] K m := ⟨hp_v0, h⟩
theorem SS_X5_advance : am_Snd yX5_advance cX5_advance 2 none 0 2 (am_L [2] 9 N_X5_advance) := by
  refine am_SB (by decide +kernel) (Nat.le_of_ble_eq_true rfl) (fun F zs as K m X ht hB hM => ?_)
  obtain ⟨v0, zs, as, rfl, rfl, hz0, ht⟩ := am_inv ht
  obtain ⟨rfl, rfl⟩ := am_inv0 ht
  obtain ⟨hp_v0, hM⟩ := hM
  exact S_X5_advance X hp_v0 hB hM
set_option maxRecDepth 20000 in
set_option maxHeartbeats 4000000 in
theorem S_X5_is_L1B {F : am_F} {K : am_KK} {v0 : Int} {v1 : Int} {v2 : Int} {C20 : Int → am_M → Prop} {m : am_M} (X : am_Cx F cX5_is RX5 (some .boolean) 5 5 K) (hp_v0 : am_ob v0 5) (hp_v1 : 0 ≤ v1 ∧ v1 < 38) (hC20 : ∀ w2 m, C20 w2 m → am_Bt m → am_Z F 20 [] [(2, v0), (3, v1), (0, w2)] m 200) (hB : am_Bt m) (h : M_X5_is_L1B v0 v1 v2 C20 K m) : am_Z F 20 [] [(2, v0), (3, v1), (0, v2)] m 200 := by
  have G := X.G
  unfold M_X5_is_L1B at h
  refine z_iload_n (nx := 21) (a := 2) G rfl dX5_is_20 rfl (z_aload_n (nx := 22) (a := 1) G rfl (Or.inr rfl) dX5_is_21 rfl ?_)
  refine b_strLen (nx := 25) X hB hp_v1 ml_RX5_75 (Nat.le_of_ble_eq_true rfl) (Nat.le_of_ble_eq_true rfl) dX5_is_22 rfl ?_
  refine z_icmp_ge (nx := 28) (tgt := 58) G dX5_is_25 (by decide) rfl (fun c => ?_) (fun c => ?_)
  · have h := h.1 c
    refine z_iconst (nx := 59) (z := 1) G (R32c rfl) dX5_is_58 rfl ?_
    exact b_zreturn X hB (Or.inr rfl) dX5_is_59 h
  · have h := h.2 c
    refine z_aload_n (nx := 29) (a := 0) G rfl (Or.inl rfl) dX5_is_28 rfl (b_getA (nx := 32) (k0 := 0) G hB fl_RX5_15 (Nat.le_of_ble_eq_true rfl) (Nat.le_of_ble_eq_true rfl) rfl hp_v0 dX5_is_29 rfl (z_aload_n (nx := 33) (a := 0) G rfl (Or.inl rfl) dX5_is_32 rfl (b_getI (nx := 36) (k0 := 3) (t := 0) G fl_RX5_45 (Nat.le_of_ble_eq_true rfl) (Nat.le_of_ble_eq_true rfl) rfl hp_v0 dX5_is_33 rfl (z_iload_n (nx := 37) (a := 2) G rfl dX5_is_36 rfl (z_iadd (nx := 38) G dX5_is_37 rfl (z_iconst (nx := 39) (z := 0) G (R32c rfl) dX5_is_38 rfl ?_))))))
    refine b_callV0 (nx := 42) (zs := [am_rfv v0 0, w32 ((m v0 3) + v2), 0]) (as := [(0, w32 ((m v0 3) + v2)), (0, 0)]) X hB (by decide) rfl (sh_5_0 _ hp_v0) SS_X7_get (am_ta (am_ti (am_ti am_tn))) (Nat.le_of_ble_eq_true rfl) (Nat.le_of_ble_eq_true rfl) ml_RX5_62 iw_X7_get vw_X7_get cw_X7_get nw_RX7 pp_X7_get (Nat.le_of_ble_eq_true rfl) dX5_is_39 rfl (NM_X7_get (sh_5_0 _ hp_v0) h) (fun r_1 m_2 h hB => ?_)
    refine z_aload_n (nx := 43) (a := 1) G rfl (Or.inr rfl) dX5_is_42 rfl (z_iload_n (nx := 44) (a := 2) G rfl dX5_is_43 rfl ?_)
    obtain ⟨hb, h⟩ := h
    refine b_charAt (nx := 47) X hB hp_v1 hb ml_RX5_81 (Nat.le_of_ble_eq_true rfl) (Nat.le_of_ble_eq_true rfl) dX5_is_44 rfl ?_
    refine z_icmp_eq (nx := 50) (tgt := 52) G dX5_is_47 (by decide) rfl (fun c => ?_) (fun c => ?_)
    · have h := h.1 c
      refine b_iinc (nx := 55) (a := 2) (loc2 := fun v2_3 => [(2, v0), (3, v1), (0, v2_3)]) G (fun _ => rfl) rfl (am_pl1 rfl (fun h => nomatch h)) dX5_is_52 rfl (fun v2_3 e_v2_3 => ?_)
      have h := h v2_3 e_v2_3
      refine z_goto (tgt := 20) G dX5_is_55 (by decide) ?_
      exact b_fewer (loc2 := [(2, v0), (3, v1), (0, v2_3)]) (am_lk (am_lk (am_lk am_ln))) (hC20 _ _ h hB)
    · have h := h.2 c
      refine z_iconst (nx := 51) (z := 0) G (R32c rfl) dX5_is_50 rfl ?_
      exact b_zreturn X hB (Or.inl rfl) dX5_is_51 h
theorem S_X5_is_L1 {F : am_F} {K : am_KK} {v0 : Int} {v1 : Int} {v2 : Int} {m : am_M} (X : am_Cx F cX5_is RX5 (some .boolean) 5 5 K) (hp_v0 : am_ob v0 5) (hp_v1 : 0 ≤ v1 ∧ v1 < 38) (hB : am_Bt m) (h : M_X5_is_L1 v0 v1 v2 K m) : am_Z F 20 [] [(2, v0), (3, v1), (0, v2)] m 200 := by
  obtain ⟨I, ⟨j, hj⟩, hI⟩ := h
  have key : ∀ j v2 m, I j v2 m → am_Bt m → am_Z F 20 [] [(2, v0), (3, v1), (0, v2)] m 200 := by
    intro j
    induction j using Nat.strongRecOn with
    | ind j ih =>
      intro v2 m hj hB
      exact S_X5_is_L1B X hp_v0 hp_v1 (fun v2' m' hc hB' => by
        obtain ⟨j', g1, g2⟩ := hc
        exact ih j' g1 v2' m' g2 hB') hB (hI j v2 m hj)
  exact key j _ _ hj hB
set_option maxRecDepth 20000 in
set_option maxHeartbeats 4000000 in
theorem S_X5_is {F : am_F} {K : am_KK} {v0 : Int} {v1 : Int} {m : am_M} (X : am_Cx F cX5_is RX5 (some .boolean) 5 5 K) (hp_v0 : am_ob v0 5) (hp_v1 : (0 ≤ v1 ∧ v1 < 38)) (hB : am_Bt m) (h : M_X5_is v0 v1 K m) : am_Z F 0 [] [(2, v0), (3, v1), (9, 0)] m 200 := by
  have G := X.G
  unfold M_X5_is at h
  refine z_aload_n (nx := 1) (a := 0) G rfl (Or.inl rfl) dX5_is_0 rfl (b_getI (nx := 4) (k0 := 4) (t := 0) G fl_RX5_27 (Nat.le_of_ble_eq_true rfl) (Nat.le_of_ble_eq_true rfl) rfl hp_v0 dX5_is_1 rfl (z_aload_n (nx := 5) (a := 0) G rfl (Or.inl rfl) dX5_is_4 rfl (b_getI (nx := 8) (k0 := 3) (t := 0) G fl_RX5_45 (Nat.le_of_ble_eq_true rfl) (Nat.le_of_ble_eq_true rfl) rfl hp_v0 dX5_is_5 rfl (z_isub (nx := 9) G dX5_is_8 rfl (z_aload_n (nx := 10) (a := 1) G rfl (Or.inr rfl) dX5_is_9 rfl ?_)))))
  refine b_strLen (nx := 13) X hB hp_v1 ml_RX5_75 (Nat.le_of_ble_eq_true rfl) (Nat.le_of_ble_eq_true rfl) dX5_is_10 rfl ?_
  refine z_icmp_eq (nx := 16) (tgt := 18) G dX5_is_13 (by decide) rfl (fun c => ?_) (fun c => ?_)
  · have h := h.1 c
    refine z_iconst (nx := 19) (z := 0) G (R32c rfl) dX5_is_18 rfl (b_storeE_n (nx := 20) (a := 2) (loc2 := [(2, v0), (3, v1), (0, 0)]) G rfl (Nat.le_of_ble_eq_true rfl) (am_pl1 rfl (fun h => nomatch h)) dX5_is_19 rfl ?_)
    exact b_fewer (loc2 := [(2, v0), (3, v1), (0, 0)]) (am_lk (am_lk (am_lk am_ln))) (S_X5_is_L1 X hp_v0 hp_v1 hB h)
  · have h := h.2 c
    refine z_iconst (nx := 17) (z := 0) G (R32c rfl) dX5_is_16 rfl ?_
    exact b_zreturn X hB (Or.inl rfl) dX5_is_17 h
theorem NM_X5_is {v0 : Int} {v1 : Int} {K : am_KK} {m : am_M} (hp_v0 : am_ob v0 5) (hp_v1 : (0 ≤ v1 ∧ v1 < 38)) (h : M_X5_is v0 v1 K m) : N_X5_is [v0, v1] K m := ⟨hp_v0, hp_v1, h⟩
theorem SS_X5_is : am_Snd yX5_is cX5_is 3 (some .boolean) 0 5 (am_L [2, 3] 5 N_X5_is) := by
  refine am_SB (by decide +kernel) (Nat.le_of_ble_eq_true rfl) (fun F zs as K m X ht hB hM => ?_)
  obtain ⟨v0, zs, as, rfl, rfl, hz0, ht⟩ := am_inv ht
  obtain ⟨v1, zs, as, rfl, rfl, hz1, ht⟩ := am_inv ht
  obtain ⟨rfl, rfl⟩ := am_inv0 ht
  obtain ⟨hp_v0, hp_v1, hM⟩ := hM
  exact S_X5_is X hp_v0 hp_v1 hB hM
set_option maxRecDepth 20000 in
set_option maxHeartbeats 4000000 in
theorem S_X5_clauseKind {F : am_F} {K : am_KK} {v0 : Int} {m : am_M} (X : am_Cx F cX5_clauseKind RX5 (some .int) 6 0 K) (hp_v0 : am_ob v0 5) (hB : am_Bt m) (h : M_X5_clauseKind v0 K m) : am_Z F 0 [] [(2, v0)] m 200 := by
  have G := X.G
  unfold M_X5_clauseKind at h
  refine z_aload_n (nx := 1) (a := 0) G rfl (Or.inl rfl) dX5_clauseKind_0 rfl (b_getI (nx := 4) (k0 := 2) (t := 0) G fl_RX5_23 (Nat.le_of_ble_eq_true rfl) (Nat.le_of_ble_eq_true rfl) rfl hp_v0 dX5_clauseKind_1 rfl ?_)
  refine z_if_eq (nx := 7) (tgt := 35) G dX5_clauseKind_4 (by decide) rfl (fun c => ?_) (fun c => ?_)
  · have h := h.1 c
    refine z_aload_n (nx := 36) (a := 0) G rfl (Or.inl rfl) dX5_clauseKind_35 rfl (z_ldcS (nx := 38) (i := 2) G (by decide) rfl dX5_clauseKind_36 rfl ?_)
    refine b_callV5 (nx := 41) (zs := [v0, 2]) (as := [(3, 2)]) X hB (by decide) rfl hp_v0 SS_X5_is (am_ta (am_ts am_tn)) (Nat.le_of_ble_eq_true rfl) (Nat.le_of_ble_eq_true rfl) ml_RX5_55 iw_X5_is vw_X5_is cw_X5_is nw_RX5 pp_X5_is (Nat.le_of_ble_eq_true rfl) dX5_clauseKind_38 rfl (NM_X5_is hp_v0 (⟨by decide, by decide⟩) h) (fun r_1 m_2 h h01_3 hB => ?_)
    refine z_if_eq (nx := 44) (tgt := 48) G dX5_clauseKind_41 (by decide) rfl (fun c => ?_) (fun c => ?_)
    · have h := h.1 c
      refine z_aload_n (nx := 49) (a := 0) G rfl (Or.inl rfl) dX5_clauseKind_48 rfl (z_ldcS (nx := 51) (i := 3) G (by decide) rfl dX5_clauseKind_49 rfl ?_)
      refine b_callV5 (nx := 54) (zs := [v0, 3]) (as := [(3, 3)]) X hB (by decide) rfl hp_v0 SS_X5_is (am_ta (am_ts am_tn)) (Nat.le_of_ble_eq_true rfl) (Nat.le_of_ble_eq_true rfl) ml_RX5_55 iw_X5_is vw_X5_is cw_X5_is nw_RX5 pp_X5_is (Nat.le_of_ble_eq_true rfl) dX5_clauseKind_51 rfl (NM_X5_is hp_v0 (⟨by decide, by decide⟩) h) (fun r_4 m_5 h h01_6 hB => ?_)
      refine z_if_eq (nx := 57) (tgt := 61) G dX5_clauseKind_54 (by decide) rfl (fun c => ?_) (fun c => ?_)
      · have h := h.1 c
        refine z_aload_n (nx := 62) (a := 0) G rfl (Or.inl rfl) dX5_clauseKind_61 rfl (z_ldcS (nx := 64) (i := 4) G (by decide) rfl dX5_clauseKind_62 rfl ?_)
        refine b_callV5 (nx := 67) (zs := [v0, 4]) (as := [(3, 4)]) X hB (by decide) rfl hp_v0 SS_X5_is (am_ta (am_ts am_tn)) (Nat.le_of_ble_eq_true rfl) (Nat.le_of_ble_eq_true rfl) ml_RX5_55 iw_X5_is vw_X5_is cw_X5_is nw_RX5 pp_X5_is (Nat.le_of_ble_eq_true rfl) dX5_clauseKind_64 rfl (NM_X5_is hp_v0 (⟨by decide, by decide⟩) h) (fun r_7 m_8 h h01_9 hB => ?_)
        refine z_if_eq (nx := 70) (tgt := 74) G dX5_clauseKind_67 (by decide) rfl (fun c => ?_) (fun c => ?_)
        · have h := h.1 c
          refine z_iconst (nx := 75) (z := (-1)) G (R32c rfl) dX5_clauseKind_74 rfl ?_
          exact b_ireturn X hB dX5_clauseKind_75 h
        · have h := h.2 c
          refine z_iconst (nx := 71) (z := 2) G (R32c rfl) dX5_clauseKind_70 rfl (z_goto (tgt := 75) G dX5_clauseKind_71 (by decide) ?_)
          exact b_ireturn X hB dX5_clauseKind_75 h
      · have h := h.2 c
        refine z_iconst (nx := 58) (z := 1) G (R32c rfl) dX5_clauseKind_57 rfl (z_goto (tgt := 75) G dX5_clauseKind_58 (by decide) ?_)
        exact b_ireturn X hB dX5_clauseKind_75 h
    · have h := h.2 c
      refine z_iconst (nx := 45) (z := 0) G (R32c rfl) dX5_clauseKind_44 rfl (z_goto (tgt := 75) G dX5_clauseKind_45 (by decide) ?_)
      exact b_ireturn X hB dX5_clauseKind_75 h
  · have h := h.2 c
    refine z_aload_n (nx := 8) (a := 0) G rfl (Or.inl rfl) dX5_clauseKind_7 rfl (z_ldcS (nx := 10) (i := 0) G (by decide) rfl dX5_clauseKind_8 rfl ?_)
    refine b_callV5 (nx := 13) (zs := [v0, 0]) (as := [(3, 0)]) X hB (by decide) rfl hp_v0 SS_X5_is (am_ta (am_ts am_tn)) (Nat.le_of_ble_eq_true rfl) (Nat.le_of_ble_eq_true rfl) ml_RX5_55 iw_X5_is vw_X5_is cw_X5_is nw_RX5 pp_X5_is (Nat.le_of_ble_eq_true rfl) dX5_clauseKind_10 rfl (NM_X5_is hp_v0 (⟨by decide, by decide⟩) h) (fun r_10 m_11 h h01_12 hB => ?_)
    refine z_if_eq (nx := 16) (tgt := 20) G dX5_clauseKind_13 (by decide) rfl (fun c => ?_) (fun c => ?_)
    · have h := h.1 c
      refine z_aload_n (nx := 21) (a := 0) G rfl (Or.inl rfl) dX5_clauseKind_20 rfl (z_ldcS (nx := 23) (i := 1) G (by decide) rfl dX5_clauseKind_21 rfl ?_)
      refine b_callV5 (nx := 26) (zs := [v0, 1]) (as := [(3, 1)]) X hB (by decide) rfl hp_v0 SS_X5_is (am_ta (am_ts am_tn)) (Nat.le_of_ble_eq_true rfl) (Nat.le_of_ble_eq_true rfl) ml_RX5_55 iw_X5_is vw_X5_is cw_X5_is nw_RX5 pp_X5_is (Nat.le_of_ble_eq_true rfl) dX5_clauseKind_23 rfl (NM_X5_is hp_v0 (⟨by decide, by decide⟩) h) (fun r_13 m_14 h h01_15 hB => ?_)
      refine z_if_eq (nx := 29) (tgt := 33) G dX5_clauseKind_26 (by decide) rfl (fun c => ?_) (fun c => ?_)
      · have h := h.1 c
        refine z_iconst (nx := 34) (z := (-1)) G (R32c rfl) dX5_clauseKind_33 rfl ?_
        exact b_ireturn X hB dX5_clauseKind_34 h
      · have h := h.2 c
        refine z_iconst (nx := 30) (z := 4) G (R32c rfl) dX5_clauseKind_29 rfl (z_goto (tgt := 34) G dX5_clauseKind_30 (by decide) ?_)
        exact b_ireturn X hB dX5_clauseKind_34 h
    · have h := h.2 c
      refine z_iconst (nx := 17) (z := 3) G (R32c rfl) dX5_clauseKind_16 rfl (z_goto (tgt := 34) G dX5_clauseKind_17 (by decide) ?_)
      exact b_ireturn X hB dX5_clauseKind_34 h
theorem NM_X5_clauseKind {v0 : Int} {K : am_KK} {m : am_M} (hp_v0 : am_ob v0 5) (h : M_X5_clauseKind v0 K m) : N_X5_clauseKind [v0] K m := ⟨hp_v0, h⟩
theorem SS_X5_clauseKind : am_Snd yX5_clauseKind cX5_clauseKind 1 (some .int) 0 6 (am_L [2] 0 N_X5_clauseKind) := by
  refine am_SB (by decide +kernel) (Nat.le_of_ble_eq_true rfl) (fun F zs as K m X ht hB hM => ?_)
  obtain ⟨v0, zs, as, rfl, rfl, hz0, ht⟩ := am_inv ht
  obtain ⟨rfl, rfl⟩ := am_inv0 ht
  obtain ⟨hp_v0, hM⟩ := hM
  exact S_X5_clauseKind X hp_v0 hB hM
set_option maxRecDepth 20000 in
set_option maxHeartbeats 4000000 in
theorem S_X7_open {F : am_F} {K : am_KK} {v0 : Int} {m : am_M} (X : am_Cx F cX7_open RX7 (some .int) 1 0 K) (hp_v0 : am_ob v0 7) (hB : am_Bt m) (h : M_X7_open v0 K m) : am_Z F 0 [] [(2, v0)] m 200 := by
  have G := X.G
  unfold M_X7_open at h
  refine z_aload_n (nx := 1) (a := 0) G rfl (Or.inl rfl) dX7_open_0 rfl (b_getI (nx := 4) (k0 := 2) (t := 0) G fl_RX7_25 (Nat.le_of_ble_eq_true rfl) (Nat.le_of_ble_eq_true rfl) rfl hp_v0 dX7_open_1 rfl (z_iconst (nx := 5) (z := 1) G (R32c rfl) dX7_open_4 rfl (z_iadd (nx := 6) G dX7_open_5 rfl (z_aload_n (nx := 7) (a := 0) G rfl (Or.inl rfl) dX7_open_6 rfl (b_getI (nx := 10) (k0 := 1) (t := 0) G fl_RX7_15 (Nat.le_of_ble_eq_true rfl) (Nat.le_of_ble_eq_true rfl) rfl hp_v0 dX7_open_7 rfl (z_imul (nx := 11) G dX7_open_10 rfl (z_aload_n (nx := 12) (a := 0) G rfl (Or.inl rfl) dX7_open_11 rfl (b_getA (nx := 15) (k0 := 0) G hB fl_RX7_21 (Nat.le_of_ble_eq_true rfl) (Nat.le_of_ble_eq_true rfl) rfl hp_v0 dX7_open_12 rfl (b_alen (nx := 16) G (by decide) (by decide) (sh_7_0 _ hp_v0) dX7_open_15 rfl ?_)))))))))
  refine z_icmp_le (nx := 19) (tgt := 21) G dX7_open_16 (by decide) rfl (fun c => ?_) (fun c => ?_)
  · have h := h.1 c
    refine z_aload_n (nx := 22) (a := 0) G rfl (Or.inl rfl) dX7_open_21 rfl (z_dup (nx := 23) G (fun h => nomatch h) dX7_open_22 rfl (b_getI (nx := 26) (k0 := 2) (t := 0) G fl_RX7_25 (Nat.le_of_ble_eq_true rfl) (Nat.le_of_ble_eq_true rfl) rfl hp_v0 dX7_open_23 rfl (z_iconst (nx := 27) (z := 1) G (R32c rfl) dX7_open_26 rfl (z_iadd (nx := 28) G dX7_open_27 rfl ?_))))
    refine b_put (nx := 31) (k0 := 2) (t := 0) G hB fl_RX7_25 (Nat.le_of_ble_eq_true rfl) (Nat.le_of_ble_eq_true rfl) rfl (fun h => nomatch h) rfl hp_v0 dX7_open_28 rfl (fun m_1 e_m_1 hB => ?_)
    have h := h m_1 e_m_1
    refine z_aload_n (nx := 32) (a := 0) G rfl (Or.inl rfl) dX7_open_31 rfl (b_getI (nx := 35) (k0 := 2) (t := 0) G fl_RX7_25 (Nat.le_of_ble_eq_true rfl) (Nat.le_of_ble_eq_true rfl) rfl hp_v0 dX7_open_32 rfl (z_iconst (nx := 36) (z := 1) G (R32c rfl) dX7_open_35 rfl (z_isub (nx := 37) G dX7_open_36 rfl ?_)))
    exact b_ireturn X hB dX7_open_37 h
  · have h := h.2 c
    refine z_iconst (nx := 20) (z := (-1)) G (R32c rfl) dX7_open_19 rfl ?_
    exact b_ireturn X hB dX7_open_20 h
theorem NM_X7_open {v0 : Int} {K : am_KK} {m : am_M} (hp_v0 : am_ob v0 7) (h : M_X7_open v0 K m) : N_X7_open [v0] K m := ⟨hp_v0, h⟩
theorem SS_X7_open : am_Snd yX7_open cX7_open 1 (some .int) 0 1 (am_L [2] 0 N_X7_open) := by
  refine am_SB (by decide +kernel) (Nat.le_of_ble_eq_true rfl) (fun F zs as K m X ht hB hM => ?_)
  obtain ⟨v0, zs, as, rfl, rfl, hz0, ht⟩ := am_inv ht
  obtain ⟨rfl, rfl⟩ := am_inv0 ht
  obtain ⟨hp_v0, hM⟩ := hM
  exact S_X7_open X hp_v0 hB hM
set_option maxRecDepth 20000 in
set_option maxHeartbeats 4000000 in
theorem S_X5_fail {F : am_F} {K : am_KK} {v0 : Int} {m : am_M} (X : am_Cx F cX5_fail RX5 (some .boolean) 1 5 K) (hp_v0 : am_ob v0 5) (hB : am_Bt m) (h : M_X5_fail v0 K m) : am_Z F 0 [] [(2, v0)] m 200 := by
  have G := X.G
  unfold M_X5_fail at h
  refine z_aload_n (nx := 1) (a := 0) G rfl (Or.inl rfl) dX5_fail_0 rfl (z_aload_n (nx := 2) (a := 0) G rfl (Or.inl rfl) dX5_fail_1 rfl (b_getI (nx := 5) (k0 := 3) (t := 0) G fl_RX5_45 (Nat.le_of_ble_eq_true rfl) (Nat.le_of_ble_eq_true rfl) rfl hp_v0 dX5_fail_2 rfl ?_))
  refine b_put (nx := 8) (k0 := 6) (t := 0) G hB fl_RX5_9 (Nat.le_of_ble_eq_true rfl) (Nat.le_of_ble_eq_true rfl) rfl (fun h => nomatch h) rfl hp_v0 dX5_fail_5 rfl (fun m_1 e_m_1 hB => ?_)
  have h := h m_1 e_m_1
  refine z_iconst (nx := 9) (z := 0) G (R32c rfl) dX5_fail_8 rfl ?_
  exact b_zreturn X hB (Or.inl rfl) dX5_fail_9 h
theorem NM_X5_fail {v0 : Int} {K : am_KK} {m : am_M} (hp_v0 : am_ob v0 5) (h : M_X5_fail v0 K m) : N_X5_fail [v0] K m := ⟨hp_v0, h⟩
theorem SS_X5_fail : am_Snd yX5_fail cX5_fail 1 (some .boolean) 0 1 (am_L [2] 5 N_X5_fail) := by
  refine am_SB (by decide +kernel) (Nat.le_of_ble_eq_true rfl) (fun F zs as K m X ht hB hM => ?_)
  obtain ⟨v0, zs, as, rfl, rfl, hz0, ht⟩ := am_inv ht
  obtain ⟨rfl, rfl⟩ := am_inv0 ht
  obtain ⟨hp_v0, hM⟩ := hM
  exact S_X5_fail X hp_v0 hB hM
set_option maxRecDepth 20000 in
set_option maxHeartbeats 4000000 in
theorem S_X5_pass {F : am_F} {K : am_KK} {v0 : Int} {v1 : Int} {m : am_M} (X : am_Cx F cX5_pass RX5 (some .boolean) 6 5 K) (hp_v0 : am_ob v0 5) (hp_v1 : (0 ≤ v1 ∧ v1 < 38)) (hB : am_Bt m) (h : M_X5_pass v0 v1 K m) : am_Z F 0 [] [(2, v0), (3, v1)] m 200 := by
  have G := X.G
  unfold M_X5_pass at h
  refine z_aload_n (nx := 1) (a := 0) G rfl (Or.inl rfl) dX5_pass_0 rfl (z_aload_n (nx := 2) (a := 1) G rfl (Or.inr rfl) dX5_pass_1 rfl ?_)
  refine b_callV5 (nx := 5) (zs := [v0, v1]) (as := [(3, v1)]) X hB (by decide) rfl hp_v0 SS_X5_is (am_ta (am_ts am_tn)) (Nat.le_of_ble_eq_true rfl) (Nat.le_of_ble_eq_true rfl) ml_RX5_55 iw_X5_is vw_X5_is cw_X5_is nw_RX5 pp_X5_is (Nat.le_of_ble_eq_true rfl) dX5_pass_2 rfl (NM_X5_is hp_v0 hp_v1 h) (fun r_1 m_2 h h01_3 hB => ?_)
  refine z_if_ne (nx := 8) (tgt := 13) G dX5_pass_5 (by decide) rfl (fun c => ?_) (fun c => ?_)
  · have h := h.1 c
    refine z_aload_n (nx := 14) (a := 0) G rfl (Or.inl rfl) dX5_pass_13 rfl ?_
    refine b_callV9 (nx := 17) (zs := [v0]) (as := []) X hB (by decide) rfl hp_v0 SS_X5_advance (am_ta am_tn) (Nat.le_of_ble_eq_true rfl) (Nat.le_of_ble_eq_true rfl) ml_RX5_38 iw_X5_advance vw_X5_advance cw_X5_advance nw_RX5 pp_X5_advance (Nat.le_of_ble_eq_true rfl) dX5_pass_14 rfl (NM_X5_advance hp_v0 h) (fun r_4 m_5 h hB => ?_)
    refine z_iconst (nx := 18) (z := 1) G (R32c rfl) dX5_pass_17 rfl ?_
    exact b_zreturn X hB (Or.inr rfl) dX5_pass_18 h
  · have h := h.2 c
    refine z_aload_n (nx := 9) (a := 0) G rfl (Or.inl rfl) dX5_pass_8 rfl ?_
    refine b_callV5 (nx := 12) (zs := [v0]) (as := []) X hB (by decide) rfl hp_v0 SS_X5_fail (am_ta am_tn) (Nat.le_of_ble_eq_true rfl) (Nat.le_of_ble_eq_true rfl) ml_RX5_59 iw_X5_fail vw_X5_fail cw_X5_fail nw_RX5 pp_X5_fail (Nat.le_of_ble_eq_true rfl) dX5_pass_9 rfl (NM_X5_fail hp_v0 h) (fun r_6 m_7 h h01_8 hB => ?_)
    exact b_zreturn X hB h01_8 dX5_pass_12 h
theorem NM_X5_pass {v0 : Int} {v1 : Int} {K : am_KK} {m : am_M} (hp_v0 : am_ob v0 5) (hp_v1 : (0 ≤ v1 ∧ v1 < 38)) (h : M_X5_pass v0 v1 K m) : N_X5_pass [v0, v1] K m := ⟨hp_v0, hp_v1, h⟩
theorem SS_X5_pass : am_Snd yX5_pass cX5_pass 2 (some .boolean) 0 6 (am_L [2, 3] 5 N_X5_pass) := by
  refine am_SB (by decide +kernel) (Nat.le_of_ble_eq_true rfl) (fun F zs as K m X ht hB hM => ?_)
  obtain ⟨v0, zs, as, rfl, rfl, hz0, ht⟩ := am_inv ht
  obtain ⟨v1, zs, as, rfl, rfl, hz1, ht⟩ := am_inv ht
  obtain ⟨rfl, rfl⟩ := am_inv0 ht
  obtain ⟨hp_v0, hp_v1, hM⟩ := hM
  exact S_X5_pass X hp_v0 hp_v1 hB hM
set_option maxRecDepth 20000 in
set_option maxHeartbeats 4000000 in
theorem S_X5_openBracket {F : am_F} {K : am_KK} {v0 : Int} {v1 : Int} {m : am_M} (X : am_Cx F cX5_openBracket RX5 (some .boolean) 3 5 K) (hp_v0 : am_ob v0 5) (hB : am_Bt m) (h : M_X5_openBracket v0 v1 K m) : am_Z F 0 [] [(2, v0), (0, v1)] m 200 := by
  have G := X.G
  unfold M_X5_openBracket at h
  refine z_iload_n (nx := 1) (a := 1) G rfl dX5_openBracket_0 rfl (z_bipush (nx := 3) (z := 8) G (R32c rfl) rfl dX5_openBracket_1 rfl ?_)
  refine z_icmp_lt (nx := 6) (tgt := 11) G dX5_openBracket_3 (by decide) rfl (fun c => ?_) (fun c => ?_)
  · have h := h.1 c
    refine z_aload_n (nx := 12) (a := 0) G rfl (Or.inl rfl) dX5_openBracket_11 rfl ?_
    refine b_callV9 (nx := 15) (zs := [v0]) (as := []) X hB (by decide) rfl hp_v0 SS_X5_advance (am_ta am_tn) (Nat.le_of_ble_eq_true rfl) (Nat.le_of_ble_eq_true rfl) ml_RX5_38 iw_X5_advance vw_X5_advance cw_X5_advance nw_RX5 pp_X5_advance (Nat.le_of_ble_eq_true rfl) dX5_openBracket_12 rfl (NM_X5_advance hp_v0 h) (fun r_1 m_2 h hB => ?_)
    refine z_iconst (nx := 16) (z := 1) G (R32c rfl) dX5_openBracket_15 rfl ?_
    exact b_zreturn X hB (Or.inr rfl) dX5_openBracket_16 h
  · have h := h.2 c
    refine z_aload_n (nx := 7) (a := 0) G rfl (Or.inl rfl) dX5_openBracket_6 rfl ?_
    refine b_callV5 (nx := 10) (zs := [v0]) (as := []) X hB (by decide) rfl hp_v0 SS_X5_fail (am_ta am_tn) (Nat.le_of_ble_eq_true rfl) (Nat.le_of_ble_eq_true rfl) ml_RX5_59 iw_X5_fail vw_X5_fail cw_X5_fail nw_RX5 pp_X5_fail (Nat.le_of_ble_eq_true rfl) dX5_openBracket_7 rfl (NM_X5_fail hp_v0 h) (fun r_3 m_4 h h01_5 hB => ?_)
    exact b_zreturn X hB h01_5 dX5_openBracket_10 h
theorem NM_X5_openBracket {v0 : Int} {v1 : Int} {K : am_KK} {m : am_M} (hp_v0 : am_ob v0 5) (h : M_X5_openBracket v0 v1 K m) : N_X5_openBracket [v0, v1] K m := ⟨hp_v0, h⟩
theorem SS_X5_openBracket : am_Snd yX5_openBracket cX5_openBracket 2 (some .boolean) 0 3 (am_L [2, 0] 5 N_X5_openBracket) := by
  refine am_SB (by decide +kernel) (Nat.le_of_ble_eq_true rfl) (fun F zs as K m X ht hB hM => ?_)
  obtain ⟨v0, zs, as, rfl, rfl, hz0, ht⟩ := am_inv ht
  obtain ⟨v1, zs, as, rfl, rfl, hz1, ht⟩ := am_inv ht
  obtain ⟨rfl, rfl⟩ := am_inv0 ht
  obtain ⟨hp_v0, hM⟩ := hM
  exact S_X5_openBracket X hp_v0 hB hM
set_option maxRecDepth 20000 in
set_option maxHeartbeats 4000000 in
theorem S_X5_number_J1 {F : am_F} {K : am_KK} {v1 : Int} {v2 : Int} {v3 : Int} {m : am_M} (X : am_Cx F cX5_number RX5 (some .int) 2 0 K) (hB : am_Bt m) (h : M_X5_number_J1 v1 v2 v3 K m) : am_Z F 68 [] [(9, 0), (0, v1), (0, v2), (0, v3), (9, 0)] m 200 := by
  have G := X.G
  unfold M_X5_number_J1 at h
  refine z_iload_n (nx := 69) (a := 3) G rfl dX5_number_68 rfl (z_iload_n (nx := 70) (a := 1) G rfl dX5_number_69 rfl (z_iload_n (nx := 71) (a := 2) G rfl dX5_number_70 rfl ?_))
  refine b_callSN5 (nx := 74) (zs := [v3, v1, v2]) (as := [(0, v3), (0, v1), (0, v2)]) X hB SS_X11_within (am_ti (am_ti (am_ti am_tn))) (Nat.le_of_ble_eq_true rfl) (Nat.le_of_ble_eq_true rfl) mn_RX5_85 sw_X11_within (am_plainC 11 (by decide)) cw_X11_within nw_RX11 pp_X11_within (Nat.le_of_ble_eq_true rfl) dX5_number_71 rfl (NM_X11_within h) (fun r_1 m_2 h h01_3 hB => ?_)
  refine z_if_eq (nx := 77) (tgt := 81) G dX5_number_74 (by decide) rfl (fun c => ?_) (fun c => ?_)
  · have h := h.1 c
    refine z_iconst (nx := 82) (z := (-1)) G (R32c rfl) dX5_number_81 rfl ?_
    exact b_ireturn X hB dX5_number_82 h
  · have h := h.2 c
    refine z_iload_n (nx := 78) (a := 3) G rfl dX5_number_77 rfl (z_goto (tgt := 82) G dX5_number_78 (by decide) ?_)
    exact b_ireturn X hB dX5_number_82 h
set_option maxRecDepth 20000 in
set_option maxHeartbeats 4000000 in
theorem S_X5_number_L1B {F : am_F} {K : am_KK} {v0 : Int} {v1 : Int} {v2 : Int} {v3 : Int} {v4 : Int} {C29 : Int → Int → am_M → Prop} {m : am_M} (X : am_Cx F cX5_number RX5 (some .int) 2 0 K) (hp_v0 : am_ob v0 5) (hC29 : ∀ w3 w4 m, C29 w3 w4 m → am_Bt m → am_Z F 29 [] [(2, v0), (0, v1), (0, v2), (0, w3), (0, w4)] m 200) (hB : am_Bt m) (h : M_X5_number_L1B v0 v1 v2 v3 v4 C29 K m) : am_Z F 29 [] [(2, v0), (0, v1), (0, v2), (0, v3), (0, v4)] m 200 := by
  have G := X.G
  unfold M_X5_number_L1B at h
  refine z_iload (nx := 31) (a := 4) G rfl dX5_number_29 rfl (z_aload_n (nx := 32) (a := 0) G rfl (Or.inl rfl) dX5_number_31 rfl (b_getI (nx := 35) (k0 := 4) (t := 0) G fl_RX5_27 (Nat.le_of_ble_eq_true rfl) (Nat.le_of_ble_eq_true rfl) rfl hp_v0 dX5_number_32 rfl ?_))
  refine z_icmp_ge (nx := 38) (tgt := 68) G dX5_number_35 (by decide) rfl (fun c => ?_) (fun c => ?_)
  · have h := h.1 c
    exact b_fewer (loc2 := [(9, 0), (0, v1), (0, v2), (0, v3), (9, 0)]) (am_lf (am_lk (am_lk (am_lk (am_lf am_ln))))) (S_X5_number_J1 X hB h)
  · have h := h.2 c
    refine z_iload_n (nx := 39) (a := 3) G rfl dX5_number_38 rfl (z_iload_n (nx := 40) (a := 2) G rfl dX5_number_39 rfl ?_)
    refine z_icmp_gt (nx := 43) (tgt := 68) G dX5_number_40 (by decide) rfl (fun c => ?_) (fun c => ?_)
    · have h := h.1 c
      exact b_fewer (loc2 := [(9, 0), (0, v1), (0, v2), (0, v3), (9, 0)]) (am_lf (am_lk (am_lk (am_lk (am_lf am_ln))))) (S_X5_number_J1 X hB h)
    · have h := h.2 c
      refine z_iload_n (nx := 44) (a := 3) G rfl dX5_number_43 rfl (z_bipush (nx := 46) (z := 10) G (R32c rfl) rfl dX5_number_44 rfl (z_imul (nx := 47) G dX5_number_46 rfl (z_aload_n (nx := 48) (a := 0) G rfl (Or.inl rfl) dX5_number_47 rfl (b_getA (nx := 51) (k0 := 0) G hB fl_RX5_15 (Nat.le_of_ble_eq_true rfl) (Nat.le_of_ble_eq_true rfl) rfl hp_v0 dX5_number_48 rfl (z_iload (nx := 53) (a := 4) G rfl dX5_number_51 rfl (z_iconst (nx := 54) (z := 0) G (R32c rfl) dX5_number_53 rfl ?_))))))
      refine b_callV0 (nx := 57) (zs := [am_rfv v0 0, v4, 0]) (as := [(0, v4), (0, 0)]) X hB (by decide) rfl (sh_5_0 _ hp_v0) SS_X7_get (am_ta (am_ti (am_ti am_tn))) (Nat.le_of_ble_eq_true rfl) (Nat.le_of_ble_eq_true rfl) ml_RX5_62 iw_X7_get vw_X7_get cw_X7_get nw_RX7 pp_X7_get (Nat.le_of_ble_eq_true rfl) dX5_number_54 rfl (NM_X7_get (sh_5_0 _ hp_v0) h) (fun r_4 m_5 h hB => ?_)
      refine z_iadd (nx := 58) G dX5_number_57 rfl (z_bipush (nx := 60) (z := 48) G (R32c rfl) rfl dX5_number_58 rfl (z_isub (nx := 61) G dX5_number_60 rfl ?_))
      refine b_store_n (nx := 62) (a := 3) (loc2 := fun v3_6 => [(2, v0), (0, v1), (0, v2), (0, v3_6), (0, v4)]) G (fun _ => rfl) (Nat.le_of_ble_eq_true rfl) (am_pl1 rfl (fun h => nomatch h)) dX5_number_61 rfl (fun v3_6 e_v3_6 => ?_)
      have h := h v3_6 e_v3_6
      refine b_iinc (nx := 65) (a := 4) (loc2 := fun v4_7 => [(2, v0), (0, v1), (0, v2), (0, v3_6), (0, v4_7)]) G (fun _ => rfl) rfl (am_pl1 rfl (fun h => nomatch h)) dX5_number_62 rfl (fun v4_7 e_v4_7 => ?_)
      have h := h v4_7 e_v4_7
      refine z_goto (tgt := 29) G dX5_number_65 (by decide) ?_
      exact b_fewer (loc2 := [(2, v0), (0, v1), (0, v2), (0, v3_6), (0, v4_7)]) (am_lk (am_lk (am_lk (am_lk (am_lk am_ln))))) (hC29 _ _ _ h hB)
theorem S_X5_number_L1 {F : am_F} {K : am_KK} {v0 : Int} {v1 : Int} {v2 : Int} {v3 : Int} {v4 : Int} {m : am_M} (X : am_Cx F cX5_number RX5 (some .int) 2 0 K) (hp_v0 : am_ob v0 5) (hB : am_Bt m) (h : M_X5_number_L1 v0 v1 v2 v3 v4 K m) : am_Z F 29 [] [(2, v0), (0, v1), (0, v2), (0, v3), (0, v4)] m 200 := by
  obtain ⟨I, ⟨j, hj⟩, hI⟩ := h
  have key : ∀ j v3 v4 m, I j v3 v4 m → am_Bt m → am_Z F 29 [] [(2, v0), (0, v1), (0, v2), (0, v3), (0, v4)] m 200 := by
    intro j
    induction j using Nat.strongRecOn with
    | ind j ih =>
      intro v3 v4 m hj hB
      exact S_X5_number_L1B X hp_v0 (fun v3' v4' m' hc hB' => by
        obtain ⟨j', g1, g2⟩ := hc
        exact ih j' g1 v3' v4' m' g2 hB') hB (hI j v3 v4 m hj)
  exact key j _ _ _ hj hB
set_option maxRecDepth 20000 in
set_option maxHeartbeats 4000000 in
theorem S_X5_number {F : am_F} {K : am_KK} {v0 : Int} {v1 : Int} {v2 : Int} {m : am_M} (X : am_Cx F cX5_number RX5 (some .int) 2 0 K) (hp_v0 : am_ob v0 5) (hB : am_Bt m) (h : M_X5_number v0 v1 v2 K m) : am_Z F 0 [] [(2, v0), (0, v1), (0, v2), (9, 0), (9, 0)] m 200 := by
  have G := X.G
  unfold M_X5_number at h
  refine z_aload_n (nx := 1) (a := 0) G rfl (Or.inl rfl) dX5_number_0 rfl (b_getA (nx := 4) (k0 := 0) G hB fl_RX5_15 (Nat.le_of_ble_eq_true rfl) (Nat.le_of_ble_eq_true rfl) rfl hp_v0 dX5_number_1 rfl (z_aload_n (nx := 5) (a := 0) G rfl (Or.inl rfl) dX5_number_4 rfl (b_getI (nx := 8) (k0 := 3) (t := 0) G fl_RX5_45 (Nat.le_of_ble_eq_true rfl) (Nat.le_of_ble_eq_true rfl) rfl hp_v0 dX5_number_5 rfl (z_iconst (nx := 9) (z := 0) G (R32c rfl) dX5_number_8 rfl ?_))))
  refine b_callV0 (nx := 12) (zs := [am_rfv v0 0, m v0 3, 0]) (as := [(0, m v0 3), (0, 0)]) X hB (by decide) rfl (sh_5_0 _ hp_v0) SS_X7_get (am_ta (am_ti (am_ti am_tn))) (Nat.le_of_ble_eq_true rfl) (Nat.le_of_ble_eq_true rfl) ml_RX5_62 iw_X7_get vw_X7_get cw_X7_get nw_RX7 pp_X7_get (Nat.le_of_ble_eq_true rfl) dX5_number_9 rfl (NM_X7_get (sh_5_0 _ hp_v0) h) (fun r_8 m_9 h hB => ?_)
  refine b_callS0 (nx := 15) (zs := [r_8]) (as := [(0, r_8)]) X hB SS_X5_kindOf (am_ti am_tn) (Nat.le_of_ble_eq_true rfl) (Nat.le_of_ble_eq_true rfl) ml_RX5_66 sw_X5_kindOf (am_plainC 5 (by decide)) cw_X5_kindOf nw_RX5 pp_X5_kindOf (Nat.le_of_ble_eq_true rfl) dX5_number_12 rfl (NM_X5_kindOf h) (fun r_10 m_11 h hB => ?_)
  refine z_iconst (nx := 16) (z := 1) G (R32c rfl) dX5_number_15 rfl ?_
  refine z_icmp_eq (nx := 19) (tgt := 21) G dX5_number_16 (by decide) rfl (fun c => ?_) (fun c => ?_)
  · have h := h.1 c
    refine z_iconst (nx := 22) (z := 0) G (R32c rfl) dX5_number_21 rfl (b_storeE_n (nx := 23) (a := 3) (loc2 := [(2, v0), (0, v1), (0, v2), (0, 0), (9, 0)]) G rfl (Nat.le_of_ble_eq_true rfl) (am_pl1 rfl (fun h => nomatch h)) dX5_number_22 rfl (z_aload_n (nx := 24) (a := 0) G rfl (Or.inl rfl) dX5_number_23 rfl (b_getI (nx := 27) (k0 := 3) (t := 0) G fl_RX5_45 (Nat.le_of_ble_eq_true rfl) (Nat.le_of_ble_eq_true rfl) rfl hp_v0 dX5_number_24 rfl ?_)))
    refine b_store (nx := 29) (a := 4) (loc2 := fun v4_12 => [(2, v0), (0, v1), (0, v2), (0, 0), (0, v4_12)]) G (fun _ => rfl) (Nat.le_of_ble_eq_true rfl) (am_pl1 rfl (fun h => nomatch h)) dX5_number_27 rfl (fun v4_12 e_v4_12 => ?_)
    have h := h v4_12 e_v4_12
    exact b_fewer (loc2 := [(2, v0), (0, v1), (0, v2), (0, 0), (0, v4_12)]) (am_lk (am_lk (am_lk (am_lk (am_lk am_ln))))) (S_X5_number_L1 X hp_v0 hB h)
  · have h := h.2 c
    refine z_iconst (nx := 20) (z := (-1)) G (R32c rfl) dX5_number_19 rfl ?_
    exact b_ireturn X hB dX5_number_20 h
theorem NM_X5_number {v0 : Int} {v1 : Int} {v2 : Int} {K : am_KK} {m : am_M} (hp_v0 : am_ob v0 5) (h : M_X5_number v0 v1 v2 K m) : N_X5_number [v0, v1, v2] K m := ⟨hp_v0, h⟩
theorem SS_X5_number : am_Snd yX5_number cX5_number 5 (some .int) 0 2 (am_L [2, 0, 0] 0 N_X5_number) := by
  refine am_SB (by decide +kernel) (Nat.le_of_ble_eq_true rfl) (fun F zs as K m X ht hB hM => ?_)
  obtain ⟨v0, zs, as, rfl, rfl, hz0, ht⟩ := am_inv ht
  obtain ⟨v1, zs, as, rfl, rfl, hz1, ht⟩ := am_inv ht
  obtain ⟨v2, zs, as, rfl, rfl, hz2, ht⟩ := am_inv ht
  obtain ⟨rfl, rfl⟩ := am_inv0 ht
  obtain ⟨hp_v0, hM⟩ := hM
  exact S_X5_number X hp_v0 hB hM
set_option maxRecDepth 20000 in
set_option maxHeartbeats 4000000 in
theorem S_X5_orderFact {F : am_F} {K : am_KK} {v0 : Int} {m : am_M} (X : am_Cx F cX5_orderFact RX5 (some .int) 6 0 K) (hp_v0 : am_ob v0 5) (hB : am_Bt m) (h : M_X5_orderFact v0 K m) : am_Z F 0 [] [(2, v0)] m 200 := by
  have G := X.G
  unfold M_X5_orderFact at h
  refine z_aload_n (nx := 1) (a := 0) G rfl (Or.inl rfl) dX5_orderFact_0 rfl (z_ldcS (nx := 3) (i := 9) G (by decide) rfl dX5_orderFact_1 rfl ?_)
  refine b_callV5 (nx := 6) (zs := [v0, 9]) (as := [(3, 9)]) X hB (by decide) rfl hp_v0 SS_X5_is (am_ta (am_ts am_tn)) (Nat.le_of_ble_eq_true rfl) (Nat.le_of_ble_eq_true rfl) ml_RX5_55 iw_X5_is vw_X5_is cw_X5_is nw_RX5 pp_X5_is (Nat.le_of_ble_eq_true rfl) dX5_orderFact_3 rfl (NM_X5_is hp_v0 (⟨by decide, by decide⟩) h) (fun r_1 m_2 h h01_3 hB => ?_)
  refine z_if_eq (nx := 9) (tgt := 11) G dX5_orderFact_6 (by decide) rfl (fun c => ?_) (fun c => ?_)
  · have h := h.1 c
    refine z_aload_n (nx := 12) (a := 0) G rfl (Or.inl rfl) dX5_orderFact_11 rfl (z_ldcS (nx := 14) (i := 10) G (by decide) rfl dX5_orderFact_12 rfl ?_)
    refine b_callV5 (nx := 17) (zs := [v0, 10]) (as := [(3, 10)]) X hB (by decide) rfl hp_v0 SS_X5_is (am_ta (am_ts am_tn)) (Nat.le_of_ble_eq_true rfl) (Nat.le_of_ble_eq_true rfl) ml_RX5_55 iw_X5_is vw_X5_is cw_X5_is nw_RX5 pp_X5_is (Nat.le_of_ble_eq_true rfl) dX5_orderFact_14 rfl (NM_X5_is hp_v0 (⟨by decide, by decide⟩) h) (fun r_4 m_5 h h01_6 hB => ?_)
    refine z_if_eq (nx := 20) (tgt := 22) G dX5_orderFact_17 (by decide) rfl (fun c => ?_) (fun c => ?_)
    · have h := h.1 c
      refine z_aload_n (nx := 23) (a := 0) G rfl (Or.inl rfl) dX5_orderFact_22 rfl (z_ldcS (nx := 25) (i := 11) G (by decide) rfl dX5_orderFact_23 rfl ?_)
      refine b_callV5 (nx := 28) (zs := [v0, 11]) (as := [(3, 11)]) X hB (by decide) rfl hp_v0 SS_X5_is (am_ta (am_ts am_tn)) (Nat.le_of_ble_eq_true rfl) (Nat.le_of_ble_eq_true rfl) ml_RX5_55 iw_X5_is vw_X5_is cw_X5_is nw_RX5 pp_X5_is (Nat.le_of_ble_eq_true rfl) dX5_orderFact_25 rfl (NM_X5_is hp_v0 (⟨by decide, by decide⟩) h) (fun r_7 m_8 h h01_9 hB => ?_)
      refine z_if_eq (nx := 31) (tgt := 33) G dX5_orderFact_28 (by decide) rfl (fun c => ?_) (fun c => ?_)
      · have h := h.1 c
        refine z_aload_n (nx := 34) (a := 0) G rfl (Or.inl rfl) dX5_orderFact_33 rfl (z_ldcS (nx := 36) (i := 12) G (by decide) rfl dX5_orderFact_34 rfl ?_)
        refine b_callV5 (nx := 39) (zs := [v0, 12]) (as := [(3, 12)]) X hB (by decide) rfl hp_v0 SS_X5_is (am_ta (am_ts am_tn)) (Nat.le_of_ble_eq_true rfl) (Nat.le_of_ble_eq_true rfl) ml_RX5_55 iw_X5_is vw_X5_is cw_X5_is nw_RX5 pp_X5_is (Nat.le_of_ble_eq_true rfl) dX5_orderFact_36 rfl (NM_X5_is hp_v0 (⟨by decide, by decide⟩) h) (fun r_10 m_11 h h01_12 hB => ?_)
        refine z_if_eq (nx := 42) (tgt := 44) G dX5_orderFact_39 (by decide) rfl (fun c => ?_) (fun c => ?_)
        · have h := h.1 c
          refine z_aload_n (nx := 45) (a := 0) G rfl (Or.inl rfl) dX5_orderFact_44 rfl (z_ldcS (nx := 47) (i := 13) G (by decide) rfl dX5_orderFact_45 rfl ?_)
          refine b_callV5 (nx := 50) (zs := [v0, 13]) (as := [(3, 13)]) X hB (by decide) rfl hp_v0 SS_X5_is (am_ta (am_ts am_tn)) (Nat.le_of_ble_eq_true rfl) (Nat.le_of_ble_eq_true rfl) ml_RX5_55 iw_X5_is vw_X5_is cw_X5_is nw_RX5 pp_X5_is (Nat.le_of_ble_eq_true rfl) dX5_orderFact_47 rfl (NM_X5_is hp_v0 (⟨by decide, by decide⟩) h) (fun r_13 m_14 h h01_15 hB => ?_)
          refine z_if_eq (nx := 53) (tgt := 58) G dX5_orderFact_50 (by decide) rfl (fun c => ?_) (fun c => ?_)
          · have h := h.1 c
            refine z_aload_n (nx := 59) (a := 0) G rfl (Or.inl rfl) dX5_orderFact_58 rfl (z_ldcS (nx := 61) (i := 14) G (by decide) rfl dX5_orderFact_59 rfl ?_)
            refine b_callV5 (nx := 64) (zs := [v0, 14]) (as := [(3, 14)]) X hB (by decide) rfl hp_v0 SS_X5_is (am_ta (am_ts am_tn)) (Nat.le_of_ble_eq_true rfl) (Nat.le_of_ble_eq_true rfl) ml_RX5_55 iw_X5_is vw_X5_is cw_X5_is nw_RX5 pp_X5_is (Nat.le_of_ble_eq_true rfl) dX5_orderFact_61 rfl (NM_X5_is hp_v0 (⟨by decide, by decide⟩) h) (fun r_16 m_17 h h01_18 hB => ?_)
            refine z_if_eq (nx := 67) (tgt := 72) G dX5_orderFact_64 (by decide) rfl (fun c => ?_) (fun c => ?_)
            · have h := h.1 c
              refine z_iconst (nx := 73) (z := (-1)) G (R32c rfl) dX5_orderFact_72 rfl ?_
              exact b_ireturn X hB dX5_orderFact_73 h
            · have h := h.2 c
              refine z_bipush (nx := 69) (z := 16) G (R32c rfl) rfl dX5_orderFact_67 rfl (z_goto (tgt := 73) G dX5_orderFact_69 (by decide) ?_)
              exact b_ireturn X hB dX5_orderFact_73 h
          · have h := h.2 c
            refine z_bipush (nx := 55) (z := 8) G (R32c rfl) rfl dX5_orderFact_53 rfl (z_goto (tgt := 73) G dX5_orderFact_55 (by decide) ?_)
            exact b_ireturn X hB dX5_orderFact_73 h
        · have h := h.2 c
          refine z_iconst (nx := 43) (z := 3) G (R32c rfl) dX5_orderFact_42 rfl ?_
          exact b_ireturn X hB dX5_orderFact_43 h
      · have h := h.2 c
        refine z_iconst (nx := 32) (z := 2) G (R32c rfl) dX5_orderFact_31 rfl ?_
        exact b_ireturn X hB dX5_orderFact_32 h
    · have h := h.2 c
      refine z_iconst (nx := 21) (z := 1) G (R32c rfl) dX5_orderFact_20 rfl ?_
      exact b_ireturn X hB dX5_orderFact_21 h
  · have h := h.2 c
    refine z_iconst (nx := 10) (z := 0) G (R32c rfl) dX5_orderFact_9 rfl ?_
    exact b_ireturn X hB dX5_orderFact_10 h
theorem NM_X5_orderFact {v0 : Int} {K : am_KK} {m : am_M} (hp_v0 : am_ob v0 5) (h : M_X5_orderFact v0 K m) : N_X5_orderFact [v0] K m := ⟨hp_v0, h⟩
theorem SS_X5_orderFact : am_Snd yX5_orderFact cX5_orderFact 1 (some .int) 0 6 (am_L [2] 0 N_X5_orderFact) := by
  refine am_SB (by decide +kernel) (Nat.le_of_ble_eq_true rfl) (fun F zs as K m X ht hB hM => ?_)
  obtain ⟨v0, zs, as, rfl, rfl, hz0, ht⟩ := am_inv ht
  obtain ⟨rfl, rfl⟩ := am_inv0 ht
  obtain ⟨hp_v0, hM⟩ := hM
  exact S_X5_orderFact X hp_v0 hB hM
set_option maxRecDepth 20000 in
set_option maxHeartbeats 4000000 in
theorem S_X5_lawFact {F : am_F} {K : am_KK} {v0 : Int} {m : am_M} (X : am_Cx F cX5_lawFact RX5 (some .int) 6 0 K) (hp_v0 : am_ob v0 5) (hB : am_Bt m) (h : M_X5_lawFact v0 K m) : am_Z F 0 [] [(2, v0)] m 200 := by
  have G := X.G
  unfold M_X5_lawFact at h
  refine z_aload_n (nx := 1) (a := 0) G rfl (Or.inl rfl) dX5_lawFact_0 rfl (z_ldcS (nx := 3) (i := 15) G (by decide) rfl dX5_lawFact_1 rfl ?_)
  refine b_callV5 (nx := 6) (zs := [v0, 15]) (as := [(3, 15)]) X hB (by decide) rfl hp_v0 SS_X5_is (am_ta (am_ts am_tn)) (Nat.le_of_ble_eq_true rfl) (Nat.le_of_ble_eq_true rfl) ml_RX5_55 iw_X5_is vw_X5_is cw_X5_is nw_RX5 pp_X5_is (Nat.le_of_ble_eq_true rfl) dX5_lawFact_3 rfl (NM_X5_is hp_v0 (⟨by decide, by decide⟩) h) (fun r_1 m_2 h h01_3 hB => ?_)
  refine z_if_eq (nx := 9) (tgt := 11) G dX5_lawFact_6 (by decide) rfl (fun c => ?_) (fun c => ?_)
  · have h := h.1 c
    refine z_aload_n (nx := 12) (a := 0) G rfl (Or.inl rfl) dX5_lawFact_11 rfl (z_ldcS (nx := 14) (i := 16) G (by decide) rfl dX5_lawFact_12 rfl ?_)
    refine b_callV5 (nx := 17) (zs := [v0, 16]) (as := [(3, 16)]) X hB (by decide) rfl hp_v0 SS_X5_is (am_ta (am_ts am_tn)) (Nat.le_of_ble_eq_true rfl) (Nat.le_of_ble_eq_true rfl) ml_RX5_55 iw_X5_is vw_X5_is cw_X5_is nw_RX5 pp_X5_is (Nat.le_of_ble_eq_true rfl) dX5_lawFact_14 rfl (NM_X5_is hp_v0 (⟨by decide, by decide⟩) h) (fun r_4 m_5 h h01_6 hB => ?_)
    refine z_if_eq (nx := 20) (tgt := 22) G dX5_lawFact_17 (by decide) rfl (fun c => ?_) (fun c => ?_)
    · have h := h.1 c
      refine z_aload_n (nx := 23) (a := 0) G rfl (Or.inl rfl) dX5_lawFact_22 rfl (z_ldcS (nx := 25) (i := 17) G (by decide) rfl dX5_lawFact_23 rfl ?_)
      refine b_callV5 (nx := 28) (zs := [v0, 17]) (as := [(3, 17)]) X hB (by decide) rfl hp_v0 SS_X5_is (am_ta (am_ts am_tn)) (Nat.le_of_ble_eq_true rfl) (Nat.le_of_ble_eq_true rfl) ml_RX5_55 iw_X5_is vw_X5_is cw_X5_is nw_RX5 pp_X5_is (Nat.le_of_ble_eq_true rfl) dX5_lawFact_25 rfl (NM_X5_is hp_v0 (⟨by decide, by decide⟩) h) (fun r_7 m_8 h h01_9 hB => ?_)
      refine z_if_eq (nx := 31) (tgt := 33) G dX5_lawFact_28 (by decide) rfl (fun c => ?_) (fun c => ?_)
      · have h := h.1 c
        refine z_aload_n (nx := 34) (a := 0) G rfl (Or.inl rfl) dX5_lawFact_33 rfl (z_ldcS (nx := 36) (i := 18) G (by decide) rfl dX5_lawFact_34 rfl ?_)
        refine b_callV5 (nx := 39) (zs := [v0, 18]) (as := [(3, 18)]) X hB (by decide) rfl hp_v0 SS_X5_is (am_ta (am_ts am_tn)) (Nat.le_of_ble_eq_true rfl) (Nat.le_of_ble_eq_true rfl) ml_RX5_55 iw_X5_is vw_X5_is cw_X5_is nw_RX5 pp_X5_is (Nat.le_of_ble_eq_true rfl) dX5_lawFact_36 rfl (NM_X5_is hp_v0 (⟨by decide, by decide⟩) h) (fun r_10 m_11 h h01_12 hB => ?_)
        refine z_if_eq (nx := 42) (tgt := 44) G dX5_lawFact_39 (by decide) rfl (fun c => ?_) (fun c => ?_)
        · have h := h.1 c
          refine z_aload_n (nx := 45) (a := 0) G rfl (Or.inl rfl) dX5_lawFact_44 rfl (z_ldcS (nx := 47) (i := 19) G (by decide) rfl dX5_lawFact_45 rfl ?_)
          refine b_callV5 (nx := 50) (zs := [v0, 19]) (as := [(3, 19)]) X hB (by decide) rfl hp_v0 SS_X5_is (am_ta (am_ts am_tn)) (Nat.le_of_ble_eq_true rfl) (Nat.le_of_ble_eq_true rfl) ml_RX5_55 iw_X5_is vw_X5_is cw_X5_is nw_RX5 pp_X5_is (Nat.le_of_ble_eq_true rfl) dX5_lawFact_47 rfl (NM_X5_is hp_v0 (⟨by decide, by decide⟩) h) (fun r_13 m_14 h h01_15 hB => ?_)
          refine z_if_eq (nx := 53) (tgt := 55) G dX5_lawFact_50 (by decide) rfl (fun c => ?_) (fun c => ?_)
          · have h := h.1 c
            refine z_aload_n (nx := 56) (a := 0) G rfl (Or.inl rfl) dX5_lawFact_55 rfl (z_ldcS (nx := 58) (i := 20) G (by decide) rfl dX5_lawFact_56 rfl ?_)
            refine b_callV5 (nx := 61) (zs := [v0, 20]) (as := [(3, 20)]) X hB (by decide) rfl hp_v0 SS_X5_is (am_ta (am_ts am_tn)) (Nat.le_of_ble_eq_true rfl) (Nat.le_of_ble_eq_true rfl) ml_RX5_55 iw_X5_is vw_X5_is cw_X5_is nw_RX5 pp_X5_is (Nat.le_of_ble_eq_true rfl) dX5_lawFact_58 rfl (NM_X5_is hp_v0 (⟨by decide, by decide⟩) h) (fun r_16 m_17 h h01_18 hB => ?_)
            refine z_if_eq (nx := 64) (tgt := 66) G dX5_lawFact_61 (by decide) rfl (fun c => ?_) (fun c => ?_)
            · have h := h.1 c
              refine z_aload_n (nx := 67) (a := 0) G rfl (Or.inl rfl) dX5_lawFact_66 rfl (z_ldcS (nx := 69) (i := 9) G (by decide) rfl dX5_lawFact_67 rfl ?_)
              refine b_callV5 (nx := 72) (zs := [v0, 9]) (as := [(3, 9)]) X hB (by decide) rfl hp_v0 SS_X5_is (am_ta (am_ts am_tn)) (Nat.le_of_ble_eq_true rfl) (Nat.le_of_ble_eq_true rfl) ml_RX5_55 iw_X5_is vw_X5_is cw_X5_is nw_RX5 pp_X5_is (Nat.le_of_ble_eq_true rfl) dX5_lawFact_69 rfl (NM_X5_is hp_v0 (⟨by decide, by decide⟩) h) (fun r_19 m_20 h h01_21 hB => ?_)
              refine z_if_eq (nx := 75) (tgt := 80) G dX5_lawFact_72 (by decide) rfl (fun c => ?_) (fun c => ?_)
              · have h := h.1 c
                refine z_aload_n (nx := 81) (a := 0) G rfl (Or.inl rfl) dX5_lawFact_80 rfl (z_ldcS (nx := 83) (i := 21) G (by decide) rfl dX5_lawFact_81 rfl ?_)
                refine b_callV5 (nx := 86) (zs := [v0, 21]) (as := [(3, 21)]) X hB (by decide) rfl hp_v0 SS_X5_is (am_ta (am_ts am_tn)) (Nat.le_of_ble_eq_true rfl) (Nat.le_of_ble_eq_true rfl) ml_RX5_55 iw_X5_is vw_X5_is cw_X5_is nw_RX5 pp_X5_is (Nat.le_of_ble_eq_true rfl) dX5_lawFact_83 rfl (NM_X5_is hp_v0 (⟨by decide, by decide⟩) h) (fun r_22 m_23 h h01_24 hB => ?_)
                refine z_if_eq (nx := 89) (tgt := 94) G dX5_lawFact_86 (by decide) rfl (fun c => ?_) (fun c => ?_)
                · have h := h.1 c
                  refine z_iconst (nx := 95) (z := (-1)) G (R32c rfl) dX5_lawFact_94 rfl ?_
                  exact b_ireturn X hB dX5_lawFact_95 h
                · have h := h.2 c
                  refine z_bipush (nx := 91) (z := 7) G (R32c rfl) rfl dX5_lawFact_89 rfl (z_goto (tgt := 95) G dX5_lawFact_91 (by decide) ?_)
                  exact b_ireturn X hB dX5_lawFact_95 h
              · have h := h.2 c
                refine z_bipush (nx := 77) (z := 6) G (R32c rfl) rfl dX5_lawFact_75 rfl (z_goto (tgt := 95) G dX5_lawFact_77 (by decide) ?_)
                exact b_ireturn X hB dX5_lawFact_95 h
            · have h := h.2 c
              refine z_iconst (nx := 65) (z := 5) G (R32c rfl) dX5_lawFact_64 rfl ?_
              exact b_ireturn X hB dX5_lawFact_65 h
          · have h := h.2 c
            refine z_iconst (nx := 54) (z := 4) G (R32c rfl) dX5_lawFact_53 rfl ?_
            exact b_ireturn X hB dX5_lawFact_54 h
        · have h := h.2 c
          refine z_iconst (nx := 43) (z := 3) G (R32c rfl) dX5_lawFact_42 rfl ?_
          exact b_ireturn X hB dX5_lawFact_43 h
      · have h := h.2 c
        refine z_iconst (nx := 32) (z := 2) G (R32c rfl) dX5_lawFact_31 rfl ?_
        exact b_ireturn X hB dX5_lawFact_32 h
    · have h := h.2 c
      refine z_iconst (nx := 21) (z := 1) G (R32c rfl) dX5_lawFact_20 rfl ?_
      exact b_ireturn X hB dX5_lawFact_21 h
  · have h := h.2 c
    refine z_iconst (nx := 10) (z := 0) G (R32c rfl) dX5_lawFact_9 rfl ?_
    exact b_ireturn X hB dX5_lawFact_10 h
theorem NM_X5_lawFact {v0 : Int} {K : am_KK} {m : am_M} (hp_v0 : am_ob v0 5) (h : M_X5_lawFact v0 K m) : N_X5_lawFact [v0] K m := ⟨hp_v0, h⟩
theorem SS_X5_lawFact : am_Snd yX5_lawFact cX5_lawFact 1 (some .int) 0 6 (am_L [2] 0 N_X5_lawFact) := by
  refine am_SB (by decide +kernel) (Nat.le_of_ble_eq_true rfl) (fun F zs as K m X ht hB hM => ?_)
  obtain ⟨v0, zs, as, rfl, rfl, hz0, ht⟩ := am_inv ht
  obtain ⟨rfl, rfl⟩ := am_inv0 ht
  obtain ⟨hp_v0, hM⟩ := hM
  exact S_X5_lawFact X hp_v0 hB hM
def H_X5_sum (k : Nat) (R : Nat → am_PT) : Prop := am_Snd yX5_sum cX5_sum 4 (some .boolean) 0 (6 + k) (am_L [2, 0] 5 (R 0)) ∧ am_Snd yX5_term cX5_term 4 (some .boolean) 0 (6 + k) (am_L [2, 0] 5 (R 1)) ∧ am_Snd yX5_part cX5_part 5 (some .boolean) 0 (6 + k) (am_L [2, 0] 5 (R 2))
set_option maxRecDepth 20000 in
set_option maxHeartbeats 4000000 in
theorem S_X5_sum_J2 {F : am_F} {K : am_KK} {k : Nat} {R : Nat → am_PT} {v0 : Int} {v1 : Int} {v2 : Int} {s0 : Int} {C12 : Int → am_M → Prop} {m : am_M} (X : am_Cx F cX5_sum RX5 (some .boolean) (6 + (k + 1)) 5 K) (HR : H_X5_sum k R) (hp_v0 : am_ob v0 5) (hC12 : ∀ w2 m, C12 w2 m → am_Bt m → am_Z F 12 [] [(2, v0), (0, v1), (0, w2), (9, 0)] m 200) (hB : am_Bt m) (h : M_X5_sum_J2 R v0 v1 v2 s0 C12 K m) : am_Z F 53 [(0, s0)] [(2, v0), (0, v1), (0, v2), (9, 0)] m 200 := by
  have G := X.G
  obtain ⟨HR_X5_sum, HR_X5_term, HR_X5_part⟩ := id HR
  unfold M_X5_sum_J2 at h
  refine b_storeE_n (nx := 54) (a := 3) (loc2 := [(2, v0), (0, v1), (0, v2), (0, s0)]) G rfl (Nat.le_of_ble_eq_true rfl) (am_pl1 rfl (fun h => nomatch h)) dX5_sum_53 rfl (z_aload_n (nx := 55) (a := 0) G rfl (Or.inl rfl) dX5_sum_54 rfl ?_)
  refine b_callV9 (nx := 58) (zs := [v0]) (as := []) X hB (by decide) rfl hp_v0 SS_X5_advance (am_ta am_tn) (by omega) (Nat.le_of_ble_eq_true rfl) ml_RX5_38 iw_X5_advance vw_X5_advance cw_X5_advance nw_RX5 pp_X5_advance (Nat.le_of_ble_eq_true rfl) dX5_sum_55 rfl (NM_X5_advance hp_v0 h) (fun r_1 m_2 h hB => ?_)
  refine z_aload_n (nx := 59) (a := 0) G rfl (Or.inl rfl) dX5_sum_58 rfl (z_iload_n (nx := 60) (a := 1) G rfl dX5_sum_59 rfl ?_)
  refine b_callV5 (nx := 63) (zs := [v0, v1]) (as := [(0, v1)]) X hB (by decide) rfl hp_v0 (HR_X5_term) (am_ta (am_ti am_tn)) (Nat.le_refl _) (Nat.le_of_ble_eq_true rfl) ml_RX5_172 iw_X5_term vw_X5_term cw_X5_term nw_RX5 pp_X5_term (Nat.le_of_ble_eq_true rfl) dX5_sum_60 rfl h (fun r_3 m_4 h h01_5 hB => ?_)
  refine z_if_ne (nx := 66) (tgt := 68) G dX5_sum_63 (by decide) rfl (fun c => ?_) (fun c => ?_)
  · have h := h.1 c
    refine z_aload_n (nx := 69) (a := 0) G rfl (Or.inl rfl) dX5_sum_68 rfl (b_getA (nx := 72) (k0 := 1) G hB fl_RX5_19 (Nat.le_of_ble_eq_true rfl) (Nat.le_of_ble_eq_true rfl) rfl hp_v0 dX5_sum_69 rfl (z_iload_n (nx := 73) (a := 3) G rfl dX5_sum_72 rfl (z_sipush (nx := 76) (z := 2048) G (R32c rfl) rfl dX5_sum_73 rfl (z_imul (nx := 77) G dX5_sum_76 rfl ?_))))
    refine b_callV9 (nx := 80) (zs := [am_rfv v0 1, w32 (s0 * 2048)]) (as := [(0, w32 (s0 * 2048))]) X hB (by decide) rfl (sh_5_1 _ hp_v0) SS_X4_add (am_ta (am_ti am_tn)) (by omega) (Nat.le_of_ble_eq_true rfl) ml_RX5_146 iw_X4_add vw_X4_add cw_X4_add nw_RX4 pp_X4_add (Nat.le_of_ble_eq_true rfl) dX5_sum_77 rfl (NM_X4_add (sh_5_1 _ hp_v0) h) (fun r_6 m_7 h hB => ?_)
    refine b_iinc (nx := 83) (a := 2) (loc2 := fun v2_8 => [(2, v0), (0, v1), (0, v2_8), (0, s0)]) G (fun _ => rfl) rfl (am_pl1 rfl (fun h => nomatch h)) dX5_sum_80 rfl (fun v2_8 e_v2_8 => ?_)
    have h := h v2_8 e_v2_8
    refine z_goto (tgt := 12) G dX5_sum_83 (by decide) ?_
    exact b_fewer (loc2 := [(2, v0), (0, v1), (0, v2_8), (9, 0)]) (am_lk (am_lk (am_lk (am_lf am_ln)))) (hC12 _ _ h hB)
  · have h := h.2 c
    refine z_iconst (nx := 67) (z := 0) G (R32c rfl) dX5_sum_66 rfl ?_
    exact b_zreturn X hB (Or.inl rfl) dX5_sum_67 h
set_option maxRecDepth 20000 in
set_option maxHeartbeats 4000000 in
theorem S_X5_sum_J1 {F : am_F} {K : am_KK} {k : Nat} {R : Nat → am_PT} {v0 : Int} {v1 : Int} {v2 : Int} {C12 : Int → am_M → Prop} {m : am_M} (X : am_Cx F cX5_sum RX5 (some .boolean) (6 + (k + 1)) 5 K) (HR : H_X5_sum k R) (hp_v0 : am_ob v0 5) (hC12 : ∀ w2 m, C12 w2 m → am_Bt m → am_Z F 12 [] [(2, v0), (0, v1), (0, w2), (9, 0)] m 200) (hB : am_Bt m) (h : M_X5_sum_J1 R v0 v1 v2 C12 K m) : am_Z F 37 [] [(2, v0), (0, v1), (0, v2), (9, 0)] m 200 := by
  have G := X.G
  obtain ⟨HR_X5_sum, HR_X5_term, HR_X5_part⟩ := id HR
  unfold M_X5_sum_J1 at h
  refine z_aload_n (nx := 38) (a := 0) G rfl (Or.inl rfl) dX5_sum_37 rfl (z_ldcS (nx := 40) (i := 25) G (by decide) rfl dX5_sum_38 rfl ?_)
  refine b_callV5 (nx := 43) (zs := [v0, 25]) (as := [(3, 25)]) X hB (by decide) rfl hp_v0 SS_X5_is (am_ta (am_ts am_tn)) (by omega) (Nat.le_of_ble_eq_true rfl) ml_RX5_55 iw_X5_is vw_X5_is cw_X5_is nw_RX5 pp_X5_is (Nat.le_of_ble_eq_true rfl) dX5_sum_40 rfl (NM_X5_is hp_v0 (⟨by decide, by decide⟩) h) (fun r_9 m_10 h h01_11 hB => ?_)
  refine z_if_eq (nx := 46) (tgt := 51) G dX5_sum_43 (by decide) rfl (fun c => ?_) (fun c => ?_)
  · have h := h.1 c
    refine z_bipush (nx := 53) (z := 9) G (R32c rfl) rfl dX5_sum_51 rfl ?_
    exact b_fewer (loc2 := [(2, v0), (0, v1), (0, v2), (9, 0)]) (am_lk (am_lk (am_lk (am_lk am_ln)))) (S_X5_sum_J2 X HR hp_v0 hC12 hB h)
  · have h := h.2 c
    refine z_bipush (nx := 48) (z := 8) G (R32c rfl) rfl dX5_sum_46 rfl (z_goto (tgt := 53) G dX5_sum_48 (by decide) ?_)
    exact b_fewer (loc2 := [(2, v0), (0, v1), (0, v2), (9, 0)]) (am_lk (am_lk (am_lk (am_lk am_ln)))) (S_X5_sum_J2 X HR hp_v0 hC12 hB h)
set_option maxRecDepth 20000 in
set_option maxHeartbeats 4000000 in
theorem S_X5_sum_L1B {F : am_F} {K : am_KK} {k : Nat} {R : Nat → am_PT} {v0 : Int} {v1 : Int} {v2 : Int} {C12 : Int → am_M → Prop} {m : am_M} (X : am_Cx F cX5_sum RX5 (some .boolean) (6 + (k + 1)) 5 K) (HR : H_X5_sum k R) (hp_v0 : am_ob v0 5) (hC12 : ∀ w2 m, C12 w2 m → am_Bt m → am_Z F 12 [] [(2, v0), (0, v1), (0, w2), (9, 0)] m 200) (hB : am_Bt m) (h : M_X5_sum_L1B R v0 v1 v2 C12 K m) : am_Z F 12 [] [(2, v0), (0, v1), (0, v2), (9, 0)] m 200 := by
  have G := X.G
  obtain ⟨HR_X5_sum, HR_X5_term, HR_X5_part⟩ := id HR
  unfold M_X5_sum_L1B at h
  refine z_iload_n (nx := 13) (a := 2) G rfl dX5_sum_12 rfl (z_sipush (nx := 16) (z := 400) G (R32c rfl) rfl dX5_sum_13 rfl ?_)
  refine z_icmp_ge (nx := 19) (tgt := 86) G dX5_sum_16 (by decide) rfl (fun c => ?_) (fun c => ?_)
  · have h := h.1 c
    refine z_iconst (nx := 87) (z := 1) G (R32c rfl) dX5_sum_86 rfl ?_
    exact b_zreturn X hB (Or.inr rfl) dX5_sum_87 h
  · have h := h.2 c
    refine z_aload_n (nx := 20) (a := 0) G rfl (Or.inl rfl) dX5_sum_19 rfl (z_ldcS (nx := 22) (i := 25) G (by decide) rfl dX5_sum_20 rfl ?_)
    refine b_callV5 (nx := 25) (zs := [v0, 25]) (as := [(3, 25)]) X hB (by decide) rfl hp_v0 SS_X5_is (am_ta (am_ts am_tn)) (by omega) (Nat.le_of_ble_eq_true rfl) ml_RX5_55 iw_X5_is vw_X5_is cw_X5_is nw_RX5 pp_X5_is (Nat.le_of_ble_eq_true rfl) dX5_sum_22 rfl (NM_X5_is hp_v0 (⟨by decide, by decide⟩) h) (fun r_12 m_13 h h01_14 hB => ?_)
    refine z_if_ne (nx := 28) (tgt := 37) G dX5_sum_25 (by decide) rfl (fun c => ?_) (fun c => ?_)
    · have h := h.1 c
      exact b_fewer (loc2 := [(2, v0), (0, v1), (0, v2), (9, 0)]) (am_lk (am_lk (am_lk (am_lk am_ln)))) (S_X5_sum_J1 X HR hp_v0 hC12 hB h)
    · have h := h.2 c
      refine z_aload_n (nx := 29) (a := 0) G rfl (Or.inl rfl) dX5_sum_28 rfl (z_ldcS (nx := 31) (i := 26) G (by decide) rfl dX5_sum_29 rfl ?_)
      refine b_callV5 (nx := 34) (zs := [v0, 26]) (as := [(3, 26)]) X hB (by decide) rfl hp_v0 SS_X5_is (am_ta (am_ts am_tn)) (by omega) (Nat.le_of_ble_eq_true rfl) ml_RX5_55 iw_X5_is vw_X5_is cw_X5_is nw_RX5 pp_X5_is (Nat.le_of_ble_eq_true rfl) dX5_sum_31 rfl (NM_X5_is hp_v0 (⟨by decide, by decide⟩) h) (fun r_15 m_16 h h01_17 hB => ?_)
      refine z_if_eq (nx := 37) (tgt := 86) G dX5_sum_34 (by decide) rfl (fun c => ?_) (fun c => ?_)
      · have h := h.1 c
        refine z_iconst (nx := 87) (z := 1) G (R32c rfl) dX5_sum_86 rfl ?_
        exact b_zreturn X hB (Or.inr rfl) dX5_sum_87 h
      · have h := h.2 c
        exact b_fewer (loc2 := [(2, v0), (0, v1), (0, v2), (9, 0)]) (am_lk (am_lk (am_lk (am_lk am_ln)))) (S_X5_sum_J1 X HR hp_v0 hC12 hB h)
theorem S_X5_sum_L1 {F : am_F} {K : am_KK} {k : Nat} {R : Nat → am_PT} {v0 : Int} {v1 : Int} {v2 : Int} {m : am_M} (X : am_Cx F cX5_sum RX5 (some .boolean) (6 + (k + 1)) 5 K) (HR : H_X5_sum k R) (hp_v0 : am_ob v0 5) (hB : am_Bt m) (h : M_X5_sum_L1 R v0 v1 v2 K m) : am_Z F 12 [] [(2, v0), (0, v1), (0, v2), (9, 0)] m 200 := by
  obtain ⟨I, ⟨j, hj⟩, hI⟩ := h
  have key : ∀ j v2 m, I j v2 m → am_Bt m → am_Z F 12 [] [(2, v0), (0, v1), (0, v2), (9, 0)] m 200 := by
    intro j
    induction j using Nat.strongRecOn with
    | ind j ih =>
      intro v2 m hj hB
      exact S_X5_sum_L1B X HR hp_v0 (fun v2' m' hc hB' => by
        obtain ⟨j', g1, g2⟩ := hc
        exact ih j' g1 v2' m' g2 hB') hB (hI j v2 m hj)
  exact key j _ _ hj hB
set_option maxRecDepth 20000 in
set_option maxHeartbeats 4000000 in
theorem S_X5_sum {F : am_F} {K : am_KK} {k : Nat} {R : Nat → am_PT} {v0 : Int} {v1 : Int} {m : am_M} (X : am_Cx F cX5_sum RX5 (some .boolean) (6 + (k + 1)) 5 K) (HR : H_X5_sum k R) (hp_v0 : am_ob v0 5) (hB : am_Bt m) (h : M_X5_sum R v0 v1 K m) : am_Z F 0 [] [(2, v0), (0, v1), (9, 0), (9, 0)] m 200 := by
  have G := X.G
  obtain ⟨HR_X5_sum, HR_X5_term, HR_X5_part⟩ := id HR
  unfold M_X5_sum at h
  refine z_aload_n (nx := 1) (a := 0) G rfl (Or.inl rfl) dX5_sum_0 rfl (z_iload_n (nx := 2) (a := 1) G rfl dX5_sum_1 rfl ?_)
  refine b_callV5 (nx := 5) (zs := [v0, v1]) (as := [(0, v1)]) X hB (by decide) rfl hp_v0 (HR_X5_term) (am_ta (am_ti am_tn)) (Nat.le_refl _) (Nat.le_of_ble_eq_true rfl) ml_RX5_172 iw_X5_term vw_X5_term cw_X5_term nw_RX5 pp_X5_term (Nat.le_of_ble_eq_true rfl) dX5_sum_2 rfl h (fun r_18 m_19 h h01_20 hB => ?_)
  refine z_if_ne (nx := 8) (tgt := 10) G dX5_sum_5 (by decide) rfl (fun c => ?_) (fun c => ?_)
  · have h := h.1 c
    refine z_iconst (nx := 11) (z := 0) G (R32c rfl) dX5_sum_10 rfl (b_storeE_n (nx := 12) (a := 2) (loc2 := [(2, v0), (0, v1), (0, 0), (9, 0)]) G rfl (Nat.le_of_ble_eq_true rfl) (am_pl1 rfl (fun h => nomatch h)) dX5_sum_11 rfl ?_)
    exact b_fewer (loc2 := [(2, v0), (0, v1), (0, 0), (9, 0)]) (am_lk (am_lk (am_lk (am_lk am_ln)))) (S_X5_sum_L1 X HR hp_v0 hB h)
  · have h := h.2 c
    refine z_iconst (nx := 9) (z := 0) G (R32c rfl) dX5_sum_8 rfl ?_
    exact b_zreturn X hB (Or.inl rfl) dX5_sum_9 h
theorem SR_X5_sum {k : Nat} {R : Nat → am_PT} (HR : H_X5_sum k R) : am_Snd yX5_sum cX5_sum 4 (some .boolean) 0 (6 + (k + 1)) (am_L [2, 0] 5 (N_X5_sum R)) := by
  refine am_SB (by decide +kernel) (Nat.le_of_ble_eq_true rfl) (fun F zs as K m X ht hB hM => ?_)
  obtain ⟨v0, zs, as, rfl, rfl, hz0, ht⟩ := am_inv ht
  obtain ⟨v1, zs, as, rfl, rfl, hz1, ht⟩ := am_inv ht
  obtain ⟨rfl, rfl⟩ := am_inv0 ht
  obtain ⟨hp_v0, hM⟩ := hM
  exact S_X5_sum X HR hp_v0 hB hM
set_option maxRecDepth 20000 in
set_option maxHeartbeats 4000000 in
theorem S_X5_term_J2 {F : am_F} {K : am_KK} {k : Nat} {R : Nat → am_PT} {v0 : Int} {v1 : Int} {v2 : Int} {s0 : Int} {C12 : Int → am_M → Prop} {m : am_M} (X : am_Cx F cX5_term RX5 (some .boolean) (6 + (k + 1)) 5 K) (HR : H_X5_sum k R) (hp_v0 : am_ob v0 5) (hC12 : ∀ w2 m, C12 w2 m → am_Bt m → am_Z F 12 [] [(2, v0), (0, v1), (0, w2), (9, 0)] m 200) (hB : am_Bt m) (h : M_X5_term_J2 R v0 v1 v2 s0 C12 K m) : am_Z F 76 [(0, s0)] [(2, v0), (0, v1), (0, v2), (9, 0)] m 200 := by
  have G := X.G
  obtain ⟨HR_X5_sum, HR_X5_term, HR_X5_part⟩ := id HR
  unfold M_X5_term_J2 at h
  refine b_storeE_n (nx := 77) (a := 3) (loc2 := [(2, v0), (0, v1), (0, v2), (0, s0)]) G rfl (Nat.le_of_ble_eq_true rfl) (am_pl1 rfl (fun h => nomatch h)) dX5_term_76 rfl (z_aload_n (nx := 78) (a := 0) G rfl (Or.inl rfl) dX5_term_77 rfl ?_)
  refine b_callV9 (nx := 81) (zs := [v0]) (as := []) X hB (by decide) rfl hp_v0 SS_X5_advance (am_ta am_tn) (by omega) (Nat.le_of_ble_eq_true rfl) ml_RX5_38 iw_X5_advance vw_X5_advance cw_X5_advance nw_RX5 pp_X5_advance (Nat.le_of_ble_eq_true rfl) dX5_term_78 rfl (NM_X5_advance hp_v0 h) (fun r_1 m_2 h hB => ?_)
  refine z_aload_n (nx := 82) (a := 0) G rfl (Or.inl rfl) dX5_term_81 rfl (z_iload_n (nx := 83) (a := 1) G rfl dX5_term_82 rfl ?_)
  refine b_callV5 (nx := 86) (zs := [v0, v1]) (as := [(0, v1)]) X hB (by decide) rfl hp_v0 (HR_X5_part) (am_ta (am_ti am_tn)) (Nat.le_refl _) (Nat.le_of_ble_eq_true rfl) ml_RX5_179 iw_X5_part vw_X5_part cw_X5_part nw_RX5 pp_X5_part (Nat.le_of_ble_eq_true rfl) dX5_term_83 rfl h (fun r_3 m_4 h h01_5 hB => ?_)
  refine z_if_ne (nx := 89) (tgt := 91) G dX5_term_86 (by decide) rfl (fun c => ?_) (fun c => ?_)
  · have h := h.1 c
    refine z_aload_n (nx := 92) (a := 0) G rfl (Or.inl rfl) dX5_term_91 rfl (b_getA (nx := 95) (k0 := 1) G hB fl_RX5_19 (Nat.le_of_ble_eq_true rfl) (Nat.le_of_ble_eq_true rfl) rfl hp_v0 dX5_term_92 rfl (z_iload_n (nx := 96) (a := 3) G rfl dX5_term_95 rfl (z_sipush (nx := 99) (z := 2048) G (R32c rfl) rfl dX5_term_96 rfl (z_imul (nx := 100) G dX5_term_99 rfl ?_))))
    refine b_callV9 (nx := 103) (zs := [am_rfv v0 1, w32 (s0 * 2048)]) (as := [(0, w32 (s0 * 2048))]) X hB (by decide) rfl (sh_5_1 _ hp_v0) SS_X4_add (am_ta (am_ti am_tn)) (by omega) (Nat.le_of_ble_eq_true rfl) ml_RX5_146 iw_X4_add vw_X4_add cw_X4_add nw_RX4 pp_X4_add (Nat.le_of_ble_eq_true rfl) dX5_term_100 rfl (NM_X4_add (sh_5_1 _ hp_v0) h) (fun r_6 m_7 h hB => ?_)
    refine b_iinc (nx := 106) (a := 2) (loc2 := fun v2_8 => [(2, v0), (0, v1), (0, v2_8), (0, s0)]) G (fun _ => rfl) rfl (am_pl1 rfl (fun h => nomatch h)) dX5_term_103 rfl (fun v2_8 e_v2_8 => ?_)
    have h := h v2_8 e_v2_8
    refine z_goto (tgt := 12) G dX5_term_106 (by decide) ?_
    exact b_fewer (loc2 := [(2, v0), (0, v1), (0, v2_8), (9, 0)]) (am_lk (am_lk (am_lk (am_lf am_ln)))) (hC12 _ _ h hB)
  · have h := h.2 c
    refine z_iconst (nx := 90) (z := 0) G (R32c rfl) dX5_term_89 rfl ?_
    exact b_zreturn X hB (Or.inl rfl) dX5_term_90 h
set_option maxRecDepth 20000 in
set_option maxHeartbeats 4000000 in
theorem S_X5_term_J1 {F : am_F} {K : am_KK} {k : Nat} {R : Nat → am_PT} {v0 : Int} {v1 : Int} {v2 : Int} {C12 : Int → am_M → Prop} {m : am_M} (X : am_Cx F cX5_term RX5 (some .boolean) (6 + (k + 1)) 5 K) (HR : H_X5_sum k R) (hp_v0 : am_ob v0 5) (hC12 : ∀ w2 m, C12 w2 m → am_Bt m → am_Z F 12 [] [(2, v0), (0, v1), (0, w2), (9, 0)] m 200) (hB : am_Bt m) (h : M_X5_term_J1 R v0 v1 v2 C12 K m) : am_Z F 46 [] [(2, v0), (0, v1), (0, v2), (9, 0)] m 200 := by
  have G := X.G
  obtain ⟨HR_X5_sum, HR_X5_term, HR_X5_part⟩ := id HR
  unfold M_X5_term_J1 at h
  refine z_aload_n (nx := 47) (a := 0) G rfl (Or.inl rfl) dX5_term_46 rfl (z_ldcS (nx := 49) (i := 22) G (by decide) rfl dX5_term_47 rfl ?_)
  refine b_callV5 (nx := 52) (zs := [v0, 22]) (as := [(3, 22)]) X hB (by decide) rfl hp_v0 SS_X5_is (am_ta (am_ts am_tn)) (by omega) (Nat.le_of_ble_eq_true rfl) ml_RX5_55 iw_X5_is vw_X5_is cw_X5_is nw_RX5 pp_X5_is (Nat.le_of_ble_eq_true rfl) dX5_term_49 rfl (NM_X5_is hp_v0 (⟨by decide, by decide⟩) h) (fun r_9 m_10 h h01_11 hB => ?_)
  refine z_if_eq (nx := 55) (tgt := 60) G dX5_term_52 (by decide) rfl (fun c => ?_) (fun c => ?_)
  · have h := h.1 c
    refine z_aload_n (nx := 61) (a := 0) G rfl (Or.inl rfl) dX5_term_60 rfl (z_ldcS (nx := 63) (i := 23) G (by decide) rfl dX5_term_61 rfl ?_)
    refine b_callV5 (nx := 66) (zs := [v0, 23]) (as := [(3, 23)]) X hB (by decide) rfl hp_v0 SS_X5_is (am_ta (am_ts am_tn)) (by omega) (Nat.le_of_ble_eq_true rfl) ml_RX5_55 iw_X5_is vw_X5_is cw_X5_is nw_RX5 pp_X5_is (Nat.le_of_ble_eq_true rfl) dX5_term_63 rfl (NM_X5_is hp_v0 (⟨by decide, by decide⟩) h) (fun r_12 m_13 h h01_14 hB => ?_)
    refine z_if_eq (nx := 69) (tgt := 74) G dX5_term_66 (by decide) rfl (fun c => ?_) (fun c => ?_)
    · have h := h.1 c
      refine z_bipush (nx := 76) (z := 12) G (R32c rfl) rfl dX5_term_74 rfl ?_
      exact b_fewer (loc2 := [(2, v0), (0, v1), (0, v2), (9, 0)]) (am_lk (am_lk (am_lk (am_lk am_ln)))) (S_X5_term_J2 X HR hp_v0 hC12 hB h)
    · have h := h.2 c
      refine z_bipush (nx := 71) (z := 11) G (R32c rfl) rfl dX5_term_69 rfl (z_goto (tgt := 76) G dX5_term_71 (by decide) ?_)
      exact b_fewer (loc2 := [(2, v0), (0, v1), (0, v2), (9, 0)]) (am_lk (am_lk (am_lk (am_lk am_ln)))) (S_X5_term_J2 X HR hp_v0 hC12 hB h)
  · have h := h.2 c
    refine z_bipush (nx := 57) (z := 10) G (R32c rfl) rfl dX5_term_55 rfl (z_goto (tgt := 76) G dX5_term_57 (by decide) ?_)
    exact b_fewer (loc2 := [(2, v0), (0, v1), (0, v2), (9, 0)]) (am_lk (am_lk (am_lk (am_lk am_ln)))) (S_X5_term_J2 X HR hp_v0 hC12 hB h)
set_option maxRecDepth 20000 in
set_option maxHeartbeats 4000000 in
theorem S_X5_term_L1B {F : am_F} {K : am_KK} {k : Nat} {R : Nat → am_PT} {v0 : Int} {v1 : Int} {v2 : Int} {C12 : Int → am_M → Prop} {m : am_M} (X : am_Cx F cX5_term RX5 (some .boolean) (6 + (k + 1)) 5 K) (HR : H_X5_sum k R) (hp_v0 : am_ob v0 5) (hC12 : ∀ w2 m, C12 w2 m → am_Bt m → am_Z F 12 [] [(2, v0), (0, v1), (0, w2), (9, 0)] m 200) (hB : am_Bt m) (h : M_X5_term_L1B R v0 v1 v2 C12 K m) : am_Z F 12 [] [(2, v0), (0, v1), (0, v2), (9, 0)] m 200 := by
  have G := X.G
  obtain ⟨HR_X5_sum, HR_X5_term, HR_X5_part⟩ := id HR
  unfold M_X5_term_L1B at h
  refine z_iload_n (nx := 13) (a := 2) G rfl dX5_term_12 rfl (z_sipush (nx := 16) (z := 400) G (R32c rfl) rfl dX5_term_13 rfl ?_)
  refine z_icmp_ge (nx := 19) (tgt := 109) G dX5_term_16 (by decide) rfl (fun c => ?_) (fun c => ?_)
  · have h := h.1 c
    refine z_iconst (nx := 110) (z := 1) G (R32c rfl) dX5_term_109 rfl ?_
    exact b_zreturn X hB (Or.inr rfl) dX5_term_110 h
  · have h := h.2 c
    refine z_aload_n (nx := 20) (a := 0) G rfl (Or.inl rfl) dX5_term_19 rfl (z_ldcS (nx := 22) (i := 22) G (by decide) rfl dX5_term_20 rfl ?_)
    refine b_callV5 (nx := 25) (zs := [v0, 22]) (as := [(3, 22)]) X hB (by decide) rfl hp_v0 SS_X5_is (am_ta (am_ts am_tn)) (by omega) (Nat.le_of_ble_eq_true rfl) ml_RX5_55 iw_X5_is vw_X5_is cw_X5_is nw_RX5 pp_X5_is (Nat.le_of_ble_eq_true rfl) dX5_term_22 rfl (NM_X5_is hp_v0 (⟨by decide, by decide⟩) h) (fun r_15 m_16 h h01_17 hB => ?_)
    refine z_if_ne (nx := 28) (tgt := 46) G dX5_term_25 (by decide) rfl (fun c => ?_) (fun c => ?_)
    · have h := h.1 c
      exact b_fewer (loc2 := [(2, v0), (0, v1), (0, v2), (9, 0)]) (am_lk (am_lk (am_lk (am_lk am_ln)))) (S_X5_term_J1 X HR hp_v0 hC12 hB h)
    · have h := h.2 c
      refine z_aload_n (nx := 29) (a := 0) G rfl (Or.inl rfl) dX5_term_28 rfl (z_ldcS (nx := 31) (i := 23) G (by decide) rfl dX5_term_29 rfl ?_)
      refine b_callV5 (nx := 34) (zs := [v0, 23]) (as := [(3, 23)]) X hB (by decide) rfl hp_v0 SS_X5_is (am_ta (am_ts am_tn)) (by omega) (Nat.le_of_ble_eq_true rfl) ml_RX5_55 iw_X5_is vw_X5_is cw_X5_is nw_RX5 pp_X5_is (Nat.le_of_ble_eq_true rfl) dX5_term_31 rfl (NM_X5_is hp_v0 (⟨by decide, by decide⟩) h) (fun r_18 m_19 h h01_20 hB => ?_)
      refine z_if_ne (nx := 37) (tgt := 46) G dX5_term_34 (by decide) rfl (fun c => ?_) (fun c => ?_)
      · have h := h.1 c
        exact b_fewer (loc2 := [(2, v0), (0, v1), (0, v2), (9, 0)]) (am_lk (am_lk (am_lk (am_lk am_ln)))) (S_X5_term_J1 X HR hp_v0 hC12 hB h)
      · have h := h.2 c
        refine z_aload_n (nx := 38) (a := 0) G rfl (Or.inl rfl) dX5_term_37 rfl (z_ldcS (nx := 40) (i := 24) G (by decide) rfl dX5_term_38 rfl ?_)
        refine b_callV5 (nx := 43) (zs := [v0, 24]) (as := [(3, 24)]) X hB (by decide) rfl hp_v0 SS_X5_is (am_ta (am_ts am_tn)) (by omega) (Nat.le_of_ble_eq_true rfl) ml_RX5_55 iw_X5_is vw_X5_is cw_X5_is nw_RX5 pp_X5_is (Nat.le_of_ble_eq_true rfl) dX5_term_40 rfl (NM_X5_is hp_v0 (⟨by decide, by decide⟩) h) (fun r_21 m_22 h h01_23 hB => ?_)
        refine z_if_eq (nx := 46) (tgt := 109) G dX5_term_43 (by decide) rfl (fun c => ?_) (fun c => ?_)
        · have h := h.1 c
          refine z_iconst (nx := 110) (z := 1) G (R32c rfl) dX5_term_109 rfl ?_
          exact b_zreturn X hB (Or.inr rfl) dX5_term_110 h
        · have h := h.2 c
          exact b_fewer (loc2 := [(2, v0), (0, v1), (0, v2), (9, 0)]) (am_lk (am_lk (am_lk (am_lk am_ln)))) (S_X5_term_J1 X HR hp_v0 hC12 hB h)
theorem S_X5_term_L1 {F : am_F} {K : am_KK} {k : Nat} {R : Nat → am_PT} {v0 : Int} {v1 : Int} {v2 : Int} {m : am_M} (X : am_Cx F cX5_term RX5 (some .boolean) (6 + (k + 1)) 5 K) (HR : H_X5_sum k R) (hp_v0 : am_ob v0 5) (hB : am_Bt m) (h : M_X5_term_L1 R v0 v1 v2 K m) : am_Z F 12 [] [(2, v0), (0, v1), (0, v2), (9, 0)] m 200 := by
  obtain ⟨I, ⟨j, hj⟩, hI⟩ := h
  have key : ∀ j v2 m, I j v2 m → am_Bt m → am_Z F 12 [] [(2, v0), (0, v1), (0, v2), (9, 0)] m 200 := by
    intro j
    induction j using Nat.strongRecOn with
    | ind j ih =>
      intro v2 m hj hB
      exact S_X5_term_L1B X HR hp_v0 (fun v2' m' hc hB' => by
        obtain ⟨j', g1, g2⟩ := hc
        exact ih j' g1 v2' m' g2 hB') hB (hI j v2 m hj)
  exact key j _ _ hj hB
set_option maxRecDepth 20000 in
set_option maxHeartbeats 4000000 in
theorem S_X5_term {F : am_F} {K : am_KK} {k : Nat} {R : Nat → am_PT} {v0 : Int} {v1 : Int} {m : am_M} (X : am_Cx F cX5_term RX5 (some .boolean) (6 + (k + 1)) 5 K) (HR : H_X5_sum k R) (hp_v0 : am_ob v0 5) (hB : am_Bt m) (h : M_X5_term R v0 v1 K m) : am_Z F 0 [] [(2, v0), (0, v1), (9, 0), (9, 0)] m 200 := by
  have G := X.G
  obtain ⟨HR_X5_sum, HR_X5_term, HR_X5_part⟩ := id HR
  unfold M_X5_term at h
  refine z_aload_n (nx := 1) (a := 0) G rfl (Or.inl rfl) dX5_term_0 rfl (z_iload_n (nx := 2) (a := 1) G rfl dX5_term_1 rfl ?_)
  refine b_callV5 (nx := 5) (zs := [v0, v1]) (as := [(0, v1)]) X hB (by decide) rfl hp_v0 (HR_X5_part) (am_ta (am_ti am_tn)) (Nat.le_refl _) (Nat.le_of_ble_eq_true rfl) ml_RX5_179 iw_X5_part vw_X5_part cw_X5_part nw_RX5 pp_X5_part (Nat.le_of_ble_eq_true rfl) dX5_term_2 rfl h (fun r_24 m_25 h h01_26 hB => ?_)
  refine z_if_ne (nx := 8) (tgt := 10) G dX5_term_5 (by decide) rfl (fun c => ?_) (fun c => ?_)
  · have h := h.1 c
    refine z_iconst (nx := 11) (z := 0) G (R32c rfl) dX5_term_10 rfl (b_storeE_n (nx := 12) (a := 2) (loc2 := [(2, v0), (0, v1), (0, 0), (9, 0)]) G rfl (Nat.le_of_ble_eq_true rfl) (am_pl1 rfl (fun h => nomatch h)) dX5_term_11 rfl ?_)
    exact b_fewer (loc2 := [(2, v0), (0, v1), (0, 0), (9, 0)]) (am_lk (am_lk (am_lk (am_lk am_ln)))) (S_X5_term_L1 X HR hp_v0 hB h)
  · have h := h.2 c
    refine z_iconst (nx := 9) (z := 0) G (R32c rfl) dX5_term_8 rfl ?_
    exact b_zreturn X hB (Or.inl rfl) dX5_term_9 h
theorem SR_X5_term {k : Nat} {R : Nat → am_PT} (HR : H_X5_sum k R) : am_Snd yX5_term cX5_term 4 (some .boolean) 0 (6 + (k + 1)) (am_L [2, 0] 5 (N_X5_term R)) := by
  refine am_SB (by decide +kernel) (Nat.le_of_ble_eq_true rfl) (fun F zs as K m X ht hB hM => ?_)
  obtain ⟨v0, zs, as, rfl, rfl, hz0, ht⟩ := am_inv ht
  obtain ⟨v1, zs, as, rfl, rfl, hz1, ht⟩ := am_inv ht
  obtain ⟨rfl, rfl⟩ := am_inv0 ht
  obtain ⟨hp_v0, hM⟩ := hM
  exact S_X5_term X HR hp_v0 hB hM
set_option maxRecDepth 20000 in
set_option maxHeartbeats 4000000 in
theorem S_X5_part_J5 {F : am_F} {K : am_KK} {k : Nat} {R : Nat → am_PT} {s0 : Int} {s1 : Int} {m : am_M} (X : am_Cx F cX5_part RX5 (some .boolean) (6 + (k + 1)) 5 K) (HR : H_X5_sum k R) (hp_s0 : am_ob s0 4) (hB : am_Bt m) (h : M_X5_part_J5 R s0 s1 K m) : am_Z F 172 [(0, s1), (2, s0)] [(9, 0), (9, 0), (9, 0), (9, 0), (9, 0)] m 200 := by
  have G := X.G
  obtain ⟨HR_X5_sum, HR_X5_term, HR_X5_part⟩ := id HR
  unfold M_X5_part_J5 at h
  refine b_callV9 (nx := 175) (zs := [s0, s1]) (as := [(0, s1)]) X hB (by decide) rfl hp_s0 SS_X4_add (am_ta (am_ti am_tn)) (by omega) (Nat.le_of_ble_eq_true rfl) ml_RX5_146 iw_X4_add vw_X4_add cw_X4_add nw_RX4 pp_X4_add (Nat.le_of_ble_eq_true rfl) dX5_part_172 rfl (NM_X4_add hp_s0 h) (fun r_1 m_2 h hB => ?_)
  refine z_iconst (nx := 176) (z := 1) G (R32c rfl) dX5_part_175 rfl ?_
  exact b_zreturn X hB (Or.inr rfl) dX5_part_176 h
set_option maxRecDepth 20000 in
set_option maxHeartbeats 4000000 in
theorem S_X5_part_J4 {F : am_F} {K : am_KK} {k : Nat} {R : Nat → am_PT} {v0 : Int} {v2 : Int} {v3 : Int} {m : am_M} (X : am_Cx F cX5_part RX5 (some .boolean) (6 + (k + 1)) 5 K) (HR : H_X5_sum k R) (hp_v0 : am_ob v0 5) (hB : am_Bt m) (h : M_X5_part_J4 R v0 v2 v3 K m) : am_Z F 152 [] [(2, v0), (9, 0), (0, v2), (0, v3), (9, 0)] m 200 := by
  have G := X.G
  obtain ⟨HR_X5_sum, HR_X5_term, HR_X5_part⟩ := id HR
  unfold M_X5_part_J4 at h
  refine z_aload_n (nx := 153) (a := 0) G rfl (Or.inl rfl) dX5_part_152 rfl (b_getA (nx := 156) (k0 := 1) G hB fl_RX5_19 (Nat.le_of_ble_eq_true rfl) (Nat.le_of_ble_eq_true rfl) rfl hp_v0 dX5_part_153 rfl (z_iload_n (nx := 157) (a := 3) G rfl dX5_part_156 rfl (z_iconst (nx := 158) (z := (-1)) G (R32c rfl) dX5_part_157 rfl ?_)))
  refine z_icmp_ne (nx := 161) (tgt := 167) G dX5_part_158 (by decide) rfl (fun c => ?_) (fun c => ?_)
  · have h := h.1 c
    refine z_sipush (nx := 170) (z := 2048) G (R32c rfl) rfl dX5_part_167 rfl (z_iload_n (nx := 171) (a := 3) G rfl dX5_part_170 rfl (z_iadd (nx := 172) G dX5_part_171 rfl ?_))
    exact b_fewer (loc2 := [(9, 0), (9, 0), (9, 0), (9, 0), (9, 0)]) (am_lf (am_lk (am_lf (am_lf (am_lk am_ln))))) (S_X5_part_J5 X HR (sh_5_1 _ hp_v0) hB h)
  · have h := h.2 c
    refine z_iconst (nx := 162) (z := 0) G (R32c rfl) dX5_part_161 rfl (z_iload_n (nx := 163) (a := 2) G rfl dX5_part_162 rfl (z_iadd (nx := 164) G dX5_part_163 rfl (z_goto (tgt := 172) G dX5_part_164 (by decide) ?_)))
    exact b_fewer (loc2 := [(9, 0), (9, 0), (9, 0), (9, 0), (9, 0)]) (am_lf (am_lk (am_lf (am_lf (am_lk am_ln))))) (S_X5_part_J5 X HR (sh_5_1 _ hp_v0) hB h)
set_option maxRecDepth 20000 in
set_option maxHeartbeats 4000000 in
theorem S_X5_part_J3 {F : am_F} {K : am_KK} {k : Nat} {R : Nat → am_PT} {v0 : Int} {m : am_M} (X : am_Cx F cX5_part RX5 (some .boolean) (6 + (k + 1)) 5 K) (HR : H_X5_sum k R) (hp_v0 : am_ob v0 5) (hB : am_Bt m) (h : M_X5_part_J3 R v0 K m) : am_Z F 98 [] [(2, v0), (9, 0), (9, 0), (9, 0), (9, 0)] m 200 := by
  have G := X.G
  obtain ⟨HR_X5_sum, HR_X5_term, HR_X5_part⟩ := id HR
  unfold M_X5_part_J3 at h
  refine z_aload_n (nx := 99) (a := 0) G rfl (Or.inl rfl) dX5_part_98 rfl ?_
  refine b_callV5 (nx := 102) (zs := [v0]) (as := []) X hB (by decide) rfl hp_v0 SS_X5_fail (am_ta am_tn) (by omega) (Nat.le_of_ble_eq_true rfl) ml_RX5_59 iw_X5_fail vw_X5_fail cw_X5_fail nw_RX5 pp_X5_fail (Nat.le_of_ble_eq_true rfl) dX5_part_99 rfl (NM_X5_fail hp_v0 h) (fun r_3 m_4 h h01_5 hB => ?_)
  exact b_zreturn X hB h01_5 dX5_part_102 h
set_option maxRecDepth 20000 in
set_option maxHeartbeats 4000000 in
theorem S_X5_part_J2 {F : am_F} {K : am_KK} {k : Nat} {R : Nat → am_PT} {v0 : Int} {v2 : Int} {v3 : Int} {m : am_M} (X : am_Cx F cX5_part RX5 (some .boolean) (6 + (k + 1)) 5 K) (HR : H_X5_sum k R) (hp_v0 : am_ob v0 5) (hB : am_Bt m) (h : M_X5_part_J2 R v0 v2 v3 K m) : am_Z F 89 [] [(2, v0), (9, 0), (0, v2), (0, v3), (9, 0)] m 200 := by
  have G := X.G
  obtain ⟨HR_X5_sum, HR_X5_term, HR_X5_part⟩ := id HR
  unfold M_X5_part_J2 at h
  refine z_aload_n (nx := 90) (a := 0) G rfl (Or.inl rfl) dX5_part_89 rfl (b_getI (nx := 93) (k0 := 5) (t := 0) G fl_RX5_30 (Nat.le_of_ble_eq_true rfl) (Nat.le_of_ble_eq_true rfl) rfl hp_v0 dX5_part_90 rfl (z_bipush (nx := 95) (z := 50) G (R32c rfl) rfl dX5_part_93 rfl ?_))
  refine z_icmp_lt (nx := 98) (tgt := 103) G dX5_part_95 (by decide) rfl (fun c => ?_) (fun c => ?_)
  · have h := h.1 c
    refine z_aload_n (nx := 104) (a := 0) G rfl (Or.inl rfl) dX5_part_103 rfl (z_dup (nx := 105) G (fun h => nomatch h) dX5_part_104 rfl (b_getI (nx := 108) (k0 := 5) (t := 0) G fl_RX5_30 (Nat.le_of_ble_eq_true rfl) (Nat.le_of_ble_eq_true rfl) rfl hp_v0 dX5_part_105 rfl (z_iconst (nx := 109) (z := 1) G (R32c rfl) dX5_part_108 rfl (z_iadd (nx := 110) G dX5_part_109 rfl ?_))))
    refine b_put (nx := 113) (k0 := 5) (t := 0) G hB fl_RX5_30 (Nat.le_of_ble_eq_true rfl) (Nat.le_of_ble_eq_true rfl) rfl (fun h => nomatch h) rfl hp_v0 dX5_part_110 rfl (fun m_6 e_m_6 hB => ?_)
    have h := h m_6 e_m_6
    refine z_aload_n (nx := 114) (a := 0) G rfl (Or.inl rfl) dX5_part_113 rfl ?_
    refine b_callV9 (nx := 117) (zs := [v0]) (as := []) X hB (by decide) rfl hp_v0 SS_X5_advance (am_ta am_tn) (by omega) (Nat.le_of_ble_eq_true rfl) ml_RX5_38 iw_X5_advance vw_X5_advance cw_X5_advance nw_RX5 pp_X5_advance (Nat.le_of_ble_eq_true rfl) dX5_part_114 rfl (NM_X5_advance hp_v0 h) (fun r_7 m_8 h hB => ?_)
    refine z_iload_n (nx := 118) (a := 3) G rfl dX5_part_117 rfl (z_bipush (nx := 120) (z := 8) G (R32c rfl) rfl dX5_part_118 rfl ?_)
    refine z_icmp_lt (nx := 123) (tgt := 152) G dX5_part_120 (by decide) rfl (fun c => ?_) (fun c => ?_)
    · have h := h.1 c
      exact b_fewer (loc2 := [(2, v0), (9, 0), (0, v2), (0, v3), (9, 0)]) (am_lk (am_lk (am_lk (am_lk (am_lk am_ln))))) (S_X5_part_J4 X HR hp_v0 hB h)
    · have h := h.2 c
      refine z_aload_n (nx := 124) (a := 0) G rfl (Or.inl rfl) dX5_part_123 rfl (z_iconst (nx := 125) (z := 0) G (R32c rfl) dX5_part_124 rfl (z_bipush (nx := 127) (z := 7) G (R32c rfl) rfl dX5_part_125 rfl ?_))
      refine b_callV0 (nx := 130) (zs := [v0, 0, 7]) (as := [(0, 0), (0, 7)]) X hB (by decide) rfl hp_v0 SS_X5_number (am_ta (am_ti (am_ti am_tn))) (by omega) (Nat.le_of_ble_eq_true rfl) ml_RX5_108 iw_X5_number vw_X5_number cw_X5_number nw_RX5 pp_X5_number (Nat.le_of_ble_eq_true rfl) dX5_part_127 rfl (NM_X5_number hp_v0 h) (fun r_9 m_10 h hB => ?_)
      refine b_storeE (nx := 132) (a := 4) (loc2 := [(2, v0), (9, 0), (0, v2), (0, v3), (0, r_9)]) G rfl (Nat.le_of_ble_eq_true rfl) (am_pl1 rfl (fun h => nomatch h)) dX5_part_130 rfl (z_iload (nx := 134) (a := 4) G rfl dX5_part_132 rfl (z_iconst (nx := 135) (z := (-1)) G (R32c rfl) dX5_part_134 rfl ?_))
      refine z_icmp_ne (nx := 138) (tgt := 143) G dX5_part_135 (by decide) rfl (fun c => ?_) (fun c => ?_)
      · have h := h.1 c
        refine z_iload_n (nx := 144) (a := 3) G rfl dX5_part_143 rfl (z_iload (nx := 146) (a := 4) G rfl dX5_part_144 rfl (z_iadd (nx := 147) G dX5_part_146 rfl ?_))
        refine b_store_n (nx := 148) (a := 3) (loc2 := fun v3_11 => [(2, v0), (9, 0), (0, v2), (0, v3_11), (0, r_9)]) G (fun _ => rfl) (Nat.le_of_ble_eq_true rfl) (am_pl1 rfl (fun h => nomatch h)) dX5_part_147 rfl (fun v3_11 e_v3_11 => ?_)
        have h := h v3_11 e_v3_11
        refine z_aload_n (nx := 149) (a := 0) G rfl (Or.inl rfl) dX5_part_148 rfl ?_
        refine b_callV9 (nx := 152) (zs := [v0]) (as := []) X hB (by decide) rfl hp_v0 SS_X5_advance (am_ta am_tn) (by omega) (Nat.le_of_ble_eq_true rfl) ml_RX5_38 iw_X5_advance vw_X5_advance cw_X5_advance nw_RX5 pp_X5_advance (Nat.le_of_ble_eq_true rfl) dX5_part_149 rfl (NM_X5_advance hp_v0 h) (fun r_12 m_13 h hB => ?_)
        exact b_fewer (loc2 := [(2, v0), (9, 0), (0, v2), (0, v3_11), (9, 0)]) (am_lk (am_lk (am_lk (am_lk (am_lf am_ln))))) (S_X5_part_J4 X HR hp_v0 hB h)
      · have h := h.2 c
        refine z_aload_n (nx := 139) (a := 0) G rfl (Or.inl rfl) dX5_part_138 rfl ?_
        refine b_callV5 (nx := 142) (zs := [v0]) (as := []) X hB (by decide) rfl hp_v0 SS_X5_fail (am_ta am_tn) (by omega) (Nat.le_of_ble_eq_true rfl) ml_RX5_59 iw_X5_fail vw_X5_fail cw_X5_fail nw_RX5 pp_X5_fail (Nat.le_of_ble_eq_true rfl) dX5_part_139 rfl (NM_X5_fail hp_v0 h) (fun r_14 m_15 h h01_16 hB => ?_)
        exact b_zreturn X hB h01_16 dX5_part_142 h
  · have h := h.2 c
    exact b_fewer (loc2 := [(2, v0), (9, 0), (9, 0), (9, 0), (9, 0)]) (am_lk (am_lk (am_lf (am_lf (am_lk am_ln))))) (S_X5_part_J3 X HR hp_v0 hB h)
set_option maxRecDepth 20000 in
set_option maxHeartbeats 4000000 in
theorem S_X5_part_J1 {F : am_F} {K : am_KK} {k : Nat} {R : Nat → am_PT} {v0 : Int} {v2 : Int} {s0 : Int} {m : am_M} (X : am_Cx F cX5_part RX5 (some .boolean) (6 + (k + 1)) 5 K) (HR : H_X5_sum k R) (hp_v0 : am_ob v0 5) (hB : am_Bt m) (h : M_X5_part_J1 R v0 v2 s0 K m) : am_Z F 78 [(0, s0)] [(2, v0), (9, 0), (0, v2), (9, 0), (9, 0)] m 200 := by
  have G := X.G
  obtain ⟨HR_X5_sum, HR_X5_term, HR_X5_part⟩ := id HR
  unfold M_X5_part_J1 at h
  refine b_storeE_n (nx := 79) (a := 3) (loc2 := [(2, v0), (9, 0), (0, v2), (0, s0), (9, 0)]) G rfl (Nat.le_of_ble_eq_true rfl) (am_pl1 rfl (fun h => nomatch h)) dX5_part_78 rfl (z_iload_n (nx := 80) (a := 2) G rfl dX5_part_79 rfl (z_iconst (nx := 81) (z := (-1)) G (R32c rfl) dX5_part_80 rfl ?_))
  refine z_icmp_ne (nx := 84) (tgt := 89) G dX5_part_81 (by decide) rfl (fun c => ?_) (fun c => ?_)
  · have h := h.1 c
    exact b_fewer (loc2 := [(2, v0), (9, 0), (0, v2), (0, s0), (9, 0)]) (am_lk (am_lk (am_lk (am_lk (am_lk am_ln))))) (S_X5_part_J2 X HR hp_v0 hB h)
  · have h := h.2 c
    refine z_iload_n (nx := 85) (a := 3) G rfl dX5_part_84 rfl (z_iconst (nx := 86) (z := (-1)) G (R32c rfl) dX5_part_85 rfl ?_)
    refine z_icmp_eq (nx := 89) (tgt := 98) G dX5_part_86 (by decide) rfl (fun c => ?_) (fun c => ?_)
    · have h := h.1 c
      exact b_fewer (loc2 := [(2, v0), (9, 0), (9, 0), (9, 0), (9, 0)]) (am_lk (am_lk (am_lf (am_lf (am_lk am_ln))))) (S_X5_part_J3 X HR hp_v0 hB h)
    · have h := h.2 c
      exact b_fewer (loc2 := [(2, v0), (9, 0), (0, v2), (0, s0), (9, 0)]) (am_lk (am_lk (am_lk (am_lk (am_lk am_ln))))) (S_X5_part_J2 X HR hp_v0 hB h)
set_option maxRecDepth 20000 in
set_option maxHeartbeats 4000000 in
theorem S_X5_part {F : am_F} {K : am_KK} {k : Nat} {R : Nat → am_PT} {v0 : Int} {v1 : Int} {m : am_M} (X : am_Cx F cX5_part RX5 (some .boolean) (6 + (k + 1)) 5 K) (HR : H_X5_sum k R) (hp_v0 : am_ob v0 5) (hB : am_Bt m) (h : M_X5_part R v0 v1 K m) : am_Z F 0 [] [(2, v0), (0, v1), (9, 0), (9, 0), (9, 0)] m 200 := by
  have G := X.G
  obtain ⟨HR_X5_sum, HR_X5_term, HR_X5_part⟩ := id HR
  unfold M_X5_part at h
  refine z_aload_n (nx := 1) (a := 0) G rfl (Or.inl rfl) dX5_part_0 rfl (z_ldcS (nx := 3) (i := 7) G (by decide) rfl dX5_part_1 rfl ?_)
  refine b_callV5 (nx := 6) (zs := [v0, 7]) (as := [(3, 7)]) X hB (by decide) rfl hp_v0 SS_X5_is (am_ta (am_ts am_tn)) (by omega) (Nat.le_of_ble_eq_true rfl) ml_RX5_55 iw_X5_is vw_X5_is cw_X5_is nw_RX5 pp_X5_is (Nat.le_of_ble_eq_true rfl) dX5_part_3 rfl (NM_X5_is hp_v0 (⟨by decide, by decide⟩) h) (fun r_17 m_18 h h01_19 hB => ?_)
  refine z_if_eq (nx := 9) (tgt := 42) G dX5_part_6 (by decide) rfl (fun c => ?_) (fun c => ?_)
  · have h := h.1 c
    refine z_aload_n (nx := 43) (a := 0) G rfl (Or.inl rfl) dX5_part_42 rfl (z_iconst (nx := 44) (z := 0) G (R32c rfl) dX5_part_43 rfl (z_sipush (nx := 47) (z := 1000) G (R32c rfl) rfl dX5_part_44 rfl ?_))
    refine b_callV0 (nx := 50) (zs := [v0, 0, 1000]) (as := [(0, 0), (0, 1000)]) X hB (by decide) rfl hp_v0 SS_X5_number (am_ta (am_ti (am_ti am_tn))) (by omega) (Nat.le_of_ble_eq_true rfl) ml_RX5_108 iw_X5_number vw_X5_number cw_X5_number nw_RX5 pp_X5_number (Nat.le_of_ble_eq_true rfl) dX5_part_47 rfl (NM_X5_number hp_v0 h) (fun r_20 m_21 h hB => ?_)
    refine b_storeE_n (nx := 51) (a := 2) (loc2 := [(2, v0), (0, v1), (0, r_20), (9, 0), (9, 0)]) G rfl (Nat.le_of_ble_eq_true rfl) (am_pl1 rfl (fun h => nomatch h)) dX5_part_50 rfl (z_iload_n (nx := 52) (a := 2) G rfl dX5_part_51 rfl (z_iconst (nx := 53) (z := (-1)) G (R32c rfl) dX5_part_52 rfl ?_))
    refine z_icmp_eq (nx := 56) (tgt := 60) G dX5_part_53 (by decide) rfl (fun c => ?_) (fun c => ?_)
    · have h := h.1 c
      refine z_aload_n (nx := 61) (a := 0) G rfl (Or.inl rfl) dX5_part_60 rfl (b_getI (nx := 64) (k0 := 2) (t := 0) G fl_RX5_23 (Nat.le_of_ble_eq_true rfl) (Nat.le_of_ble_eq_true rfl) rfl hp_v0 dX5_part_61 rfl ?_)
      refine z_if_eq (nx := 67) (tgt := 74) G dX5_part_64 (by decide) rfl (fun c => ?_) (fun c => ?_)
      · have h := h.1 c
        refine z_aload_n (nx := 75) (a := 0) G rfl (Or.inl rfl) dX5_part_74 rfl ?_
        refine b_callV0 (nx := 78) (zs := [v0]) (as := []) X hB (by decide) rfl hp_v0 SS_X5_lawFact (am_ta am_tn) (by omega) (Nat.le_of_ble_eq_true rfl) ml_RX5_195 iw_X5_lawFact vw_X5_lawFact cw_X5_lawFact nw_RX5 pp_X5_lawFact (Nat.le_of_ble_eq_true rfl) dX5_part_75 rfl (NM_X5_lawFact hp_v0 h) (fun r_22 m_23 h hB => ?_)
        exact b_fewer (loc2 := [(2, v0), (9, 0), (0, r_20), (9, 0), (9, 0)]) (am_lk (am_lf (am_lk (am_lk (am_lk am_ln))))) (S_X5_part_J1 X HR hp_v0 hB h)
      · have h := h.2 c
        refine z_aload_n (nx := 68) (a := 0) G rfl (Or.inl rfl) dX5_part_67 rfl ?_
        refine b_callV0 (nx := 71) (zs := [v0]) (as := []) X hB (by decide) rfl hp_v0 SS_X5_orderFact (am_ta am_tn) (by omega) (Nat.le_of_ble_eq_true rfl) ml_RX5_192 iw_X5_orderFact vw_X5_orderFact cw_X5_orderFact nw_RX5 pp_X5_orderFact (Nat.le_of_ble_eq_true rfl) dX5_part_68 rfl (NM_X5_orderFact hp_v0 h) (fun r_24 m_25 h hB => ?_)
        refine z_goto (tgt := 78) G dX5_part_71 (by decide) ?_
        exact b_fewer (loc2 := [(2, v0), (9, 0), (0, r_20), (9, 0), (9, 0)]) (am_lk (am_lf (am_lk (am_lk (am_lk am_ln))))) (S_X5_part_J1 X HR hp_v0 hB h)
    · have h := h.2 c
      refine z_iconst (nx := 57) (z := (-1)) G (R32c rfl) dX5_part_56 rfl (z_goto (tgt := 78) G dX5_part_57 (by decide) ?_)
      exact b_fewer (loc2 := [(2, v0), (9, 0), (0, r_20), (9, 0), (9, 0)]) (am_lk (am_lf (am_lk (am_lk (am_lk am_ln))))) (S_X5_part_J1 X HR hp_v0 hB h)
  · have h := h.2 c
    refine z_aload_n (nx := 10) (a := 0) G rfl (Or.inl rfl) dX5_part_9 rfl (z_iload_n (nx := 11) (a := 1) G rfl dX5_part_10 rfl ?_)
    refine b_callV5 (nx := 14) (zs := [v0, v1]) (as := [(0, v1)]) X hB (by decide) rfl hp_v0 SS_X5_openBracket (am_ta (am_ti am_tn)) (by omega) (Nat.le_of_ble_eq_true rfl) ml_RX5_161 iw_X5_openBracket vw_X5_openBracket cw_X5_openBracket nw_RX5 pp_X5_openBracket (Nat.le_of_ble_eq_true rfl) dX5_part_11 rfl (NM_X5_openBracket hp_v0 h) (fun r_26 m_27 h h01_28 hB => ?_)
    refine z_if_eq (nx := 17) (tgt := 40) G dX5_part_14 (by decide) rfl (fun c => ?_) (fun c => ?_)
    · have h := h.1 c
      refine z_iconst (nx := 41) (z := 0) G (R32c rfl) dX5_part_40 rfl ?_
      exact b_zreturn X hB (Or.inl rfl) dX5_part_41 h
    · have h := h.2 c
      refine z_aload_n (nx := 18) (a := 0) G rfl (Or.inl rfl) dX5_part_17 rfl (z_iload_n (nx := 19) (a := 1) G rfl dX5_part_18 rfl (z_iconst (nx := 20) (z := 1) G (R32c rfl) dX5_part_19 rfl (z_iadd (nx := 21) G dX5_part_20 rfl ?_)))
      refine b_callV5 (nx := 24) (zs := [v0, w32 (v1 + 1)]) (as := [(0, w32 (v1 + 1))]) X hB (by decide) rfl hp_v0 (HR_X5_sum) (am_ta (am_ti am_tn)) (Nat.le_refl _) (Nat.le_of_ble_eq_true rfl) ml_RX5_137 iw_X5_sum vw_X5_sum cw_X5_sum nw_RX5 pp_X5_sum (Nat.le_of_ble_eq_true rfl) dX5_part_21 rfl h (fun r_29 m_30 h h01_31 hB => ?_)
      refine z_if_eq (nx := 27) (tgt := 40) G dX5_part_24 (by decide) rfl (fun c => ?_) (fun c => ?_)
      · have h := h.1 c
        refine z_iconst (nx := 41) (z := 0) G (R32c rfl) dX5_part_40 rfl ?_
        exact b_zreturn X hB (Or.inl rfl) dX5_part_41 h
      · have h := h.2 c
        refine z_aload_n (nx := 28) (a := 0) G rfl (Or.inl rfl) dX5_part_27 rfl (z_ldcS (nx := 30) (i := 8) G (by decide) rfl dX5_part_28 rfl ?_)
        refine b_callV5 (nx := 33) (zs := [v0, 8]) (as := [(3, 8)]) X hB (by decide) rfl hp_v0 SS_X5_pass (am_ta (am_ts am_tn)) (by omega) (Nat.le_of_ble_eq_true rfl) ml_RX5_134 iw_X5_pass vw_X5_pass cw_X5_pass nw_RX5 pp_X5_pass (Nat.le_of_ble_eq_true rfl) dX5_part_30 rfl (NM_X5_pass hp_v0 (⟨by decide, by decide⟩) h) (fun r_32 m_33 h h01_34 hB => ?_)
        refine z_if_eq (nx := 36) (tgt := 40) G dX5_part_33 (by decide) rfl (fun c => ?_) (fun c => ?_)
        · have h := h.1 c
          refine z_iconst (nx := 41) (z := 0) G (R32c rfl) dX5_part_40 rfl ?_
          exact b_zreturn X hB (Or.inl rfl) dX5_part_41 h
        · have h := h.2 c
          refine z_iconst (nx := 37) (z := 1) G (R32c rfl) dX5_part_36 rfl (z_goto (tgt := 41) G dX5_part_37 (by decide) ?_)
          exact b_zreturn X hB (Or.inr rfl) dX5_part_41 h
theorem SR_X5_part {k : Nat} {R : Nat → am_PT} (HR : H_X5_sum k R) : am_Snd yX5_part cX5_part 5 (some .boolean) 0 (6 + (k + 1)) (am_L [2, 0] 5 (N_X5_part R)) := by
  refine am_SB (by decide +kernel) (Nat.le_of_ble_eq_true rfl) (fun F zs as K m X ht hB hM => ?_)
  obtain ⟨v0, zs, as, rfl, rfl, hz0, ht⟩ := am_inv ht
  obtain ⟨v1, zs, as, rfl, rfl, hz1, ht⟩ := am_inv ht
  obtain ⟨rfl, rfl⟩ := am_inv0 ht
  obtain ⟨hp_v0, hM⟩ := hM
  exact S_X5_part X HR hp_v0 hB hM
theorem HH_X5_sum : ∀ k, H_X5_sum k (R_X5_sum k) := by
  intro k
  induction k with
  | zero => exact ⟨am_Snd_false, am_Snd_false, am_Snd_false⟩
  | succ k ih => exact ⟨SR_X5_sum ih, SR_X5_term ih, SR_X5_part ih⟩
theorem SS_X5_sum : am_Snd yX5_sum cX5_sum 4 (some .boolean) 0 307 (am_L [2, 0] 5 (R_X5_sum 301 0)) := (HH_X5_sum 301).1
theorem SS_X5_term : am_Snd yX5_term cX5_term 4 (some .boolean) 0 307 (am_L [2, 0] 5 (R_X5_sum 301 1)) := (HH_X5_sum 301).2.1
theorem SS_X5_part : am_Snd yX5_part cX5_part 5 (some .boolean) 0 307 (am_L [2, 0] 5 (R_X5_sum 301 2)) := (HH_X5_sum 301).2.2
set_option maxRecDepth 20000 in
set_option maxHeartbeats 4000000 in
theorem S_X5_sums_J5 {F : am_F} {K : am_KK} {v0 : Int} {v2 : Int} {v3 : Int} {C26 : Int → am_M → Prop} {m : am_M} (X : am_Cx F cX5_sums RX5 (some .boolean) 308 5 K) (hp_v0 : am_ob v0 5) (hC26 : ∀ w3 m, C26 w3 m → am_Bt m → am_Z F 26 [] [(2, v0), (9, 0), (0, v2), (0, w3)] m 200) (hB : am_Bt m) (h : M_X5_sums_J5 v0 v2 v3 C26 K m) : am_Z F 79 [] [(2, v0), (9, 0), (0, v2), (0, v3)] m 200 := by
  have G := X.G
  unfold M_X5_sums_J5 at h
  refine b_iinc (nx := 82) (a := 3) (loc2 := fun v3_1 => [(2, v0), (9, 0), (0, v2), (0, v3_1)]) G (fun _ => rfl) rfl (am_pl1 rfl (fun h => nomatch h)) dX5_sums_79 rfl (fun v3_1 e_v3_1 => ?_)
  have h := h v3_1 e_v3_1
  refine z_goto (tgt := 26) G dX5_sums_82 (by decide) ?_
  exact b_fewer (loc2 := [(2, v0), (9, 0), (0, v2), (0, v3_1)]) (am_lk (am_lk (am_lk (am_lk am_ln)))) (hC26 _ _ h hB)
set_option maxRecDepth 20000 in
set_option maxHeartbeats 4000000 in
theorem S_X5_sums_J4 {F : am_F} {K : am_KK} {v0 : Int} {v2 : Int} {v3 : Int} {C26 : Int → am_M → Prop} {m : am_M} (X : am_Cx F cX5_sums RX5 (some .boolean) 308 5 K) (hp_v0 : am_ob v0 5) (hC26 : ∀ w3 m, C26 w3 m → am_Bt m → am_Z F 26 [] [(2, v0), (9, 0), (0, v2), (0, w3)] m 200) (hB : am_Bt m) (h : M_X5_sums_J4 v0 v2 v3 C26 K m) : am_Z F 69 [] [(2, v0), (9, 0), (0, v2), (0, v3)] m 200 := by
  have G := X.G
  unfold M_X5_sums_J4 at h
  refine z_aload_n (nx := 70) (a := 0) G rfl (Or.inl rfl) dX5_sums_69 rfl (z_iconst (nx := 71) (z := 0) G (R32c rfl) dX5_sums_70 rfl ?_)
  refine b_callV5 (nx := 74) (zs := [v0, 0]) (as := [(0, 0)]) X hB (by decide) rfl hp_v0 SS_X5_sum (am_ta (am_ti am_tn)) (Nat.le_of_ble_eq_true rfl) (Nat.le_of_ble_eq_true rfl) ml_RX5_137 iw_X5_sum vw_X5_sum cw_X5_sum nw_RX5 pp_X5_sum (Nat.le_of_ble_eq_true rfl) dX5_sums_71 rfl h (fun r_2 m_3 h h01_4 hB => ?_)
  refine z_if_ne (nx := 77) (tgt := 79) G dX5_sums_74 (by decide) rfl (fun c => ?_) (fun c => ?_)
  · have h := h.1 c
    exact b_fewer (loc2 := [(2, v0), (9, 0), (0, v2), (0, v3)]) (am_lk (am_lk (am_lk (am_lk am_ln)))) (S_X5_sums_J5 X hp_v0 hC26 hB h)
  · have h := h.2 c
    refine z_iconst (nx := 78) (z := 0) G (R32c rfl) dX5_sums_77 rfl ?_
    exact b_zreturn X hB (Or.inl rfl) dX5_sums_78 h
set_option maxRecDepth 20000 in
set_option maxHeartbeats 4000000 in
theorem S_X5_sums_J3 {F : am_F} {K : am_KK} {v0 : Int} {v2 : Int} {v3 : Int} {s0 : Int} {s1 : Int} {C26 : Int → am_M → Prop} {m : am_M} (X : am_Cx F cX5_sums RX5 (some .boolean) 308 5 K) (hp_v0 : am_ob v0 5) (hp_s0 : am_ob s0 5) (hp_s1 : 0 ≤ s1 ∧ s1 < 38) (hC26 : ∀ w3 m, C26 w3 m → am_Bt m → am_Z F 26 [] [(2, v0), (9, 0), (0, v2), (0, w3)] m 200) (hB : am_Bt m) (h : M_X5_sums_J3 v0 v2 v3 s0 s1 C26 K m) : am_Z F 61 [(3, s1), (2, s0)] [(2, v0), (9, 0), (0, v2), (0, v3)] m 200 := by
  have G := X.G
  unfold M_X5_sums_J3 at h
  refine b_callV5 (nx := 64) (zs := [s0, s1]) (as := [(3, s1)]) X hB (by decide) rfl hp_s0 SS_X5_pass (am_ta (am_ts am_tn)) (Nat.le_of_ble_eq_true rfl) (Nat.le_of_ble_eq_true rfl) ml_RX5_134 iw_X5_pass vw_X5_pass cw_X5_pass nw_RX5 pp_X5_pass (Nat.le_of_ble_eq_true rfl) dX5_sums_61 rfl (NM_X5_pass hp_s0 hp_s1 h) (fun r_5 m_6 h h01_7 hB => ?_)
  refine z_if_ne (nx := 67) (tgt := 69) G dX5_sums_64 (by decide) rfl (fun c => ?_) (fun c => ?_)
  · have h := h.1 c
    exact b_fewer (loc2 := [(2, v0), (9, 0), (0, v2), (0, v3)]) (am_lk (am_lk (am_lk (am_lk am_ln)))) (S_X5_sums_J4 X hp_v0 hC26 hB h)
  · have h := h.2 c
    refine z_iconst (nx := 68) (z := 0) G (R32c rfl) dX5_sums_67 rfl ?_
    exact b_zreturn X hB (Or.inl rfl) dX5_sums_68 h
set_option maxRecDepth 20000 in
set_option maxHeartbeats 4000000 in
theorem S_X5_sums_L1B {F : am_F} {K : am_KK} {v0 : Int} {v2 : Int} {v3 : Int} {C26 : Int → am_M → Prop} {m : am_M} (X : am_Cx F cX5_sums RX5 (some .boolean) 308 5 K) (hp_v0 : am_ob v0 5) (hC26 : ∀ w3 m, C26 w3 m → am_Bt m → am_Z F 26 [] [(2, v0), (9, 0), (0, v2), (0, w3)] m 200) (hB : am_Bt m) (h : M_X5_sums_L1B v0 v2 v3 C26 K m) : am_Z F 26 [] [(2, v0), (9, 0), (0, v2), (0, v3)] m 200 := by
  have G := X.G
  unfold M_X5_sums_L1B at h
  refine z_iload_n (nx := 27) (a := 3) G rfl dX5_sums_26 rfl (z_iconst (nx := 28) (z := 3) G (R32c rfl) dX5_sums_27 rfl ?_)
  refine z_icmp_ge (nx := 31) (tgt := 85) G dX5_sums_28 (by decide) rfl (fun c => ?_) (fun c => ?_)
  · have h := h.1 c
    refine z_aload_n (nx := 86) (a := 0) G rfl (Or.inl rfl) dX5_sums_85 rfl (b_getA (nx := 89) (k0 := 1) G hB fl_RX5_19 (Nat.le_of_ble_eq_true rfl) (Nat.le_of_ble_eq_true rfl) rfl hp_v0 dX5_sums_86 rfl (z_iconst (nx := 90) (z := 3) G (R32c rfl) dX5_sums_89 rfl ?_))
    refine b_callV9 (nx := 93) (zs := [am_rfv v0 1, 3]) (as := [(0, 3)]) X hB (by decide) rfl (sh_5_1 _ hp_v0) SS_X4_mark (am_ta (am_ti am_tn)) (Nat.le_of_ble_eq_true rfl) (Nat.le_of_ble_eq_true rfl) ml_RX5_116 iw_X4_mark vw_X4_mark cw_X4_mark nw_RX4 pp_X4_mark (Nat.le_of_ble_eq_true rfl) dX5_sums_90 rfl (NM_X4_mark (sh_5_1 _ hp_v0) h) (fun r_8 m_9 h hB => ?_)
    refine z_iconst (nx := 94) (z := 1) G (R32c rfl) dX5_sums_93 rfl ?_
    exact b_zreturn X hB (Or.inr rfl) dX5_sums_94 h
  · have h := h.2 c
    refine z_aload_n (nx := 32) (a := 0) G rfl (Or.inl rfl) dX5_sums_31 rfl (b_getA (nx := 35) (k0 := 1) G hB fl_RX5_19 (Nat.le_of_ble_eq_true rfl) (Nat.le_of_ble_eq_true rfl) rfl hp_v0 dX5_sums_32 rfl (z_iload_n (nx := 36) (a := 3) G rfl dX5_sums_35 rfl ?_))
    refine b_callV9 (nx := 39) (zs := [am_rfv v0 1, v3]) (as := [(0, v3)]) X hB (by decide) rfl (sh_5_1 _ hp_v0) SS_X4_mark (am_ta (am_ti am_tn)) (Nat.le_of_ble_eq_true rfl) (Nat.le_of_ble_eq_true rfl) ml_RX5_116 iw_X4_mark vw_X4_mark cw_X4_mark nw_RX4 pp_X4_mark (Nat.le_of_ble_eq_true rfl) dX5_sums_36 rfl (NM_X4_mark (sh_5_1 _ hp_v0) h) (fun r_10 m_11 h hB => ?_)
    refine z_iload_n (nx := 40) (a := 3) G rfl dX5_sums_39 rfl (z_iload_n (nx := 41) (a := 2) G rfl dX5_sums_40 rfl ?_)
    refine z_icmp_ge (nx := 44) (tgt := 79) G dX5_sums_41 (by decide) rfl (fun c => ?_) (fun c => ?_)
    · have h := h.1 c
      exact b_fewer (loc2 := [(2, v0), (9, 0), (0, v2), (0, v3)]) (am_lk (am_lk (am_lk (am_lk am_ln)))) (S_X5_sums_J5 X hp_v0 hC26 hB h)
    · have h := h.2 c
      refine z_iload_n (nx := 45) (a := 3) G rfl dX5_sums_44 rfl ?_
      refine z_if_le (nx := 48) (tgt := 69) G dX5_sums_45 (by decide) rfl (fun c => ?_) (fun c => ?_)
      · have h := h.1 c
        exact b_fewer (loc2 := [(2, v0), (9, 0), (0, v2), (0, v3)]) (am_lk (am_lk (am_lk (am_lk am_ln)))) (S_X5_sums_J4 X hp_v0 hC26 hB h)
      · have h := h.2 c
        refine z_aload_n (nx := 49) (a := 0) G rfl (Or.inl rfl) dX5_sums_48 rfl (z_iload_n (nx := 50) (a := 3) G rfl dX5_sums_49 rfl (z_iconst (nx := 51) (z := 1) G (R32c rfl) dX5_sums_50 rfl ?_))
        refine z_icmp_ne (nx := 54) (tgt := 59) G dX5_sums_51 (by decide) rfl (fun c => ?_) (fun c => ?_)
        · have h := h.1 c
          refine z_ldcS (nx := 61) (i := 6) G (by decide) rfl dX5_sums_59 rfl ?_
          exact b_fewer (loc2 := [(2, v0), (9, 0), (0, v2), (0, v3)]) (am_lk (am_lk (am_lk (am_lk am_ln)))) (S_X5_sums_J3 X hp_v0 hp_v0 (⟨by decide, by decide⟩) hC26 hB h)
        · have h := h.2 c
          refine z_ldcS (nx := 56) (i := 5) G (by decide) rfl dX5_sums_54 rfl (z_goto (tgt := 61) G dX5_sums_56 (by decide) ?_)
          exact b_fewer (loc2 := [(2, v0), (9, 0), (0, v2), (0, v3)]) (am_lk (am_lk (am_lk (am_lk am_ln)))) (S_X5_sums_J3 X hp_v0 hp_v0 (⟨by decide, by decide⟩) hC26 hB h)
theorem S_X5_sums_L1 {F : am_F} {K : am_KK} {v0 : Int} {v2 : Int} {v3 : Int} {m : am_M} (X : am_Cx F cX5_sums RX5 (some .boolean) 308 5 K) (hp_v0 : am_ob v0 5) (hB : am_Bt m) (h : M_X5_sums_L1 v0 v2 v3 K m) : am_Z F 26 [] [(2, v0), (9, 0), (0, v2), (0, v3)] m 200 := by
  obtain ⟨I, ⟨j, hj⟩, hI⟩ := h
  have key : ∀ j v3 m, I j v3 m → am_Bt m → am_Z F 26 [] [(2, v0), (9, 0), (0, v2), (0, v3)] m 200 := by
    intro j
    induction j using Nat.strongRecOn with
    | ind j ih =>
      intro v3 m hj hB
      exact S_X5_sums_L1B X hp_v0 (fun v3' m' hc hB' => by
        obtain ⟨j', g1, g2⟩ := hc
        exact ih j' g1 v3' m' g2 hB') hB (hI j v3 m hj)
  exact key j _ _ hj hB
set_option maxRecDepth 20000 in
set_option maxHeartbeats 4000000 in
theorem S_X5_sums_J2 {F : am_F} {K : am_KK} {v0 : Int} {s0 : Int} {m : am_M} (X : am_Cx F cX5_sums RX5 (some .boolean) 308 5 K) (hp_v0 : am_ob v0 5) (hB : am_Bt m) (h : M_X5_sums_J2 v0 s0 K m) : am_Z F 23 [(0, s0)] [(2, v0), (9, 0), (9, 0), (9, 0)] m 200 := by
  have G := X.G
  unfold M_X5_sums_J2 at h
  refine b_storeE_n (nx := 24) (a := 2) (loc2 := [(2, v0), (9, 0), (0, s0), (9, 0)]) G rfl (Nat.le_of_ble_eq_true rfl) (am_pl1 rfl (fun h => nomatch h)) dX5_sums_23 rfl (z_iconst (nx := 25) (z := 0) G (R32c rfl) dX5_sums_24 rfl (b_storeE_n (nx := 26) (a := 3) (loc2 := [(2, v0), (9, 0), (0, s0), (0, 0)]) G rfl (Nat.le_of_ble_eq_true rfl) (am_pl1 rfl (fun h => nomatch h)) dX5_sums_25 rfl ?_))
  exact b_fewer (loc2 := [(2, v0), (9, 0), (0, s0), (0, 0)]) (am_lk (am_lk (am_lk (am_lk am_ln)))) (S_X5_sums_L1 X hp_v0 hB h)
set_option maxRecDepth 20000 in
set_option maxHeartbeats 4000000 in
theorem S_X5_sums_J1 {F : am_F} {K : am_KK} {v0 : Int} {m : am_M} (X : am_Cx F cX5_sums RX5 (some .boolean) 308 5 K) (hp_v0 : am_ob v0 5) (hB : am_Bt m) (h : M_X5_sums_J1 v0 K m) : am_Z F 18 [] [(2, v0), (9, 0), (9, 0), (9, 0)] m 200 := by
  have G := X.G
  unfold M_X5_sums_J1 at h
  refine z_iconst (nx := 19) (z := 1) G (R32c rfl) dX5_sums_18 rfl (z_goto (tgt := 23) G dX5_sums_19 (by decide) ?_)
  exact b_fewer (loc2 := [(2, v0), (9, 0), (9, 0), (9, 0)]) (am_lk (am_lk (am_lk (am_lk am_ln)))) (S_X5_sums_J2 X hp_v0 hB h)
set_option maxRecDepth 20000 in
set_option maxHeartbeats 4000000 in
theorem S_X5_sums {F : am_F} {K : am_KK} {v0 : Int} {v1 : Int} {m : am_M} (X : am_Cx F cX5_sums RX5 (some .boolean) 308 5 K) (hp_v0 : am_ob v0 5) (hB : am_Bt m) (h : M_X5_sums v0 v1 K m) : am_Z F 0 [] [(2, v0), (0, v1), (9, 0), (9, 0)] m 200 := by
  have G := X.G
  unfold M_X5_sums at h
  refine z_iload_n (nx := 1) (a := 1) G rfl dX5_sums_0 rfl (z_iconst (nx := 2) (z := 3) G (R32c rfl) dX5_sums_1 rfl ?_)
  refine z_icmp_ne (nx := 5) (tgt := 9) G dX5_sums_2 (by decide) rfl (fun c => ?_) (fun c => ?_)
  · have h := h.1 c
    refine z_iload_n (nx := 10) (a := 1) G rfl dX5_sums_9 rfl ?_
    refine z_if_eq (nx := 13) (tgt := 18) G dX5_sums_10 (by decide) rfl (fun c => ?_) (fun c => ?_)
    · have h := h.1 c
      exact b_fewer (loc2 := [(2, v0), (9, 0), (9, 0), (9, 0)]) (am_lk (am_lf (am_lk (am_lk am_ln)))) (S_X5_sums_J1 X hp_v0 hB h)
    · have h := h.2 c
      refine z_iload_n (nx := 14) (a := 1) G rfl dX5_sums_13 rfl (z_iconst (nx := 15) (z := 1) G (R32c rfl) dX5_sums_14 rfl ?_)
      refine z_icmp_ne (nx := 18) (tgt := 22) G dX5_sums_15 (by decide) rfl (fun c => ?_) (fun c => ?_)
      · have h := h.1 c
        refine z_iconst (nx := 23) (z := 0) G (R32c rfl) dX5_sums_22 rfl ?_
        exact b_fewer (loc2 := [(2, v0), (9, 0), (9, 0), (9, 0)]) (am_lk (am_lf (am_lk (am_lk am_ln)))) (S_X5_sums_J2 X hp_v0 hB h)
      · have h := h.2 c
        exact b_fewer (loc2 := [(2, v0), (9, 0), (9, 0), (9, 0)]) (am_lk (am_lf (am_lk (am_lk am_ln)))) (S_X5_sums_J1 X hp_v0 hB h)
  · have h := h.2 c
    refine z_iconst (nx := 6) (z := 3) G (R32c rfl) dX5_sums_5 rfl (z_goto (tgt := 23) G dX5_sums_6 (by decide) ?_)
    exact b_fewer (loc2 := [(2, v0), (9, 0), (9, 0), (9, 0)]) (am_lk (am_lf (am_lk (am_lk am_ln)))) (S_X5_sums_J2 X hp_v0 hB h)
theorem NM_X5_sums {v0 : Int} {v1 : Int} {K : am_KK} {m : am_M} (hp_v0 : am_ob v0 5) (h : M_X5_sums v0 v1 K m) : N_X5_sums [v0, v1] K m := ⟨hp_v0, h⟩
theorem SS_X5_sums : am_Snd yX5_sums cX5_sums 4 (some .boolean) 0 308 (am_L [2, 0] 5 N_X5_sums) := by
  refine am_SB (by decide +kernel) (Nat.le_of_ble_eq_true rfl) (fun F zs as K m X ht hB hM => ?_)
  obtain ⟨v0, zs, as, rfl, rfl, hz0, ht⟩ := am_inv ht
  obtain ⟨v1, zs, as, rfl, rfl, hz1, ht⟩ := am_inv ht
  obtain ⟨rfl, rfl⟩ := am_inv0 ht
  obtain ⟨hp_v0, hM⟩ := hM
  exact S_X5_sums X hp_v0 hB hM
def H_X5_test (k : Nat) (R : Nat → am_PT) : Prop := am_Snd yX5_test cX5_test 4 (some .boolean) 0 (307 + k) (am_L [2, 0] 5 (R 0)) ∧ am_Snd yX5_both cX5_both 4 (some .boolean) 0 (307 + k) (am_L [2, 0] 5 (R 1)) ∧ am_Snd yX5_plain cX5_plain 4 (some .boolean) 0 (307 + k) (am_L [2, 0] 5 (R 2))
set_option maxRecDepth 20000 in
set_option maxHeartbeats 4000000 in
theorem S_X5_test_L1B {F : am_F} {K : am_KK} {k : Nat} {R : Nat → am_PT} {v0 : Int} {v1 : Int} {v2 : Int} {C12 : Int → am_M → Prop} {m : am_M} (X : am_Cx F cX5_test RX5 (some .boolean) (307 + (k + 1)) 5 K) (HR : H_X5_test k R) (hp_v0 : am_ob v0 5) (hC12 : ∀ w2 m, C12 w2 m → am_Bt m → am_Z F 12 [] [(2, v0), (0, v1), (0, w2), (9, 0)] m 200) (hB : am_Bt m) (h : M_X5_test_L1B R v0 v1 v2 C12 K m) : am_Z F 12 [] [(2, v0), (0, v1), (0, v2), (9, 0)] m 200 := by
  have G := X.G
  obtain ⟨HR_X5_test, HR_X5_both, HR_X5_plain⟩ := id HR
  unfold M_X5_test_L1B at h
  refine z_iload_n (nx := 13) (a := 2) G rfl dX5_test_12 rfl (z_sipush (nx := 16) (z := 400) G (R32c rfl) rfl dX5_test_13 rfl ?_)
  refine z_icmp_ge (nx := 19) (tgt := 74) G dX5_test_16 (by decide) rfl (fun c => ?_) (fun c => ?_)
  · have h := h.1 c
    refine z_iconst (nx := 75) (z := 1) G (R32c rfl) dX5_test_74 rfl ?_
    exact b_zreturn X hB (Or.inr rfl) dX5_test_75 h
  · have h := h.2 c
    refine z_aload_n (nx := 20) (a := 0) G rfl (Or.inl rfl) dX5_test_19 rfl (z_ldcS (nx := 22) (i := 36) G (by decide) rfl dX5_test_20 rfl ?_)
    refine b_callV5 (nx := 25) (zs := [v0, 36]) (as := [(3, 36)]) X hB (by decide) rfl hp_v0 SS_X5_is (am_ta (am_ts am_tn)) (by omega) (Nat.le_of_ble_eq_true rfl) ml_RX5_55 iw_X5_is vw_X5_is cw_X5_is nw_RX5 pp_X5_is (Nat.le_of_ble_eq_true rfl) dX5_test_22 rfl (NM_X5_is hp_v0 (⟨by decide, by decide⟩) h) (fun r_1 m_2 h h01_3 hB => ?_)
    refine z_if_eq (nx := 28) (tgt := 74) G dX5_test_25 (by decide) rfl (fun c => ?_) (fun c => ?_)
    · have h := h.1 c
      refine z_iconst (nx := 75) (z := 1) G (R32c rfl) dX5_test_74 rfl ?_
      exact b_zreturn X hB (Or.inr rfl) dX5_test_75 h
    · have h := h.2 c
      refine z_aload_n (nx := 29) (a := 0) G rfl (Or.inl rfl) dX5_test_28 rfl (b_getA (nx := 32) (k0 := 1) G hB fl_RX5_19 (Nat.le_of_ble_eq_true rfl) (Nat.le_of_ble_eq_true rfl) rfl hp_v0 dX5_test_29 rfl (b_getI (nx := 35) (k0 := 1) (t := 0) G fl_RX5_145 (Nat.le_of_ble_eq_true rfl) (Nat.le_of_ble_eq_true rfl) rfl (sh_5_1 _ hp_v0) dX5_test_32 rfl ?_))
      refine b_store_n (nx := 36) (a := 3) (loc2 := fun v3_4 => [(2, v0), (0, v1), (0, v2), (0, v3_4)]) G (fun _ => rfl) (Nat.le_of_ble_eq_true rfl) (am_pl1 rfl (fun h => nomatch h)) dX5_test_35 rfl (fun v3_4 e_v3_4 => ?_)
      have h := h v3_4 e_v3_4
      refine z_aload_n (nx := 37) (a := 0) G rfl (Or.inl rfl) dX5_test_36 rfl (b_getA (nx := 40) (k0 := 1) G hB fl_RX5_19 (Nat.le_of_ble_eq_true rfl) (Nat.le_of_ble_eq_true rfl) rfl hp_v0 dX5_test_37 rfl (z_sipush (nx := 43) (z := 8192) G (R32c rfl) rfl dX5_test_40 rfl ?_))
      refine b_callV9 (nx := 46) (zs := [am_rfv v0 1, 8192]) (as := [(0, 8192)]) X hB (by decide) rfl (sh_5_1 _ hp_v0) SS_X4_add (am_ta (am_ti am_tn)) (by omega) (Nat.le_of_ble_eq_true rfl) ml_RX5_146 iw_X4_add vw_X4_add cw_X4_add nw_RX4 pp_X4_add (Nat.le_of_ble_eq_true rfl) dX5_test_43 rfl (NM_X4_add (sh_5_1 _ hp_v0) h) (fun r_5 m_6 h hB => ?_)
      refine z_aload_n (nx := 47) (a := 0) G rfl (Or.inl rfl) dX5_test_46 rfl ?_
      refine b_callV9 (nx := 50) (zs := [v0]) (as := []) X hB (by decide) rfl hp_v0 SS_X5_advance (am_ta am_tn) (by omega) (Nat.le_of_ble_eq_true rfl) ml_RX5_38 iw_X5_advance vw_X5_advance cw_X5_advance nw_RX5 pp_X5_advance (Nat.le_of_ble_eq_true rfl) dX5_test_47 rfl (NM_X5_advance hp_v0 h) (fun r_7 m_8 h hB => ?_)
      refine z_aload_n (nx := 51) (a := 0) G rfl (Or.inl rfl) dX5_test_50 rfl (z_iload_n (nx := 52) (a := 1) G rfl dX5_test_51 rfl ?_)
      refine b_callV5 (nx := 55) (zs := [v0, v1]) (as := [(0, v1)]) X hB (by decide) rfl hp_v0 (HR_X5_both) (am_ta (am_ti am_tn)) (Nat.le_refl _) (Nat.le_of_ble_eq_true rfl) ml_RX5_140 iw_X5_both vw_X5_both cw_X5_both nw_RX5 pp_X5_both (Nat.le_of_ble_eq_true rfl) dX5_test_52 rfl h (fun r_9 m_10 h h01_11 hB => ?_)
      refine z_if_ne (nx := 58) (tgt := 60) G dX5_test_55 (by decide) rfl (fun c => ?_) (fun c => ?_)
      · have h := h.1 c
        refine z_aload_n (nx := 61) (a := 0) G rfl (Or.inl rfl) dX5_test_60 rfl (b_getA (nx := 64) (k0 := 1) G hB fl_RX5_19 (Nat.le_of_ble_eq_true rfl) (Nat.le_of_ble_eq_true rfl) rfl hp_v0 dX5_test_61 rfl (z_iload_n (nx := 65) (a := 3) G rfl dX5_test_64 rfl ?_))
        refine b_callV9 (nx := 68) (zs := [am_rfv v0 1, v3_4]) (as := [(0, v3_4)]) X hB (by decide) rfl (sh_5_1 _ hp_v0) SS_X4_skipFrom (am_ta (am_ti am_tn)) (by omega) (Nat.le_of_ble_eq_true rfl) ml_RX5_149 iw_X4_skipFrom vw_X4_skipFrom cw_X4_skipFrom nw_RX4 pp_X4_skipFrom (Nat.le_of_ble_eq_true rfl) dX5_test_65 rfl (NM_X4_skipFrom (sh_5_1 _ hp_v0) h) (fun r_12 m_13 h hB => ?_)
        refine b_iinc (nx := 71) (a := 2) (loc2 := fun v2_14 => [(2, v0), (0, v1), (0, v2_14), (0, v3_4)]) G (fun _ => rfl) rfl (am_pl1 rfl (fun h => nomatch h)) dX5_test_68 rfl (fun v2_14 e_v2_14 => ?_)
        have h := h v2_14 e_v2_14
        refine z_goto (tgt := 12) G dX5_test_71 (by decide) ?_
        exact b_fewer (loc2 := [(2, v0), (0, v1), (0, v2_14), (9, 0)]) (am_lk (am_lk (am_lk (am_lf am_ln)))) (hC12 _ _ h hB)
      · have h := h.2 c
        refine z_iconst (nx := 59) (z := 0) G (R32c rfl) dX5_test_58 rfl ?_
        exact b_zreturn X hB (Or.inl rfl) dX5_test_59 h
theorem S_X5_test_L1 {F : am_F} {K : am_KK} {k : Nat} {R : Nat → am_PT} {v0 : Int} {v1 : Int} {v2 : Int} {m : am_M} (X : am_Cx F cX5_test RX5 (some .boolean) (307 + (k + 1)) 5 K) (HR : H_X5_test k R) (hp_v0 : am_ob v0 5) (hB : am_Bt m) (h : M_X5_test_L1 R v0 v1 v2 K m) : am_Z F 12 [] [(2, v0), (0, v1), (0, v2), (9, 0)] m 200 := by
  obtain ⟨I, ⟨j, hj⟩, hI⟩ := h
  have key : ∀ j v2 m, I j v2 m → am_Bt m → am_Z F 12 [] [(2, v0), (0, v1), (0, v2), (9, 0)] m 200 := by
    intro j
    induction j using Nat.strongRecOn with
    | ind j ih =>
      intro v2 m hj hB
      exact S_X5_test_L1B X HR hp_v0 (fun v2' m' hc hB' => by
        obtain ⟨j', g1, g2⟩ := hc
        exact ih j' g1 v2' m' g2 hB') hB (hI j v2 m hj)
  exact key j _ _ hj hB
set_option maxRecDepth 20000 in
set_option maxHeartbeats 4000000 in
theorem S_X5_test {F : am_F} {K : am_KK} {k : Nat} {R : Nat → am_PT} {v0 : Int} {v1 : Int} {m : am_M} (X : am_Cx F cX5_test RX5 (some .boolean) (307 + (k + 1)) 5 K) (HR : H_X5_test k R) (hp_v0 : am_ob v0 5) (hB : am_Bt m) (h : M_X5_test R v0 v1 K m) : am_Z F 0 [] [(2, v0), (0, v1), (9, 0), (9, 0)] m 200 := by
  have G := X.G
  obtain ⟨HR_X5_test, HR_X5_both, HR_X5_plain⟩ := id HR
  unfold M_X5_test at h
  refine z_aload_n (nx := 1) (a := 0) G rfl (Or.inl rfl) dX5_test_0 rfl (z_iload_n (nx := 2) (a := 1) G rfl dX5_test_1 rfl ?_)
  refine b_callV5 (nx := 5) (zs := [v0, v1]) (as := [(0, v1)]) X hB (by decide) rfl hp_v0 (HR_X5_both) (am_ta (am_ti am_tn)) (Nat.le_refl _) (Nat.le_of_ble_eq_true rfl) ml_RX5_140 iw_X5_both vw_X5_both cw_X5_both nw_RX5 pp_X5_both (Nat.le_of_ble_eq_true rfl) dX5_test_2 rfl h (fun r_15 m_16 h h01_17 hB => ?_)
  refine z_if_ne (nx := 8) (tgt := 10) G dX5_test_5 (by decide) rfl (fun c => ?_) (fun c => ?_)
  · have h := h.1 c
    refine z_iconst (nx := 11) (z := 0) G (R32c rfl) dX5_test_10 rfl (b_storeE_n (nx := 12) (a := 2) (loc2 := [(2, v0), (0, v1), (0, 0), (9, 0)]) G rfl (Nat.le_of_ble_eq_true rfl) (am_pl1 rfl (fun h => nomatch h)) dX5_test_11 rfl ?_)
    exact b_fewer (loc2 := [(2, v0), (0, v1), (0, 0), (9, 0)]) (am_lk (am_lk (am_lk (am_lk am_ln)))) (S_X5_test_L1 X HR hp_v0 hB h)
  · have h := h.2 c
    refine z_iconst (nx := 9) (z := 0) G (R32c rfl) dX5_test_8 rfl ?_
    exact b_zreturn X hB (Or.inl rfl) dX5_test_9 h
theorem SR_X5_test {k : Nat} {R : Nat → am_PT} (HR : H_X5_test k R) : am_Snd yX5_test cX5_test 4 (some .boolean) 0 (307 + (k + 1)) (am_L [2, 0] 5 (N_X5_test R)) := by
  refine am_SB (by decide +kernel) (Nat.le_of_ble_eq_true rfl) (fun F zs as K m X ht hB hM => ?_)
  obtain ⟨v0, zs, as, rfl, rfl, hz0, ht⟩ := am_inv ht
  obtain ⟨v1, zs, as, rfl, rfl, hz1, ht⟩ := am_inv ht
  obtain ⟨rfl, rfl⟩ := am_inv0 ht
  obtain ⟨hp_v0, hM⟩ := hM
  exact S_X5_test X HR hp_v0 hB hM
set_option maxRecDepth 20000 in
set_option maxHeartbeats 4000000 in
theorem S_X5_both_L1B {F : am_F} {K : am_KK} {k : Nat} {R : Nat → am_PT} {v0 : Int} {v1 : Int} {v2 : Int} {C12 : Int → am_M → Prop} {m : am_M} (X : am_Cx F cX5_both RX5 (some .boolean) (307 + (k + 1)) 5 K) (HR : H_X5_test k R) (hp_v0 : am_ob v0 5) (hC12 : ∀ w2 m, C12 w2 m → am_Bt m → am_Z F 12 [] [(2, v0), (0, v1), (0, w2), (9, 0)] m 200) (hB : am_Bt m) (h : M_X5_both_L1B R v0 v1 v2 C12 K m) : am_Z F 12 [] [(2, v0), (0, v1), (0, v2), (9, 0)] m 200 := by
  have G := X.G
  obtain ⟨HR_X5_test, HR_X5_both, HR_X5_plain⟩ := id HR
  unfold M_X5_both_L1B at h
  refine z_iload_n (nx := 13) (a := 2) G rfl dX5_both_12 rfl (z_sipush (nx := 16) (z := 400) G (R32c rfl) rfl dX5_both_13 rfl ?_)
  refine z_icmp_ge (nx := 19) (tgt := 74) G dX5_both_16 (by decide) rfl (fun c => ?_) (fun c => ?_)
  · have h := h.1 c
    refine z_iconst (nx := 75) (z := 1) G (R32c rfl) dX5_both_74 rfl ?_
    exact b_zreturn X hB (Or.inr rfl) dX5_both_75 h
  · have h := h.2 c
    refine z_aload_n (nx := 20) (a := 0) G rfl (Or.inl rfl) dX5_both_19 rfl (z_ldcS (nx := 22) (i := 35) G (by decide) rfl dX5_both_20 rfl ?_)
    refine b_callV5 (nx := 25) (zs := [v0, 35]) (as := [(3, 35)]) X hB (by decide) rfl hp_v0 SS_X5_is (am_ta (am_ts am_tn)) (by omega) (Nat.le_of_ble_eq_true rfl) ml_RX5_55 iw_X5_is vw_X5_is cw_X5_is nw_RX5 pp_X5_is (Nat.le_of_ble_eq_true rfl) dX5_both_22 rfl (NM_X5_is hp_v0 (⟨by decide, by decide⟩) h) (fun r_1 m_2 h h01_3 hB => ?_)
    refine z_if_eq (nx := 28) (tgt := 74) G dX5_both_25 (by decide) rfl (fun c => ?_) (fun c => ?_)
    · have h := h.1 c
      refine z_iconst (nx := 75) (z := 1) G (R32c rfl) dX5_both_74 rfl ?_
      exact b_zreturn X hB (Or.inr rfl) dX5_both_75 h
    · have h := h.2 c
      refine z_aload_n (nx := 29) (a := 0) G rfl (Or.inl rfl) dX5_both_28 rfl (b_getA (nx := 32) (k0 := 1) G hB fl_RX5_19 (Nat.le_of_ble_eq_true rfl) (Nat.le_of_ble_eq_true rfl) rfl hp_v0 dX5_both_29 rfl (b_getI (nx := 35) (k0 := 1) (t := 0) G fl_RX5_145 (Nat.le_of_ble_eq_true rfl) (Nat.le_of_ble_eq_true rfl) rfl (sh_5_1 _ hp_v0) dX5_both_32 rfl ?_))
      refine b_store_n (nx := 36) (a := 3) (loc2 := fun v3_4 => [(2, v0), (0, v1), (0, v2), (0, v3_4)]) G (fun _ => rfl) (Nat.le_of_ble_eq_true rfl) (am_pl1 rfl (fun h => nomatch h)) dX5_both_35 rfl (fun v3_4 e_v3_4 => ?_)
      have h := h v3_4 e_v3_4
      refine z_aload_n (nx := 37) (a := 0) G rfl (Or.inl rfl) dX5_both_36 rfl (b_getA (nx := 40) (k0 := 1) G hB fl_RX5_19 (Nat.le_of_ble_eq_true rfl) (Nat.le_of_ble_eq_true rfl) rfl hp_v0 dX5_both_37 rfl (z_sipush (nx := 43) (z := 6144) G (R32c rfl) rfl dX5_both_40 rfl ?_))
      refine b_callV9 (nx := 46) (zs := [am_rfv v0 1, 6144]) (as := [(0, 6144)]) X hB (by decide) rfl (sh_5_1 _ hp_v0) SS_X4_add (am_ta (am_ti am_tn)) (by omega) (Nat.le_of_ble_eq_true rfl) ml_RX5_146 iw_X4_add vw_X4_add cw_X4_add nw_RX4 pp_X4_add (Nat.le_of_ble_eq_true rfl) dX5_both_43 rfl (NM_X4_add (sh_5_1 _ hp_v0) h) (fun r_5 m_6 h hB => ?_)
      refine z_aload_n (nx := 47) (a := 0) G rfl (Or.inl rfl) dX5_both_46 rfl ?_
      refine b_callV9 (nx := 50) (zs := [v0]) (as := []) X hB (by decide) rfl hp_v0 SS_X5_advance (am_ta am_tn) (by omega) (Nat.le_of_ble_eq_true rfl) ml_RX5_38 iw_X5_advance vw_X5_advance cw_X5_advance nw_RX5 pp_X5_advance (Nat.le_of_ble_eq_true rfl) dX5_both_47 rfl (NM_X5_advance hp_v0 h) (fun r_7 m_8 h hB => ?_)
      refine z_aload_n (nx := 51) (a := 0) G rfl (Or.inl rfl) dX5_both_50 rfl (z_iload_n (nx := 52) (a := 1) G rfl dX5_both_51 rfl ?_)
      refine b_callV5 (nx := 55) (zs := [v0, v1]) (as := [(0, v1)]) X hB (by decide) rfl hp_v0 (HR_X5_plain) (am_ta (am_ti am_tn)) (Nat.le_refl _) (Nat.le_of_ble_eq_true rfl) ml_RX5_152 iw_X5_plain vw_X5_plain cw_X5_plain nw_RX5 pp_X5_plain (Nat.le_of_ble_eq_true rfl) dX5_both_52 rfl h (fun r_9 m_10 h h01_11 hB => ?_)
      refine z_if_ne (nx := 58) (tgt := 60) G dX5_both_55 (by decide) rfl (fun c => ?_) (fun c => ?_)
      · have h := h.1 c
        refine z_aload_n (nx := 61) (a := 0) G rfl (Or.inl rfl) dX5_both_60 rfl (b_getA (nx := 64) (k0 := 1) G hB fl_RX5_19 (Nat.le_of_ble_eq_true rfl) (Nat.le_of_ble_eq_true rfl) rfl hp_v0 dX5_both_61 rfl (z_iload_n (nx := 65) (a := 3) G rfl dX5_both_64 rfl ?_))
        refine b_callV9 (nx := 68) (zs := [am_rfv v0 1, v3_4]) (as := [(0, v3_4)]) X hB (by decide) rfl (sh_5_1 _ hp_v0) SS_X4_skipFrom (am_ta (am_ti am_tn)) (by omega) (Nat.le_of_ble_eq_true rfl) ml_RX5_149 iw_X4_skipFrom vw_X4_skipFrom cw_X4_skipFrom nw_RX4 pp_X4_skipFrom (Nat.le_of_ble_eq_true rfl) dX5_both_65 rfl (NM_X4_skipFrom (sh_5_1 _ hp_v0) h) (fun r_12 m_13 h hB => ?_)
        refine b_iinc (nx := 71) (a := 2) (loc2 := fun v2_14 => [(2, v0), (0, v1), (0, v2_14), (0, v3_4)]) G (fun _ => rfl) rfl (am_pl1 rfl (fun h => nomatch h)) dX5_both_68 rfl (fun v2_14 e_v2_14 => ?_)
        have h := h v2_14 e_v2_14
        refine z_goto (tgt := 12) G dX5_both_71 (by decide) ?_
        exact b_fewer (loc2 := [(2, v0), (0, v1), (0, v2_14), (9, 0)]) (am_lk (am_lk (am_lk (am_lf am_ln)))) (hC12 _ _ h hB)
      · have h := h.2 c
        refine z_iconst (nx := 59) (z := 0) G (R32c rfl) dX5_both_58 rfl ?_
        exact b_zreturn X hB (Or.inl rfl) dX5_both_59 h
theorem S_X5_both_L1 {F : am_F} {K : am_KK} {k : Nat} {R : Nat → am_PT} {v0 : Int} {v1 : Int} {v2 : Int} {m : am_M} (X : am_Cx F cX5_both RX5 (some .boolean) (307 + (k + 1)) 5 K) (HR : H_X5_test k R) (hp_v0 : am_ob v0 5) (hB : am_Bt m) (h : M_X5_both_L1 R v0 v1 v2 K m) : am_Z F 12 [] [(2, v0), (0, v1), (0, v2), (9, 0)] m 200 := by
  obtain ⟨I, ⟨j, hj⟩, hI⟩ := h
  have key : ∀ j v2 m, I j v2 m → am_Bt m → am_Z F 12 [] [(2, v0), (0, v1), (0, v2), (9, 0)] m 200 := by
    intro j
    induction j using Nat.strongRecOn with
    | ind j ih =>
      intro v2 m hj hB
      exact S_X5_both_L1B X HR hp_v0 (fun v2' m' hc hB' => by
        obtain ⟨j', g1, g2⟩ := hc
        exact ih j' g1 v2' m' g2 hB') hB (hI j v2 m hj)
  exact key j _ _ hj hB
set_option maxRecDepth 20000 in
set_option maxHeartbeats 4000000 in
theorem S_X5_both {F : am_F} {K : am_KK} {k : Nat} {R : Nat → am_PT} {v0 : Int} {v1 : Int} {m : am_M} (X : am_Cx F cX5_both RX5 (some .boolean) (307 + (k + 1)) 5 K) (HR : H_X5_test k R) (hp_v0 : am_ob v0 5) (hB : am_Bt m) (h : M_X5_both R v0 v1 K m) : am_Z F 0 [] [(2, v0), (0, v1), (9, 0), (9, 0)] m 200 := by
  have G := X.G
  obtain ⟨HR_X5_test, HR_X5_both, HR_X5_plain⟩ := id HR
  unfold M_X5_both at h
  refine z_aload_n (nx := 1) (a := 0) G rfl (Or.inl rfl) dX5_both_0 rfl (z_iload_n (nx := 2) (a := 1) G rfl dX5_both_1 rfl ?_)
  refine b_callV5 (nx := 5) (zs := [v0, v1]) (as := [(0, v1)]) X hB (by decide) rfl hp_v0 (HR_X5_plain) (am_ta (am_ti am_tn)) (Nat.le_refl _) (Nat.le_of_ble_eq_true rfl) ml_RX5_152 iw_X5_plain vw_X5_plain cw_X5_plain nw_RX5 pp_X5_plain (Nat.le_of_ble_eq_true rfl) dX5_both_2 rfl h (fun r_15 m_16 h h01_17 hB => ?_)
  refine z_if_ne (nx := 8) (tgt := 10) G dX5_both_5 (by decide) rfl (fun c => ?_) (fun c => ?_)
  · have h := h.1 c
    refine z_iconst (nx := 11) (z := 0) G (R32c rfl) dX5_both_10 rfl (b_storeE_n (nx := 12) (a := 2) (loc2 := [(2, v0), (0, v1), (0, 0), (9, 0)]) G rfl (Nat.le_of_ble_eq_true rfl) (am_pl1 rfl (fun h => nomatch h)) dX5_both_11 rfl ?_)
    exact b_fewer (loc2 := [(2, v0), (0, v1), (0, 0), (9, 0)]) (am_lk (am_lk (am_lk (am_lk am_ln)))) (S_X5_both_L1 X HR hp_v0 hB h)
  · have h := h.2 c
    refine z_iconst (nx := 9) (z := 0) G (R32c rfl) dX5_both_8 rfl ?_
    exact b_zreturn X hB (Or.inl rfl) dX5_both_9 h
theorem SR_X5_both {k : Nat} {R : Nat → am_PT} (HR : H_X5_test k R) : am_Snd yX5_both cX5_both 4 (some .boolean) 0 (307 + (k + 1)) (am_L [2, 0] 5 (N_X5_both R)) := by
  refine am_SB (by decide +kernel) (Nat.le_of_ble_eq_true rfl) (fun F zs as K m X ht hB hM => ?_)
  obtain ⟨v0, zs, as, rfl, rfl, hz0, ht⟩ := am_inv ht
  obtain ⟨v1, zs, as, rfl, rfl, hz1, ht⟩ := am_inv ht
  obtain ⟨rfl, rfl⟩ := am_inv0 ht
  obtain ⟨hp_v0, hM⟩ := hM
  exact S_X5_both X HR hp_v0 hB hM
set_option maxRecDepth 20000 in
set_option maxHeartbeats 4000000 in
theorem S_X5_plain_J3 {F : am_F} {K : am_KK} {k : Nat} {R : Nat → am_PT} {v0 : Int} {v2 : Int} {m : am_M} (X : am_Cx F cX5_plain RX5 (some .boolean) (307 + (k + 1)) 5 K) (HR : H_X5_test k R) (hp_v0 : am_ob v0 5) (hB : am_Bt m) (h : M_X5_plain_J3 R v0 v2 K m) : am_Z F 155 [] [(2, v0), (9, 0), (0, v2), (9, 0)] m 200 := by
  have G := X.G
  obtain ⟨HR_X5_test, HR_X5_both, HR_X5_plain⟩ := id HR
  unfold M_X5_plain_J3 at h
  refine z_iload_n (nx := 156) (a := 2) G rfl dX5_plain_155 rfl (z_iconst (nx := 157) (z := 2) G (R32c rfl) dX5_plain_156 rfl (z_irem (nx := 158) G (by decide) dX5_plain_157 rfl (z_iconst (nx := 159) (z := 1) G (R32c rfl) dX5_plain_158 rfl ?_)))
  refine z_icmp_ne (nx := 162) (tgt := 172) G dX5_plain_159 (by decide) rfl (fun c => ?_) (fun c => ?_)
  · have h := h.1 c
    refine z_iconst (nx := 173) (z := 1) G (R32c rfl) dX5_plain_172 rfl ?_
    exact b_zreturn X hB (Or.inr rfl) dX5_plain_173 h
  · have h := h.2 c
    refine z_aload_n (nx := 163) (a := 0) G rfl (Or.inl rfl) dX5_plain_162 rfl (b_getA (nx := 166) (k0 := 1) G hB fl_RX5_19 (Nat.le_of_ble_eq_true rfl) (Nat.le_of_ble_eq_true rfl) rfl hp_v0 dX5_plain_163 rfl (z_sipush (nx := 169) (z := 4096) G (R32c rfl) rfl dX5_plain_166 rfl ?_))
    refine b_callV9 (nx := 172) (zs := [am_rfv v0 1, 4096]) (as := [(0, 4096)]) X hB (by decide) rfl (sh_5_1 _ hp_v0) SS_X4_add (am_ta (am_ti am_tn)) (by omega) (Nat.le_of_ble_eq_true rfl) ml_RX5_146 iw_X4_add vw_X4_add cw_X4_add nw_RX4 pp_X4_add (Nat.le_of_ble_eq_true rfl) dX5_plain_169 rfl (NM_X4_add (sh_5_1 _ hp_v0) h) (fun r_1 m_2 h hB => ?_)
    refine z_iconst (nx := 173) (z := 1) G (R32c rfl) dX5_plain_172 rfl ?_
    exact b_zreturn X hB (Or.inr rfl) dX5_plain_173 h
set_option maxRecDepth 20000 in
set_option maxHeartbeats 4000000 in
theorem S_X5_plain_J2 {F : am_F} {K : am_KK} {k : Nat} {R : Nat → am_PT} {v0 : Int} {v1 : Int} {v2 : Int} {s0 : Int} {m : am_M} (X : am_Cx F cX5_plain RX5 (some .boolean) (307 + (k + 1)) 5 K) (HR : H_X5_test k R) (hp_v0 : am_ob v0 5) (hB : am_Bt m) (h : M_X5_plain_J2 R v0 v1 v2 s0 K m) : am_Z F 118 [(0, s0)] [(2, v0), (0, v1), (0, v2), (9, 0)] m 200 := by
  have G := X.G
  obtain ⟨HR_X5_test, HR_X5_both, HR_X5_plain⟩ := id HR
  unfold M_X5_plain_J2 at h
  refine b_storeE_n (nx := 119) (a := 3) (loc2 := [(2, v0), (0, v1), (0, v2), (0, s0)]) G rfl (Nat.le_of_ble_eq_true rfl) (am_pl1 rfl (fun h => nomatch h)) dX5_plain_118 rfl (z_iload_n (nx := 120) (a := 3) G rfl dX5_plain_119 rfl (z_iconst (nx := 121) (z := (-1)) G (R32c rfl) dX5_plain_120 rfl ?_))
  refine z_icmp_ne (nx := 124) (tgt := 129) G dX5_plain_121 (by decide) rfl (fun c => ?_) (fun c => ?_)
  · have h := h.1 c
    refine z_aload_n (nx := 130) (a := 0) G rfl (Or.inl rfl) dX5_plain_129 rfl ?_
    refine b_callV9 (nx := 133) (zs := [v0]) (as := []) X hB (by decide) rfl hp_v0 SS_X5_advance (am_ta am_tn) (by omega) (Nat.le_of_ble_eq_true rfl) ml_RX5_38 iw_X5_advance vw_X5_advance cw_X5_advance nw_RX5 pp_X5_advance (Nat.le_of_ble_eq_true rfl) dX5_plain_130 rfl (NM_X5_advance hp_v0 h) (fun r_3 m_4 h hB => ?_)
    refine z_aload_n (nx := 134) (a := 0) G rfl (Or.inl rfl) dX5_plain_133 rfl (z_iload_n (nx := 135) (a := 1) G rfl dX5_plain_134 rfl ?_)
    refine b_callV5 (nx := 138) (zs := [v0, v1]) (as := [(0, v1)]) X hB (by decide) rfl hp_v0 SS_X5_sum (am_ta (am_ti am_tn)) (by omega) (Nat.le_of_ble_eq_true rfl) ml_RX5_137 iw_X5_sum vw_X5_sum cw_X5_sum nw_RX5 pp_X5_sum (Nat.le_of_ble_eq_true rfl) dX5_plain_135 rfl h (fun r_5 m_6 h h01_7 hB => ?_)
    refine z_if_ne (nx := 141) (tgt := 143) G dX5_plain_138 (by decide) rfl (fun c => ?_) (fun c => ?_)
    · have h := h.1 c
      refine z_aload_n (nx := 144) (a := 0) G rfl (Or.inl rfl) dX5_plain_143 rfl (b_getA (nx := 147) (k0 := 1) G hB fl_RX5_19 (Nat.le_of_ble_eq_true rfl) (Nat.le_of_ble_eq_true rfl) rfl hp_v0 dX5_plain_144 rfl (z_iload_n (nx := 148) (a := 3) G rfl dX5_plain_147 rfl (z_sipush (nx := 151) (z := 2048) G (R32c rfl) rfl dX5_plain_148 rfl (z_imul (nx := 152) G dX5_plain_151 rfl ?_))))
      refine b_callV9 (nx := 155) (zs := [am_rfv v0 1, w32 (s0 * 2048)]) (as := [(0, w32 (s0 * 2048))]) X hB (by decide) rfl (sh_5_1 _ hp_v0) SS_X4_add (am_ta (am_ti am_tn)) (by omega) (Nat.le_of_ble_eq_true rfl) ml_RX5_146 iw_X4_add vw_X4_add cw_X4_add nw_RX4 pp_X4_add (Nat.le_of_ble_eq_true rfl) dX5_plain_152 rfl (NM_X4_add (sh_5_1 _ hp_v0) h) (fun r_8 m_9 h hB => ?_)
      exact b_fewer (loc2 := [(2, v0), (9, 0), (0, v2), (9, 0)]) (am_lk (am_lf (am_lk (am_lf am_ln)))) (S_X5_plain_J3 X HR hp_v0 hB h)
    · have h := h.2 c
      refine z_iconst (nx := 142) (z := 0) G (R32c rfl) dX5_plain_141 rfl ?_
      exact b_zreturn X hB (Or.inl rfl) dX5_plain_142 h
  · have h := h.2 c
    refine z_aload_n (nx := 125) (a := 0) G rfl (Or.inl rfl) dX5_plain_124 rfl ?_
    refine b_callV5 (nx := 128) (zs := [v0]) (as := []) X hB (by decide) rfl hp_v0 SS_X5_fail (am_ta am_tn) (by omega) (Nat.le_of_ble_eq_true rfl) ml_RX5_59 iw_X5_fail vw_X5_fail cw_X5_fail nw_RX5 pp_X5_fail (Nat.le_of_ble_eq_true rfl) dX5_plain_125 rfl (NM_X5_fail hp_v0 h) (fun r_10 m_11 h h01_12 hB => ?_)
    exact b_zreturn X hB h01_12 dX5_plain_128 h
set_option maxRecDepth 20000 in
set_option maxHeartbeats 4000000 in
theorem S_X5_plain_J1 {F : am_F} {K : am_KK} {k : Nat} {R : Nat → am_PT} {v0 : Int} {v1 : Int} {v2 : Int} {m : am_M} (X : am_Cx F cX5_plain RX5 (some .boolean) (307 + (k + 1)) 5 K) (HR : H_X5_test k R) (hp_v0 : am_ob v0 5) (hB : am_Bt m) (h : M_X5_plain_J1 R v0 v1 v2 K m) : am_Z F 28 [] [(2, v0), (0, v1), (0, v2), (9, 0)] m 200 := by
  have G := X.G
  obtain ⟨HR_X5_test, HR_X5_both, HR_X5_plain⟩ := id HR
  unfold M_X5_plain_J1 at h
  refine z_aload_n (nx := 29) (a := 0) G rfl (Or.inl rfl) dX5_plain_28 rfl (z_ldcS (nx := 31) (i := 30) G (by decide) rfl dX5_plain_29 rfl ?_)
  refine b_callV5 (nx := 34) (zs := [v0, 30]) (as := [(3, 30)]) X hB (by decide) rfl hp_v0 SS_X5_is (am_ta (am_ts am_tn)) (by omega) (Nat.le_of_ble_eq_true rfl) ml_RX5_55 iw_X5_is vw_X5_is cw_X5_is nw_RX5 pp_X5_is (Nat.le_of_ble_eq_true rfl) dX5_plain_31 rfl (NM_X5_is hp_v0 (⟨by decide, by decide⟩) h) (fun r_13 m_14 h h01_15 hB => ?_)
  refine z_if_eq (nx := 37) (tgt := 66) G dX5_plain_34 (by decide) rfl (fun c => ?_) (fun c => ?_)
  · have h := h.1 c
    refine z_aload_n (nx := 67) (a := 0) G rfl (Or.inl rfl) dX5_plain_66 rfl (z_iload_n (nx := 68) (a := 1) G rfl dX5_plain_67 rfl ?_)
    refine b_callV5 (nx := 71) (zs := [v0, v1]) (as := [(0, v1)]) X hB (by decide) rfl hp_v0 SS_X5_sum (am_ta (am_ti am_tn)) (by omega) (Nat.le_of_ble_eq_true rfl) ml_RX5_137 iw_X5_sum vw_X5_sum cw_X5_sum nw_RX5 pp_X5_sum (Nat.le_of_ble_eq_true rfl) dX5_plain_68 rfl h (fun r_16 m_17 h h01_18 hB => ?_)
    refine z_if_ne (nx := 74) (tgt := 76) G dX5_plain_71 (by decide) rfl (fun c => ?_) (fun c => ?_)
    · have h := h.1 c
      refine z_aload_n (nx := 77) (a := 0) G rfl (Or.inl rfl) dX5_plain_76 rfl (z_ldcS (nx := 79) (i := 32) G (by decide) rfl dX5_plain_77 rfl ?_)
      refine b_callV5 (nx := 82) (zs := [v0, 32]) (as := [(3, 32)]) X hB (by decide) rfl hp_v0 SS_X5_is (am_ta (am_ts am_tn)) (by omega) (Nat.le_of_ble_eq_true rfl) ml_RX5_55 iw_X5_is vw_X5_is cw_X5_is nw_RX5 pp_X5_is (Nat.le_of_ble_eq_true rfl) dX5_plain_79 rfl (NM_X5_is hp_v0 (⟨by decide, by decide⟩) h) (fun r_19 m_20 h h01_21 hB => ?_)
      refine z_if_eq (nx := 85) (tgt := 89) G dX5_plain_82 (by decide) rfl (fun c => ?_) (fun c => ?_)
      · have h := h.1 c
        refine z_aload_n (nx := 90) (a := 0) G rfl (Or.inl rfl) dX5_plain_89 rfl (z_ldcS (nx := 92) (i := 33) G (by decide) rfl dX5_plain_90 rfl ?_)
        refine b_callV5 (nx := 95) (zs := [v0, 33]) (as := [(3, 33)]) X hB (by decide) rfl hp_v0 SS_X5_is (am_ta (am_ts am_tn)) (by omega) (Nat.le_of_ble_eq_true rfl) ml_RX5_55 iw_X5_is vw_X5_is cw_X5_is nw_RX5 pp_X5_is (Nat.le_of_ble_eq_true rfl) dX5_plain_92 rfl (NM_X5_is hp_v0 (⟨by decide, by decide⟩) h) (fun r_22 m_23 h h01_24 hB => ?_)
        refine z_if_eq (nx := 98) (tgt := 103) G dX5_plain_95 (by decide) rfl (fun c => ?_) (fun c => ?_)
        · have h := h.1 c
          refine z_aload_n (nx := 104) (a := 0) G rfl (Or.inl rfl) dX5_plain_103 rfl (z_ldcS (nx := 106) (i := 34) G (by decide) rfl dX5_plain_104 rfl ?_)
          refine b_callV5 (nx := 109) (zs := [v0, 34]) (as := [(3, 34)]) X hB (by decide) rfl hp_v0 SS_X5_is (am_ta (am_ts am_tn)) (by omega) (Nat.le_of_ble_eq_true rfl) ml_RX5_55 iw_X5_is vw_X5_is cw_X5_is nw_RX5 pp_X5_is (Nat.le_of_ble_eq_true rfl) dX5_plain_106 rfl (NM_X5_is hp_v0 (⟨by decide, by decide⟩) h) (fun r_25 m_26 h h01_27 hB => ?_)
          refine z_if_eq (nx := 112) (tgt := 117) G dX5_plain_109 (by decide) rfl (fun c => ?_) (fun c => ?_)
          · have h := h.1 c
            refine z_iconst (nx := 118) (z := (-1)) G (R32c rfl) dX5_plain_117 rfl ?_
            exact b_fewer (loc2 := [(2, v0), (0, v1), (0, v2), (9, 0)]) (am_lk (am_lk (am_lk (am_lk am_ln)))) (S_X5_plain_J2 X HR hp_v0 hB h)
          · have h := h.2 c
            refine z_bipush (nx := 114) (z := 7) G (R32c rfl) rfl dX5_plain_112 rfl (z_goto (tgt := 118) G dX5_plain_114 (by decide) ?_)
            exact b_fewer (loc2 := [(2, v0), (0, v1), (0, v2), (9, 0)]) (am_lk (am_lk (am_lk (am_lk am_ln)))) (S_X5_plain_J2 X HR hp_v0 hB h)
        · have h := h.2 c
          refine z_bipush (nx := 100) (z := 6) G (R32c rfl) rfl dX5_plain_98 rfl (z_goto (tgt := 118) G dX5_plain_100 (by decide) ?_)
          exact b_fewer (loc2 := [(2, v0), (0, v1), (0, v2), (9, 0)]) (am_lk (am_lk (am_lk (am_lk am_ln)))) (S_X5_plain_J2 X HR hp_v0 hB h)
      · have h := h.2 c
        refine z_iconst (nx := 86) (z := 5) G (R32c rfl) dX5_plain_85 rfl (z_goto (tgt := 118) G dX5_plain_86 (by decide) ?_)
        exact b_fewer (loc2 := [(2, v0), (0, v1), (0, v2), (9, 0)]) (am_lk (am_lk (am_lk (am_lk am_ln)))) (S_X5_plain_J2 X HR hp_v0 hB h)
    · have h := h.2 c
      refine z_iconst (nx := 75) (z := 0) G (R32c rfl) dX5_plain_74 rfl ?_
      exact b_zreturn X hB (Or.inl rfl) dX5_plain_75 h
  · have h := h.2 c
    refine z_aload_n (nx := 38) (a := 0) G rfl (Or.inl rfl) dX5_plain_37 rfl (z_iload_n (nx := 39) (a := 1) G rfl dX5_plain_38 rfl ?_)
    refine b_callV5 (nx := 42) (zs := [v0, v1]) (as := [(0, v1)]) X hB (by decide) rfl hp_v0 SS_X5_openBracket (am_ta (am_ti am_tn)) (by omega) (Nat.le_of_ble_eq_true rfl) ml_RX5_161 iw_X5_openBracket vw_X5_openBracket cw_X5_openBracket nw_RX5 pp_X5_openBracket (Nat.le_of_ble_eq_true rfl) dX5_plain_39 rfl (NM_X5_openBracket hp_v0 h) (fun r_28 m_29 h h01_30 hB => ?_)
    refine z_if_eq (nx := 45) (tgt := 64) G dX5_plain_42 (by decide) rfl (fun c => ?_) (fun c => ?_)
    · have h := h.1 c
      refine z_iconst (nx := 65) (z := 0) G (R32c rfl) dX5_plain_64 rfl ?_
      exact b_zreturn X hB (Or.inl rfl) dX5_plain_65 h
    · have h := h.2 c
      refine z_aload_n (nx := 46) (a := 0) G rfl (Or.inl rfl) dX5_plain_45 rfl (z_iload_n (nx := 47) (a := 1) G rfl dX5_plain_46 rfl (z_iconst (nx := 48) (z := 1) G (R32c rfl) dX5_plain_47 rfl (z_iadd (nx := 49) G dX5_plain_48 rfl ?_)))
      refine b_callV5 (nx := 52) (zs := [v0, w32 (v1 + 1)]) (as := [(0, w32 (v1 + 1))]) X hB (by decide) rfl hp_v0 (HR_X5_test) (am_ta (am_ti am_tn)) (Nat.le_refl _) (Nat.le_of_ble_eq_true rfl) ml_RX5_113 iw_X5_test vw_X5_test cw_X5_test nw_RX5 pp_X5_test (Nat.le_of_ble_eq_true rfl) dX5_plain_49 rfl h (fun r_31 m_32 h h01_33 hB => ?_)
      refine z_if_eq (nx := 55) (tgt := 64) G dX5_plain_52 (by decide) rfl (fun c => ?_) (fun c => ?_)
      · have h := h.1 c
        refine z_iconst (nx := 65) (z := 0) G (R32c rfl) dX5_plain_64 rfl ?_
        exact b_zreturn X hB (Or.inl rfl) dX5_plain_65 h
      · have h := h.2 c
        refine z_aload_n (nx := 56) (a := 0) G rfl (Or.inl rfl) dX5_plain_55 rfl (z_ldcS (nx := 58) (i := 31) G (by decide) rfl dX5_plain_56 rfl ?_)
        refine b_callV5 (nx := 61) (zs := [v0, 31]) (as := [(3, 31)]) X hB (by decide) rfl hp_v0 SS_X5_pass (am_ta (am_ts am_tn)) (by omega) (Nat.le_of_ble_eq_true rfl) ml_RX5_134 iw_X5_pass vw_X5_pass cw_X5_pass nw_RX5 pp_X5_pass (Nat.le_of_ble_eq_true rfl) dX5_plain_58 rfl (NM_X5_pass hp_v0 (⟨by decide, by decide⟩) h) (fun r_34 m_35 h h01_36 hB => ?_)
        refine z_if_ne (nx := 64) (tgt := 155) G dX5_plain_61 (by decide) rfl (fun c => ?_) (fun c => ?_)
        · have h := h.1 c
          exact b_fewer (loc2 := [(2, v0), (9, 0), (0, v2), (9, 0)]) (am_lk (am_lf (am_lk (am_lk am_ln)))) (S_X5_plain_J3 X HR hp_v0 hB h)
        · have h := h.2 c
          refine z_iconst (nx := 65) (z := 0) G (R32c rfl) dX5_plain_64 rfl ?_
          exact b_zreturn X hB (Or.inl rfl) dX5_plain_65 h
set_option maxRecDepth 20000 in
set_option maxHeartbeats 4000000 in
theorem S_X5_plain_L1B {F : am_F} {K : am_KK} {k : Nat} {R : Nat → am_PT} {v0 : Int} {v1 : Int} {v2 : Int} {C2 : Int → am_M → Prop} {m : am_M} (X : am_Cx F cX5_plain RX5 (some .boolean) (307 + (k + 1)) 5 K) (HR : H_X5_test k R) (hp_v0 : am_ob v0 5) (hC2 : ∀ w2 m, C2 w2 m → am_Bt m → am_Z F 2 [] [(2, v0), (0, v1), (0, w2), (9, 0)] m 200) (hB : am_Bt m) (h : M_X5_plain_L1B R v0 v1 v2 C2 K m) : am_Z F 2 [] [(2, v0), (0, v1), (0, v2), (9, 0)] m 200 := by
  have G := X.G
  obtain ⟨HR_X5_test, HR_X5_both, HR_X5_plain⟩ := id HR
  unfold M_X5_plain_L1B at h
  refine z_iload_n (nx := 3) (a := 2) G rfl dX5_plain_2 rfl (z_sipush (nx := 6) (z := 400) G (R32c rfl) rfl dX5_plain_3 rfl ?_)
  refine z_icmp_ge (nx := 9) (tgt := 28) G dX5_plain_6 (by decide) rfl (fun c => ?_) (fun c => ?_)
  · have h := h.1 c
    exact b_fewer (loc2 := [(2, v0), (0, v1), (0, v2), (9, 0)]) (am_lk (am_lk (am_lk (am_lk am_ln)))) (S_X5_plain_J1 X HR hp_v0 hB h)
  · have h := h.2 c
    refine z_aload_n (nx := 10) (a := 0) G rfl (Or.inl rfl) dX5_plain_9 rfl (z_ldcS (nx := 12) (i := 29) G (by decide) rfl dX5_plain_10 rfl ?_)
    refine b_callV5 (nx := 15) (zs := [v0, 29]) (as := [(3, 29)]) X hB (by decide) rfl hp_v0 SS_X5_is (am_ta (am_ts am_tn)) (by omega) (Nat.le_of_ble_eq_true rfl) ml_RX5_55 iw_X5_is vw_X5_is cw_X5_is nw_RX5 pp_X5_is (Nat.le_of_ble_eq_true rfl) dX5_plain_12 rfl (NM_X5_is hp_v0 (⟨by decide, by decide⟩) h) (fun r_37 m_38 h h01_39 hB => ?_)
    refine z_if_eq (nx := 18) (tgt := 28) G dX5_plain_15 (by decide) rfl (fun c => ?_) (fun c => ?_)
    · have h := h.1 c
      exact b_fewer (loc2 := [(2, v0), (0, v1), (0, v2), (9, 0)]) (am_lk (am_lk (am_lk (am_lk am_ln)))) (S_X5_plain_J1 X HR hp_v0 hB h)
    · have h := h.2 c
      refine b_iinc (nx := 21) (a := 2) (loc2 := fun v2_40 => [(2, v0), (0, v1), (0, v2_40), (9, 0)]) G (fun _ => rfl) rfl (am_pl1 rfl (fun h => nomatch h)) dX5_plain_18 rfl (fun v2_40 e_v2_40 => ?_)
      have h := h v2_40 e_v2_40
      refine z_aload_n (nx := 22) (a := 0) G rfl (Or.inl rfl) dX5_plain_21 rfl ?_
      refine b_callV9 (nx := 25) (zs := [v0]) (as := []) X hB (by decide) rfl hp_v0 SS_X5_advance (am_ta am_tn) (by omega) (Nat.le_of_ble_eq_true rfl) ml_RX5_38 iw_X5_advance vw_X5_advance cw_X5_advance nw_RX5 pp_X5_advance (Nat.le_of_ble_eq_true rfl) dX5_plain_22 rfl (NM_X5_advance hp_v0 h) (fun r_41 m_42 h hB => ?_)
      refine z_goto (tgt := 2) G dX5_plain_25 (by decide) ?_
      exact b_fewer (loc2 := [(2, v0), (0, v1), (0, v2_40), (9, 0)]) (am_lk (am_lk (am_lk (am_lk am_ln)))) (hC2 _ _ h hB)
theorem S_X5_plain_L1 {F : am_F} {K : am_KK} {k : Nat} {R : Nat → am_PT} {v0 : Int} {v1 : Int} {v2 : Int} {m : am_M} (X : am_Cx F cX5_plain RX5 (some .boolean) (307 + (k + 1)) 5 K) (HR : H_X5_test k R) (hp_v0 : am_ob v0 5) (hB : am_Bt m) (h : M_X5_plain_L1 R v0 v1 v2 K m) : am_Z F 2 [] [(2, v0), (0, v1), (0, v2), (9, 0)] m 200 := by
  obtain ⟨I, ⟨j, hj⟩, hI⟩ := h
  have key : ∀ j v2 m, I j v2 m → am_Bt m → am_Z F 2 [] [(2, v0), (0, v1), (0, v2), (9, 0)] m 200 := by
    intro j
    induction j using Nat.strongRecOn with
    | ind j ih =>
      intro v2 m hj hB
      exact S_X5_plain_L1B X HR hp_v0 (fun v2' m' hc hB' => by
        obtain ⟨j', g1, g2⟩ := hc
        exact ih j' g1 v2' m' g2 hB') hB (hI j v2 m hj)
  exact key j _ _ hj hB
set_option maxRecDepth 20000 in
set_option maxHeartbeats 4000000 in
theorem S_X5_plain {F : am_F} {K : am_KK} {k : Nat} {R : Nat → am_PT} {v0 : Int} {v1 : Int} {m : am_M} (X : am_Cx F cX5_plain RX5 (some .boolean) (307 + (k + 1)) 5 K) (HR : H_X5_test k R) (hp_v0 : am_ob v0 5) (hB : am_Bt m) (h : M_X5_plain R v0 v1 K m) : am_Z F 0 [] [(2, v0), (0, v1), (9, 0), (9, 0)] m 200 := by
  have G := X.G
  obtain ⟨HR_X5_test, HR_X5_both, HR_X5_plain⟩ := id HR
  unfold M_X5_plain at h
  refine z_iconst (nx := 1) (z := 0) G (R32c rfl) dX5_plain_0 rfl (b_storeE_n (nx := 2) (a := 2) (loc2 := [(2, v0), (0, v1), (0, 0), (9, 0)]) G rfl (Nat.le_of_ble_eq_true rfl) (am_pl1 rfl (fun h => nomatch h)) dX5_plain_1 rfl ?_)
  exact b_fewer (loc2 := [(2, v0), (0, v1), (0, 0), (9, 0)]) (am_lk (am_lk (am_lk (am_lk am_ln)))) (S_X5_plain_L1 X HR hp_v0 hB h)
theorem SR_X5_plain {k : Nat} {R : Nat → am_PT} (HR : H_X5_test k R) : am_Snd yX5_plain cX5_plain 4 (some .boolean) 0 (307 + (k + 1)) (am_L [2, 0] 5 (N_X5_plain R)) := by
  refine am_SB (by decide +kernel) (Nat.le_of_ble_eq_true rfl) (fun F zs as K m X ht hB hM => ?_)
  obtain ⟨v0, zs, as, rfl, rfl, hz0, ht⟩ := am_inv ht
  obtain ⟨v1, zs, as, rfl, rfl, hz1, ht⟩ := am_inv ht
  obtain ⟨rfl, rfl⟩ := am_inv0 ht
  obtain ⟨hp_v0, hM⟩ := hM
  exact S_X5_plain X HR hp_v0 hB hM
theorem HH_X5_test : ∀ k, H_X5_test k (R_X5_test k) := by
  intro k
  induction k with
  | zero => exact ⟨am_Snd_false, am_Snd_false, am_Snd_false⟩
  | succ k ih => exact ⟨SR_X5_test ih, SR_X5_both ih, SR_X5_plain ih⟩
theorem SS_X5_test : am_Snd yX5_test cX5_test 4 (some .boolean) 0 608 (am_L [2, 0] 5 (R_X5_test 301 0)) := (HH_X5_test 301).1
theorem SS_X5_both : am_Snd yX5_both cX5_both 4 (some .boolean) 0 608 (am_L [2, 0] 5 (R_X5_test 301 1)) := (HH_X5_test 301).2.1
theorem SS_X5_plain : am_Snd yX5_plain cX5_plain 4 (some .boolean) 0 608 (am_L [2, 0] 5 (R_X5_test 301 2)) := (HH_X5_test 301).2.2
set_option maxRecDepth 20000 in
set_option maxHeartbeats 4000000 in
theorem S_X5_clause_J3 {F : am_F} {K : am_KK} {v0 : Int} {m : am_M} (X : am_Cx F cX5_clause RX5 (some .boolean) 609 5 K) (hp_v0 : am_ob v0 5) (hB : am_Bt m) (h : M_X5_clause_J3 v0 K m) : am_Z F 153 [] [(2, v0), (9, 0), (9, 0), (9, 0)] m 200 := by
  have G := X.G
  unfold M_X5_clause_J3 at h
  refine z_aload_n (nx := 154) (a := 0) G rfl (Or.inl rfl) dX5_clause_153 rfl (b_getA (nx := 157) (k0 := 1) G hB fl_RX5_19 (Nat.le_of_ble_eq_true rfl) (Nat.le_of_ble_eq_true rfl) rfl hp_v0 dX5_clause_154 rfl (z_iconst (nx := 158) (z := 4) G (R32c rfl) dX5_clause_157 rfl ?_))
  refine b_callV9 (nx := 161) (zs := [am_rfv v0 1, 4]) (as := [(0, 4)]) X hB (by decide) rfl (sh_5_1 _ hp_v0) SS_X4_mark (am_ta (am_ti am_tn)) (Nat.le_of_ble_eq_true rfl) (Nat.le_of_ble_eq_true rfl) ml_RX5_116 iw_X4_mark vw_X4_mark cw_X4_mark nw_RX4 pp_X4_mark (Nat.le_of_ble_eq_true rfl) dX5_clause_158 rfl (NM_X4_mark (sh_5_1 _ hp_v0) h) (fun r_1 m_2 h hB => ?_)
  refine z_iconst (nx := 162) (z := 1) G (R32c rfl) dX5_clause_161 rfl ?_
  exact b_zreturn X hB (Or.inr rfl) dX5_clause_162 h
set_option maxRecDepth 20000 in
set_option maxHeartbeats 4000000 in
theorem S_X5_clause_J2 {F : am_F} {K : am_KK} {v0 : Int} {m : am_M} (X : am_Cx F cX5_clause RX5 (some .boolean) 609 5 K) (hp_v0 : am_ob v0 5) (hB : am_Bt m) (h : M_X5_clause_J2 v0 K m) : am_Z F 130 [] [(2, v0), (9, 0), (9, 0), (9, 0)] m 200 := by
  have G := X.G
  unfold M_X5_clause_J2 at h
  refine z_aload_n (nx := 131) (a := 0) G rfl (Or.inl rfl) dX5_clause_130 rfl (z_ldcS (nx := 133) (i := 28) G (by decide) rfl dX5_clause_131 rfl ?_)
  refine b_callV5 (nx := 136) (zs := [v0, 28]) (as := [(3, 28)]) X hB (by decide) rfl hp_v0 SS_X5_is (am_ta (am_ts am_tn)) (Nat.le_of_ble_eq_true rfl) (Nat.le_of_ble_eq_true rfl) ml_RX5_55 iw_X5_is vw_X5_is cw_X5_is nw_RX5 pp_X5_is (Nat.le_of_ble_eq_true rfl) dX5_clause_133 rfl (NM_X5_is hp_v0 (⟨by decide, by decide⟩) h) (fun r_3 m_4 h h01_5 hB => ?_)
  refine z_if_eq (nx := 139) (tgt := 153) G dX5_clause_136 (by decide) rfl (fun c => ?_) (fun c => ?_)
  · have h := h.1 c
    exact b_fewer (loc2 := [(2, v0), (9, 0), (9, 0), (9, 0)]) (am_lk (am_lk (am_lk (am_lk am_ln)))) (S_X5_clause_J3 X hp_v0 hB h)
  · have h := h.2 c
    refine z_aload_n (nx := 140) (a := 0) G rfl (Or.inl rfl) dX5_clause_139 rfl ?_
    refine b_callV9 (nx := 143) (zs := [v0]) (as := []) X hB (by decide) rfl hp_v0 SS_X5_advance (am_ta am_tn) (Nat.le_of_ble_eq_true rfl) (Nat.le_of_ble_eq_true rfl) ml_RX5_38 iw_X5_advance vw_X5_advance cw_X5_advance nw_RX5 pp_X5_advance (Nat.le_of_ble_eq_true rfl) dX5_clause_140 rfl (NM_X5_advance hp_v0 h) (fun r_6 m_7 h hB => ?_)
    refine z_aload_n (nx := 144) (a := 0) G rfl (Or.inl rfl) dX5_clause_143 rfl (z_iconst (nx := 145) (z := 0) G (R32c rfl) dX5_clause_144 rfl ?_)
    refine b_callV5 (nx := 148) (zs := [v0, 0]) (as := [(0, 0)]) X hB (by decide) rfl hp_v0 SS_X5_test (am_ta (am_ti am_tn)) (Nat.le_of_ble_eq_true rfl) (Nat.le_of_ble_eq_true rfl) ml_RX5_113 iw_X5_test vw_X5_test cw_X5_test nw_RX5 pp_X5_test (Nat.le_of_ble_eq_true rfl) dX5_clause_145 rfl h (fun r_8 m_9 h h01_10 hB => ?_)
    refine z_if_ne (nx := 151) (tgt := 153) G dX5_clause_148 (by decide) rfl (fun c => ?_) (fun c => ?_)
    · have h := h.1 c
      exact b_fewer (loc2 := [(2, v0), (9, 0), (9, 0), (9, 0)]) (am_lk (am_lk (am_lk (am_lk am_ln)))) (S_X5_clause_J3 X hp_v0 hB h)
    · have h := h.2 c
      refine z_iconst (nx := 152) (z := 0) G (R32c rfl) dX5_clause_151 rfl ?_
      exact b_zreturn X hB (Or.inl rfl) dX5_clause_152 h
set_option maxRecDepth 20000 in
set_option maxHeartbeats 4000000 in
theorem S_X5_clause_J1 {F : am_F} {K : am_KK} {v0 : Int} {v1 : Int} {s0 : Int} {m : am_M} (X : am_Cx F cX5_clause RX5 (some .boolean) 609 5 K) (hp_v0 : am_ob v0 5) (hB : am_Bt m) (h : M_X5_clause_J1 v0 v1 s0 K m) : am_Z F 24 [(0, s0)] [(2, v0), (0, v1), (9, 0), (9, 0)] m 200 := by
  have G := X.G
  unfold M_X5_clause_J1 at h
  refine b_storeE_n (nx := 25) (a := 2) (loc2 := [(2, v0), (0, v1), (0, s0), (9, 0)]) G rfl (Nat.le_of_ble_eq_true rfl) (am_pl1 rfl (fun h => nomatch h)) dX5_clause_24 rfl (z_iload_n (nx := 26) (a := 2) G rfl dX5_clause_25 rfl (z_iconst (nx := 27) (z := (-1)) G (R32c rfl) dX5_clause_26 rfl ?_))
  refine z_icmp_ne (nx := 30) (tgt := 35) G dX5_clause_27 (by decide) rfl (fun c => ?_) (fun c => ?_)
  · have h := h.1 c
    refine z_aload_n (nx := 36) (a := 0) G rfl (Or.inl rfl) dX5_clause_35 rfl (b_getA (nx := 39) (k0 := 1) G hB fl_RX5_19 (Nat.le_of_ble_eq_true rfl) (Nat.le_of_ble_eq_true rfl) rfl hp_v0 dX5_clause_36 rfl (b_getA (nx := 42) (k0 := 2) G hB fl_RX5_92 (Nat.le_of_ble_eq_true rfl) (Nat.le_of_ble_eq_true rfl) rfl (sh_5_1 _ hp_v0) dX5_clause_39 rfl (z_iload_n (nx := 43) (a := 2) G rfl dX5_clause_42 rfl (z_iconst (nx := 44) (z := 0) G (R32c rfl) dX5_clause_43 rfl (z_iload_n (nx := 45) (a := 1) G rfl dX5_clause_44 rfl ?_)))))
    refine b_callV9 (nx := 48) (zs := [am_rfv (am_rfv v0 1) 2, s0, 0, v1]) (as := [(0, s0), (0, 0), (0, v1)]) X hB (by decide) rfl (sh_4_2 _ (sh_5_1 _ hp_v0)) SS_X7_set (am_ta (am_ti (am_ti (am_ti am_tn)))) (Nat.le_of_ble_eq_true rfl) (Nat.le_of_ble_eq_true rfl) ml_RX5_98 iw_X7_set vw_X7_set cw_X7_set nw_RX7 pp_X7_set (Nat.le_of_ble_eq_true rfl) dX5_clause_45 rfl (NM_X7_set (sh_4_2 _ (sh_5_1 _ hp_v0)) h) (fun r_11 m_12 h hB => ?_)
    refine z_aload_n (nx := 49) (a := 0) G rfl (Or.inl rfl) dX5_clause_48 rfl (b_getA (nx := 52) (k0 := 1) G hB fl_RX5_19 (Nat.le_of_ble_eq_true rfl) (Nat.le_of_ble_eq_true rfl) rfl hp_v0 dX5_clause_49 rfl (b_getA (nx := 55) (k0 := 2) G hB fl_RX5_92 (Nat.le_of_ble_eq_true rfl) (Nat.le_of_ble_eq_true rfl) rfl (sh_5_1 _ hp_v0) dX5_clause_52 rfl (z_iload_n (nx := 56) (a := 2) G rfl dX5_clause_55 rfl (z_iconst (nx := 57) (z := 1) G (R32c rfl) dX5_clause_56 rfl (z_iconst (nx := 58) (z := 1) G (R32c rfl) dX5_clause_57 rfl ?_)))))
    refine b_callV9 (nx := 61) (zs := [am_rfv (am_rfv v0 1) 2, s0, 1, 1]) (as := [(0, s0), (0, 1), (0, 1)]) X hB (by decide) rfl (sh_4_2 _ (sh_5_1 _ hp_v0)) SS_X7_set (am_ta (am_ti (am_ti (am_ti am_tn)))) (Nat.le_of_ble_eq_true rfl) (Nat.le_of_ble_eq_true rfl) ml_RX5_98 iw_X7_set vw_X7_set cw_X7_set nw_RX7 pp_X7_set (Nat.le_of_ble_eq_true rfl) dX5_clause_58 rfl (NM_X7_set (sh_4_2 _ (sh_5_1 _ hp_v0)) h) (fun r_13 m_14 h hB => ?_)
    refine z_aload_n (nx := 62) (a := 0) G rfl (Or.inl rfl) dX5_clause_61 rfl ?_
    refine b_callV9 (nx := 65) (zs := [v0]) (as := []) X hB (by decide) rfl hp_v0 SS_X5_advance (am_ta am_tn) (Nat.le_of_ble_eq_true rfl) (Nat.le_of_ble_eq_true rfl) ml_RX5_38 iw_X5_advance vw_X5_advance cw_X5_advance nw_RX5 pp_X5_advance (Nat.le_of_ble_eq_true rfl) dX5_clause_62 rfl (NM_X5_advance hp_v0 h) (fun r_15 m_16 h hB => ?_)
    refine z_aload_n (nx := 66) (a := 0) G rfl (Or.inl rfl) dX5_clause_65 rfl (z_iload_n (nx := 67) (a := 1) G rfl dX5_clause_66 rfl ?_)
    refine b_callV5 (nx := 70) (zs := [v0, v1]) (as := [(0, v1)]) X hB (by decide) rfl hp_v0 SS_X5_sums (am_ta (am_ti am_tn)) (Nat.le_of_ble_eq_true rfl) (Nat.le_of_ble_eq_true rfl) ml_RX5_102 iw_X5_sums vw_X5_sums cw_X5_sums nw_RX5 pp_X5_sums (Nat.le_of_ble_eq_true rfl) dX5_clause_67 rfl (NM_X5_sums hp_v0 h) (fun r_17 m_18 h h01_19 hB => ?_)
    refine z_if_ne (nx := 73) (tgt := 75) G dX5_clause_70 (by decide) rfl (fun c => ?_) (fun c => ?_)
    · have h := h.1 c
      refine z_aload_n (nx := 76) (a := 0) G rfl (Or.inl rfl) dX5_clause_75 rfl (b_getI (nx := 79) (k0 := 2) (t := 0) G fl_RX5_23 (Nat.le_of_ble_eq_true rfl) (Nat.le_of_ble_eq_true rfl) rfl hp_v0 dX5_clause_76 rfl ?_)
      refine z_if_eq (nx := 82) (tgt := 130) G dX5_clause_79 (by decide) rfl (fun c => ?_) (fun c => ?_)
      · have h := h.1 c
        exact b_fewer (loc2 := [(2, v0), (9, 0), (9, 0), (9, 0)]) (am_lk (am_lf (am_lf (am_lk am_ln)))) (S_X5_clause_J2 X hp_v0 hB h)
      · have h := h.2 c
        refine z_aload_n (nx := 83) (a := 0) G rfl (Or.inl rfl) dX5_clause_82 rfl (z_ldcS (nx := 85) (i := 27) G (by decide) rfl dX5_clause_83 rfl ?_)
        refine b_callV5 (nx := 88) (zs := [v0, 27]) (as := [(3, 27)]) X hB (by decide) rfl hp_v0 SS_X5_is (am_ta (am_ts am_tn)) (Nat.le_of_ble_eq_true rfl) (Nat.le_of_ble_eq_true rfl) ml_RX5_55 iw_X5_is vw_X5_is cw_X5_is nw_RX5 pp_X5_is (Nat.le_of_ble_eq_true rfl) dX5_clause_85 rfl (NM_X5_is hp_v0 (⟨by decide, by decide⟩) h) (fun r_20 m_21 h h01_22 hB => ?_)
        refine z_if_eq (nx := 91) (tgt := 130) G dX5_clause_88 (by decide) rfl (fun c => ?_) (fun c => ?_)
        · have h := h.1 c
          exact b_fewer (loc2 := [(2, v0), (9, 0), (9, 0), (9, 0)]) (am_lk (am_lf (am_lf (am_lk am_ln)))) (S_X5_clause_J2 X hp_v0 hB h)
        · have h := h.2 c
          refine z_aload_n (nx := 92) (a := 0) G rfl (Or.inl rfl) dX5_clause_91 rfl ?_
          refine b_callV9 (nx := 95) (zs := [v0]) (as := []) X hB (by decide) rfl hp_v0 SS_X5_advance (am_ta am_tn) (Nat.le_of_ble_eq_true rfl) (Nat.le_of_ble_eq_true rfl) ml_RX5_38 iw_X5_advance vw_X5_advance cw_X5_advance nw_RX5 pp_X5_advance (Nat.le_of_ble_eq_true rfl) dX5_clause_92 rfl (NM_X5_advance hp_v0 h) (fun r_23 m_24 h hB => ?_)
          refine z_aload_n (nx := 96) (a := 0) G rfl (Or.inl rfl) dX5_clause_95 rfl (z_iconst (nx := 97) (z := 1) G (R32c rfl) dX5_clause_96 rfl (z_bipush (nx := 99) (z := 20) G (R32c rfl) rfl dX5_clause_97 rfl ?_))
          refine b_callV0 (nx := 102) (zs := [v0, 1, 20]) (as := [(0, 1), (0, 20)]) X hB (by decide) rfl hp_v0 SS_X5_number (am_ta (am_ti (am_ti am_tn))) (Nat.le_of_ble_eq_true rfl) (Nat.le_of_ble_eq_true rfl) ml_RX5_108 iw_X5_number vw_X5_number cw_X5_number nw_RX5 pp_X5_number (Nat.le_of_ble_eq_true rfl) dX5_clause_99 rfl (NM_X5_number hp_v0 h) (fun r_25 m_26 h hB => ?_)
          refine b_storeE_n (nx := 103) (a := 3) (loc2 := [(2, v0), (0, v1), (0, s0), (0, r_25)]) G rfl (Nat.le_of_ble_eq_true rfl) (am_pl1 rfl (fun h => nomatch h)) dX5_clause_102 rfl (z_iload_n (nx := 104) (a := 3) G rfl dX5_clause_103 rfl (z_iconst (nx := 105) (z := (-1)) G (R32c rfl) dX5_clause_104 rfl ?_))
          refine z_icmp_ne (nx := 108) (tgt := 113) G dX5_clause_105 (by decide) rfl (fun c => ?_) (fun c => ?_)
          · have h := h.1 c
            refine z_aload_n (nx := 114) (a := 0) G rfl (Or.inl rfl) dX5_clause_113 rfl (b_getA (nx := 117) (k0 := 1) G hB fl_RX5_19 (Nat.le_of_ble_eq_true rfl) (Nat.le_of_ble_eq_true rfl) rfl hp_v0 dX5_clause_114 rfl (b_getA (nx := 120) (k0 := 2) G hB fl_RX5_92 (Nat.le_of_ble_eq_true rfl) (Nat.le_of_ble_eq_true rfl) rfl (sh_5_1 _ hp_v0) dX5_clause_117 rfl (z_iload_n (nx := 121) (a := 2) G rfl dX5_clause_120 rfl (z_iconst (nx := 122) (z := 1) G (R32c rfl) dX5_clause_121 rfl (z_iload_n (nx := 123) (a := 3) G rfl dX5_clause_122 rfl ?_)))))
            refine b_callV9 (nx := 126) (zs := [am_rfv (am_rfv v0 1) 2, s0, 1, r_25]) (as := [(0, s0), (0, 1), (0, r_25)]) X hB (by decide) rfl (sh_4_2 _ (sh_5_1 _ hp_v0)) SS_X7_set (am_ta (am_ti (am_ti (am_ti am_tn)))) (Nat.le_of_ble_eq_true rfl) (Nat.le_of_ble_eq_true rfl) ml_RX5_98 iw_X7_set vw_X7_set cw_X7_set nw_RX7 pp_X7_set (Nat.le_of_ble_eq_true rfl) dX5_clause_123 rfl (NM_X7_set (sh_4_2 _ (sh_5_1 _ hp_v0)) h) (fun r_27 m_28 h hB => ?_)
            refine z_aload_n (nx := 127) (a := 0) G rfl (Or.inl rfl) dX5_clause_126 rfl ?_
            refine b_callV9 (nx := 130) (zs := [v0]) (as := []) X hB (by decide) rfl hp_v0 SS_X5_advance (am_ta am_tn) (Nat.le_of_ble_eq_true rfl) (Nat.le_of_ble_eq_true rfl) ml_RX5_38 iw_X5_advance vw_X5_advance cw_X5_advance nw_RX5 pp_X5_advance (Nat.le_of_ble_eq_true rfl) dX5_clause_127 rfl (NM_X5_advance hp_v0 h) (fun r_29 m_30 h hB => ?_)
            exact b_fewer (loc2 := [(2, v0), (9, 0), (9, 0), (9, 0)]) (am_lk (am_lf (am_lf (am_lf am_ln)))) (S_X5_clause_J2 X hp_v0 hB h)
          · have h := h.2 c
            refine z_aload_n (nx := 109) (a := 0) G rfl (Or.inl rfl) dX5_clause_108 rfl ?_
            refine b_callV5 (nx := 112) (zs := [v0]) (as := []) X hB (by decide) rfl hp_v0 SS_X5_fail (am_ta am_tn) (Nat.le_of_ble_eq_true rfl) (Nat.le_of_ble_eq_true rfl) ml_RX5_59 iw_X5_fail vw_X5_fail cw_X5_fail nw_RX5 pp_X5_fail (Nat.le_of_ble_eq_true rfl) dX5_clause_109 rfl (NM_X5_fail hp_v0 h) (fun r_31 m_32 h h01_33 hB => ?_)
            exact b_zreturn X hB h01_33 dX5_clause_112 h
    · have h := h.2 c
      refine z_iconst (nx := 74) (z := 0) G (R32c rfl) dX5_clause_73 rfl ?_
      exact b_zreturn X hB (Or.inl rfl) dX5_clause_74 h
  · have h := h.2 c
    refine z_aload_n (nx := 31) (a := 0) G rfl (Or.inl rfl) dX5_clause_30 rfl ?_
    refine b_callV5 (nx := 34) (zs := [v0]) (as := []) X hB (by decide) rfl hp_v0 SS_X5_fail (am_ta am_tn) (Nat.le_of_ble_eq_true rfl) (Nat.le_of_ble_eq_true rfl) ml_RX5_59 iw_X5_fail vw_X5_fail cw_X5_fail nw_RX5 pp_X5_fail (Nat.le_of_ble_eq_true rfl) dX5_clause_31 rfl (NM_X5_fail hp_v0 h) (fun r_34 m_35 h h01_36 hB => ?_)
    exact b_zreturn X hB h01_36 dX5_clause_34 h
set_option maxRecDepth 20000 in
set_option maxHeartbeats 4000000 in
theorem S_X5_clause {F : am_F} {K : am_KK} {v0 : Int} {m : am_M} (X : am_Cx F cX5_clause RX5 (some .boolean) 609 5 K) (hp_v0 : am_ob v0 5) (hB : am_Bt m) (h : M_X5_clause v0 K m) : am_Z F 0 [] [(2, v0), (9, 0), (9, 0), (9, 0)] m 200 := by
  have G := X.G
  unfold M_X5_clause at h
  refine z_aload_n (nx := 1) (a := 0) G rfl (Or.inl rfl) dX5_clause_0 rfl ?_
  refine b_callV0 (nx := 4) (zs := [v0]) (as := []) X hB (by decide) rfl hp_v0 SS_X5_clauseKind (am_ta am_tn) (Nat.le_of_ble_eq_true rfl) (Nat.le_of_ble_eq_true rfl) ml_RX5_89 iw_X5_clauseKind vw_X5_clauseKind cw_X5_clauseKind nw_RX5 pp_X5_clauseKind (Nat.le_of_ble_eq_true rfl) dX5_clause_1 rfl (NM_X5_clauseKind hp_v0 h) (fun r_37 m_38 h hB => ?_)
  refine b_storeE_n (nx := 5) (a := 1) (loc2 := [(2, v0), (0, r_37), (9, 0), (9, 0)]) G rfl (Nat.le_of_ble_eq_true rfl) (am_pl1 rfl (fun h => nomatch h)) dX5_clause_4 rfl (z_iload_n (nx := 6) (a := 1) G rfl dX5_clause_5 rfl (z_iconst (nx := 7) (z := (-1)) G (R32c rfl) dX5_clause_6 rfl ?_))
  refine z_icmp_ne (nx := 10) (tgt := 14) G dX5_clause_7 (by decide) rfl (fun c => ?_) (fun c => ?_)
  · have h := h.1 c
    refine z_aload_n (nx := 15) (a := 0) G rfl (Or.inl rfl) dX5_clause_14 rfl (b_getA (nx := 18) (k0 := 1) G hB fl_RX5_19 (Nat.le_of_ble_eq_true rfl) (Nat.le_of_ble_eq_true rfl) rfl hp_v0 dX5_clause_15 rfl (b_getA (nx := 21) (k0 := 2) G hB fl_RX5_92 (Nat.le_of_ble_eq_true rfl) (Nat.le_of_ble_eq_true rfl) rfl (sh_5_1 _ hp_v0) dX5_clause_18 rfl ?_))
    refine b_callV0 (nx := 24) (zs := [am_rfv (am_rfv v0 1) 2]) (as := []) X hB (by decide) rfl (sh_4_2 _ (sh_5_1 _ hp_v0)) SS_X7_open (am_ta am_tn) (Nat.le_of_ble_eq_true rfl) (Nat.le_of_ble_eq_true rfl) ml_RX5_95 iw_X7_open vw_X7_open cw_X7_open nw_RX7 pp_X7_open (Nat.le_of_ble_eq_true rfl) dX5_clause_21 rfl (NM_X7_open (sh_4_2 _ (sh_5_1 _ hp_v0)) h) (fun r_39 m_40 h hB => ?_)
    exact b_fewer (loc2 := [(2, v0), (0, r_37), (9, 0), (9, 0)]) (am_lk (am_lk (am_lk (am_lk am_ln)))) (S_X5_clause_J1 X hp_v0 hB h)
  · have h := h.2 c
    refine z_iconst (nx := 11) (z := (-1)) G (R32c rfl) dX5_clause_10 rfl (z_goto (tgt := 24) G dX5_clause_11 (by decide) ?_)
    exact b_fewer (loc2 := [(2, v0), (0, r_37), (9, 0), (9, 0)]) (am_lk (am_lk (am_lk (am_lk am_ln)))) (S_X5_clause_J1 X hp_v0 hB h)
theorem NM_X5_clause {v0 : Int} {K : am_KK} {m : am_M} (hp_v0 : am_ob v0 5) (h : M_X5_clause v0 K m) : N_X5_clause [v0] K m := ⟨hp_v0, h⟩
theorem SS_X5_clause : am_Snd yX5_clause cX5_clause 4 (some .boolean) 0 609 (am_L [2] 5 N_X5_clause) := by
  refine am_SB (by decide +kernel) (Nat.le_of_ble_eq_true rfl) (fun F zs as K m X ht hB hM => ?_)
  obtain ⟨v0, zs, as, rfl, rfl, hz0, ht⟩ := am_inv ht
  obtain ⟨rfl, rfl⟩ := am_inv0 ht
  obtain ⟨hp_v0, hM⟩ := hM
  exact S_X5_clause X hp_v0 hB hM
set_option maxRecDepth 20000 in
set_option maxHeartbeats 4000000 in
theorem S_X5_read_L1B {F : am_F} {K : am_KK} {v0 : Int} {v2 : Int} {C33 : Int → am_M → Prop} {m : am_M} (X : am_Cx F cX5_read RX5 (some .boolean) 610 5 K) (hp_v0 : am_ob v0 5) (hC33 : ∀ w2 m, C33 w2 m → am_Bt m → am_Z F 33 [] [(2, v0), (9, 0), (0, w2)] m 200) (hB : am_Bt m) (h : M_X5_read_L1B v0 v2 C33 K m) : am_Z F 33 [] [(2, v0), (9, 0), (0, v2)] m 200 := by
  have G := X.G
  unfold M_X5_read_L1B at h
  refine z_iload_n (nx := 34) (a := 2) G rfl dX5_read_33 rfl (z_sipush (nx := 37) (z := 400) G (R32c rfl) rfl dX5_read_34 rfl ?_)
  refine z_icmp_ge (nx := 40) (tgt := 89) G dX5_read_37 (by decide) rfl (fun c => ?_) (fun c => ?_)
  · have h := h.1 c
    refine z_aload_n (nx := 90) (a := 0) G rfl (Or.inl rfl) dX5_read_89 rfl ?_
    refine b_callV5 (nx := 93) (zs := [v0]) (as := []) X hB (by decide) rfl hp_v0 SS_X5_fail (am_ta am_tn) (Nat.le_of_ble_eq_true rfl) (Nat.le_of_ble_eq_true rfl) ml_RX5_59 iw_X5_fail vw_X5_fail cw_X5_fail nw_RX5 pp_X5_fail (Nat.le_of_ble_eq_true rfl) dX5_read_90 rfl (NM_X5_fail hp_v0 h) (fun r_1 m_2 h h01_3 hB => ?_)
    exact b_zreturn X hB h01_3 dX5_read_93 h
  · have h := h.2 c
    refine z_aload_n (nx := 41) (a := 0) G rfl (Or.inl rfl) dX5_read_40 rfl ?_
    refine b_callV5 (nx := 44) (zs := [v0]) (as := []) X hB (by decide) rfl hp_v0 SS_X5_clause (am_ta am_tn) (Nat.le_of_ble_eq_true rfl) (Nat.le_of_ble_eq_true rfl) ml_RX5_41 iw_X5_clause vw_X5_clause cw_X5_clause nw_RX5 pp_X5_clause (Nat.le_of_ble_eq_true rfl) dX5_read_41 rfl (NM_X5_clause hp_v0 h) (fun r_4 m_5 h h01_6 hB => ?_)
    refine z_if_ne (nx := 47) (tgt := 49) G dX5_read_44 (by decide) rfl (fun c => ?_) (fun c => ?_)
    · have h := h.1 c
      refine z_aload_n (nx := 50) (a := 0) G rfl (Or.inl rfl) dX5_read_49 rfl (b_getI (nx := 53) (k0 := 3) (t := 0) G fl_RX5_45 (Nat.le_of_ble_eq_true rfl) (Nat.le_of_ble_eq_true rfl) rfl hp_v0 dX5_read_50 rfl (z_aload_n (nx := 54) (a := 0) G rfl (Or.inl rfl) dX5_read_53 rfl (b_getA (nx := 57) (k0 := 0) G hB fl_RX5_15 (Nat.le_of_ble_eq_true rfl) (Nat.le_of_ble_eq_true rfl) rfl hp_v0 dX5_read_54 rfl (b_getI (nx := 60) (k0 := 2) (t := 0) G fl_RX5_48 (Nat.le_of_ble_eq_true rfl) (Nat.le_of_ble_eq_true rfl) rfl (sh_5_0 _ hp_v0) dX5_read_57 rfl ?_))))
      refine z_icmp_lt (nx := 63) (tgt := 65) G dX5_read_60 (by decide) rfl (fun c => ?_) (fun c => ?_)
      · have h := h.1 c
        refine z_aload_n (nx := 66) (a := 0) G rfl (Or.inl rfl) dX5_read_65 rfl (z_ldcS (nx := 68) (i := 37) G (by decide) rfl dX5_read_66 rfl ?_)
        refine b_callV5 (nx := 71) (zs := [v0, 37]) (as := [(3, 37)]) X hB (by decide) rfl hp_v0 SS_X5_is (am_ta (am_ts am_tn)) (Nat.le_of_ble_eq_true rfl) (Nat.le_of_ble_eq_true rfl) ml_RX5_55 iw_X5_is vw_X5_is cw_X5_is nw_RX5 pp_X5_is (Nat.le_of_ble_eq_true rfl) dX5_read_68 rfl (NM_X5_is hp_v0 (⟨by decide, by decide⟩) h) (fun r_7 m_8 h h01_9 hB => ?_)
        refine z_if_ne (nx := 74) (tgt := 79) G dX5_read_71 (by decide) rfl (fun c => ?_) (fun c => ?_)
        · have h := h.1 c
          refine z_aload_n (nx := 80) (a := 0) G rfl (Or.inl rfl) dX5_read_79 rfl ?_
          refine b_callV9 (nx := 83) (zs := [v0]) (as := []) X hB (by decide) rfl hp_v0 SS_X5_advance (am_ta am_tn) (Nat.le_of_ble_eq_true rfl) (Nat.le_of_ble_eq_true rfl) ml_RX5_38 iw_X5_advance vw_X5_advance cw_X5_advance nw_RX5 pp_X5_advance (Nat.le_of_ble_eq_true rfl) dX5_read_80 rfl (NM_X5_advance hp_v0 h) (fun r_10 m_11 h hB => ?_)
          refine b_iinc (nx := 86) (a := 2) (loc2 := fun v2_12 => [(2, v0), (9, 0), (0, v2_12)]) G (fun _ => rfl) rfl (am_pl1 rfl (fun h => nomatch h)) dX5_read_83 rfl (fun v2_12 e_v2_12 => ?_)
          have h := h v2_12 e_v2_12
          refine z_goto (tgt := 33) G dX5_read_86 (by decide) ?_
          exact b_fewer (loc2 := [(2, v0), (9, 0), (0, v2_12)]) (am_lk (am_lk (am_lk am_ln))) (hC33 _ _ h hB)
        · have h := h.2 c
          refine z_aload_n (nx := 75) (a := 0) G rfl (Or.inl rfl) dX5_read_74 rfl ?_
          refine b_callV5 (nx := 78) (zs := [v0]) (as := []) X hB (by decide) rfl hp_v0 SS_X5_fail (am_ta am_tn) (Nat.le_of_ble_eq_true rfl) (Nat.le_of_ble_eq_true rfl) ml_RX5_59 iw_X5_fail vw_X5_fail cw_X5_fail nw_RX5 pp_X5_fail (Nat.le_of_ble_eq_true rfl) dX5_read_75 rfl (NM_X5_fail hp_v0 h) (fun r_13 m_14 h h01_15 hB => ?_)
          exact b_zreturn X hB h01_15 dX5_read_78 h
      · have h := h.2 c
        refine z_iconst (nx := 64) (z := 1) G (R32c rfl) dX5_read_63 rfl ?_
        exact b_zreturn X hB (Or.inr rfl) dX5_read_64 h
    · have h := h.2 c
      refine z_iconst (nx := 48) (z := 0) G (R32c rfl) dX5_read_47 rfl ?_
      exact b_zreturn X hB (Or.inl rfl) dX5_read_48 h
theorem S_X5_read_L1 {F : am_F} {K : am_KK} {v0 : Int} {v2 : Int} {m : am_M} (X : am_Cx F cX5_read RX5 (some .boolean) 610 5 K) (hp_v0 : am_ob v0 5) (hB : am_Bt m) (h : M_X5_read_L1 v0 v2 K m) : am_Z F 33 [] [(2, v0), (9, 0), (0, v2)] m 200 := by
  obtain ⟨I, ⟨j, hj⟩, hI⟩ := h
  have key : ∀ j v2 m, I j v2 m → am_Bt m → am_Z F 33 [] [(2, v0), (9, 0), (0, v2)] m 200 := by
    intro j
    induction j using Nat.strongRecOn with
    | ind j ih =>
      intro v2 m hj hB
      exact S_X5_read_L1B X hp_v0 (fun v2' m' hc hB' => by
        obtain ⟨j', g1, g2⟩ := hc
        exact ih j' g1 v2' m' g2 hB') hB (hI j v2 m hj)
  exact key j _ _ hj hB
set_option maxRecDepth 20000 in
set_option maxHeartbeats 4000000 in
theorem S_X5_read {F : am_F} {K : am_KK} {v0 : Int} {v1 : Int} {m : am_M} (X : am_Cx F cX5_read RX5 (some .boolean) 610 5 K) (hp_v0 : am_ob v0 5) (hp_v1 : (v1 = 0 ∨ v1 = 1)) (hB : am_Bt m) (h : M_X5_read v0 v1 K m) : am_Z F 0 [] [(2, v0), (0, v1), (9, 0)] m 200 := by
  have G := X.G
  unfold M_X5_read at h
  refine z_aload_n (nx := 1) (a := 0) G rfl (Or.inl rfl) dX5_read_0 rfl (z_iload_n (nx := 2) (a := 1) G rfl dX5_read_1 rfl ?_)
  refine b_put (nx := 5) (k0 := 2) (t := 0) G hB fl_RX5_23 (Nat.le_of_ble_eq_true rfl) (Nat.le_of_ble_eq_true rfl) rfl (fun h => nomatch h) ⟨rfl, hp_v1⟩ hp_v0 dX5_read_2 rfl (fun m_16 e_m_16 hB => ?_)
  have h := h m_16 e_m_16
  refine z_aload_n (nx := 6) (a := 0) G rfl (Or.inl rfl) dX5_read_5 rfl (z_iconst (nx := 7) (z := 0) G (R32c rfl) dX5_read_6 rfl ?_)
  refine b_put (nx := 10) (k0 := 4) (t := 0) G hB fl_RX5_27 (Nat.le_of_ble_eq_true rfl) (Nat.le_of_ble_eq_true rfl) rfl (fun h => nomatch h) rfl hp_v0 dX5_read_7 rfl (fun m_17 e_m_17 hB => ?_)
  have h := h m_17 e_m_17
  refine z_aload_n (nx := 11) (a := 0) G rfl (Or.inl rfl) dX5_read_10 rfl (z_iconst (nx := 12) (z := 0) G (R32c rfl) dX5_read_11 rfl ?_)
  refine b_put (nx := 15) (k0 := 5) (t := 0) G hB fl_RX5_30 (Nat.le_of_ble_eq_true rfl) (Nat.le_of_ble_eq_true rfl) rfl (fun h => nomatch h) rfl hp_v0 dX5_read_12 rfl (fun m_18 e_m_18 hB => ?_)
  have h := h m_18 e_m_18
  refine z_aload_n (nx := 16) (a := 0) G rfl (Or.inl rfl) dX5_read_15 rfl (z_iconst (nx := 17) (z := (-1)) G (R32c rfl) dX5_read_16 rfl ?_)
  refine b_put (nx := 20) (k0 := 6) (t := 0) G hB fl_RX5_9 (Nat.le_of_ble_eq_true rfl) (Nat.le_of_ble_eq_true rfl) rfl (fun h => nomatch h) rfl hp_v0 dX5_read_17 rfl (fun m_19 e_m_19 hB => ?_)
  have h := h m_19 e_m_19
  refine z_aload_n (nx := 21) (a := 0) G rfl (Or.inl rfl) dX5_read_20 rfl (b_getA (nx := 24) (k0 := 1) G hB fl_RX5_19 (Nat.le_of_ble_eq_true rfl) (Nat.le_of_ble_eq_true rfl) rfl hp_v0 dX5_read_21 rfl ?_)
  refine b_callV9 (nx := 27) (zs := [am_rfv v0 1]) (as := []) X hB (by decide) rfl (sh_5_1 _ hp_v0) SS_X4_clear (am_ta am_tn) (Nat.le_of_ble_eq_true rfl) (Nat.le_of_ble_eq_true rfl) ml_RX5_33 iw_X4_clear vw_X4_clear cw_X4_clear nw_RX4 pp_X4_clear (Nat.le_of_ble_eq_true rfl) dX5_read_24 rfl (NM_X4_clear (sh_5_1 _ hp_v0) h) (fun r_20 m_21 h hB => ?_)
  refine z_aload_n (nx := 28) (a := 0) G rfl (Or.inl rfl) dX5_read_27 rfl ?_
  refine b_callV9 (nx := 31) (zs := [v0]) (as := []) X hB (by decide) rfl hp_v0 SS_X5_advance (am_ta am_tn) (Nat.le_of_ble_eq_true rfl) (Nat.le_of_ble_eq_true rfl) ml_RX5_38 iw_X5_advance vw_X5_advance cw_X5_advance nw_RX5 pp_X5_advance (Nat.le_of_ble_eq_true rfl) dX5_read_28 rfl (NM_X5_advance hp_v0 h) (fun r_22 m_23 h hB => ?_)
  refine z_iconst (nx := 32) (z := 0) G (R32c rfl) dX5_read_31 rfl (b_storeE_n (nx := 33) (a := 2) (loc2 := [(2, v0), (0, v1), (0, 0)]) G rfl (Nat.le_of_ble_eq_true rfl) (am_pl1 rfl (fun h => nomatch h)) dX5_read_32 rfl ?_)
  exact b_fewer (loc2 := [(2, v0), (9, 0), (0, 0)]) (am_lk (am_lf (am_lk am_ln))) (S_X5_read_L1 X hp_v0 hB h)
theorem NM_X5_read {v0 : Int} {v1 : Int} {K : am_KK} {m : am_M} (hp_v0 : am_ob v0 5) (hp_v1 : (v1 = 0 ∨ v1 = 1)) (h : M_X5_read v0 v1 K m) : N_X5_read [v0, v1] K m := ⟨hp_v0, hp_v1, h⟩
theorem SS_X5_read : am_Snd yX5_read cX5_read 3 (some .boolean) 0 610 (am_L [2, 5] 5 N_X5_read) := by
  refine am_SB (by decide +kernel) (Nat.le_of_ble_eq_true rfl) (fun F zs as K m X ht hB hM => ?_)
  obtain ⟨v0, zs, as, rfl, rfl, hz0, ht⟩ := am_inv ht
  obtain ⟨v1, zs, as, rfl, rfl, hz1, ht⟩ := am_inv ht
  obtain ⟨rfl, rfl⟩ := am_inv0 ht
  obtain ⟨hp_v0, hp_v1, hM⟩ := hM
  exact S_X5_read X hp_v0 hp_v1 hB hM
set_option maxRecDepth 20000 in
set_option maxHeartbeats 4000000 in
theorem S_X7_has {F : am_F} {K : am_KK} {v0 : Int} {v1 : Int} {m : am_M} (X : am_Cx F cX7_has RX7 (some .boolean) 1 5 K) (hp_v0 : am_ob v0 7) (hB : am_Bt m) (h : M_X7_has v0 v1 K m) : am_Z F 0 [] [(2, v0), (0, v1)] m 200 := by
  have G := X.G
  unfold M_X7_has at h
  refine z_iload_n (nx := 1) (a := 1) G rfl dX7_has_0 rfl ?_
  refine z_if_lt (nx := 4) (tgt := 16) G dX7_has_1 (by decide) rfl (fun c => ?_) (fun c => ?_)
  · have h := h.1 c
    refine z_iconst (nx := 17) (z := 0) G (R32c rfl) dX7_has_16 rfl ?_
    exact b_zreturn X hB (Or.inl rfl) dX7_has_17 h
  · have h := h.2 c
    refine z_iload_n (nx := 5) (a := 1) G rfl dX7_has_4 rfl (z_aload_n (nx := 6) (a := 0) G rfl (Or.inl rfl) dX7_has_5 rfl (b_getI (nx := 9) (k0 := 2) (t := 0) G fl_RX7_25 (Nat.le_of_ble_eq_true rfl) (Nat.le_of_ble_eq_true rfl) rfl hp_v0 dX7_has_6 rfl ?_))
    refine z_icmp_ge (nx := 12) (tgt := 16) G dX7_has_9 (by decide) rfl (fun c => ?_) (fun c => ?_)
    · have h := h.1 c
      refine z_iconst (nx := 17) (z := 0) G (R32c rfl) dX7_has_16 rfl ?_
      exact b_zreturn X hB (Or.inl rfl) dX7_has_17 h
    · have h := h.2 c
      refine z_iconst (nx := 13) (z := 1) G (R32c rfl) dX7_has_12 rfl (z_goto (tgt := 17) G dX7_has_13 (by decide) ?_)
      exact b_zreturn X hB (Or.inr rfl) dX7_has_17 h
theorem NM_X7_has {v0 : Int} {v1 : Int} {K : am_KK} {m : am_M} (hp_v0 : am_ob v0 7) (h : M_X7_has v0 v1 K m) : N_X7_has [v0, v1] K m := ⟨hp_v0, h⟩
theorem SS_X7_has : am_Snd yX7_has cX7_has 2 (some .boolean) 0 1 (am_L [2, 0] 5 N_X7_has) := by
  refine am_SB (by decide +kernel) (Nat.le_of_ble_eq_true rfl) (fun F zs as K m X ht hB hM => ?_)
  obtain ⟨v0, zs, as, rfl, rfl, hz0, ht⟩ := am_inv ht
  obtain ⟨v1, zs, as, rfl, rfl, hz1, ht⟩ := am_inv ht
  obtain ⟨rfl, rfl⟩ := am_inv0 ht
  obtain ⟨hp_v0, hM⟩ := hM
  exact S_X7_has X hp_v0 hB hM
set_option maxRecDepth 20000 in
set_option maxHeartbeats 4000000 in
theorem S_X7_dropFirst {F : am_F} {K : am_KK} {v0 : Int} {m : am_M} (X : am_Cx F cX7_dropFirst RX7 none 1 9 K) (hp_v0 : am_ob v0 7) (hB : am_Bt m) (h : M_X7_dropFirst v0 K m) : am_Z F 0 [] [(2, v0)] m 200 := by
  have G := X.G
  unfold M_X7_dropFirst at h
  refine z_aload_n (nx := 1) (a := 0) G rfl (Or.inl rfl) dX7_dropFirst_0 rfl (b_getI (nx := 4) (k0 := 2) (t := 0) G fl_RX7_25 (Nat.le_of_ble_eq_true rfl) (Nat.le_of_ble_eq_true rfl) rfl hp_v0 dX7_dropFirst_1 rfl ?_)
  refine z_if_le (nx := 7) (tgt := 42) G dX7_dropFirst_4 (by decide) rfl (fun c => ?_) (fun c => ?_)
  · have h := h.1 c
    exact b_return X hB dX7_dropFirst_42 h
  · have h := h.2 c
    refine z_aload_n (nx := 8) (a := 0) G rfl (Or.inl rfl) dX7_dropFirst_7 rfl (z_dup (nx := 9) G (fun h => nomatch h) dX7_dropFirst_8 rfl (b_getI (nx := 12) (k0 := 2) (t := 0) G fl_RX7_25 (Nat.le_of_ble_eq_true rfl) (Nat.le_of_ble_eq_true rfl) rfl hp_v0 dX7_dropFirst_9 rfl (z_iconst (nx := 13) (z := 1) G (R32c rfl) dX7_dropFirst_12 rfl (z_isub (nx := 14) G dX7_dropFirst_13 rfl ?_))))
    refine b_put (nx := 17) (k0 := 2) (t := 0) G hB fl_RX7_25 (Nat.le_of_ble_eq_true rfl) (Nat.le_of_ble_eq_true rfl) rfl (fun h => nomatch h) rfl hp_v0 dX7_dropFirst_14 rfl (fun m_1 e_m_1 hB => ?_)
    have h := h m_1 e_m_1
    refine z_aload_n (nx := 18) (a := 0) G rfl (Or.inl rfl) dX7_dropFirst_17 rfl (b_getA (nx := 21) (k0 := 0) G hB fl_RX7_21 (Nat.le_of_ble_eq_true rfl) (Nat.le_of_ble_eq_true rfl) rfl hp_v0 dX7_dropFirst_18 rfl (z_aload_n (nx := 22) (a := 0) G rfl (Or.inl rfl) dX7_dropFirst_21 rfl (b_getI (nx := 25) (k0 := 1) (t := 0) G fl_RX7_15 (Nat.le_of_ble_eq_true rfl) (Nat.le_of_ble_eq_true rfl) rfl hp_v0 dX7_dropFirst_22 rfl (z_aload_n (nx := 26) (a := 0) G rfl (Or.inl rfl) dX7_dropFirst_25 rfl (b_getA (nx := 29) (k0 := 0) G hB fl_RX7_21 (Nat.le_of_ble_eq_true rfl) (Nat.le_of_ble_eq_true rfl) rfl hp_v0 dX7_dropFirst_26 rfl (z_iconst (nx := 30) (z := 0) G (R32c rfl) dX7_dropFirst_29 rfl (z_aload_n (nx := 31) (a := 0) G rfl (Or.inl rfl) dX7_dropFirst_30 rfl (b_getI (nx := 34) (k0 := 2) (t := 0) G fl_RX7_25 (Nat.le_of_ble_eq_true rfl) (Nat.le_of_ble_eq_true rfl) rfl hp_v0 dX7_dropFirst_31 rfl (z_aload_n (nx := 35) (a := 0) G rfl (Or.inl rfl) dX7_dropFirst_34 rfl (b_getI (nx := 38) (k0 := 1) (t := 0) G fl_RX7_15 (Nat.le_of_ble_eq_true rfl) (Nat.le_of_ble_eq_true rfl) rfl hp_v0 dX7_dropFirst_35 rfl (z_imul (nx := 39) G dX7_dropFirst_38 rfl ?_)))))))))))
    obtain ⟨hb, h⟩ := h
    refine b_copy (nx := 42) G hB ml_RX7_28 (sh_7_0 _ hp_v0) (sh_7_0 _ hp_v0) hb (Nat.le_of_ble_eq_true rfl) dX7_dropFirst_39 rfl (fun m_2 e_m_2 hB => ?_)
    have h := h m_2 e_m_2
    exact b_return X hB dX7_dropFirst_42 h
theorem NM_X7_dropFirst {v0 : Int} {K : am_KK} {m : am_M} (hp_v0 : am_ob v0 7) (h : M_X7_dropFirst v0 K m) : N_X7_dropFirst [v0] K m := ⟨hp_v0, h⟩
theorem SS_X7_dropFirst : am_Snd yX7_dropFirst cX7_dropFirst 1 none 0 1 (am_L [2] 9 N_X7_dropFirst) := by
  refine am_SB (by decide +kernel) (Nat.le_of_ble_eq_true rfl) (fun F zs as K m X ht hB hM => ?_)
  obtain ⟨v0, zs, as, rfl, rfl, hz0, ht⟩ := am_inv ht
  obtain ⟨rfl, rfl⟩ := am_inv0 ht
  obtain ⟨hp_v0, hM⟩ := hM
  exact S_X7_dropFirst X hp_v0 hB hM
set_option maxRecDepth 20000 in
set_option maxHeartbeats 4000000 in
theorem S_X7_copyRow {F : am_F} {K : am_KK} {v0 : Int} {v1 : Int} {v2 : Int} {m : am_M} (X : am_Cx F cX7_copyRow RX7 none 2 9 K) (hp_v0 : am_ob v0 7) (hB : am_Bt m) (h : M_X7_copyRow v0 v1 v2 K m) : am_Z F 0 [] [(2, v0), (0, v1), (0, v2)] m 200 := by
  have G := X.G
  unfold M_X7_copyRow at h
  refine z_aload_n (nx := 1) (a := 0) G rfl (Or.inl rfl) dX7_copyRow_0 rfl (z_iload_n (nx := 2) (a := 1) G rfl dX7_copyRow_1 rfl ?_)
  refine b_callV5 (nx := 5) (zs := [v0, v1]) (as := [(0, v1)]) X hB (by decide) rfl hp_v0 SS_X7_has (am_ta (am_ti am_tn)) (Nat.le_of_ble_eq_true rfl) (Nat.le_of_ble_eq_true rfl) ml_RX7_34 iw_X7_has vw_X7_has cw_X7_has nw_RX7 pp_X7_has (Nat.le_of_ble_eq_true rfl) dX7_copyRow_2 rfl (NM_X7_has hp_v0 h) (fun r_1 m_2 h h01_3 hB => ?_)
  refine z_if_eq (nx := 8) (tgt := 43) G dX7_copyRow_5 (by decide) rfl (fun c => ?_) (fun c => ?_)
  · have h := h.1 c
    exact b_return X hB dX7_copyRow_43 h
  · have h := h.2 c
    refine z_aload_n (nx := 9) (a := 0) G rfl (Or.inl rfl) dX7_copyRow_8 rfl (z_iload_n (nx := 10) (a := 2) G rfl dX7_copyRow_9 rfl ?_)
    refine b_callV5 (nx := 13) (zs := [v0, v2]) (as := [(0, v2)]) X hB (by decide) rfl hp_v0 SS_X7_has (am_ta (am_ti am_tn)) (Nat.le_of_ble_eq_true rfl) (Nat.le_of_ble_eq_true rfl) ml_RX7_34 iw_X7_has vw_X7_has cw_X7_has nw_RX7 pp_X7_has (Nat.le_of_ble_eq_true rfl) dX7_copyRow_10 rfl (NM_X7_has hp_v0 h) (fun r_4 m_5 h h01_6 hB => ?_)
    refine z_if_eq (nx := 16) (tgt := 43) G dX7_copyRow_13 (by decide) rfl (fun c => ?_) (fun c => ?_)
    · have h := h.1 c
      exact b_return X hB dX7_copyRow_43 h
    · have h := h.2 c
      refine z_aload_n (nx := 17) (a := 0) G rfl (Or.inl rfl) dX7_copyRow_16 rfl (b_getA (nx := 20) (k0 := 0) G hB fl_RX7_21 (Nat.le_of_ble_eq_true rfl) (Nat.le_of_ble_eq_true rfl) rfl hp_v0 dX7_copyRow_17 rfl (z_iload_n (nx := 21) (a := 1) G rfl dX7_copyRow_20 rfl (z_aload_n (nx := 22) (a := 0) G rfl (Or.inl rfl) dX7_copyRow_21 rfl (b_getI (nx := 25) (k0 := 1) (t := 0) G fl_RX7_15 (Nat.le_of_ble_eq_true rfl) (Nat.le_of_ble_eq_true rfl) rfl hp_v0 dX7_copyRow_22 rfl (z_imul (nx := 26) G dX7_copyRow_25 rfl (z_aload_n (nx := 27) (a := 0) G rfl (Or.inl rfl) dX7_copyRow_26 rfl (b_getA (nx := 30) (k0 := 0) G hB fl_RX7_21 (Nat.le_of_ble_eq_true rfl) (Nat.le_of_ble_eq_true rfl) rfl hp_v0 dX7_copyRow_27 rfl (z_iload_n (nx := 31) (a := 2) G rfl dX7_copyRow_30 rfl (z_aload_n (nx := 32) (a := 0) G rfl (Or.inl rfl) dX7_copyRow_31 rfl (b_getI (nx := 35) (k0 := 1) (t := 0) G fl_RX7_15 (Nat.le_of_ble_eq_true rfl) (Nat.le_of_ble_eq_true rfl) rfl hp_v0 dX7_copyRow_32 rfl (z_imul (nx := 36) G dX7_copyRow_35 rfl (z_aload_n (nx := 37) (a := 0) G rfl (Or.inl rfl) dX7_copyRow_36 rfl (b_getI (nx := 40) (k0 := 1) (t := 0) G fl_RX7_15 (Nat.le_of_ble_eq_true rfl) (Nat.le_of_ble_eq_true rfl) rfl hp_v0 dX7_copyRow_37 rfl ?_)))))))))))))
      obtain ⟨hb, h⟩ := h
      refine b_copy (nx := 43) G hB ml_RX7_28 (sh_7_0 _ hp_v0) (sh_7_0 _ hp_v0) hb (Nat.le_of_ble_eq_true rfl) dX7_copyRow_40 rfl (fun m_7 e_m_7 hB => ?_)
      have h := h m_7 e_m_7
      exact b_return X hB dX7_copyRow_43 h
theorem NM_X7_copyRow {v0 : Int} {v1 : Int} {v2 : Int} {K : am_KK} {m : am_M} (hp_v0 : am_ob v0 7) (h : M_X7_copyRow v0 v1 v2 K m) : N_X7_copyRow [v0, v1, v2] K m := ⟨hp_v0, h⟩
theorem SS_X7_copyRow : am_Snd yX7_copyRow cX7_copyRow 3 none 0 2 (am_L [2, 0, 0] 9 N_X7_copyRow) := by
  refine am_SB (by decide +kernel) (Nat.le_of_ble_eq_true rfl) (fun F zs as K m X ht hB hM => ?_)
  obtain ⟨v0, zs, as, rfl, rfl, hz0, ht⟩ := am_inv ht
  obtain ⟨v1, zs, as, rfl, rfl, hz1, ht⟩ := am_inv ht
  obtain ⟨v2, zs, as, rfl, rfl, hz2, ht⟩ := am_inv ht
  obtain ⟨rfl, rfl⟩ := am_inv0 ht
  obtain ⟨hp_v0, hM⟩ := hM
  exact S_X7_copyRow X hp_v0 hB hM
set_option maxRecDepth 20000 in
set_option maxHeartbeats 4000000 in
theorem S_X8_begin_L2B {F : am_F} {K : am_KK} {v0 : Int} {v2 : Int} {v3 : Int} {v4 : Int} {C31 : Int → am_M → Prop} {C15 : Int → am_M → Prop} {m : am_M} (X : am_Cx F cX8_begin RX8 none 2 9 K) (hp_v0 : am_ob v0 8) (hC31 : ∀ w4 m, C31 w4 m → am_Bt m → am_Z F 31 [] [(2, v0), (9, 0), (0, v2), (0, v3), (0, w4)] m 200) (hC15 : ∀ w3 m, C15 w3 m → am_Bt m → am_Z F 15 [] [(2, v0), (9, 0), (0, v2), (0, w3), (9, 0)] m 200) (hB : am_Bt m) (h : M_X8_begin_L2B v0 v2 v3 v4 C31 C15 K m) : am_Z F 31 [] [(2, v0), (9, 0), (0, v2), (0, v3), (0, v4)] m 200 := by
  have G := X.G
  unfold M_X8_begin_L2B at h
  refine z_iload (nx := 33) (a := 4) G rfl dX8_begin_31 rfl (z_iconst (nx := 34) (z := 3) G (R32c rfl) dX8_begin_33 rfl ?_)
  refine z_icmp_gt (nx := 37) (tgt := 54) G dX8_begin_34 (by decide) rfl (fun c => ?_) (fun c => ?_)
  · have h := h.1 c
    refine b_iinc (nx := 57) (a := 3) (loc2 := fun v3_1 => [(2, v0), (9, 0), (0, v2), (0, v3_1), (0, v4)]) G (fun _ => rfl) rfl (am_pl1 rfl (fun h => nomatch h)) dX8_begin_54 rfl (fun v3_1 e_v3_1 => ?_)
    have h := h v3_1 e_v3_1
    refine z_goto (tgt := 15) G dX8_begin_57 (by decide) ?_
    exact b_fewer (loc2 := [(2, v0), (9, 0), (0, v2), (0, v3_1), (9, 0)]) (am_lk (am_lk (am_lk (am_lk (am_lf am_ln))))) (hC15 _ _ h hB)
  · have h := h.2 c
    refine z_aload_n (nx := 38) (a := 0) G rfl (Or.inl rfl) dX8_begin_37 rfl (b_getA (nx := 41) (k0 := 0) G hB fl_RX8_14 (Nat.le_of_ble_eq_true rfl) (Nat.le_of_ble_eq_true rfl) rfl hp_v0 dX8_begin_38 rfl (z_iload_n (nx := 42) (a := 3) G rfl dX8_begin_41 rfl (z_iload (nx := 44) (a := 4) G rfl dX8_begin_42 rfl (z_iconst (nx := 45) (z := 0) G (R32c rfl) dX8_begin_44 rfl ?_))))
    refine b_callV9 (nx := 48) (zs := [am_rfv v0 0, v3, v4, 0]) (as := [(0, v3), (0, v4), (0, 0)]) X hB (by decide) rfl (sh_8_0 _ hp_v0) SS_X7_set (am_ta (am_ti (am_ti (am_ti am_tn)))) (Nat.le_of_ble_eq_true rfl) (Nat.le_of_ble_eq_true rfl) ml_RX8_32 iw_X7_set vw_X7_set cw_X7_set nw_RX7 pp_X7_set (Nat.le_of_ble_eq_true rfl) dX8_begin_45 rfl (NM_X7_set (sh_8_0 _ hp_v0) h) (fun r_2 m_3 h hB => ?_)
    refine b_iinc (nx := 51) (a := 4) (loc2 := fun v4_4 => [(2, v0), (9, 0), (0, v2), (0, v3), (0, v4_4)]) G (fun _ => rfl) rfl (am_pl1 rfl (fun h => nomatch h)) dX8_begin_48 rfl (fun v4_4 e_v4_4 => ?_)
    have h := h v4_4 e_v4_4
    refine z_goto (tgt := 31) G dX8_begin_51 (by decide) ?_
    exact b_fewer (loc2 := [(2, v0), (9, 0), (0, v2), (0, v3), (0, v4_4)]) (am_lk (am_lk (am_lk (am_lk (am_lk am_ln))))) (hC31 _ _ h hB)
theorem S_X8_begin_L2 {F : am_F} {K : am_KK} {v0 : Int} {v2 : Int} {v3 : Int} {v4 : Int} {C15 : Int → am_M → Prop} {m : am_M} (X : am_Cx F cX8_begin RX8 none 2 9 K) (hp_v0 : am_ob v0 8) (hC15 : ∀ w3 m, C15 w3 m → am_Bt m → am_Z F 15 [] [(2, v0), (9, 0), (0, v2), (0, w3), (9, 0)] m 200) (hB : am_Bt m) (h : M_X8_begin_L2 v0 v2 v3 v4 C15 K m) : am_Z F 31 [] [(2, v0), (9, 0), (0, v2), (0, v3), (0, v4)] m 200 := by
  obtain ⟨I, ⟨j, hj⟩, hI⟩ := h
  have key : ∀ j v4 m, I j v4 m → am_Bt m → am_Z F 31 [] [(2, v0), (9, 0), (0, v2), (0, v3), (0, v4)] m 200 := by
    intro j
    induction j using Nat.strongRecOn with
    | ind j ih =>
      intro v4 m hj hB
      exact S_X8_begin_L2B X hp_v0 (fun v4' m' hc hB' => by
        obtain ⟨j', g1, g2⟩ := hc
        exact ih j' g1 v4' m' g2 hB') hC15 hB (hI j v4 m hj)
  exact key j _ _ hj hB
set_option maxRecDepth 20000 in
set_option maxHeartbeats 4000000 in
theorem S_X8_begin_L1B {F : am_F} {K : am_KK} {v0 : Int} {v2 : Int} {v3 : Int} {C15 : Int → am_M → Prop} {m : am_M} (X : am_Cx F cX8_begin RX8 none 2 9 K) (hp_v0 : am_ob v0 8) (hC15 : ∀ w3 m, C15 w3 m → am_Bt m → am_Z F 15 [] [(2, v0), (9, 0), (0, v2), (0, w3), (9, 0)] m 200) (hB : am_Bt m) (h : M_X8_begin_L1B v0 v2 v3 C15 K m) : am_Z F 15 [] [(2, v0), (9, 0), (0, v2), (0, v3), (9, 0)] m 200 := by
  have G := X.G
  unfold M_X8_begin_L1B at h
  refine z_iload_n (nx := 16) (a := 3) G rfl dX8_begin_15 rfl (z_iload_n (nx := 17) (a := 2) G rfl dX8_begin_16 rfl ?_)
  refine z_icmp_ge (nx := 20) (tgt := 60) G dX8_begin_17 (by decide) rfl (fun c => ?_) (fun c => ?_)
  · have h := h.1 c
    exact b_return X hB dX8_begin_60 h
  · have h := h.2 c
    refine z_aload_n (nx := 21) (a := 0) G rfl (Or.inl rfl) dX8_begin_20 rfl (b_getA (nx := 24) (k0 := 0) G hB fl_RX8_14 (Nat.le_of_ble_eq_true rfl) (Nat.le_of_ble_eq_true rfl) rfl hp_v0 dX8_begin_21 rfl ?_)
    refine b_callV0 (nx := 27) (zs := [am_rfv v0 0]) (as := []) X hB (by decide) rfl (sh_8_0 _ hp_v0) SS_X7_open (am_ta am_tn) (Nat.le_of_ble_eq_true rfl) (Nat.le_of_ble_eq_true rfl) ml_RX8_28 iw_X7_open vw_X7_open cw_X7_open nw_RX7 pp_X7_open (Nat.le_of_ble_eq_true rfl) dX8_begin_24 rfl (NM_X7_open (sh_8_0 _ hp_v0) h) (fun r_5 m_6 h hB => ?_)
    refine z_pop (nx := 28) G (fun h => nomatch h) dX8_begin_27 rfl (z_iconst (nx := 29) (z := 0) G (R32c rfl) dX8_begin_28 rfl (b_storeE (nx := 31) (a := 4) (loc2 := [(2, v0), (9, 0), (0, v2), (0, v3), (0, 0)]) G rfl (Nat.le_of_ble_eq_true rfl) (am_pl1 rfl (fun h => nomatch h)) dX8_begin_29 rfl ?_))
    exact b_fewer (loc2 := [(2, v0), (9, 0), (0, v2), (0, v3), (0, 0)]) (am_lk (am_lk (am_lk (am_lk (am_lk am_ln))))) (S_X8_begin_L2 X hp_v0 hC15 hB h)
theorem S_X8_begin_L1 {F : am_F} {K : am_KK} {v0 : Int} {v2 : Int} {v3 : Int} {m : am_M} (X : am_Cx F cX8_begin RX8 none 2 9 K) (hp_v0 : am_ob v0 8) (hB : am_Bt m) (h : M_X8_begin_L1 v0 v2 v3 K m) : am_Z F 15 [] [(2, v0), (9, 0), (0, v2), (0, v3), (9, 0)] m 200 := by
  obtain ⟨I, ⟨j, hj⟩, hI⟩ := h
  have key : ∀ j v3 m, I j v3 m → am_Bt m → am_Z F 15 [] [(2, v0), (9, 0), (0, v2), (0, v3), (9, 0)] m 200 := by
    intro j
    induction j using Nat.strongRecOn with
    | ind j ih =>
      intro v3 m hj hB
      exact S_X8_begin_L1B X hp_v0 (fun v3' m' hc hB' => by
        obtain ⟨j', g1, g2⟩ := hc
        exact ih j' g1 v3' m' g2 hB') hB (hI j v3 m hj)
  exact key j _ _ hj hB
set_option maxRecDepth 20000 in
set_option maxHeartbeats 4000000 in
theorem S_X8_begin {F : am_F} {K : am_KK} {v0 : Int} {v1 : Int} {v2 : Int} {m : am_M} (X : am_Cx F cX8_begin RX8 none 2 9 K) (hp_v0 : am_ob v0 8) (hB : am_Bt m) (h : M_X8_begin v0 v1 v2 K m) : am_Z F 0 [] [(2, v0), (0, v1), (0, v2), (9, 0), (9, 0)] m 200 := by
  have G := X.G
  unfold M_X8_begin at h
  refine z_aload_n (nx := 1) (a := 0) G rfl (Or.inl rfl) dX8_begin_0 rfl (z_iload_n (nx := 2) (a := 1) G rfl dX8_begin_1 rfl ?_)
  refine b_put (nx := 5) (k0 := 1) (t := 0) G hB fl_RX8_20 (Nat.le_of_ble_eq_true rfl) (Nat.le_of_ble_eq_true rfl) rfl (fun h => nomatch h) rfl hp_v0 dX8_begin_2 rfl (fun m_7 e_m_7 hB => ?_)
  have h := h m_7 e_m_7
  refine z_aload_n (nx := 6) (a := 0) G rfl (Or.inl rfl) dX8_begin_5 rfl (b_getA (nx := 9) (k0 := 0) G hB fl_RX8_14 (Nat.le_of_ble_eq_true rfl) (Nat.le_of_ble_eq_true rfl) rfl hp_v0 dX8_begin_6 rfl (z_iconst (nx := 10) (z := 0) G (R32c rfl) dX8_begin_9 rfl ?_))
  refine b_callV9 (nx := 13) (zs := [am_rfv v0 0, 0]) (as := [(0, 0)]) X hB (by decide) rfl (sh_8_0 _ hp_v0) SS_X7_cut (am_ta (am_ti am_tn)) (Nat.le_of_ble_eq_true rfl) (Nat.le_of_ble_eq_true rfl) ml_RX8_24 iw_X7_cut vw_X7_cut cw_X7_cut nw_RX7 pp_X7_cut (Nat.le_of_ble_eq_true rfl) dX8_begin_10 rfl (NM_X7_cut (sh_8_0 _ hp_v0) h) (fun r_8 m_9 h hB => ?_)
  refine z_iconst (nx := 14) (z := 0) G (R32c rfl) dX8_begin_13 rfl (b_storeE_n (nx := 15) (a := 3) (loc2 := [(2, v0), (0, v1), (0, v2), (0, 0), (9, 0)]) G rfl (Nat.le_of_ble_eq_true rfl) (am_pl1 rfl (fun h => nomatch h)) dX8_begin_14 rfl ?_)
  exact b_fewer (loc2 := [(2, v0), (9, 0), (0, v2), (0, 0), (9, 0)]) (am_lk (am_lf (am_lk (am_lk (am_lk am_ln))))) (S_X8_begin_L1 X hp_v0 hB h)
theorem NM_X8_begin {v0 : Int} {v1 : Int} {v2 : Int} {K : am_KK} {m : am_M} (hp_v0 : am_ob v0 8) (h : M_X8_begin v0 v1 v2 K m) : N_X8_begin [v0, v1, v2] K m := ⟨hp_v0, h⟩
theorem SS_X8_begin : am_Snd yX8_begin cX8_begin 5 none 0 2 (am_L [2, 0, 0] 9 N_X8_begin) := by
  refine am_SB (by decide +kernel) (Nat.le_of_ble_eq_true rfl) (fun F zs as K m X ht hB hM => ?_)
  obtain ⟨v0, zs, as, rfl, rfl, hz0, ht⟩ := am_inv ht
  obtain ⟨v1, zs, as, rfl, rfl, hz1, ht⟩ := am_inv ht
  obtain ⟨v2, zs, as, rfl, rfl, hz2, ht⟩ := am_inv ht
  obtain ⟨rfl, rfl⟩ := am_inv0 ht
  obtain ⟨hp_v0, hM⟩ := hM
  exact S_X8_begin X hp_v0 hB hM
set_option maxRecDepth 20000 in
set_option maxHeartbeats 4000000 in
theorem S_X8_draw {F : am_F} {K : am_KK} {v0 : Int} {v1 : Int} {m : am_M} (X : am_Cx F cX8_draw RX8 (some .int) 1 0 K) (hp_v0 : am_ob v0 8) (hB : am_Bt m) (h : M_X8_draw v0 v1 K m) : am_Z F 0 [] [(2, v0), (0, v1)] m 200 := by
  have G := X.G
  unfold M_X8_draw at h
  refine z_aload_n (nx := 1) (a := 0) G rfl (Or.inl rfl) dX8_draw_0 rfl (z_aload_n (nx := 2) (a := 0) G rfl (Or.inl rfl) dX8_draw_1 rfl (b_getI (nx := 5) (k0 := 1) (t := 0) G fl_RX8_20 (Nat.le_of_ble_eq_true rfl) (Nat.le_of_ble_eq_true rfl) rfl hp_v0 dX8_draw_2 rfl (z_sipush (nx := 8) (z := 1103) G (R32c rfl) rfl dX8_draw_5 rfl (z_imul (nx := 9) G dX8_draw_8 rfl (z_sipush (nx := 12) (z := 12345) G (R32c rfl) rfl dX8_draw_9 rfl (z_iadd (nx := 13) G dX8_draw_12 rfl (z_ldc (nx := 15) (z := 1000003) G (R32c rfl) rfl kw_RX8_36 dX8_draw_13 rfl (z_irem (nx := 16) G (by decide) dX8_draw_15 rfl ?_))))))))
  refine b_put (nx := 19) (k0 := 1) (t := 0) G hB fl_RX8_20 (Nat.le_of_ble_eq_true rfl) (Nat.le_of_ble_eq_true rfl) rfl (fun h => nomatch h) rfl hp_v0 dX8_draw_16 rfl (fun m_1 e_m_1 hB => ?_)
  have h := h m_1 e_m_1
  refine z_iload_n (nx := 20) (a := 1) G rfl dX8_draw_19 rfl ?_
  refine z_if_le (nx := 23) (tgt := 32) G dX8_draw_20 (by decide) rfl (fun c => ?_) (fun c => ?_)
  · have h := h.1 c
    refine z_iconst (nx := 33) (z := 0) G (R32c rfl) dX8_draw_32 rfl ?_
    exact b_ireturn X hB dX8_draw_33 h
  · have h := h.2 c
    refine z_aload_n (nx := 24) (a := 0) G rfl (Or.inl rfl) dX8_draw_23 rfl (b_getI (nx := 27) (k0 := 1) (t := 0) G fl_RX8_20 (Nat.le_of_ble_eq_true rfl) (Nat.le_of_ble_eq_true rfl) rfl hp_v0 dX8_draw_24 rfl (z_iload_n (nx := 28) (a := 1) G rfl dX8_draw_27 rfl ?_))
    obtain ⟨hb, h⟩ := h
    refine z_irem (nx := 29) G hb dX8_draw_28 rfl ?_
    refine z_goto (tgt := 33) G dX8_draw_29 (by decide) ?_
    exact b_ireturn X hB dX8_draw_33 h
theorem NM_X8_draw {v0 : Int} {v1 : Int} {K : am_KK} {m : am_M} (hp_v0 : am_ob v0 8) (h : M_X8_draw v0 v1 K m) : N_X8_draw [v0, v1] K m := ⟨hp_v0, h⟩
theorem SS_X8_draw : am_Snd yX8_draw cX8_draw 2 (some .int) 0 1 (am_L [2, 0] 0 N_X8_draw) := by
  refine am_SB (by decide +kernel) (Nat.le_of_ble_eq_true rfl) (fun F zs as K m X ht hB hM => ?_)
  obtain ⟨v0, zs, as, rfl, rfl, hz0, ht⟩ := am_inv ht
  obtain ⟨v1, zs, as, rfl, rfl, hz1, ht⟩ := am_inv ht
  obtain ⟨rfl, rfl⟩ := am_inv0 ht
  obtain ⟨hp_v0, hM⟩ := hM
  exact S_X8_draw X hp_v0 hB hM
set_option maxRecDepth 20000 in
set_option maxHeartbeats 4000000 in
theorem S_X8_add {F : am_F} {K : am_KK} {v0 : Int} {v1 : Int} {v2 : Int} {m : am_M} (X : am_Cx F cX8_add RX8 none 2 9 K) (hp_v0 : am_ob v0 8) (hB : am_Bt m) (h : M_X8_add v0 v1 v2 K m) : am_Z F 0 [] [(2, v0), (0, v1), (0, v2)] m 200 := by
  have G := X.G
  unfold M_X8_add at h
  refine z_aload_n (nx := 1) (a := 0) G rfl (Or.inl rfl) dX8_add_0 rfl (b_getA (nx := 4) (k0 := 0) G hB fl_RX8_14 (Nat.le_of_ble_eq_true rfl) (Nat.le_of_ble_eq_true rfl) rfl hp_v0 dX8_add_1 rfl (z_iload_n (nx := 5) (a := 1) G rfl dX8_add_4 rfl (z_iload_n (nx := 6) (a := 2) G rfl dX8_add_5 rfl (z_aload_n (nx := 7) (a := 0) G rfl (Or.inl rfl) dX8_add_6 rfl (b_getA (nx := 10) (k0 := 0) G hB fl_RX8_14 (Nat.le_of_ble_eq_true rfl) (Nat.le_of_ble_eq_true rfl) rfl hp_v0 dX8_add_7 rfl (z_iload_n (nx := 11) (a := 1) G rfl dX8_add_10 rfl (z_iload_n (nx := 12) (a := 2) G rfl dX8_add_11 rfl ?_)))))))
  refine b_callV0 (nx := 15) (zs := [am_rfv v0 0, v1, v2]) (as := [(0, v1), (0, v2)]) X hB (by decide) rfl (sh_8_0 _ hp_v0) SS_X7_get (am_ta (am_ti (am_ti am_tn))) (Nat.le_of_ble_eq_true rfl) (Nat.le_of_ble_eq_true rfl) ml_RX8_48 iw_X7_get vw_X7_get cw_X7_get nw_RX7 pp_X7_get (Nat.le_of_ble_eq_true rfl) dX8_add_12 rfl (NM_X7_get (sh_8_0 _ hp_v0) h) (fun r_1 m_2 h hB => ?_)
  refine z_iconst (nx := 16) (z := 1) G (R32c rfl) dX8_add_15 rfl (z_iadd (nx := 17) G dX8_add_16 rfl ?_)
  refine b_callV9 (nx := 20) (zs := [am_rfv v0 0, v1, v2, w32 (r_1 + 1)]) (as := [(0, v1), (0, v2), (0, w32 (r_1 + 1))]) X hB (by decide) rfl (sh_8_0 _ hp_v0) SS_X7_set (am_ta (am_ti (am_ti (am_ti am_tn)))) (Nat.le_of_ble_eq_true rfl) (Nat.le_of_ble_eq_true rfl) ml_RX8_32 iw_X7_set vw_X7_set cw_X7_set nw_RX7 pp_X7_set (Nat.le_of_ble_eq_true rfl) dX8_add_17 rfl (NM_X7_set (sh_8_0 _ hp_v0) h) (fun r_3 m_4 h hB => ?_)
  exact b_return X hB dX8_add_20 h
theorem NM_X8_add {v0 : Int} {v1 : Int} {v2 : Int} {K : am_KK} {m : am_M} (hp_v0 : am_ob v0 8) (h : M_X8_add v0 v1 v2 K m) : N_X8_add [v0, v1, v2] K m := ⟨hp_v0, h⟩
theorem SS_X8_add : am_Snd yX8_add cX8_add 3 none 0 2 (am_L [2, 0, 0] 9 N_X8_add) := by
  refine am_SB (by decide +kernel) (Nat.le_of_ble_eq_true rfl) (fun F zs as K m X ht hB hM => ?_)
  obtain ⟨v0, zs, as, rfl, rfl, hz0, ht⟩ := am_inv ht
  obtain ⟨v1, zs, as, rfl, rfl, hz1, ht⟩ := am_inv ht
  obtain ⟨v2, zs, as, rfl, rfl, hz2, ht⟩ := am_inv ht
  obtain ⟨rfl, rfl⟩ := am_inv0 ht
  obtain ⟨hp_v0, hM⟩ := hM
  exact S_X8_add X hp_v0 hB hM
set_option maxRecDepth 20000 in
set_option maxHeartbeats 4000000 in
theorem S_X8_noteSaid {F : am_F} {K : am_KK} {v0 : Int} {v1 : Int} {m : am_M} (X : am_Cx F cX8_noteSaid RX8 none 3 9 K) (hp_v0 : am_ob v0 8) (hB : am_Bt m) (h : M_X8_noteSaid v0 v1 K m) : am_Z F 0 [] [(2, v0), (0, v1)] m 200 := by
  have G := X.G
  unfold M_X8_noteSaid at h
  refine z_aload_n (nx := 1) (a := 0) G rfl (Or.inl rfl) dX8_noteSaid_0 rfl (z_iload_n (nx := 2) (a := 1) G rfl dX8_noteSaid_1 rfl (z_iconst (nx := 3) (z := 0) G (R32c rfl) dX8_noteSaid_2 rfl ?_))
  refine b_callV9 (nx := 6) (zs := [v0, v1, 0]) (as := [(0, v1), (0, 0)]) X hB (by decide) rfl hp_v0 SS_X8_add (am_ta (am_ti (am_ti am_tn))) (Nat.le_of_ble_eq_true rfl) (Nat.le_of_ble_eq_true rfl) ml_RX8_37 iw_X8_add vw_X8_add cw_X8_add nw_RX8 pp_X8_add (Nat.le_of_ble_eq_true rfl) dX8_noteSaid_3 rfl (NM_X8_add hp_v0 h) (fun r_1 m_2 h hB => ?_)
  exact b_return X hB dX8_noteSaid_6 h
theorem NM_X8_noteSaid {v0 : Int} {v1 : Int} {K : am_KK} {m : am_M} (hp_v0 : am_ob v0 8) (h : M_X8_noteSaid v0 v1 K m) : N_X8_noteSaid [v0, v1] K m := ⟨hp_v0, h⟩
theorem SS_X8_noteSaid : am_Snd yX8_noteSaid cX8_noteSaid 2 none 0 3 (am_L [2, 0] 9 N_X8_noteSaid) := by
  refine am_SB (by decide +kernel) (Nat.le_of_ble_eq_true rfl) (fun F zs as K m X ht hB hM => ?_)
  obtain ⟨v0, zs, as, rfl, rfl, hz0, ht⟩ := am_inv ht
  obtain ⟨v1, zs, as, rfl, rfl, hz1, ht⟩ := am_inv ht
  obtain ⟨rfl, rfl⟩ := am_inv0 ht
  obtain ⟨hp_v0, hM⟩ := hM
  exact S_X8_noteSaid X hp_v0 hB hM
set_option maxRecDepth 20000 in
set_option maxHeartbeats 4000000 in
theorem S_X8_noteStanding_J1 {F : am_F} {K : am_KK} {v0 : Int} {v1 : Int} {v2 : Int} {s0 : Int} {s1 : Int} {s2 : Int} {C2 : Int → am_M → Prop} {m : am_M} (X : am_Cx F cX8_noteStanding RX8 none 3 9 K) (hp_v0 : am_ob v0 8) (hp_v1 : am_ob v1 9) (hp_s0 : am_ob s0 8) (hC2 : ∀ w2 m, C2 w2 m → am_Bt m → am_Z F 2 [] [(2, v0), (2, v1), (0, w2), (9, 0)] m 200) (hB : am_Bt m) (h : M_X8_noteStanding_J1 v0 v1 v2 s0 s1 s2 C2 K m) : am_Z F 42 [(0, s2), (0, s1), (2, s0)] [(2, v0), (2, v1), (0, v2), (9, 0)] m 200 := by
  have G := X.G
  unfold M_X8_noteStanding_J1 at h
  refine b_callV9 (nx := 45) (zs := [s0, s1, s2]) (as := [(0, s1), (0, s2)]) X hB (by decide) rfl hp_s0 SS_X8_add (am_ta (am_ti (am_ti am_tn))) (Nat.le_of_ble_eq_true rfl) (Nat.le_of_ble_eq_true rfl) ml_RX8_37 iw_X8_add vw_X8_add cw_X8_add nw_RX8 pp_X8_add (Nat.le_of_ble_eq_true rfl) dX8_noteStanding_42 rfl (NM_X8_add hp_s0 h) (fun r_1 m_2 h hB => ?_)
  refine b_iinc (nx := 48) (a := 2) (loc2 := fun v2_3 => [(2, v0), (2, v1), (0, v2_3), (9, 0)]) G (fun _ => rfl) rfl (am_pl1 rfl (fun h => nomatch h)) dX8_noteStanding_45 rfl (fun v2_3 e_v2_3 => ?_)
  have h := h v2_3 e_v2_3
  refine z_goto (tgt := 2) G dX8_noteStanding_48 (by decide) ?_
  exact b_fewer (loc2 := [(2, v0), (2, v1), (0, v2_3), (9, 0)]) (am_lk (am_lk (am_lk (am_lk am_ln)))) (hC2 _ _ h hB)
set_option maxRecDepth 20000 in
set_option maxHeartbeats 4000000 in
theorem S_X8_noteStanding_L1B {F : am_F} {K : am_KK} {v0 : Int} {v1 : Int} {v2 : Int} {C2 : Int → am_M → Prop} {m : am_M} (X : am_Cx F cX8_noteStanding RX8 none 3 9 K) (hp_v0 : am_ob v0 8) (hp_v1 : am_ob v1 9) (hC2 : ∀ w2 m, C2 w2 m → am_Bt m → am_Z F 2 [] [(2, v0), (2, v1), (0, w2), (9, 0)] m 200) (hB : am_Bt m) (h : M_X8_noteStanding_L1B v0 v1 v2 C2 K m) : am_Z F 2 [] [(2, v0), (2, v1), (0, v2), (9, 0)] m 200 := by
  have G := X.G
  unfold M_X8_noteStanding_L1B at h
  refine z_iload_n (nx := 3) (a := 2) G rfl dX8_noteStanding_2 rfl (z_aload_n (nx := 4) (a := 1) G rfl (Or.inl rfl) dX8_noteStanding_3 rfl (b_getA (nx := 7) (k0 := 0) G hB fl_RX8_40 (Nat.le_of_ble_eq_true rfl) (Nat.le_of_ble_eq_true rfl) rfl hp_v1 dX8_noteStanding_4 rfl (b_getI (nx := 10) (k0 := 2) (t := 0) G fl_RX8_45 (Nat.le_of_ble_eq_true rfl) (Nat.le_of_ble_eq_true rfl) rfl (sh_9_0 _ hp_v1) dX8_noteStanding_7 rfl ?_)))
  refine z_icmp_ge (nx := 13) (tgt := 51) G dX8_noteStanding_10 (by decide) rfl (fun c => ?_) (fun c => ?_)
  · have h := h.1 c
    exact b_return X hB dX8_noteStanding_51 h
  · have h := h.2 c
    refine z_aload_n (nx := 14) (a := 1) G rfl (Or.inl rfl) dX8_noteStanding_13 rfl (b_getA (nx := 17) (k0 := 0) G hB fl_RX8_40 (Nat.le_of_ble_eq_true rfl) (Nat.le_of_ble_eq_true rfl) rfl hp_v1 dX8_noteStanding_14 rfl (z_iload_n (nx := 18) (a := 2) G rfl dX8_noteStanding_17 rfl (z_iconst (nx := 19) (z := 5) G (R32c rfl) dX8_noteStanding_18 rfl ?_)))
    refine b_callV0 (nx := 22) (zs := [am_rfv v1 0, v2, 5]) (as := [(0, v2), (0, 5)]) X hB (by decide) rfl (sh_9_0 _ hp_v1) SS_X7_get (am_ta (am_ti (am_ti am_tn))) (Nat.le_of_ble_eq_true rfl) (Nat.le_of_ble_eq_true rfl) ml_RX8_48 iw_X7_get vw_X7_get cw_X7_get nw_RX7 pp_X7_get (Nat.le_of_ble_eq_true rfl) dX8_noteStanding_19 rfl (NM_X7_get (sh_9_0 _ hp_v1) h) (fun r_4 m_5 h hB => ?_)
    refine b_storeE_n (nx := 23) (a := 3) (loc2 := [(2, v0), (2, v1), (0, v2), (0, r_4)]) G rfl (Nat.le_of_ble_eq_true rfl) (am_pl1 rfl (fun h => nomatch h)) dX8_noteStanding_22 rfl (z_aload_n (nx := 24) (a := 0) G rfl (Or.inl rfl) dX8_noteStanding_23 rfl (z_aload_n (nx := 25) (a := 1) G rfl (Or.inl rfl) dX8_noteStanding_24 rfl (b_getA (nx := 28) (k0 := 0) G hB fl_RX8_40 (Nat.le_of_ble_eq_true rfl) (Nat.le_of_ble_eq_true rfl) rfl hp_v1 dX8_noteStanding_25 rfl (z_iload_n (nx := 29) (a := 2) G rfl dX8_noteStanding_28 rfl (z_iconst (nx := 30) (z := 0) G (R32c rfl) dX8_noteStanding_29 rfl ?_)))))
    refine b_callV0 (nx := 33) (zs := [am_rfv v1 0, v2, 0]) (as := [(0, v2), (0, 0)]) X hB (by decide) rfl (sh_9_0 _ hp_v1) SS_X7_get (am_ta (am_ti (am_ti am_tn))) (Nat.le_of_ble_eq_true rfl) (Nat.le_of_ble_eq_true rfl) ml_RX8_48 iw_X7_get vw_X7_get cw_X7_get nw_RX7 pp_X7_get (Nat.le_of_ble_eq_true rfl) dX8_noteStanding_30 rfl (NM_X7_get (sh_9_0 _ hp_v1) h) (fun r_6 m_7 h hB => ?_)
    refine z_iload_n (nx := 34) (a := 3) G rfl dX8_noteStanding_33 rfl ?_
    refine z_if_ne (nx := 37) (tgt := 41) G dX8_noteStanding_34 (by decide) rfl (fun c => ?_) (fun c => ?_)
    · have h := h.1 c
      refine z_iload_n (nx := 42) (a := 3) G rfl dX8_noteStanding_41 rfl ?_
      exact b_fewer (loc2 := [(2, v0), (2, v1), (0, v2), (9, 0)]) (am_lk (am_lk (am_lk (am_lf am_ln)))) (S_X8_noteStanding_J1 X hp_v0 hp_v1 hp_v0 hC2 hB h)
    · have h := h.2 c
      refine z_iconst (nx := 38) (z := 3) G (R32c rfl) dX8_noteStanding_37 rfl (z_goto (tgt := 42) G dX8_noteStanding_38 (by decide) ?_)
      exact b_fewer (loc2 := [(2, v0), (2, v1), (0, v2), (9, 0)]) (am_lk (am_lk (am_lk (am_lf am_ln)))) (S_X8_noteStanding_J1 X hp_v0 hp_v1 hp_v0 hC2 hB h)
theorem S_X8_noteStanding_L1 {F : am_F} {K : am_KK} {v0 : Int} {v1 : Int} {v2 : Int} {m : am_M} (X : am_Cx F cX8_noteStanding RX8 none 3 9 K) (hp_v0 : am_ob v0 8) (hp_v1 : am_ob v1 9) (hB : am_Bt m) (h : M_X8_noteStanding_L1 v0 v1 v2 K m) : am_Z F 2 [] [(2, v0), (2, v1), (0, v2), (9, 0)] m 200 := by
  obtain ⟨I, ⟨j, hj⟩, hI⟩ := h
  have key : ∀ j v2 m, I j v2 m → am_Bt m → am_Z F 2 [] [(2, v0), (2, v1), (0, v2), (9, 0)] m 200 := by
    intro j
    induction j using Nat.strongRecOn with
    | ind j ih =>
      intro v2 m hj hB
      exact S_X8_noteStanding_L1B X hp_v0 hp_v1 (fun v2' m' hc hB' => by
        obtain ⟨j', g1, g2⟩ := hc
        exact ih j' g1 v2' m' g2 hB') hB (hI j v2 m hj)
  exact key j _ _ hj hB
set_option maxRecDepth 20000 in
set_option maxHeartbeats 4000000 in
theorem S_X8_noteStanding {F : am_F} {K : am_KK} {v0 : Int} {v1 : Int} {m : am_M} (X : am_Cx F cX8_noteStanding RX8 none 3 9 K) (hp_v0 : am_ob v0 8) (hp_v1 : am_ob v1 9) (hB : am_Bt m) (h : M_X8_noteStanding v0 v1 K m) : am_Z F 0 [] [(2, v0), (2, v1), (9, 0), (9, 0)] m 200 := by
  have G := X.G
  unfold M_X8_noteStanding at h
  refine z_iconst (nx := 1) (z := 0) G (R32c rfl) dX8_noteStanding_0 rfl (b_storeE_n (nx := 2) (a := 2) (loc2 := [(2, v0), (2, v1), (0, 0), (9, 0)]) G rfl (Nat.le_of_ble_eq_true rfl) (am_pl1 rfl (fun h => nomatch h)) dX8_noteStanding_1 rfl ?_)
  exact b_fewer (loc2 := [(2, v0), (2, v1), (0, 0), (9, 0)]) (am_lk (am_lk (am_lk (am_lk am_ln)))) (S_X8_noteStanding_L1 X hp_v0 hp_v1 hB h)
theorem NM_X8_noteStanding {v0 : Int} {v1 : Int} {K : am_KK} {m : am_M} (hp_v0 : am_ob v0 8) (hp_v1 : am_ob v1 9) (h : M_X8_noteStanding v0 v1 K m) : N_X8_noteStanding [v0, v1] K m := ⟨hp_v0, hp_v1, h⟩
theorem SS_X8_noteStanding : am_Snd yX8_noteStanding cX8_noteStanding 4 none 0 3 (am_L [2, 2] 9 N_X8_noteStanding) := by
  refine am_SB (by decide +kernel) (Nat.le_of_ble_eq_true rfl) (fun F zs as K m X ht hB hM => ?_)
  obtain ⟨v0, zs, as, rfl, rfl, hz0, ht⟩ := am_inv ht
  obtain ⟨v1, zs, as, rfl, rfl, hz1, ht⟩ := am_inv ht
  obtain ⟨rfl, rfl⟩ := am_inv0 ht
  obtain ⟨hp_v0, hp_v1, hM⟩ := hM
  exact S_X8_noteStanding X hp_v0 hp_v1 hB hM
set_option maxRecDepth 20000 in
set_option maxHeartbeats 4000000 in
theorem S_X8_tally {F : am_F} {K : am_KK} {v0 : Int} {v1 : Int} {v2 : Int} {m : am_M} (X : am_Cx F cX8_tally RX8 (some .int) 2 0 K) (hp_v0 : am_ob v0 8) (hB : am_Bt m) (h : M_X8_tally v0 v1 v2 K m) : am_Z F 0 [] [(2, v0), (0, v1), (0, v2)] m 200 := by
  have G := X.G
  unfold M_X8_tally at h
  refine z_aload_n (nx := 1) (a := 0) G rfl (Or.inl rfl) dX8_tally_0 rfl (b_getA (nx := 4) (k0 := 0) G hB fl_RX8_14 (Nat.le_of_ble_eq_true rfl) (Nat.le_of_ble_eq_true rfl) rfl hp_v0 dX8_tally_1 rfl (z_iload_n (nx := 5) (a := 1) G rfl dX8_tally_4 rfl (z_iload_n (nx := 6) (a := 2) G rfl dX8_tally_5 rfl ?_)))
  refine b_callV0 (nx := 9) (zs := [am_rfv v0 0, v1, v2]) (as := [(0, v1), (0, v2)]) X hB (by decide) rfl (sh_8_0 _ hp_v0) SS_X7_get (am_ta (am_ti (am_ti am_tn))) (Nat.le_of_ble_eq_true rfl) (Nat.le_of_ble_eq_true rfl) ml_RX8_48 iw_X7_get vw_X7_get cw_X7_get nw_RX7 pp_X7_get (Nat.le_of_ble_eq_true rfl) dX8_tally_6 rfl (NM_X7_get (sh_8_0 _ hp_v0) h) (fun r_1 m_2 h hB => ?_)
  exact b_ireturn X hB dX8_tally_9 h
theorem NM_X8_tally {v0 : Int} {v1 : Int} {v2 : Int} {K : am_KK} {m : am_M} (hp_v0 : am_ob v0 8) (h : M_X8_tally v0 v1 v2 K m) : N_X8_tally [v0, v1, v2] K m := ⟨hp_v0, h⟩
theorem SS_X8_tally : am_Snd yX8_tally cX8_tally 3 (some .int) 0 2 (am_L [2, 0, 0] 0 N_X8_tally) := by
  refine am_SB (by decide +kernel) (Nat.le_of_ble_eq_true rfl) (fun F zs as K m X ht hB hM => ?_)
  obtain ⟨v0, zs, as, rfl, rfl, hz0, ht⟩ := am_inv ht
  obtain ⟨v1, zs, as, rfl, rfl, hz1, ht⟩ := am_inv ht
  obtain ⟨v2, zs, as, rfl, rfl, hz2, ht⟩ := am_inv ht
  obtain ⟨rfl, rfl⟩ := am_inv0 ht
  obtain ⟨hp_v0, hM⟩ := hM
  exact S_X8_tally X hp_v0 hB hM
set_option maxRecDepth 20000 in
set_option maxHeartbeats 4000000 in
theorem S_X9_waiting_J1 {F : am_F} {K : am_KK} {v0 : Int} {v1 : Int} {v2 : Int} {C4 : Int → Int → am_M → Prop} {m : am_M} (X : am_Cx F cX9_waiting RX9 (some .int) 3 0 K) (hp_v0 : am_ob v0 9) (hC4 : ∀ w1 w2 m, C4 w1 w2 m → am_Bt m → am_Z F 4 [] [(2, v0), (0, w1), (0, w2)] m 200) (hB : am_Bt m) (h : M_X9_waiting_J1 v0 v1 v2 C4 K m) : am_Z F 26 [] [(2, v0), (0, v1), (0, v2)] m 200 := by
  have G := X.G
  unfold M_X9_waiting_J1 at h
  refine b_iinc (nx := 29) (a := 2) (loc2 := fun v2_1 => [(2, v0), (0, v1), (0, v2_1)]) G (fun _ => rfl) rfl (am_pl1 rfl (fun h => nomatch h)) dX9_waiting_26 rfl (fun v2_1 e_v2_1 => ?_)
  have h := h v2_1 e_v2_1
  refine z_goto (tgt := 4) G dX9_waiting_29 (by decide) ?_
  exact b_fewer (loc2 := [(2, v0), (0, v1), (0, v2_1)]) (am_lk (am_lk (am_lk am_ln))) (hC4 _ _ _ h hB)
set_option maxRecDepth 20000 in
set_option maxHeartbeats 4000000 in
theorem S_X9_waiting_L1B {F : am_F} {K : am_KK} {v0 : Int} {v1 : Int} {v2 : Int} {C4 : Int → Int → am_M → Prop} {m : am_M} (X : am_Cx F cX9_waiting RX9 (some .int) 3 0 K) (hp_v0 : am_ob v0 9) (hC4 : ∀ w1 w2 m, C4 w1 w2 m → am_Bt m → am_Z F 4 [] [(2, v0), (0, w1), (0, w2)] m 200) (hB : am_Bt m) (h : M_X9_waiting_L1B v0 v1 v2 C4 K m) : am_Z F 4 [] [(2, v0), (0, v1), (0, v2)] m 200 := by
  have G := X.G
  unfold M_X9_waiting_L1B at h
  refine z_iload_n (nx := 5) (a := 2) G rfl dX9_waiting_4 rfl (z_aload_n (nx := 6) (a := 0) G rfl (Or.inl rfl) dX9_waiting_5 rfl (b_getA (nx := 9) (k0 := 0) G hB fl_RX9_16 (Nat.le_of_ble_eq_true rfl) (Nat.le_of_ble_eq_true rfl) rfl hp_v0 dX9_waiting_6 rfl (b_getI (nx := 12) (k0 := 2) (t := 0) G fl_RX9_24 (Nat.le_of_ble_eq_true rfl) (Nat.le_of_ble_eq_true rfl) rfl (sh_9_0 _ hp_v0) dX9_waiting_9 rfl ?_)))
  refine z_icmp_ge (nx := 15) (tgt := 32) G dX9_waiting_12 (by decide) rfl (fun c => ?_) (fun c => ?_)
  · have h := h.1 c
    refine z_iload_n (nx := 33) (a := 1) G rfl dX9_waiting_32 rfl ?_
    exact b_ireturn X hB dX9_waiting_33 h
  · have h := h.2 c
    refine z_aload_n (nx := 16) (a := 0) G rfl (Or.inl rfl) dX9_waiting_15 rfl (z_iload_n (nx := 17) (a := 2) G rfl dX9_waiting_16 rfl ?_)
    refine b_callV5 (nx := 20) (zs := [v0, v2]) (as := [(0, v2)]) X hB (by decide) rfl hp_v0 SS_X9_waits (am_ta (am_ti am_tn)) (Nat.le_of_ble_eq_true rfl) (Nat.le_of_ble_eq_true rfl) ml_RX9_28 iw_X9_waits vw_X9_waits cw_X9_waits nw_RX9 pp_X9_waits (Nat.le_of_ble_eq_true rfl) dX9_waiting_17 rfl (NM_X9_waits hp_v0 h) (fun r_2 m_3 h h01_4 hB => ?_)
    refine z_if_eq (nx := 23) (tgt := 26) G dX9_waiting_20 (by decide) rfl (fun c => ?_) (fun c => ?_)
    · have h := h.1 c
      exact b_fewer (loc2 := [(2, v0), (0, v1), (0, v2)]) (am_lk (am_lk (am_lk am_ln))) (S_X9_waiting_J1 X hp_v0 hC4 hB h)
    · have h := h.2 c
      refine b_iinc (nx := 26) (a := 1) (loc2 := fun v1_5 => [(2, v0), (0, v1_5), (0, v2)]) G (fun _ => rfl) rfl (am_pl1 rfl (fun h => nomatch h)) dX9_waiting_23 rfl (fun v1_5 e_v1_5 => ?_)
      have h := h v1_5 e_v1_5
      exact b_fewer (loc2 := [(2, v0), (0, v1_5), (0, v2)]) (am_lk (am_lk (am_lk am_ln))) (S_X9_waiting_J1 X hp_v0 hC4 hB h)
theorem S_X9_waiting_L1 {F : am_F} {K : am_KK} {v0 : Int} {v1 : Int} {v2 : Int} {m : am_M} (X : am_Cx F cX9_waiting RX9 (some .int) 3 0 K) (hp_v0 : am_ob v0 9) (hB : am_Bt m) (h : M_X9_waiting_L1 v0 v1 v2 K m) : am_Z F 4 [] [(2, v0), (0, v1), (0, v2)] m 200 := by
  obtain ⟨I, ⟨j, hj⟩, hI⟩ := h
  have key : ∀ j v1 v2 m, I j v1 v2 m → am_Bt m → am_Z F 4 [] [(2, v0), (0, v1), (0, v2)] m 200 := by
    intro j
    induction j using Nat.strongRecOn with
    | ind j ih =>
      intro v1 v2 m hj hB
      exact S_X9_waiting_L1B X hp_v0 (fun v1' v2' m' hc hB' => by
        obtain ⟨j', g1, g2⟩ := hc
        exact ih j' g1 v1' v2' m' g2 hB') hB (hI j v1 v2 m hj)
  exact key j _ _ _ hj hB
set_option maxRecDepth 20000 in
set_option maxHeartbeats 4000000 in
theorem S_X9_waiting {F : am_F} {K : am_KK} {v0 : Int} {m : am_M} (X : am_Cx F cX9_waiting RX9 (some .int) 3 0 K) (hp_v0 : am_ob v0 9) (hB : am_Bt m) (h : M_X9_waiting v0 K m) : am_Z F 0 [] [(2, v0), (9, 0), (9, 0)] m 200 := by
  have G := X.G
  unfold M_X9_waiting at h
  refine z_iconst (nx := 1) (z := 0) G (R32c rfl) dX9_waiting_0 rfl (b_storeE_n (nx := 2) (a := 1) (loc2 := [(2, v0), (0, 0), (9, 0)]) G rfl (Nat.le_of_ble_eq_true rfl) (am_pl1 rfl (fun h => nomatch h)) dX9_waiting_1 rfl (z_iconst (nx := 3) (z := 0) G (R32c rfl) dX9_waiting_2 rfl (b_storeE_n (nx := 4) (a := 2) (loc2 := [(2, v0), (0, 0), (0, 0)]) G rfl (Nat.le_of_ble_eq_true rfl) (am_pl1 rfl (fun h => nomatch h)) dX9_waiting_3 rfl ?_)))
  exact b_fewer (loc2 := [(2, v0), (0, 0), (0, 0)]) (am_lk (am_lk (am_lk am_ln))) (S_X9_waiting_L1 X hp_v0 hB h)
theorem NM_X9_waiting {v0 : Int} {K : am_KK} {m : am_M} (hp_v0 : am_ob v0 9) (h : M_X9_waiting v0 K m) : N_X9_waiting [v0] K m := ⟨hp_v0, h⟩
theorem SS_X9_waiting : am_Snd yX9_waiting cX9_waiting 3 (some .int) 0 3 (am_L [2] 0 N_X9_waiting) := by
  refine am_SB (by decide +kernel) (Nat.le_of_ble_eq_true rfl) (fun F zs as K m X ht hB hM => ?_)
  obtain ⟨v0, zs, as, rfl, rfl, hz0, ht⟩ := am_inv ht
  obtain ⟨rfl, rfl⟩ := am_inv0 ht
  obtain ⟨hp_v0, hM⟩ := hM
  exact S_X9_waiting X hp_v0 hB hM
set_option maxRecDepth 20000 in
set_option maxHeartbeats 4000000 in
theorem S_X9_grantedFor_J1 {F : am_F} {K : am_KK} {v0 : Int} {v1 : Int} {v2 : Int} {v3 : Int} {C4 : Int → Int → am_M → Prop} {m : am_M} (X : am_Cx F cX9_grantedFor RX9 (some .int) 2 0 K) (hp_v0 : am_ob v0 9) (hC4 : ∀ w2 w3 m, C4 w2 w3 m → am_Bt m → am_Z F 4 [] [(2, v0), (0, v1), (0, w2), (0, w3)] m 200) (hB : am_Bt m) (h : M_X9_grantedFor_J1 v0 v1 v2 v3 C4 K m) : am_Z F 44 [] [(2, v0), (0, v1), (0, v2), (0, v3)] m 200 := by
  have G := X.G
  unfold M_X9_grantedFor_J1 at h
  refine b_iinc (nx := 47) (a := 3) (loc2 := fun v3_1 => [(2, v0), (0, v1), (0, v2), (0, v3_1)]) G (fun _ => rfl) rfl (am_pl1 rfl (fun h => nomatch h)) dX9_grantedFor_44 rfl (fun v3_1 e_v3_1 => ?_)
  have h := h v3_1 e_v3_1
  refine z_goto (tgt := 4) G dX9_grantedFor_47 (by decide) ?_
  exact b_fewer (loc2 := [(2, v0), (0, v1), (0, v2), (0, v3_1)]) (am_lk (am_lk (am_lk (am_lk am_ln)))) (hC4 _ _ _ h hB)
set_option maxRecDepth 20000 in
set_option maxHeartbeats 4000000 in
theorem S_X9_grantedFor_L1B {F : am_F} {K : am_KK} {v0 : Int} {v1 : Int} {v2 : Int} {v3 : Int} {C4 : Int → Int → am_M → Prop} {m : am_M} (X : am_Cx F cX9_grantedFor RX9 (some .int) 2 0 K) (hp_v0 : am_ob v0 9) (hC4 : ∀ w2 w3 m, C4 w2 w3 m → am_Bt m → am_Z F 4 [] [(2, v0), (0, v1), (0, w2), (0, w3)] m 200) (hB : am_Bt m) (h : M_X9_grantedFor_L1B v0 v1 v2 v3 C4 K m) : am_Z F 4 [] [(2, v0), (0, v1), (0, v2), (0, v3)] m 200 := by
  have G := X.G
  unfold M_X9_grantedFor_L1B at h
  refine z_iload_n (nx := 5) (a := 3) G rfl dX9_grantedFor_4 rfl (z_aload_n (nx := 6) (a := 0) G rfl (Or.inl rfl) dX9_grantedFor_5 rfl (b_getA (nx := 9) (k0 := 0) G hB fl_RX9_16 (Nat.le_of_ble_eq_true rfl) (Nat.le_of_ble_eq_true rfl) rfl hp_v0 dX9_grantedFor_6 rfl (b_getI (nx := 12) (k0 := 2) (t := 0) G fl_RX9_24 (Nat.le_of_ble_eq_true rfl) (Nat.le_of_ble_eq_true rfl) rfl (sh_9_0 _ hp_v0) dX9_grantedFor_9 rfl ?_)))
  refine z_icmp_ge (nx := 15) (tgt := 50) G dX9_grantedFor_12 (by decide) rfl (fun c => ?_) (fun c => ?_)
  · have h := h.1 c
    refine z_iload_n (nx := 51) (a := 2) G rfl dX9_grantedFor_50 rfl ?_
    exact b_ireturn X hB dX9_grantedFor_51 h
  · have h := h.2 c
    refine z_aload_n (nx := 16) (a := 0) G rfl (Or.inl rfl) dX9_grantedFor_15 rfl (b_getA (nx := 19) (k0 := 0) G hB fl_RX9_16 (Nat.le_of_ble_eq_true rfl) (Nat.le_of_ble_eq_true rfl) rfl hp_v0 dX9_grantedFor_16 rfl (z_iload_n (nx := 20) (a := 3) G rfl dX9_grantedFor_19 rfl (z_iconst (nx := 21) (z := 5) G (R32c rfl) dX9_grantedFor_20 rfl ?_)))
    refine b_callV0 (nx := 24) (zs := [am_rfv v0 0, v3, 5]) (as := [(0, v3), (0, 5)]) X hB (by decide) rfl (sh_9_0 _ hp_v0) SS_X7_get (am_ta (am_ti (am_ti am_tn))) (Nat.le_of_ble_eq_true rfl) (Nat.le_of_ble_eq_true rfl) ml_RX9_20 iw_X7_get vw_X7_get cw_X7_get nw_RX7 pp_X7_get (Nat.le_of_ble_eq_true rfl) dX9_grantedFor_21 rfl (NM_X7_get (sh_9_0 _ hp_v0) h) (fun r_2 m_3 h hB => ?_)
    refine z_iconst (nx := 25) (z := 1) G (R32c rfl) dX9_grantedFor_24 rfl ?_
    refine z_icmp_ne (nx := 28) (tgt := 44) G dX9_grantedFor_25 (by decide) rfl (fun c => ?_) (fun c => ?_)
    · have h := h.1 c
      exact b_fewer (loc2 := [(2, v0), (0, v1), (0, v2), (0, v3)]) (am_lk (am_lk (am_lk (am_lk am_ln)))) (S_X9_grantedFor_J1 X hp_v0 hC4 hB h)
    · have h := h.2 c
      refine z_aload_n (nx := 29) (a := 0) G rfl (Or.inl rfl) dX9_grantedFor_28 rfl (b_getA (nx := 32) (k0 := 0) G hB fl_RX9_16 (Nat.le_of_ble_eq_true rfl) (Nat.le_of_ble_eq_true rfl) rfl hp_v0 dX9_grantedFor_29 rfl (z_iload_n (nx := 33) (a := 3) G rfl dX9_grantedFor_32 rfl (z_iconst (nx := 34) (z := 1) G (R32c rfl) dX9_grantedFor_33 rfl ?_)))
      refine b_callV0 (nx := 37) (zs := [am_rfv v0 0, v3, 1]) (as := [(0, v3), (0, 1)]) X hB (by decide) rfl (sh_9_0 _ hp_v0) SS_X7_get (am_ta (am_ti (am_ti am_tn))) (Nat.le_of_ble_eq_true rfl) (Nat.le_of_ble_eq_true rfl) ml_RX9_20 iw_X7_get vw_X7_get cw_X7_get nw_RX7 pp_X7_get (Nat.le_of_ble_eq_true rfl) dX9_grantedFor_34 rfl (NM_X7_get (sh_9_0 _ hp_v0) h) (fun r_4 m_5 h hB => ?_)
      refine z_iload_n (nx := 38) (a := 1) G rfl dX9_grantedFor_37 rfl ?_
      refine z_icmp_ne (nx := 41) (tgt := 44) G dX9_grantedFor_38 (by decide) rfl (fun c => ?_) (fun c => ?_)
      · have h := h.1 c
        exact b_fewer (loc2 := [(2, v0), (0, v1), (0, v2), (0, v3)]) (am_lk (am_lk (am_lk (am_lk am_ln)))) (S_X9_grantedFor_J1 X hp_v0 hC4 hB h)
      · have h := h.2 c
        refine b_iinc (nx := 44) (a := 2) (loc2 := fun v2_6 => [(2, v0), (0, v1), (0, v2_6), (0, v3)]) G (fun _ => rfl) rfl (am_pl1 rfl (fun h => nomatch h)) dX9_grantedFor_41 rfl (fun v2_6 e_v2_6 => ?_)
        have h := h v2_6 e_v2_6
        exact b_fewer (loc2 := [(2, v0), (0, v1), (0, v2_6), (0, v3)]) (am_lk (am_lk (am_lk (am_lk am_ln)))) (S_X9_grantedFor_J1 X hp_v0 hC4 hB h)
theorem S_X9_grantedFor_L1 {F : am_F} {K : am_KK} {v0 : Int} {v1 : Int} {v2 : Int} {v3 : Int} {m : am_M} (X : am_Cx F cX9_grantedFor RX9 (some .int) 2 0 K) (hp_v0 : am_ob v0 9) (hB : am_Bt m) (h : M_X9_grantedFor_L1 v0 v1 v2 v3 K m) : am_Z F 4 [] [(2, v0), (0, v1), (0, v2), (0, v3)] m 200 := by
  obtain ⟨I, ⟨j, hj⟩, hI⟩ := h
  have key : ∀ j v2 v3 m, I j v2 v3 m → am_Bt m → am_Z F 4 [] [(2, v0), (0, v1), (0, v2), (0, v3)] m 200 := by
    intro j
    induction j using Nat.strongRecOn with
    | ind j ih =>
      intro v2 v3 m hj hB
      exact S_X9_grantedFor_L1B X hp_v0 (fun v2' v3' m' hc hB' => by
        obtain ⟨j', g1, g2⟩ := hc
        exact ih j' g1 v2' v3' m' g2 hB') hB (hI j v2 v3 m hj)
  exact key j _ _ _ hj hB
set_option maxRecDepth 20000 in
set_option maxHeartbeats 4000000 in
theorem S_X9_grantedFor {F : am_F} {K : am_KK} {v0 : Int} {v1 : Int} {m : am_M} (X : am_Cx F cX9_grantedFor RX9 (some .int) 2 0 K) (hp_v0 : am_ob v0 9) (hB : am_Bt m) (h : M_X9_grantedFor v0 v1 K m) : am_Z F 0 [] [(2, v0), (0, v1), (9, 0), (9, 0)] m 200 := by
  have G := X.G
  unfold M_X9_grantedFor at h
  refine z_iconst (nx := 1) (z := 0) G (R32c rfl) dX9_grantedFor_0 rfl (b_storeE_n (nx := 2) (a := 2) (loc2 := [(2, v0), (0, v1), (0, 0), (9, 0)]) G rfl (Nat.le_of_ble_eq_true rfl) (am_pl1 rfl (fun h => nomatch h)) dX9_grantedFor_1 rfl (z_iconst (nx := 3) (z := 0) G (R32c rfl) dX9_grantedFor_2 rfl (b_storeE_n (nx := 4) (a := 3) (loc2 := [(2, v0), (0, v1), (0, 0), (0, 0)]) G rfl (Nat.le_of_ble_eq_true rfl) (am_pl1 rfl (fun h => nomatch h)) dX9_grantedFor_3 rfl ?_)))
  exact b_fewer (loc2 := [(2, v0), (0, v1), (0, 0), (0, 0)]) (am_lk (am_lk (am_lk (am_lk am_ln)))) (S_X9_grantedFor_L1 X hp_v0 hB h)
theorem NM_X9_grantedFor {v0 : Int} {v1 : Int} {K : am_KK} {m : am_M} (hp_v0 : am_ob v0 9) (h : M_X9_grantedFor v0 v1 K m) : N_X9_grantedFor [v0, v1] K m := ⟨hp_v0, h⟩
theorem SS_X9_grantedFor : am_Snd yX9_grantedFor cX9_grantedFor 4 (some .int) 0 2 (am_L [2, 0] 0 N_X9_grantedFor) := by
  refine am_SB (by decide +kernel) (Nat.le_of_ble_eq_true rfl) (fun F zs as K m X ht hB hM => ?_)
  obtain ⟨v0, zs, as, rfl, rfl, hz0, ht⟩ := am_inv ht
  obtain ⟨v1, zs, as, rfl, rfl, hz1, ht⟩ := am_inv ht
  obtain ⟨rfl, rfl⟩ := am_inv0 ht
  obtain ⟨hp_v0, hM⟩ := hM
  exact S_X9_grantedFor X hp_v0 hB hM
set_option maxRecDepth 20000 in
set_option maxHeartbeats 4000000 in
theorem S_X9_utter {F : am_F} {K : am_KK} {v0 : Int} {v1 : Int} {v2 : Int} {v3 : Int} {v4 : Int} {m : am_M} (X : am_Cx F cX9_utter RX9 (some .int) 2 0 K) (hp_v0 : am_ob v0 9) (hB : am_Bt m) (h : M_X9_utter v0 v1 v2 v3 v4 K m) : am_Z F 0 [] [(2, v0), (0, v1), (0, v2), (0, v3), (0, v4), (9, 0)] m 200 := by
  have G := X.G
  unfold M_X9_utter at h
  refine z_aload_n (nx := 1) (a := 0) G rfl (Or.inl rfl) dX9_utter_0 rfl (b_getA (nx := 4) (k0 := 0) G hB fl_RX9_16 (Nat.le_of_ble_eq_true rfl) (Nat.le_of_ble_eq_true rfl) rfl hp_v0 dX9_utter_1 rfl ?_)
  refine b_callV0 (nx := 7) (zs := [am_rfv v0 0]) (as := []) X hB (by decide) rfl (sh_9_0 _ hp_v0) SS_X7_open (am_ta am_tn) (Nat.le_of_ble_eq_true rfl) (Nat.le_of_ble_eq_true rfl) ml_RX9_32 iw_X7_open vw_X7_open cw_X7_open nw_RX7 pp_X7_open (Nat.le_of_ble_eq_true rfl) dX9_utter_4 rfl (NM_X7_open (sh_9_0 _ hp_v0) h) (fun r_1 m_2 h hB => ?_)
  refine b_storeE (nx := 9) (a := 5) (loc2 := [(2, v0), (0, v1), (0, v2), (0, v3), (0, v4), (0, r_1)]) G rfl (Nat.le_of_ble_eq_true rfl) (am_pl1 rfl (fun h => nomatch h)) dX9_utter_7 rfl (z_aload_n (nx := 10) (a := 0) G rfl (Or.inl rfl) dX9_utter_9 rfl (b_getA (nx := 13) (k0 := 0) G hB fl_RX9_16 (Nat.le_of_ble_eq_true rfl) (Nat.le_of_ble_eq_true rfl) rfl hp_v0 dX9_utter_10 rfl (z_iload (nx := 15) (a := 5) G rfl dX9_utter_13 rfl (z_iconst (nx := 16) (z := 0) G (R32c rfl) dX9_utter_15 rfl (z_iload_n (nx := 17) (a := 1) G rfl dX9_utter_16 rfl ?_)))))
  refine b_callV9 (nx := 20) (zs := [am_rfv v0 0, r_1, 0, v1]) (as := [(0, r_1), (0, 0), (0, v1)]) X hB (by decide) rfl (sh_9_0 _ hp_v0) SS_X7_set (am_ta (am_ti (am_ti (am_ti am_tn)))) (Nat.le_of_ble_eq_true rfl) (Nat.le_of_ble_eq_true rfl) ml_RX9_36 iw_X7_set vw_X7_set cw_X7_set nw_RX7 pp_X7_set (Nat.le_of_ble_eq_true rfl) dX9_utter_17 rfl (NM_X7_set (sh_9_0 _ hp_v0) h) (fun r_3 m_4 h hB => ?_)
  refine z_aload_n (nx := 21) (a := 0) G rfl (Or.inl rfl) dX9_utter_20 rfl (b_getA (nx := 24) (k0 := 0) G hB fl_RX9_16 (Nat.le_of_ble_eq_true rfl) (Nat.le_of_ble_eq_true rfl) rfl hp_v0 dX9_utter_21 rfl (z_iload (nx := 26) (a := 5) G rfl dX9_utter_24 rfl (z_iconst (nx := 27) (z := 1) G (R32c rfl) dX9_utter_26 rfl (z_iload_n (nx := 28) (a := 2) G rfl dX9_utter_27 rfl ?_))))
  refine b_callV9 (nx := 31) (zs := [am_rfv v0 0, r_1, 1, v2]) (as := [(0, r_1), (0, 1), (0, v2)]) X hB (by decide) rfl (sh_9_0 _ hp_v0) SS_X7_set (am_ta (am_ti (am_ti (am_ti am_tn)))) (Nat.le_of_ble_eq_true rfl) (Nat.le_of_ble_eq_true rfl) ml_RX9_36 iw_X7_set vw_X7_set cw_X7_set nw_RX7 pp_X7_set (Nat.le_of_ble_eq_true rfl) dX9_utter_28 rfl (NM_X7_set (sh_9_0 _ hp_v0) h) (fun r_5 m_6 h hB => ?_)
  refine z_aload_n (nx := 32) (a := 0) G rfl (Or.inl rfl) dX9_utter_31 rfl (b_getA (nx := 35) (k0 := 0) G hB fl_RX9_16 (Nat.le_of_ble_eq_true rfl) (Nat.le_of_ble_eq_true rfl) rfl hp_v0 dX9_utter_32 rfl (z_iload (nx := 37) (a := 5) G rfl dX9_utter_35 rfl (z_iconst (nx := 38) (z := 2) G (R32c rfl) dX9_utter_37 rfl (z_iload_n (nx := 39) (a := 3) G rfl dX9_utter_38 rfl ?_))))
  refine b_callV9 (nx := 42) (zs := [am_rfv v0 0, r_1, 2, v3]) (as := [(0, r_1), (0, 2), (0, v3)]) X hB (by decide) rfl (sh_9_0 _ hp_v0) SS_X7_set (am_ta (am_ti (am_ti (am_ti am_tn)))) (Nat.le_of_ble_eq_true rfl) (Nat.le_of_ble_eq_true rfl) ml_RX9_36 iw_X7_set vw_X7_set cw_X7_set nw_RX7 pp_X7_set (Nat.le_of_ble_eq_true rfl) dX9_utter_39 rfl (NM_X7_set (sh_9_0 _ hp_v0) h) (fun r_7 m_8 h hB => ?_)
  refine z_aload_n (nx := 43) (a := 0) G rfl (Or.inl rfl) dX9_utter_42 rfl (b_getA (nx := 46) (k0 := 0) G hB fl_RX9_16 (Nat.le_of_ble_eq_true rfl) (Nat.le_of_ble_eq_true rfl) rfl hp_v0 dX9_utter_43 rfl (z_iload (nx := 48) (a := 5) G rfl dX9_utter_46 rfl (z_iconst (nx := 49) (z := 3) G (R32c rfl) dX9_utter_48 rfl (z_iload (nx := 51) (a := 4) G rfl dX9_utter_49 rfl ?_))))
  refine b_callV9 (nx := 54) (zs := [am_rfv v0 0, r_1, 3, v4]) (as := [(0, r_1), (0, 3), (0, v4)]) X hB (by decide) rfl (sh_9_0 _ hp_v0) SS_X7_set (am_ta (am_ti (am_ti (am_ti am_tn)))) (Nat.le_of_ble_eq_true rfl) (Nat.le_of_ble_eq_true rfl) ml_RX9_36 iw_X7_set vw_X7_set cw_X7_set nw_RX7 pp_X7_set (Nat.le_of_ble_eq_true rfl) dX9_utter_51 rfl (NM_X7_set (sh_9_0 _ hp_v0) h) (fun r_9 m_10 h hB => ?_)
  refine z_aload_n (nx := 55) (a := 0) G rfl (Or.inl rfl) dX9_utter_54 rfl (b_getA (nx := 58) (k0 := 0) G hB fl_RX9_16 (Nat.le_of_ble_eq_true rfl) (Nat.le_of_ble_eq_true rfl) rfl hp_v0 dX9_utter_55 rfl (z_iload (nx := 60) (a := 5) G rfl dX9_utter_58 rfl (z_iconst (nx := 61) (z := 4) G (R32c rfl) dX9_utter_60 rfl (z_aload_n (nx := 62) (a := 0) G rfl (Or.inl rfl) dX9_utter_61 rfl (b_getI (nx := 65) (k0 := 1) (t := 0) G fl_RX9_40 (Nat.le_of_ble_eq_true rfl) (Nat.le_of_ble_eq_true rfl) rfl hp_v0 dX9_utter_62 rfl ?_)))))
  refine b_callV9 (nx := 68) (zs := [am_rfv v0 0, r_1, 4, m_10 v0 1]) (as := [(0, r_1), (0, 4), (0, m_10 v0 1)]) X hB (by decide) rfl (sh_9_0 _ hp_v0) SS_X7_set (am_ta (am_ti (am_ti (am_ti am_tn)))) (Nat.le_of_ble_eq_true rfl) (Nat.le_of_ble_eq_true rfl) ml_RX9_36 iw_X7_set vw_X7_set cw_X7_set nw_RX7 pp_X7_set (Nat.le_of_ble_eq_true rfl) dX9_utter_65 rfl (NM_X7_set (sh_9_0 _ hp_v0) h) (fun r_11 m_12 h hB => ?_)
  refine z_aload_n (nx := 69) (a := 0) G rfl (Or.inl rfl) dX9_utter_68 rfl (b_getA (nx := 72) (k0 := 0) G hB fl_RX9_16 (Nat.le_of_ble_eq_true rfl) (Nat.le_of_ble_eq_true rfl) rfl hp_v0 dX9_utter_69 rfl (z_iload (nx := 74) (a := 5) G rfl dX9_utter_72 rfl (z_iconst (nx := 75) (z := 5) G (R32c rfl) dX9_utter_74 rfl (z_iconst (nx := 76) (z := 0) G (R32c rfl) dX9_utter_75 rfl ?_))))
  refine b_callV9 (nx := 79) (zs := [am_rfv v0 0, r_1, 5, 0]) (as := [(0, r_1), (0, 5), (0, 0)]) X hB (by decide) rfl (sh_9_0 _ hp_v0) SS_X7_set (am_ta (am_ti (am_ti (am_ti am_tn)))) (Nat.le_of_ble_eq_true rfl) (Nat.le_of_ble_eq_true rfl) ml_RX9_36 iw_X7_set vw_X7_set cw_X7_set nw_RX7 pp_X7_set (Nat.le_of_ble_eq_true rfl) dX9_utter_76 rfl (NM_X7_set (sh_9_0 _ hp_v0) h) (fun r_13 m_14 h hB => ?_)
  refine z_aload_n (nx := 80) (a := 0) G rfl (Or.inl rfl) dX9_utter_79 rfl (b_getA (nx := 83) (k0 := 0) G hB fl_RX9_16 (Nat.le_of_ble_eq_true rfl) (Nat.le_of_ble_eq_true rfl) rfl hp_v0 dX9_utter_80 rfl (z_iload (nx := 85) (a := 5) G rfl dX9_utter_83 rfl (z_bipush (nx := 87) (z := 6) G (R32c rfl) rfl dX9_utter_85 rfl (z_iconst (nx := 88) (z := (-1)) G (R32c rfl) dX9_utter_87 rfl ?_))))
  refine b_callV9 (nx := 91) (zs := [am_rfv v0 0, r_1, 6, (-1)]) (as := [(0, r_1), (0, 6), (0, (-1))]) X hB (by decide) rfl (sh_9_0 _ hp_v0) SS_X7_set (am_ta (am_ti (am_ti (am_ti am_tn)))) (Nat.le_of_ble_eq_true rfl) (Nat.le_of_ble_eq_true rfl) ml_RX9_36 iw_X7_set vw_X7_set cw_X7_set nw_RX7 pp_X7_set (Nat.le_of_ble_eq_true rfl) dX9_utter_88 rfl (NM_X7_set (sh_9_0 _ hp_v0) h) (fun r_15 m_16 h hB => ?_)
  refine z_iload (nx := 93) (a := 5) G rfl dX9_utter_91 rfl ?_
  exact b_ireturn X hB dX9_utter_93 h
theorem NM_X9_utter {v0 : Int} {v1 : Int} {v2 : Int} {v3 : Int} {v4 : Int} {K : am_KK} {m : am_M} (hp_v0 : am_ob v0 9) (h : M_X9_utter v0 v1 v2 v3 v4 K m) : N_X9_utter [v0, v1, v2, v3, v4] K m := ⟨hp_v0, h⟩
theorem SS_X9_utter : am_Snd yX9_utter cX9_utter 6 (some .int) 0 2 (am_L [2, 0, 0, 0, 0] 0 N_X9_utter) := by
  refine am_SB (by decide +kernel) (Nat.le_of_ble_eq_true rfl) (fun F zs as K m X ht hB hM => ?_)
  obtain ⟨v0, zs, as, rfl, rfl, hz0, ht⟩ := am_inv ht
  obtain ⟨v1, zs, as, rfl, rfl, hz1, ht⟩ := am_inv ht
  obtain ⟨v2, zs, as, rfl, rfl, hz2, ht⟩ := am_inv ht
  obtain ⟨v3, zs, as, rfl, rfl, hz3, ht⟩ := am_inv ht
  obtain ⟨v4, zs, as, rfl, rfl, hz4, ht⟩ := am_inv ht
  obtain ⟨rfl, rfl⟩ := am_inv0 ht
  obtain ⟨hp_v0, hM⟩ := hM
  exact S_X9_utter X hp_v0 hB hM
set_option maxRecDepth 20000 in
set_option maxHeartbeats 4000000 in
theorem S_X9_takeBackDawn_J1 {F : am_F} {K : am_KK} {v0 : Int} {v1 : Int} {v2 : Int} {C2 : Int → am_M → Prop} {m : am_M} (X : am_Cx F cX9_takeBackDawn RX9 none 2 9 K) (hp_v0 : am_ob v0 9) (hC2 : ∀ w2 m, C2 w2 m → am_Bt m → am_Z F 2 [] [(2, v0), (0, v1), (0, w2)] m 200) (hB : am_Bt m) (h : M_X9_takeBackDawn_J1 v0 v1 v2 C2 K m) : am_Z F 43 [] [(2, v0), (0, v1), (0, v2)] m 200 := by
  have G := X.G
  unfold M_X9_takeBackDawn_J1 at h
  refine b_iinc (nx := 46) (a := 2) (loc2 := fun v2_1 => [(2, v0), (0, v1), (0, v2_1)]) G (fun _ => rfl) rfl (am_pl1 rfl (fun h => nomatch h)) dX9_takeBackDawn_43 rfl (fun v2_1 e_v2_1 => ?_)
  have h := h v2_1 e_v2_1
  refine z_goto (tgt := 2) G dX9_takeBackDawn_46 (by decide) ?_
  exact b_fewer (loc2 := [(2, v0), (0, v1), (0, v2_1)]) (am_lk (am_lk (am_lk am_ln))) (hC2 _ _ h hB)
set_option maxRecDepth 20000 in
set_option maxHeartbeats 4000000 in
theorem S_X9_takeBackDawn_L1B {F : am_F} {K : am_KK} {v0 : Int} {v1 : Int} {v2 : Int} {C2 : Int → am_M → Prop} {m : am_M} (X : am_Cx F cX9_takeBackDawn RX9 none 2 9 K) (hp_v0 : am_ob v0 9) (hC2 : ∀ w2 m, C2 w2 m → am_Bt m → am_Z F 2 [] [(2, v0), (0, v1), (0, w2)] m 200) (hB : am_Bt m) (h : M_X9_takeBackDawn_L1B v0 v1 v2 C2 K m) : am_Z F 2 [] [(2, v0), (0, v1), (0, v2)] m 200 := by
  have G := X.G
  unfold M_X9_takeBackDawn_L1B at h
  refine z_iload_n (nx := 3) (a := 2) G rfl dX9_takeBackDawn_2 rfl (z_aload_n (nx := 4) (a := 0) G rfl (Or.inl rfl) dX9_takeBackDawn_3 rfl (b_getA (nx := 7) (k0 := 0) G hB fl_RX9_16 (Nat.le_of_ble_eq_true rfl) (Nat.le_of_ble_eq_true rfl) rfl hp_v0 dX9_takeBackDawn_4 rfl (b_getI (nx := 10) (k0 := 2) (t := 0) G fl_RX9_24 (Nat.le_of_ble_eq_true rfl) (Nat.le_of_ble_eq_true rfl) rfl (sh_9_0 _ hp_v0) dX9_takeBackDawn_7 rfl ?_)))
  refine z_icmp_ge (nx := 13) (tgt := 49) G dX9_takeBackDawn_10 (by decide) rfl (fun c => ?_) (fun c => ?_)
  · have h := h.1 c
    refine z_aload_n (nx := 50) (a := 0) G rfl (Or.inl rfl) dX9_takeBackDawn_49 rfl (z_dup (nx := 51) G (fun h => nomatch h) dX9_takeBackDawn_50 rfl (b_getI (nx := 54) (k0 := 1) (t := 0) G fl_RX9_40 (Nat.le_of_ble_eq_true rfl) (Nat.le_of_ble_eq_true rfl) rfl hp_v0 dX9_takeBackDawn_51 rfl (z_iconst (nx := 55) (z := 1) G (R32c rfl) dX9_takeBackDawn_54 rfl (z_isub (nx := 56) G dX9_takeBackDawn_55 rfl ?_))))
    refine b_put (nx := 59) (k0 := 1) (t := 0) G hB fl_RX9_40 (Nat.le_of_ble_eq_true rfl) (Nat.le_of_ble_eq_true rfl) rfl (fun h => nomatch h) rfl hp_v0 dX9_takeBackDawn_56 rfl (fun m_2 e_m_2 hB => ?_)
    have h := h m_2 e_m_2
    exact b_return X hB dX9_takeBackDawn_59 h
  · have h := h.2 c
    refine z_iload_n (nx := 14) (a := 1) G rfl dX9_takeBackDawn_13 rfl (z_iload_n (nx := 15) (a := 2) G rfl dX9_takeBackDawn_14 rfl (z_ishr (nx := 16) G dX9_takeBackDawn_15 rfl (z_iconst (nx := 17) (z := 1) G (R32c rfl) dX9_takeBackDawn_16 rfl (z_iand (nx := 18) G dX9_takeBackDawn_17 rfl (z_iconst (nx := 19) (z := 1) G (R32c rfl) dX9_takeBackDawn_18 rfl ?_)))))
    refine z_icmp_ne (nx := 22) (tgt := 43) G dX9_takeBackDawn_19 (by decide) rfl (fun c => ?_) (fun c => ?_)
    · have h := h.1 c
      exact b_fewer (loc2 := [(2, v0), (0, v1), (0, v2)]) (am_lk (am_lk (am_lk am_ln))) (S_X9_takeBackDawn_J1 X hp_v0 hC2 hB h)
    · have h := h.2 c
      refine z_aload_n (nx := 23) (a := 0) G rfl (Or.inl rfl) dX9_takeBackDawn_22 rfl (b_getA (nx := 26) (k0 := 0) G hB fl_RX9_16 (Nat.le_of_ble_eq_true rfl) (Nat.le_of_ble_eq_true rfl) rfl hp_v0 dX9_takeBackDawn_23 rfl (z_iload_n (nx := 27) (a := 2) G rfl dX9_takeBackDawn_26 rfl (z_iconst (nx := 28) (z := 5) G (R32c rfl) dX9_takeBackDawn_27 rfl (z_iconst (nx := 29) (z := 0) G (R32c rfl) dX9_takeBackDawn_28 rfl ?_))))
      refine b_callV9 (nx := 32) (zs := [am_rfv v0 0, v2, 5, 0]) (as := [(0, v2), (0, 5), (0, 0)]) X hB (by decide) rfl (sh_9_0 _ hp_v0) SS_X7_set (am_ta (am_ti (am_ti (am_ti am_tn)))) (Nat.le_of_ble_eq_true rfl) (Nat.le_of_ble_eq_true rfl) ml_RX9_36 iw_X7_set vw_X7_set cw_X7_set nw_RX7 pp_X7_set (Nat.le_of_ble_eq_true rfl) dX9_takeBackDawn_29 rfl (NM_X7_set (sh_9_0 _ hp_v0) h) (fun r_3 m_4 h hB => ?_)
      refine z_aload_n (nx := 33) (a := 0) G rfl (Or.inl rfl) dX9_takeBackDawn_32 rfl (b_getA (nx := 36) (k0 := 0) G hB fl_RX9_16 (Nat.le_of_ble_eq_true rfl) (Nat.le_of_ble_eq_true rfl) rfl hp_v0 dX9_takeBackDawn_33 rfl (z_iload_n (nx := 37) (a := 2) G rfl dX9_takeBackDawn_36 rfl (z_bipush (nx := 39) (z := 6) G (R32c rfl) rfl dX9_takeBackDawn_37 rfl (z_iconst (nx := 40) (z := (-1)) G (R32c rfl) dX9_takeBackDawn_39 rfl ?_))))
      refine b_callV9 (nx := 43) (zs := [am_rfv v0 0, v2, 6, (-1)]) (as := [(0, v2), (0, 6), (0, (-1))]) X hB (by decide) rfl (sh_9_0 _ hp_v0) SS_X7_set (am_ta (am_ti (am_ti (am_ti am_tn)))) (Nat.le_of_ble_eq_true rfl) (Nat.le_of_ble_eq_true rfl) ml_RX9_36 iw_X7_set vw_X7_set cw_X7_set nw_RX7 pp_X7_set (Nat.le_of_ble_eq_true rfl) dX9_takeBackDawn_40 rfl (NM_X7_set (sh_9_0 _ hp_v0) h) (fun r_5 m_6 h hB => ?_)
      exact b_fewer (loc2 := [(2, v0), (0, v1), (0, v2)]) (am_lk (am_lk (am_lk am_ln))) (S_X9_takeBackDawn_J1 X hp_v0 hC2 hB h)
theorem S_X9_takeBackDawn_L1 {F : am_F} {K : am_KK} {v0 : Int} {v1 : Int} {v2 : Int} {m : am_M} (X : am_Cx F cX9_takeBackDawn RX9 none 2 9 K) (hp_v0 : am_ob v0 9) (hB : am_Bt m) (h : M_X9_takeBackDawn_L1 v0 v1 v2 K m) : am_Z F 2 [] [(2, v0), (0, v1), (0, v2)] m 200 := by
  obtain ⟨I, ⟨j, hj⟩, hI⟩ := h
  have key : ∀ j v2 m, I j v2 m → am_Bt m → am_Z F 2 [] [(2, v0), (0, v1), (0, v2)] m 200 := by
    intro j
    induction j using Nat.strongRecOn with
    | ind j ih =>
      intro v2 m hj hB
      exact S_X9_takeBackDawn_L1B X hp_v0 (fun v2' m' hc hB' => by
        obtain ⟨j', g1, g2⟩ := hc
        exact ih j' g1 v2' m' g2 hB') hB (hI j v2 m hj)
  exact key j _ _ hj hB
set_option maxRecDepth 20000 in
set_option maxHeartbeats 4000000 in
theorem S_X9_takeBackDawn {F : am_F} {K : am_KK} {v0 : Int} {v1 : Int} {m : am_M} (X : am_Cx F cX9_takeBackDawn RX9 none 2 9 K) (hp_v0 : am_ob v0 9) (hB : am_Bt m) (h : M_X9_takeBackDawn v0 v1 K m) : am_Z F 0 [] [(2, v0), (0, v1), (9, 0)] m 200 := by
  have G := X.G
  unfold M_X9_takeBackDawn at h
  refine z_iconst (nx := 1) (z := 0) G (R32c rfl) dX9_takeBackDawn_0 rfl (b_storeE_n (nx := 2) (a := 2) (loc2 := [(2, v0), (0, v1), (0, 0)]) G rfl (Nat.le_of_ble_eq_true rfl) (am_pl1 rfl (fun h => nomatch h)) dX9_takeBackDawn_1 rfl ?_)
  exact b_fewer (loc2 := [(2, v0), (0, v1), (0, 0)]) (am_lk (am_lk (am_lk am_ln))) (S_X9_takeBackDawn_L1 X hp_v0 hB h)
theorem NM_X9_takeBackDawn {v0 : Int} {v1 : Int} {K : am_KK} {m : am_M} (hp_v0 : am_ob v0 9) (h : M_X9_takeBackDawn v0 v1 K m) : N_X9_takeBackDawn [v0, v1] K m := ⟨hp_v0, h⟩
theorem SS_X9_takeBackDawn : am_Snd yX9_takeBackDawn cX9_takeBackDawn 3 none 0 2 (am_L [2, 0] 9 N_X9_takeBackDawn) := by
  refine am_SB (by decide +kernel) (Nat.le_of_ble_eq_true rfl) (fun F zs as K m X ht hB hM => ?_)
  obtain ⟨v0, zs, as, rfl, rfl, hz0, ht⟩ := am_inv ht
  obtain ⟨v1, zs, as, rfl, rfl, hz1, ht⟩ := am_inv ht
  obtain ⟨rfl, rfl⟩ := am_inv0 ht
  obtain ⟨hp_v0, hM⟩ := hM
  exact S_X9_takeBackDawn X hp_v0 hB hM
set_option maxRecDepth 20000 in
set_option maxHeartbeats 4000000 in
theorem S_X9_dropHeard_J1 {F : am_F} {K : am_KK} {v0 : Int} {v1 : Int} {v2 : Int} {C4 : Int → Int → am_M → Prop} {m : am_M} (X : am_Cx F cX9_dropHeard RX9 (some .int) 3 0 K) (hp_v0 : am_ob v0 9) (hC4 : ∀ w1 w2 m, C4 w1 w2 m → am_Bt m → am_Z F 4 [] [(2, v0), (0, w1), (0, w2)] m 200) (hB : am_Bt m) (h : M_X9_dropHeard_J1 v0 v1 v2 C4 K m) : am_Z F 35 [] [(2, v0), (0, v1), (0, v2)] m 200 := by
  have G := X.G
  unfold M_X9_dropHeard_J1 at h
  refine b_iinc (nx := 38) (a := 2) (loc2 := fun v2_1 => [(2, v0), (0, v1), (0, v2_1)]) G (fun _ => rfl) rfl (am_pl1 rfl (fun h => nomatch h)) dX9_dropHeard_35 rfl (fun v2_1 e_v2_1 => ?_)
  have h := h v2_1 e_v2_1
  refine z_goto (tgt := 4) G dX9_dropHeard_38 (by decide) ?_
  exact b_fewer (loc2 := [(2, v0), (0, v1), (0, v2_1)]) (am_lk (am_lk (am_lk am_ln))) (hC4 _ _ _ h hB)
set_option maxRecDepth 20000 in
set_option maxHeartbeats 4000000 in
theorem S_X9_dropHeard_L1B {F : am_F} {K : am_KK} {v0 : Int} {v1 : Int} {v2 : Int} {C4 : Int → Int → am_M → Prop} {m : am_M} (X : am_Cx F cX9_dropHeard RX9 (some .int) 3 0 K) (hp_v0 : am_ob v0 9) (hC4 : ∀ w1 w2 m, C4 w1 w2 m → am_Bt m → am_Z F 4 [] [(2, v0), (0, w1), (0, w2)] m 200) (hB : am_Bt m) (h : M_X9_dropHeard_L1B v0 v1 v2 C4 K m) : am_Z F 4 [] [(2, v0), (0, v1), (0, v2)] m 200 := by
  have G := X.G
  unfold M_X9_dropHeard_L1B at h
  refine z_iload_n (nx := 5) (a := 2) G rfl dX9_dropHeard_4 rfl (z_aload_n (nx := 6) (a := 0) G rfl (Or.inl rfl) dX9_dropHeard_5 rfl (b_getA (nx := 9) (k0 := 0) G hB fl_RX9_16 (Nat.le_of_ble_eq_true rfl) (Nat.le_of_ble_eq_true rfl) rfl hp_v0 dX9_dropHeard_6 rfl (b_getI (nx := 12) (k0 := 2) (t := 0) G fl_RX9_24 (Nat.le_of_ble_eq_true rfl) (Nat.le_of_ble_eq_true rfl) rfl (sh_9_0 _ hp_v0) dX9_dropHeard_9 rfl ?_)))
  refine z_icmp_ge (nx := 15) (tgt := 41) G dX9_dropHeard_12 (by decide) rfl (fun c => ?_) (fun c => ?_)
  · have h := h.1 c
    refine z_aload_n (nx := 42) (a := 0) G rfl (Or.inl rfl) dX9_dropHeard_41 rfl (b_getA (nx := 45) (k0 := 0) G hB fl_RX9_16 (Nat.le_of_ble_eq_true rfl) (Nat.le_of_ble_eq_true rfl) rfl hp_v0 dX9_dropHeard_42 rfl (b_getI (nx := 48) (k0 := 2) (t := 0) G fl_RX9_24 (Nat.le_of_ble_eq_true rfl) (Nat.le_of_ble_eq_true rfl) rfl (sh_9_0 _ hp_v0) dX9_dropHeard_45 rfl (z_iload_n (nx := 49) (a := 1) G rfl dX9_dropHeard_48 rfl (z_isub (nx := 50) G dX9_dropHeard_49 rfl ?_))))
    refine b_store_n (nx := 51) (a := 2) (loc2 := fun v2_2 => [(2, v0), (0, v1), (0, v2_2)]) G (fun _ => rfl) (Nat.le_of_ble_eq_true rfl) (am_pl1 rfl (fun h => nomatch h)) dX9_dropHeard_50 rfl (fun v2_2 e_v2_2 => ?_)
    have h := h v2_2 e_v2_2
    refine z_aload_n (nx := 52) (a := 0) G rfl (Or.inl rfl) dX9_dropHeard_51 rfl (b_getA (nx := 55) (k0 := 0) G hB fl_RX9_16 (Nat.le_of_ble_eq_true rfl) (Nat.le_of_ble_eq_true rfl) rfl hp_v0 dX9_dropHeard_52 rfl (z_iload_n (nx := 56) (a := 1) G rfl dX9_dropHeard_55 rfl ?_))
    refine b_callV9 (nx := 59) (zs := [am_rfv v0 0, v1]) (as := [(0, v1)]) X hB (by decide) rfl (sh_9_0 _ hp_v0) SS_X7_cut (am_ta (am_ti am_tn)) (Nat.le_of_ble_eq_true rfl) (Nat.le_of_ble_eq_true rfl) ml_RX9_46 iw_X7_cut vw_X7_cut cw_X7_cut nw_RX7 pp_X7_cut (Nat.le_of_ble_eq_true rfl) dX9_dropHeard_56 rfl (NM_X7_cut (sh_9_0 _ hp_v0) h) (fun r_3 m_4 h hB => ?_)
    refine z_iload_n (nx := 60) (a := 2) G rfl dX9_dropHeard_59 rfl ?_
    exact b_ireturn X hB dX9_dropHeard_60 h
  · have h := h.2 c
    refine z_aload_n (nx := 16) (a := 0) G rfl (Or.inl rfl) dX9_dropHeard_15 rfl (z_iload_n (nx := 17) (a := 2) G rfl dX9_dropHeard_16 rfl ?_)
    refine b_callV5 (nx := 20) (zs := [v0, v2]) (as := [(0, v2)]) X hB (by decide) rfl hp_v0 SS_X9_waits (am_ta (am_ti am_tn)) (Nat.le_of_ble_eq_true rfl) (Nat.le_of_ble_eq_true rfl) ml_RX9_28 iw_X9_waits vw_X9_waits cw_X9_waits nw_RX9 pp_X9_waits (Nat.le_of_ble_eq_true rfl) dX9_dropHeard_17 rfl (NM_X9_waits hp_v0 h) (fun r_5 m_6 h h01_7 hB => ?_)
    refine z_if_eq (nx := 23) (tgt := 35) G dX9_dropHeard_20 (by decide) rfl (fun c => ?_) (fun c => ?_)
    · have h := h.1 c
      exact b_fewer (loc2 := [(2, v0), (0, v1), (0, v2)]) (am_lk (am_lk (am_lk am_ln))) (S_X9_dropHeard_J1 X hp_v0 hC4 hB h)
    · have h := h.2 c
      refine z_aload_n (nx := 24) (a := 0) G rfl (Or.inl rfl) dX9_dropHeard_23 rfl (b_getA (nx := 27) (k0 := 0) G hB fl_RX9_16 (Nat.le_of_ble_eq_true rfl) (Nat.le_of_ble_eq_true rfl) rfl hp_v0 dX9_dropHeard_24 rfl (z_iload_n (nx := 28) (a := 2) G rfl dX9_dropHeard_27 rfl (z_iload_n (nx := 29) (a := 1) G rfl dX9_dropHeard_28 rfl ?_)))
      refine b_callV9 (nx := 32) (zs := [am_rfv v0 0, v2, v1]) (as := [(0, v2), (0, v1)]) X hB (by decide) rfl (sh_9_0 _ hp_v0) SS_X7_copyRow (am_ta (am_ti (am_ti am_tn))) (Nat.le_of_ble_eq_true rfl) (Nat.le_of_ble_eq_true rfl) ml_RX9_43 iw_X7_copyRow vw_X7_copyRow cw_X7_copyRow nw_RX7 pp_X7_copyRow (Nat.le_of_ble_eq_true rfl) dX9_dropHeard_29 rfl (NM_X7_copyRow (sh_9_0 _ hp_v0) h) (fun r_8 m_9 h hB => ?_)
      refine b_iinc (nx := 35) (a := 1) (loc2 := fun v1_10 => [(2, v0), (0, v1_10), (0, v2)]) G (fun _ => rfl) rfl (am_pl1 rfl (fun h => nomatch h)) dX9_dropHeard_32 rfl (fun v1_10 e_v1_10 => ?_)
      have h := h v1_10 e_v1_10
      exact b_fewer (loc2 := [(2, v0), (0, v1_10), (0, v2)]) (am_lk (am_lk (am_lk am_ln))) (S_X9_dropHeard_J1 X hp_v0 hC4 hB h)
theorem S_X9_dropHeard_L1 {F : am_F} {K : am_KK} {v0 : Int} {v1 : Int} {v2 : Int} {m : am_M} (X : am_Cx F cX9_dropHeard RX9 (some .int) 3 0 K) (hp_v0 : am_ob v0 9) (hB : am_Bt m) (h : M_X9_dropHeard_L1 v0 v1 v2 K m) : am_Z F 4 [] [(2, v0), (0, v1), (0, v2)] m 200 := by
  obtain ⟨I, ⟨j, hj⟩, hI⟩ := h
  have key : ∀ j v1 v2 m, I j v1 v2 m → am_Bt m → am_Z F 4 [] [(2, v0), (0, v1), (0, v2)] m 200 := by
    intro j
    induction j using Nat.strongRecOn with
    | ind j ih =>
      intro v1 v2 m hj hB
      exact S_X9_dropHeard_L1B X hp_v0 (fun v1' v2' m' hc hB' => by
        obtain ⟨j', g1, g2⟩ := hc
        exact ih j' g1 v1' v2' m' g2 hB') hB (hI j v1 v2 m hj)
  exact key j _ _ _ hj hB
set_option maxRecDepth 20000 in
set_option maxHeartbeats 4000000 in
theorem S_X9_dropHeard {F : am_F} {K : am_KK} {v0 : Int} {m : am_M} (X : am_Cx F cX9_dropHeard RX9 (some .int) 3 0 K) (hp_v0 : am_ob v0 9) (hB : am_Bt m) (h : M_X9_dropHeard v0 K m) : am_Z F 0 [] [(2, v0), (9, 0), (9, 0)] m 200 := by
  have G := X.G
  unfold M_X9_dropHeard at h
  refine z_iconst (nx := 1) (z := 0) G (R32c rfl) dX9_dropHeard_0 rfl (b_storeE_n (nx := 2) (a := 1) (loc2 := [(2, v0), (0, 0), (9, 0)]) G rfl (Nat.le_of_ble_eq_true rfl) (am_pl1 rfl (fun h => nomatch h)) dX9_dropHeard_1 rfl (z_iconst (nx := 3) (z := 0) G (R32c rfl) dX9_dropHeard_2 rfl (b_storeE_n (nx := 4) (a := 2) (loc2 := [(2, v0), (0, 0), (0, 0)]) G rfl (Nat.le_of_ble_eq_true rfl) (am_pl1 rfl (fun h => nomatch h)) dX9_dropHeard_3 rfl ?_)))
  exact b_fewer (loc2 := [(2, v0), (0, 0), (0, 0)]) (am_lk (am_lk (am_lk am_ln))) (S_X9_dropHeard_L1 X hp_v0 hB h)
theorem NM_X9_dropHeard {v0 : Int} {K : am_KK} {m : am_M} (hp_v0 : am_ob v0 9) (h : M_X9_dropHeard v0 K m) : N_X9_dropHeard [v0] K m := ⟨hp_v0, h⟩
theorem SS_X9_dropHeard : am_Snd yX9_dropHeard cX9_dropHeard 3 (some .int) 0 3 (am_L [2] 0 N_X9_dropHeard) := by
  refine am_SB (by decide +kernel) (Nat.le_of_ble_eq_true rfl) (fun F zs as K m X ht hB hM => ?_)
  obtain ⟨v0, zs, as, rfl, rfl, hz0, ht⟩ := am_inv ht
  obtain ⟨rfl, rfl⟩ := am_inv0 ht
  obtain ⟨hp_v0, hM⟩ := hM
  exact S_X9_dropHeard X hp_v0 hB hM
