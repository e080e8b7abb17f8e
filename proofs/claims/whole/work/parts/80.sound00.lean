/-! the machine does what the forms say, 0 -/
set_option maxRecDepth 20000 in
set_option maxHeartbeats 4000000 in
theorem S_X0_term {F : am_F} {K : am_KK} {v0 : Int} {v1 : Int} {m : am_M} (X : am_Cx F cX0_term RX0 (some .int) 1 0 K) (hp_v0 : am_ob v0 0) (hB : am_Bt m) (h : M_X0_term v0 v1 K m) : am_Z F 0 [] [(2, v0), (0, v1)] m 200 := by
  have G := X.G
  unfold M_X0_term at h
  refine z_iload_n (nx := 1) (a := 1) G rfl dX0_term_0 rfl ?_
  refine z_if_ne (nx := 4) (tgt := 12) G dX0_term_1 (by decide) rfl (fun c => ?_) (fun c => ?_)
  · have h := h.1 c
    refine z_iload_n (nx := 13) (a := 1) G rfl dX0_term_12 rfl ?_
    refine z_if_le (nx := 16) (tgt := 34) G dX0_term_13 (by decide) rfl (fun c => ?_) (fun c => ?_)
    · have h := h.1 c
      refine z_iconst (nx := 35) (z := (-1)) G (R32c rfl) dX0_term_34 rfl ?_
      exact b_ireturn X hB dX0_term_35 h
    · have h := h.2 c
      refine z_iload_n (nx := 17) (a := 1) G rfl dX0_term_16 rfl (z_aload_n (nx := 18) (a := 0) G rfl (Or.inl rfl) dX0_term_17 rfl (b_getA (nx := 21) (k0 := 8) G hB fl_RX0_46 (Nat.le_of_ble_eq_true rfl) (Nat.le_of_ble_eq_true rfl) rfl hp_v0 dX0_term_18 rfl (b_alen (nx := 22) G (by decide) (by decide) (sh_0_8 _ hp_v0) dX0_term_21 rfl ?_)))
      refine z_icmp_ge (nx := 25) (tgt := 34) G dX0_term_22 (by decide) rfl (fun c => ?_) (fun c => ?_)
      · have h := h.1 c
        refine z_iconst (nx := 35) (z := (-1)) G (R32c rfl) dX0_term_34 rfl ?_
        exact b_ireturn X hB dX0_term_35 h
      · have h := h.2 c
        refine z_aload_n (nx := 26) (a := 0) G rfl (Or.inl rfl) dX0_term_25 rfl (b_getA (nx := 29) (k0 := 8) G hB fl_RX0_46 (Nat.le_of_ble_eq_true rfl) (Nat.le_of_ble_eq_true rfl) rfl hp_v0 dX0_term_26 rfl (z_iload_n (nx := 30) (a := 1) G rfl dX0_term_29 rfl ?_))
        obtain ⟨hb, h⟩ := h
        refine z_iald (nx := 31) G (sh_0_8 _ hp_v0) hb.1 hb.2 dX0_term_30 rfl ?_
        refine z_goto (tgt := 35) G dX0_term_31 (by decide) ?_
        exact b_ireturn X hB dX0_term_35 h
  · have h := h.2 c
    refine z_aload_n (nx := 5) (a := 0) G rfl (Or.inl rfl) dX0_term_4 rfl (b_getA (nx := 8) (k0 := 5) G hB fl_RX0_35 (Nat.le_of_ble_eq_true rfl) (Nat.le_of_ble_eq_true rfl) rfl hp_v0 dX0_term_5 rfl (b_getI (nx := 11) (k0 := 1) (t := 0) G fl_RX0_60 (Nat.le_of_ble_eq_true rfl) (Nat.le_of_ble_eq_true rfl) rfl (sh_0_5 _ hp_v0) dX0_term_8 rfl ?_))
    exact b_ireturn X hB dX0_term_11 h
theorem NM_X0_term {v0 : Int} {v1 : Int} {K : am_KK} {m : am_M} (hp_v0 : am_ob v0 0) (h : M_X0_term v0 v1 K m) : N_X0_term [v0, v1] K m := ⟨hp_v0, h⟩
theorem SS_X0_term : am_Snd yX0_term cX0_term 2 (some .int) 0 1 (am_L [2, 0] 0 N_X0_term) := by
  refine am_SB (by decide +kernel) (Nat.le_of_ble_eq_true rfl) (fun F zs as K m X ht hB hM => ?_)
  obtain ⟨v0, zs, as, rfl, rfl, hz0, ht⟩ := am_inv ht
  obtain ⟨v1, zs, as, rfl, rfl, hz1, ht⟩ := am_inv ht
  obtain ⟨rfl, rfl⟩ := am_inv0 ht
  obtain ⟨hp_v0, hM⟩ := hM
  exact S_X0_term X hp_v0 hB hM
set_option maxRecDepth 20000 in
set_option maxHeartbeats 4000000 in
theorem S_X0_setTerm {F : am_F} {K : am_KK} {v0 : Int} {v1 : Int} {v2 : Int} {m : am_M} (X : am_Cx F cX0_setTerm RX0 none 1 9 K) (hp_v0 : am_ob v0 0) (hB : am_Bt m) (h : M_X0_setTerm v0 v1 v2 K m) : am_Z F 0 [] [(2, v0), (0, v1), (0, v2)] m 200 := by
  have G := X.G
  unfold M_X0_setTerm at h
  refine z_iload_n (nx := 1) (a := 1) G rfl dX0_setTerm_0 rfl ?_
  refine z_if_ne (nx := 4) (tgt := 15) G dX0_setTerm_1 (by decide) rfl (fun c => ?_) (fun c => ?_)
  · have h := h.1 c
    refine z_iload_n (nx := 16) (a := 1) G rfl dX0_setTerm_15 rfl ?_
    refine z_if_le (nx := 19) (tgt := 35) G dX0_setTerm_16 (by decide) rfl (fun c => ?_) (fun c => ?_)
    · have h := h.1 c
      exact b_return X hB dX0_setTerm_35 h
    · have h := h.2 c
      refine z_iload_n (nx := 20) (a := 1) G rfl dX0_setTerm_19 rfl (z_aload_n (nx := 21) (a := 0) G rfl (Or.inl rfl) dX0_setTerm_20 rfl (b_getA (nx := 24) (k0 := 8) G hB fl_RX0_46 (Nat.le_of_ble_eq_true rfl) (Nat.le_of_ble_eq_true rfl) rfl hp_v0 dX0_setTerm_21 rfl (b_alen (nx := 25) G (by decide) (by decide) (sh_0_8 _ hp_v0) dX0_setTerm_24 rfl ?_)))
      refine z_icmp_ge (nx := 28) (tgt := 35) G dX0_setTerm_25 (by decide) rfl (fun c => ?_) (fun c => ?_)
      · have h := h.1 c
        exact b_return X hB dX0_setTerm_35 h
      · have h := h.2 c
        refine z_aload_n (nx := 29) (a := 0) G rfl (Or.inl rfl) dX0_setTerm_28 rfl (b_getA (nx := 32) (k0 := 8) G hB fl_RX0_46 (Nat.le_of_ble_eq_true rfl) (Nat.le_of_ble_eq_true rfl) rfl hp_v0 dX0_setTerm_29 rfl (z_iload_n (nx := 33) (a := 1) G rfl dX0_setTerm_32 rfl (z_iload_n (nx := 34) (a := 2) G rfl dX0_setTerm_33 rfl ?_)))
        obtain ⟨hb, h⟩ := h
        refine b_iast (nx := 35) G hB (sh_0_8 _ hp_v0) hb.1 hb.2 dX0_setTerm_34 rfl (fun m_1 e_m_1 hB => ?_)
        have h := h m_1 e_m_1
        exact b_return X hB dX0_setTerm_35 h
  · have h := h.2 c
    refine z_aload_n (nx := 5) (a := 0) G rfl (Or.inl rfl) dX0_setTerm_4 rfl (b_getA (nx := 8) (k0 := 5) G hB fl_RX0_35 (Nat.le_of_ble_eq_true rfl) (Nat.le_of_ble_eq_true rfl) rfl hp_v0 dX0_setTerm_5 rfl (z_iload_n (nx := 9) (a := 2) G rfl dX0_setTerm_8 rfl ?_))
    refine b_put (nx := 12) (k0 := 1) (t := 0) G hB fl_RX0_60 (Nat.le_of_ble_eq_true rfl) (Nat.le_of_ble_eq_true rfl) rfl (fun h => nomatch h) rfl (sh_0_5 _ hp_v0) dX0_setTerm_9 rfl (fun m_2 e_m_2 hB => ?_)
    have h := h m_2 e_m_2
    refine z_goto (tgt := 35) G dX0_setTerm_12 (by decide) ?_
    exact b_return X hB dX0_setTerm_35 h
theorem NM_X0_setTerm {v0 : Int} {v1 : Int} {v2 : Int} {K : am_KK} {m : am_M} (hp_v0 : am_ob v0 0) (h : M_X0_setTerm v0 v1 v2 K m) : N_X0_setTerm [v0, v1, v2] K m := ⟨hp_v0, h⟩
theorem SS_X0_setTerm : am_Snd yX0_setTerm cX0_setTerm 3 none 0 1 (am_L [2, 0, 0] 9 N_X0_setTerm) := by
  refine am_SB (by decide +kernel) (Nat.le_of_ble_eq_true rfl) (fun F zs as K m X ht hB hM => ?_)
  obtain ⟨v0, zs, as, rfl, rfl, hz0, ht⟩ := am_inv ht
  obtain ⟨v1, zs, as, rfl, rfl, hz1, ht⟩ := am_inv ht
  obtain ⟨v2, zs, as, rfl, rfl, hz2, ht⟩ := am_inv ht
  obtain ⟨rfl, rfl⟩ := am_inv0 ht
  obtain ⟨hp_v0, hM⟩ := hM
  exact S_X0_setTerm X hp_v0 hB hM
set_option maxRecDepth 20000 in
set_option maxHeartbeats 4000000 in
theorem S_X11_within {F : am_F} {K : am_KK} {v0 : Int} {v1 : Int} {v2 : Int} {m : am_M} (X : am_Cx F cX11_within RX11 (some .boolean) 1 5 K) (hB : am_Bt m) (h : M_X11_within v0 v1 v2 K m) : am_Z F 0 [] [(0, v0), (0, v1), (0, v2)] m 200 := by
  have G := X.G
  unfold M_X11_within at h
  refine z_iload_n (nx := 1) (a := 0) G rfl dX11_within_0 rfl (z_iload_n (nx := 2) (a := 1) G rfl dX11_within_1 rfl ?_)
  refine z_icmp_lt (nx := 5) (tgt := 14) G dX11_within_2 (by decide) rfl (fun c => ?_) (fun c => ?_)
  · have h := h.1 c
    refine z_iconst (nx := 15) (z := 0) G (R32c rfl) dX11_within_14 rfl ?_
    exact b_zreturn X hB (Or.inl rfl) dX11_within_15 h
  · have h := h.2 c
    refine z_iload_n (nx := 6) (a := 0) G rfl dX11_within_5 rfl (z_iload_n (nx := 7) (a := 2) G rfl dX11_within_6 rfl ?_)
    refine z_icmp_gt (nx := 10) (tgt := 14) G dX11_within_7 (by decide) rfl (fun c => ?_) (fun c => ?_)
    · have h := h.1 c
      refine z_iconst (nx := 15) (z := 0) G (R32c rfl) dX11_within_14 rfl ?_
      exact b_zreturn X hB (Or.inl rfl) dX11_within_15 h
    · have h := h.2 c
      refine z_iconst (nx := 11) (z := 1) G (R32c rfl) dX11_within_10 rfl (z_goto (tgt := 15) G dX11_within_11 (by decide) ?_)
      exact b_zreturn X hB (Or.inr rfl) dX11_within_15 h
theorem NM_X11_within {v0 : Int} {v1 : Int} {v2 : Int} {K : am_KK} {m : am_M} (h : M_X11_within v0 v1 v2 K m) : N_X11_within [v0, v1, v2] K m := h
theorem SS_X11_within : am_Snd yX11_within cX11_within 3 (some .boolean) 0 1 (am_L [0, 0, 0] 5 N_X11_within) := by
  refine am_SB (by decide +kernel) (Nat.le_of_ble_eq_true rfl) (fun F zs as K m X ht hB hM => ?_)
  obtain ⟨v0, zs, as, rfl, rfl, hz0, ht⟩ := am_inv ht
  obtain ⟨v1, zs, as, rfl, rfl, hz1, ht⟩ := am_inv ht
  obtain ⟨v2, zs, as, rfl, rfl, hz2, ht⟩ := am_inv ht
  obtain ⟨rfl, rfl⟩ := am_inv0 ht
  exact S_X11_within X hB hM
set_option maxRecDepth 20000 in
set_option maxHeartbeats 4000000 in
theorem S_X11_isThing {F : am_F} {K : am_KK} {v0 : Int} {m : am_M} (X : am_Cx F cX11_isThing RX11 (some .boolean) 2 5 K) (hB : am_Bt m) (h : M_X11_isThing v0 K m) : am_Z F 0 [] [(0, v0)] m 200 := by
  have G := X.G
  unfold M_X11_isThing at h
  refine z_iload_n (nx := 1) (a := 0) G rfl dX11_isThing_0 rfl (z_iconst (nx := 2) (z := 0) G (R32c rfl) dX11_isThing_1 rfl (z_bipush (nx := 4) (z := 7) G (R32c rfl) rfl dX11_isThing_2 rfl ?_))
  refine b_callS5 (nx := 7) (zs := [v0, 0, 7]) (as := [(0, v0), (0, 0), (0, 7)]) X hB SS_X11_within (am_ti (am_ti (am_ti am_tn))) (Nat.le_of_ble_eq_true rfl) (Nat.le_of_ble_eq_true rfl) ml_RX11_113 sw_X11_within (am_plainC 11 (by decide)) cw_X11_within nw_RX11 pp_X11_within (Nat.le_of_ble_eq_true rfl) dX11_isThing_4 rfl (NM_X11_within h) (fun r_1 m_2 h h01_3 hB => ?_)
  exact b_zreturn X hB h01_3 dX11_isThing_7 h
theorem NM_X11_isThing {v0 : Int} {K : am_KK} {m : am_M} (h : M_X11_isThing v0 K m) : N_X11_isThing [v0] K m := h
theorem SS_X11_isThing : am_Snd yX11_isThing cX11_isThing 1 (some .boolean) 0 2 (am_L [0] 5 N_X11_isThing) := by
  refine am_SB (by decide +kernel) (Nat.le_of_ble_eq_true rfl) (fun F zs as K m X ht hB hM => ?_)
  obtain ⟨v0, zs, as, rfl, rfl, hz0, ht⟩ := am_inv ht
  obtain ⟨rfl, rfl⟩ := am_inv0 ht
  exact S_X11_isThing X hB hM
set_option maxRecDepth 20000 in
set_option maxHeartbeats 4000000 in
theorem S_X0_setClash {F : am_F} {K : am_KK} {v0 : Int} {v1 : Int} {v2 : Int} {v3 : Int} {m : am_M} (X : am_Cx F cX0_setClash RX0 (some .int) 3 0 K) (hp_v0 : am_ob v0 0) (hB : am_Bt m) (h : M_X0_setClash v0 v1 v2 v3 K m) : am_Z F 0 [] [(2, v0), (0, v1), (0, v2), (0, v3), (9, 0)] m 200 := by
  have G := X.G
  unfold M_X0_setClash at h
  refine z_iload_n (nx := 1) (a := 1) G rfl dX0_setClash_0 rfl ?_
  refine b_callSN5 (nx := 4) (zs := [v1]) (as := [(0, v1)]) X hB SS_X11_isThing (am_ti am_tn) (Nat.le_of_ble_eq_true rfl) (Nat.le_of_ble_eq_true rfl) mn_RX0_63 sw_X11_isThing (am_plainC 11 (by decide)) cw_X11_isThing nw_RX11 pp_X11_isThing (Nat.le_of_ble_eq_true rfl) dX0_setClash_1 rfl (NM_X11_isThing h) (fun r_1 m_2 h h01_3 hB => ?_)
  refine z_if_eq (nx := 7) (tgt := 14) G dX0_setClash_4 (by decide) rfl (fun c => ?_) (fun c => ?_)
  · have h := h.1 c
    refine z_iconst (nx := 15) (z := (-1)) G (R32c rfl) dX0_setClash_14 rfl ?_
    exact b_ireturn X hB dX0_setClash_15 h
  · have h := h.2 c
    refine z_iload_n (nx := 8) (a := 2) G rfl dX0_setClash_7 rfl ?_
    refine b_callSN5 (nx := 11) (zs := [v2]) (as := [(0, v2)]) X hB SS_X11_isThing (am_ti am_tn) (Nat.le_of_ble_eq_true rfl) (Nat.le_of_ble_eq_true rfl) mn_RX0_63 sw_X11_isThing (am_plainC 11 (by decide)) cw_X11_isThing nw_RX11 pp_X11_isThing (Nat.le_of_ble_eq_true rfl) dX0_setClash_8 rfl (NM_X11_isThing h) (fun r_4 m_5 h h01_6 hB => ?_)
    refine z_if_ne (nx := 14) (tgt := 16) G dX0_setClash_11 (by decide) rfl (fun c => ?_) (fun c => ?_)
    · have h := h.1 c
      refine z_aload_n (nx := 17) (a := 0) G rfl (Or.inl rfl) dX0_setClash_16 rfl (b_getA (nx := 20) (k0 := 6) G hB fl_RX0_39 (Nat.le_of_ble_eq_true rfl) (Nat.le_of_ble_eq_true rfl) rfl hp_v0 dX0_setClash_17 rfl (z_iload_n (nx := 21) (a := 1) G rfl dX0_setClash_20 rfl ?_))
      obtain ⟨hb, h⟩ := h
      refine z_iald (nx := 22) G (sh_0_6 _ hp_v0) hb.1 hb.2 dX0_setClash_21 rfl ?_
      refine z_iload_n (nx := 23) (a := 2) G rfl dX0_setClash_22 rfl (z_ishr (nx := 24) G dX0_setClash_23 rfl (z_iconst (nx := 25) (z := 1) G (R32c rfl) dX0_setClash_24 rfl (z_iand (nx := 26) G dX0_setClash_25 rfl ?_)))
      refine b_store (nx := 28) (a := 4) (loc2 := fun v4_7 => [(2, v0), (0, v1), (0, v2), (0, v3), (0, v4_7)]) G (fun _ => rfl) (Nat.le_of_ble_eq_true rfl) (am_pl1 rfl (fun h => nomatch h)) dX0_setClash_26 rfl (fun v4_7 e_v4_7 => ?_)
      have h := h v4_7 e_v4_7
      refine z_iload (nx := 30) (a := 4) G rfl dX0_setClash_28 rfl (z_iload_n (nx := 31) (a := 3) G rfl dX0_setClash_30 rfl ?_)
      refine z_icmp_eq (nx := 34) (tgt := 58) G dX0_setClash_31 (by decide) rfl (fun c => ?_) (fun c => ?_)
      · have h := h.1 c
        refine z_iload (nx := 60) (a := 4) G rfl dX0_setClash_58 rfl ?_
        exact b_ireturn X hB dX0_setClash_60 h
      · have h := h.2 c
        refine z_aload_n (nx := 35) (a := 0) G rfl (Or.inl rfl) dX0_setClash_34 rfl (b_getA (nx := 38) (k0 := 6) G hB fl_RX0_39 (Nat.le_of_ble_eq_true rfl) (Nat.le_of_ble_eq_true rfl) rfl hp_v0 dX0_setClash_35 rfl (z_iload_n (nx := 39) (a := 1) G rfl dX0_setClash_38 rfl (z_dup2 (nx := 40) G (fun h => nomatch h) (fun h => nomatch h) dX0_setClash_39 rfl ?_)))
        obtain ⟨hb, h⟩ := h
        refine z_iald (nx := 41) G (sh_0_6 _ hp_v0) hb.1 hb.2 dX0_setClash_40 rfl ?_
        refine z_iconst (nx := 42) (z := 1) G (R32c rfl) dX0_setClash_41 rfl (z_iload_n (nx := 43) (a := 2) G rfl dX0_setClash_42 rfl (z_ishl (nx := 44) G dX0_setClash_43 rfl (z_ixor (nx := 45) G dX0_setClash_44 rfl ?_)))
        obtain ⟨hb, h⟩ := h
        refine b_iast (nx := 46) G hB (sh_0_6 _ hp_v0) hb.1 hb.2 dX0_setClash_45 rfl (fun m_8 e_m_8 hB => ?_)
        have h := h m_8 e_m_8
        refine z_aload_n (nx := 47) (a := 0) G rfl (Or.inl rfl) dX0_setClash_46 rfl (b_getA (nx := 50) (k0 := 6) G hB fl_RX0_39 (Nat.le_of_ble_eq_true rfl) (Nat.le_of_ble_eq_true rfl) rfl hp_v0 dX0_setClash_47 rfl (z_iload_n (nx := 51) (a := 2) G rfl dX0_setClash_50 rfl (z_dup2 (nx := 52) G (fun h => nomatch h) (fun h => nomatch h) dX0_setClash_51 rfl ?_)))
        obtain ⟨hb, h⟩ := h
        refine z_iald (nx := 53) G (sh_0_6 _ hp_v0) hb.1 hb.2 dX0_setClash_52 rfl ?_
        refine z_iconst (nx := 54) (z := 1) G (R32c rfl) dX0_setClash_53 rfl (z_iload_n (nx := 55) (a := 1) G rfl dX0_setClash_54 rfl (z_ishl (nx := 56) G dX0_setClash_55 rfl (z_ixor (nx := 57) G dX0_setClash_56 rfl ?_)))
        obtain ⟨hb, h⟩ := h
        refine b_iast (nx := 58) G hB (sh_0_6 _ hp_v0) hb.1 hb.2 dX0_setClash_57 rfl (fun m_9 e_m_9 hB => ?_)
        have h := h m_9 e_m_9
        refine z_iload (nx := 60) (a := 4) G rfl dX0_setClash_58 rfl ?_
        exact b_ireturn X hB dX0_setClash_60 h
    · have h := h.2 c
      refine z_iconst (nx := 15) (z := (-1)) G (R32c rfl) dX0_setClash_14 rfl ?_
      exact b_ireturn X hB dX0_setClash_15 h
theorem NM_X0_setClash {v0 : Int} {v1 : Int} {v2 : Int} {v3 : Int} {K : am_KK} {m : am_M} (hp_v0 : am_ob v0 0) (h : M_X0_setClash v0 v1 v2 v3 K m) : N_X0_setClash [v0, v1, v2, v3] K m := ⟨hp_v0, h⟩
theorem SS_X0_setClash : am_Snd yX0_setClash cX0_setClash 5 (some .int) 0 3 (am_L [2, 0, 0, 0] 0 N_X0_setClash) := by
  refine am_SB (by decide +kernel) (Nat.le_of_ble_eq_true rfl) (fun F zs as K m X ht hB hM => ?_)
  obtain ⟨v0, zs, as, rfl, rfl, hz0, ht⟩ := am_inv ht
  obtain ⟨v1, zs, as, rfl, rfl, hz1, ht⟩ := am_inv ht
  obtain ⟨v2, zs, as, rfl, rfl, hz2, ht⟩ := am_inv ht
  obtain ⟨v3, zs, as, rfl, rfl, hz3, ht⟩ := am_inv ht
  obtain ⟨rfl, rfl⟩ := am_inv0 ht
  obtain ⟨hp_v0, hM⟩ := hM
  exact S_X0_setClash X hp_v0 hB hM
set_option maxRecDepth 20000 in
set_option maxHeartbeats 4000000 in
theorem S_X0_keptOffBy {F : am_F} {K : am_KK} {v0 : Int} {v1 : Int} {m : am_M} (X : am_Cx F cX0_keptOffBy RX0 (some .int) 3 0 K) (hp_v0 : am_ob v0 0) (hB : am_Bt m) (h : M_X0_keptOffBy v0 v1 K m) : am_Z F 0 [] [(2, v0), (0, v1)] m 200 := by
  have G := X.G
  unfold M_X0_keptOffBy at h
  refine z_iload_n (nx := 1) (a := 1) G rfl dX0_keptOffBy_0 rfl ?_
  refine b_callSN5 (nx := 4) (zs := [v1]) (as := [(0, v1)]) X hB SS_X11_isThing (am_ti am_tn) (Nat.le_of_ble_eq_true rfl) (Nat.le_of_ble_eq_true rfl) mn_RX0_63 sw_X11_isThing (am_plainC 11 (by decide)) cw_X11_isThing nw_RX11 pp_X11_isThing (Nat.le_of_ble_eq_true rfl) dX0_keptOffBy_1 rfl (NM_X11_isThing h) (fun r_1 m_2 h h01_3 hB => ?_)
  refine z_if_eq (nx := 7) (tgt := 20) G dX0_keptOffBy_4 (by decide) rfl (fun c => ?_) (fun c => ?_)
  · have h := h.1 c
    refine z_iconst (nx := 21) (z := 0) G (R32c rfl) dX0_keptOffBy_20 rfl ?_
    exact b_ireturn X hB dX0_keptOffBy_21 h
  · have h := h.2 c
    refine z_aload_n (nx := 8) (a := 0) G rfl (Or.inl rfl) dX0_keptOffBy_7 rfl (b_getA (nx := 11) (k0 := 6) G hB fl_RX0_39 (Nat.le_of_ble_eq_true rfl) (Nat.le_of_ble_eq_true rfl) rfl hp_v0 dX0_keptOffBy_8 rfl (z_iload_n (nx := 12) (a := 1) G rfl dX0_keptOffBy_11 rfl ?_))
    obtain ⟨hb, h⟩ := h
    refine z_iald (nx := 13) G (sh_0_6 _ hp_v0) hb.1 hb.2 dX0_keptOffBy_12 rfl ?_
    refine z_iconst (nx := 14) (z := 1) G (R32c rfl) dX0_keptOffBy_13 rfl (z_iload_n (nx := 15) (a := 1) G rfl dX0_keptOffBy_14 rfl (z_ishl (nx := 16) G dX0_keptOffBy_15 rfl (z_ior (nx := 17) G dX0_keptOffBy_16 rfl (z_goto (tgt := 21) G dX0_keptOffBy_17 (by decide) ?_))))
    exact b_ireturn X hB dX0_keptOffBy_21 h
theorem NM_X0_keptOffBy {v0 : Int} {v1 : Int} {K : am_KK} {m : am_M} (hp_v0 : am_ob v0 0) (h : M_X0_keptOffBy v0 v1 K m) : N_X0_keptOffBy [v0, v1] K m := ⟨hp_v0, h⟩
theorem SS_X0_keptOffBy : am_Snd yX0_keptOffBy cX0_keptOffBy 2 (some .int) 0 3 (am_L [2, 0] 0 N_X0_keptOffBy) := by
  refine am_SB (by decide +kernel) (Nat.le_of_ble_eq_true rfl) (fun F zs as K m X ht hB hM => ?_)
  obtain ⟨v0, zs, as, rfl, rfl, hz0, ht⟩ := am_inv ht
  obtain ⟨v1, zs, as, rfl, rfl, hz1, ht⟩ := am_inv ht
  obtain ⟨rfl, rfl⟩ := am_inv0 ht
  obtain ⟨hp_v0, hM⟩ := hM
  exact S_X0_keptOffBy X hp_v0 hB hM
set_option maxRecDepth 20000 in
set_option maxHeartbeats 4000000 in
theorem S_X7_takeFrom {F : am_F} {K : am_KK} {v0 : Int} {v1 : Int} {m : am_M} (X : am_Cx F cX7_takeFrom RX7 none 1 9 K) (hp_v0 : am_ob v0 7) (hp_v1 : am_ob v1 7) (hB : am_Bt m) (h : M_X7_takeFrom v0 v1 K m) : am_Z F 0 [] [(2, v0), (2, v1)] m 200 := by
  have G := X.G
  unfold M_X7_takeFrom at h
  refine z_aload_n (nx := 1) (a := 1) G rfl (Or.inl rfl) dX7_takeFrom_0 rfl (b_getI (nx := 4) (k0 := 1) (t := 0) G fl_RX7_15 (Nat.le_of_ble_eq_true rfl) (Nat.le_of_ble_eq_true rfl) rfl hp_v1 dX7_takeFrom_1 rfl (z_aload_n (nx := 5) (a := 0) G rfl (Or.inl rfl) dX7_takeFrom_4 rfl (b_getI (nx := 8) (k0 := 1) (t := 0) G fl_RX7_15 (Nat.le_of_ble_eq_true rfl) (Nat.le_of_ble_eq_true rfl) rfl hp_v0 dX7_takeFrom_5 rfl ?_)))
  refine z_icmp_ne (nx := 11) (tgt := 58) G dX7_takeFrom_8 (by decide) rfl (fun c => ?_) (fun c => ?_)
  · have h := h.1 c
    exact b_return X hB dX7_takeFrom_58 h
  · have h := h.2 c
    refine z_aload_n (nx := 12) (a := 1) G rfl (Or.inl rfl) dX7_takeFrom_11 rfl (b_getI (nx := 15) (k0 := 2) (t := 0) G fl_RX7_25 (Nat.le_of_ble_eq_true rfl) (Nat.le_of_ble_eq_true rfl) rfl hp_v1 dX7_takeFrom_12 rfl (z_aload_n (nx := 16) (a := 0) G rfl (Or.inl rfl) dX7_takeFrom_15 rfl (b_getI (nx := 19) (k0 := 1) (t := 0) G fl_RX7_15 (Nat.le_of_ble_eq_true rfl) (Nat.le_of_ble_eq_true rfl) rfl hp_v0 dX7_takeFrom_16 rfl (z_imul (nx := 20) G dX7_takeFrom_19 rfl (z_aload_n (nx := 21) (a := 0) G rfl (Or.inl rfl) dX7_takeFrom_20 rfl (b_getA (nx := 24) (k0 := 0) G hB fl_RX7_21 (Nat.le_of_ble_eq_true rfl) (Nat.le_of_ble_eq_true rfl) rfl hp_v0 dX7_takeFrom_21 rfl (b_alen (nx := 25) G (by decide) (by decide) (sh_7_0 _ hp_v0) dX7_takeFrom_24 rfl ?_)))))))
    refine z_icmp_gt (nx := 28) (tgt := 58) G dX7_takeFrom_25 (by decide) rfl (fun c => ?_) (fun c => ?_)
    · have h := h.1 c
      exact b_return X hB dX7_takeFrom_58 h
    · have h := h.2 c
      refine z_aload_n (nx := 29) (a := 1) G rfl (Or.inl rfl) dX7_takeFrom_28 rfl (b_getA (nx := 32) (k0 := 0) G hB fl_RX7_21 (Nat.le_of_ble_eq_true rfl) (Nat.le_of_ble_eq_true rfl) rfl hp_v1 dX7_takeFrom_29 rfl (z_iconst (nx := 33) (z := 0) G (R32c rfl) dX7_takeFrom_32 rfl (z_aload_n (nx := 34) (a := 0) G rfl (Or.inl rfl) dX7_takeFrom_33 rfl (b_getA (nx := 37) (k0 := 0) G hB fl_RX7_21 (Nat.le_of_ble_eq_true rfl) (Nat.le_of_ble_eq_true rfl) rfl hp_v0 dX7_takeFrom_34 rfl (z_iconst (nx := 38) (z := 0) G (R32c rfl) dX7_takeFrom_37 rfl (z_aload_n (nx := 39) (a := 1) G rfl (Or.inl rfl) dX7_takeFrom_38 rfl (b_getI (nx := 42) (k0 := 2) (t := 0) G fl_RX7_25 (Nat.le_of_ble_eq_true rfl) (Nat.le_of_ble_eq_true rfl) rfl hp_v1 dX7_takeFrom_39 rfl (z_aload_n (nx := 43) (a := 0) G rfl (Or.inl rfl) dX7_takeFrom_42 rfl (b_getI (nx := 46) (k0 := 1) (t := 0) G fl_RX7_15 (Nat.le_of_ble_eq_true rfl) (Nat.le_of_ble_eq_true rfl) rfl hp_v0 dX7_takeFrom_43 rfl (z_imul (nx := 47) G dX7_takeFrom_46 rfl ?_))))))))))
      obtain ⟨hb, h⟩ := h
      refine b_copy (nx := 50) G hB ml_RX7_28 (sh_7_0 _ hp_v1) (sh_7_0 _ hp_v0) hb (Nat.le_of_ble_eq_true rfl) dX7_takeFrom_47 rfl (fun m_1 e_m_1 hB => ?_)
      have h := h m_1 e_m_1
      refine z_aload_n (nx := 51) (a := 0) G rfl (Or.inl rfl) dX7_takeFrom_50 rfl (z_aload_n (nx := 52) (a := 1) G rfl (Or.inl rfl) dX7_takeFrom_51 rfl (b_getI (nx := 55) (k0 := 2) (t := 0) G fl_RX7_25 (Nat.le_of_ble_eq_true rfl) (Nat.le_of_ble_eq_true rfl) rfl hp_v1 dX7_takeFrom_52 rfl ?_))
      refine b_put (nx := 58) (k0 := 2) (t := 0) G hB fl_RX7_25 (Nat.le_of_ble_eq_true rfl) (Nat.le_of_ble_eq_true rfl) rfl (fun h => nomatch h) rfl hp_v0 dX7_takeFrom_55 rfl (fun m_2 e_m_2 hB => ?_)
      have h := h m_2 e_m_2
      exact b_return X hB dX7_takeFrom_58 h
theorem NM_X7_takeFrom {v0 : Int} {v1 : Int} {K : am_KK} {m : am_M} (hp_v0 : am_ob v0 7) (hp_v1 : am_ob v1 7) (h : M_X7_takeFrom v0 v1 K m) : N_X7_takeFrom [v0, v1] K m := ⟨hp_v0, hp_v1, h⟩
theorem SS_X7_takeFrom : am_Snd yX7_takeFrom cX7_takeFrom 2 none 0 1 (am_L [2, 2] 9 N_X7_takeFrom) := by
  refine am_SB (by decide +kernel) (Nat.le_of_ble_eq_true rfl) (fun F zs as K m X ht hB hM => ?_)
  obtain ⟨v0, zs, as, rfl, rfl, hz0, ht⟩ := am_inv ht
  obtain ⟨v1, zs, as, rfl, rfl, hz1, ht⟩ := am_inv ht
  obtain ⟨rfl, rfl⟩ := am_inv0 ht
  obtain ⟨hp_v0, hp_v1, hM⟩ := hM
  exact S_X7_takeFrom X hp_v0 hp_v1 hB hM
set_option maxRecDepth 20000 in
set_option maxHeartbeats 4000000 in
theorem S_X4_takeFrom {F : am_F} {K : am_KK} {v0 : Int} {v1 : Int} {m : am_M} (X : am_Cx F cX4_takeFrom RX4 none 2 9 K) (hp_v0 : am_ob v0 4) (hp_v1 : am_ob v1 4) (hB : am_Bt m) (h : M_X4_takeFrom v0 v1 K m) : am_Z F 0 [] [(2, v0), (2, v1)] m 200 := by
  have G := X.G
  unfold M_X4_takeFrom at h
  refine z_aload_n (nx := 1) (a := 0) G rfl (Or.inl rfl) dX4_takeFrom_0 rfl (z_aload_n (nx := 2) (a := 1) G rfl (Or.inl rfl) dX4_takeFrom_1 rfl (b_getI (nx := 5) (k0 := 1) (t := 0) G fl_RX4_24 (Nat.le_of_ble_eq_true rfl) (Nat.le_of_ble_eq_true rfl) rfl hp_v1 dX4_takeFrom_2 rfl (z_aload_n (nx := 6) (a := 0) G rfl (Or.inl rfl) dX4_takeFrom_5 rfl (b_getA (nx := 9) (k0 := 0) G hB fl_RX4_9 (Nat.le_of_ble_eq_true rfl) (Nat.le_of_ble_eq_true rfl) rfl hp_v0 dX4_takeFrom_6 rfl (b_alen (nx := 10) G (by decide) (by decide) (sh_4_0 _ hp_v0) dX4_takeFrom_9 rfl (b_mmin (nx := 13) X ml_RX4_37 (Nat.le_of_ble_eq_true rfl) dX4_takeFrom_10 rfl ?_))))))
  refine b_put (nx := 16) (k0 := 1) (t := 0) G hB fl_RX4_24 (Nat.le_of_ble_eq_true rfl) (Nat.le_of_ble_eq_true rfl) rfl (fun h => nomatch h) rfl hp_v0 dX4_takeFrom_13 rfl (fun m_1 e_m_1 hB => ?_)
  have h := h m_1 e_m_1
  refine z_aload_n (nx := 17) (a := 1) G rfl (Or.inl rfl) dX4_takeFrom_16 rfl (b_getA (nx := 20) (k0 := 0) G hB fl_RX4_9 (Nat.le_of_ble_eq_true rfl) (Nat.le_of_ble_eq_true rfl) rfl hp_v1 dX4_takeFrom_17 rfl (z_iconst (nx := 21) (z := 0) G (R32c rfl) dX4_takeFrom_20 rfl (z_aload_n (nx := 22) (a := 0) G rfl (Or.inl rfl) dX4_takeFrom_21 rfl (b_getA (nx := 25) (k0 := 0) G hB fl_RX4_9 (Nat.le_of_ble_eq_true rfl) (Nat.le_of_ble_eq_true rfl) rfl hp_v0 dX4_takeFrom_22 rfl (z_iconst (nx := 26) (z := 0) G (R32c rfl) dX4_takeFrom_25 rfl (z_aload_n (nx := 27) (a := 0) G rfl (Or.inl rfl) dX4_takeFrom_26 rfl (b_getI (nx := 30) (k0 := 1) (t := 0) G fl_RX4_24 (Nat.le_of_ble_eq_true rfl) (Nat.le_of_ble_eq_true rfl) rfl hp_v0 dX4_takeFrom_27 rfl ?_)))))))
  obtain ⟨hb, h⟩ := h
  refine b_copy (nx := 33) G hB ml_RX4_43 (sh_4_0 _ hp_v1) (sh_4_0 _ hp_v0) hb (Nat.le_of_ble_eq_true rfl) dX4_takeFrom_30 rfl (fun m_2 e_m_2 hB => ?_)
  have h := h m_2 e_m_2
  refine z_aload_n (nx := 34) (a := 0) G rfl (Or.inl rfl) dX4_takeFrom_33 rfl (b_getA (nx := 37) (k0 := 2) G hB fl_RX4_20 (Nat.le_of_ble_eq_true rfl) (Nat.le_of_ble_eq_true rfl) rfl hp_v0 dX4_takeFrom_34 rfl (z_aload_n (nx := 38) (a := 1) G rfl (Or.inl rfl) dX4_takeFrom_37 rfl (b_getA (nx := 41) (k0 := 2) G hB fl_RX4_20 (Nat.le_of_ble_eq_true rfl) (Nat.le_of_ble_eq_true rfl) rfl hp_v1 dX4_takeFrom_38 rfl ?_)))
  refine b_callV9 (nx := 44) (zs := [am_rfv v0 2, am_rfv v1 2]) (as := [(2, am_rfv v1 2)]) X hB (by decide) rfl (sh_4_2 _ hp_v0) SS_X7_takeFrom (am_ta (am_ta am_tn)) (Nat.le_of_ble_eq_true rfl) (Nat.le_of_ble_eq_true rfl) ml_RX4_49 iw_X7_takeFrom vw_X7_takeFrom cw_X7_takeFrom nw_RX7 pp_X7_takeFrom (Nat.le_of_ble_eq_true rfl) dX4_takeFrom_41 rfl (NM_X7_takeFrom (sh_4_2 _ hp_v0) (sh_4_2 _ hp_v1) h) (fun r_3 m_4 h hB => ?_)
  exact b_return X hB dX4_takeFrom_44 h
theorem NM_X4_takeFrom {v0 : Int} {v1 : Int} {K : am_KK} {m : am_M} (hp_v0 : am_ob v0 4) (hp_v1 : am_ob v1 4) (h : M_X4_takeFrom v0 v1 K m) : N_X4_takeFrom [v0, v1] K m := ⟨hp_v0, hp_v1, h⟩
theorem SS_X4_takeFrom : am_Snd yX4_takeFrom cX4_takeFrom 2 none 0 2 (am_L [2, 2] 9 N_X4_takeFrom) := by
  refine am_SB (by decide +kernel) (Nat.le_of_ble_eq_true rfl) (fun F zs as K m X ht hB hM => ?_)
  obtain ⟨v0, zs, as, rfl, rfl, hz0, ht⟩ := am_inv ht
  obtain ⟨v1, zs, as, rfl, rfl, hz1, ht⟩ := am_inv ht
  obtain ⟨rfl, rfl⟩ := am_inv0 ht
  obtain ⟨hp_v0, hp_v1, hM⟩ := hM
  exact S_X4_takeFrom X hp_v0 hp_v1 hB hM
set_option maxRecDepth 20000 in
set_option maxHeartbeats 4000000 in
theorem S_X0_addLaw {F : am_F} {K : am_KK} {v0 : Int} {v1 : Int} {m : am_M} (X : am_Cx F cX0_addLaw RX0 (some .int) 3 0 K) (hp_v0 : am_ob v0 0) (hp_v1 : am_ob v1 4) (hB : am_Bt m) (h : M_X0_addLaw v0 v1 K m) : am_Z F 0 [] [(2, v0), (2, v1)] m 200 := by
  have G := X.G
  unfold M_X0_addLaw at h
  refine z_aload_n (nx := 1) (a := 0) G rfl (Or.inl rfl) dX0_addLaw_0 rfl (b_getI (nx := 4) (k0 := 10) (t := 0) G fl_RX0_67 (Nat.le_of_ble_eq_true rfl) (Nat.le_of_ble_eq_true rfl) rfl hp_v0 dX0_addLaw_1 rfl (z_aload_n (nx := 5) (a := 0) G rfl (Or.inl rfl) dX0_addLaw_4 rfl (b_getA (nx := 8) (k0 := 9) G hB fl_RX0_52 (Nat.le_of_ble_eq_true rfl) (Nat.le_of_ble_eq_true rfl) rfl hp_v0 dX0_addLaw_5 rfl (b_alen (nx := 9) G (by decide) (by decide) (sh_0_9 _ hp_v0) dX0_addLaw_8 rfl ?_))))
  refine z_icmp_lt (nx := 12) (tgt := 14) G dX0_addLaw_9 (by decide) rfl (fun c => ?_) (fun c => ?_)
  · have h := h.1 c
    refine z_aload_n (nx := 15) (a := 0) G rfl (Or.inl rfl) dX0_addLaw_14 rfl (b_getA (nx := 18) (k0 := 9) G hB fl_RX0_52 (Nat.le_of_ble_eq_true rfl) (Nat.le_of_ble_eq_true rfl) rfl hp_v0 dX0_addLaw_15 rfl (z_aload_n (nx := 19) (a := 0) G rfl (Or.inl rfl) dX0_addLaw_18 rfl (b_getI (nx := 22) (k0 := 10) (t := 0) G fl_RX0_67 (Nat.le_of_ble_eq_true rfl) (Nat.le_of_ble_eq_true rfl) rfl hp_v0 dX0_addLaw_19 rfl ?_)))
    obtain ⟨hb_1, h⟩ := h
    refine b_aald (nx := 23) G hB (Or.inr rfl) (sh_0_9 _ hp_v0) hb_1.1 hb_1.2 dX0_addLaw_22 rfl ?_
    refine z_aload_n (nx := 24) (a := 1) G rfl (Or.inl rfl) dX0_addLaw_23 rfl ?_
    refine b_callV9 (nx := 27) (zs := [am_rfv (am_rfv v0 9) (m v0 10), v1]) (as := [(2, v1)]) X hB (by decide) rfl (sh_el25 _ _ (sh_0_9 _ hp_v0) hb_1.1 hb_1.2) SS_X4_takeFrom (am_ta (am_ta am_tn)) (Nat.le_of_ble_eq_true rfl) (Nat.le_of_ble_eq_true rfl) ml_RX0_70 iw_X4_takeFrom vw_X4_takeFrom cw_X4_takeFrom nw_RX4 pp_X4_takeFrom (Nat.le_of_ble_eq_true rfl) dX0_addLaw_24 rfl (NM_X4_takeFrom (sh_el25 _ _ (sh_0_9 _ hp_v0) hb_1.1 hb_1.2) hp_v1 h) (fun r_2 m_3 h hB => ?_)
    refine z_aload_n (nx := 28) (a := 0) G rfl (Or.inl rfl) dX0_addLaw_27 rfl (z_dup (nx := 29) G (fun h => nomatch h) dX0_addLaw_28 rfl (b_getI (nx := 32) (k0 := 10) (t := 0) G fl_RX0_67 (Nat.le_of_ble_eq_true rfl) (Nat.le_of_ble_eq_true rfl) rfl hp_v0 dX0_addLaw_29 rfl (z_iconst (nx := 33) (z := 1) G (R32c rfl) dX0_addLaw_32 rfl (z_iadd (nx := 34) G dX0_addLaw_33 rfl ?_))))
    refine b_put (nx := 37) (k0 := 10) (t := 0) G hB fl_RX0_67 (Nat.le_of_ble_eq_true rfl) (Nat.le_of_ble_eq_true rfl) rfl (fun h => nomatch h) rfl hp_v0 dX0_addLaw_34 rfl (fun m_4 e_m_4 hB => ?_)
    have h := h m_4 e_m_4
    refine z_aload_n (nx := 38) (a := 0) G rfl (Or.inl rfl) dX0_addLaw_37 rfl (b_getI (nx := 41) (k0 := 10) (t := 0) G fl_RX0_67 (Nat.le_of_ble_eq_true rfl) (Nat.le_of_ble_eq_true rfl) rfl hp_v0 dX0_addLaw_38 rfl (z_iconst (nx := 42) (z := 1) G (R32c rfl) dX0_addLaw_41 rfl (z_isub (nx := 43) G dX0_addLaw_42 rfl ?_)))
    exact b_ireturn X hB dX0_addLaw_43 h
  · have h := h.2 c
    refine z_iconst (nx := 13) (z := (-1)) G (R32c rfl) dX0_addLaw_12 rfl ?_
    exact b_ireturn X hB dX0_addLaw_13 h
theorem NM_X0_addLaw {v0 : Int} {v1 : Int} {K : am_KK} {m : am_M} (hp_v0 : am_ob v0 0) (hp_v1 : am_ob v1 4) (h : M_X0_addLaw v0 v1 K m) : N_X0_addLaw [v0, v1] K m := ⟨hp_v0, hp_v1, h⟩
theorem SS_X0_addLaw : am_Snd yX0_addLaw cX0_addLaw 2 (some .int) 0 3 (am_L [2, 2] 0 N_X0_addLaw) := by
  refine am_SB (by decide +kernel) (Nat.le_of_ble_eq_true rfl) (fun F zs as K m X ht hB hM => ?_)
  obtain ⟨v0, zs, as, rfl, rfl, hz0, ht⟩ := am_inv ht
  obtain ⟨v1, zs, as, rfl, rfl, hz1, ht⟩ := am_inv ht
  obtain ⟨rfl, rfl⟩ := am_inv0 ht
  obtain ⟨hp_v0, hp_v1, hM⟩ := hM
  exact S_X0_addLaw X hp_v0 hp_v1 hB hM
set_option maxRecDepth 20000 in
set_option maxHeartbeats 4000000 in
theorem S_X0_ruling_J1 {F : am_F} {K : am_KK} {m : am_M} (X : am_Cx F cX0_ruling RX0 (some (.object "ShortPrayers$Program")) 1 2 K) (hB : am_Bt m) (h : M_X0_ruling_J1  K m) : am_Z F 42 [] [(9, 0)] m 200 := by
  have G := X.G
  unfold M_X0_ruling_J1 at h
  refine z_null (nx := 43) G dX0_ruling_42 rfl ?_
  exact b_areturn X hB dX0_ruling_43 h
set_option maxRecDepth 20000 in
set_option maxHeartbeats 4000000 in
theorem S_X0_ruling {F : am_F} {K : am_KK} {v0 : Int} {m : am_M} (X : am_Cx F cX0_ruling RX0 (some (.object "ShortPrayers$Program")) 1 2 K) (hp_v0 : am_ob v0 0) (hB : am_Bt m) (h : M_X0_ruling v0 K m) : am_Z F 0 [] [(2, v0)] m 200 := by
  have G := X.G
  unfold M_X0_ruling at h
  refine z_aload_n (nx := 1) (a := 0) G rfl (Or.inl rfl) dX0_ruling_0 rfl (b_getI (nx := 4) (k0 := 11) (t := 0) G fl_RX0_56 (Nat.le_of_ble_eq_true rfl) (Nat.le_of_ble_eq_true rfl) rfl hp_v0 dX0_ruling_1 rfl ?_)
  refine z_if_lt (nx := 7) (tgt := 42) G dX0_ruling_4 (by decide) rfl (fun c => ?_) (fun c => ?_)
  · have h := h.1 c
    exact b_fewer (loc2 := [(9, 0)]) (am_lf am_ln) (S_X0_ruling_J1 X hB h)
  · have h := h.2 c
    refine z_aload_n (nx := 8) (a := 0) G rfl (Or.inl rfl) dX0_ruling_7 rfl (b_getI (nx := 11) (k0 := 11) (t := 0) G fl_RX0_56 (Nat.le_of_ble_eq_true rfl) (Nat.le_of_ble_eq_true rfl) rfl hp_v0 dX0_ruling_8 rfl (z_aload_n (nx := 12) (a := 0) G rfl (Or.inl rfl) dX0_ruling_11 rfl (b_getI (nx := 15) (k0 := 10) (t := 0) G fl_RX0_67 (Nat.le_of_ble_eq_true rfl) (Nat.le_of_ble_eq_true rfl) rfl hp_v0 dX0_ruling_12 rfl ?_)))
    refine z_icmp_ge (nx := 18) (tgt := 42) G dX0_ruling_15 (by decide) rfl (fun c => ?_) (fun c => ?_)
    · have h := h.1 c
      exact b_fewer (loc2 := [(9, 0)]) (am_lf am_ln) (S_X0_ruling_J1 X hB h)
    · have h := h.2 c
      refine z_aload_n (nx := 19) (a := 0) G rfl (Or.inl rfl) dX0_ruling_18 rfl (b_getI (nx := 22) (k0 := 11) (t := 0) G fl_RX0_56 (Nat.le_of_ble_eq_true rfl) (Nat.le_of_ble_eq_true rfl) rfl hp_v0 dX0_ruling_19 rfl (z_aload_n (nx := 23) (a := 0) G rfl (Or.inl rfl) dX0_ruling_22 rfl (b_getA (nx := 26) (k0 := 9) G hB fl_RX0_52 (Nat.le_of_ble_eq_true rfl) (Nat.le_of_ble_eq_true rfl) rfl hp_v0 dX0_ruling_23 rfl (b_alen (nx := 27) G (by decide) (by decide) (sh_0_9 _ hp_v0) dX0_ruling_26 rfl ?_))))
      refine z_icmp_ge (nx := 30) (tgt := 42) G dX0_ruling_27 (by decide) rfl (fun c => ?_) (fun c => ?_)
      · have h := h.1 c
        exact b_fewer (loc2 := [(9, 0)]) (am_lf am_ln) (S_X0_ruling_J1 X hB h)
      · have h := h.2 c
        refine z_aload_n (nx := 31) (a := 0) G rfl (Or.inl rfl) dX0_ruling_30 rfl (b_getA (nx := 34) (k0 := 9) G hB fl_RX0_52 (Nat.le_of_ble_eq_true rfl) (Nat.le_of_ble_eq_true rfl) rfl hp_v0 dX0_ruling_31 rfl (z_aload_n (nx := 35) (a := 0) G rfl (Or.inl rfl) dX0_ruling_34 rfl (b_getI (nx := 38) (k0 := 11) (t := 0) G fl_RX0_56 (Nat.le_of_ble_eq_true rfl) (Nat.le_of_ble_eq_true rfl) rfl hp_v0 dX0_ruling_35 rfl ?_)))
        obtain ⟨hb_1, h⟩ := h
        refine b_aald (nx := 39) G hB (Or.inr rfl) (sh_0_9 _ hp_v0) hb_1.1 hb_1.2 dX0_ruling_38 rfl ?_
        refine z_goto (tgt := 43) G dX0_ruling_39 (by decide) ?_
        exact b_areturn X hB dX0_ruling_43 h
theorem NM_X0_ruling {v0 : Int} {K : am_KK} {m : am_M} (hp_v0 : am_ob v0 0) (h : M_X0_ruling v0 K m) : N_X0_ruling [v0] K m := ⟨hp_v0, h⟩
theorem SS_X0_ruling : am_Snd yX0_ruling cX0_ruling 1 (some (.object "ShortPrayers$Program")) 0 1 (am_L [2] 2 N_X0_ruling) := by
  refine am_SB (by decide +kernel) (Nat.le_of_ble_eq_true rfl) (fun F zs as K m X ht hB hM => ?_)
  obtain ⟨v0, zs, as, rfl, rfl, hz0, ht⟩ := am_inv ht
  obtain ⟨rfl, rfl⟩ := am_inv0 ht
  obtain ⟨hp_v0, hM⟩ := hM
  exact S_X0_ruling X hp_v0 hB hM
set_option maxRecDepth 20000 in
set_option maxHeartbeats 4000000 in
theorem S_X7_get {F : am_F} {K : am_KK} {v0 : Int} {v1 : Int} {v2 : Int} {m : am_M} (X : am_Cx F cX7_get RX7 (some .int) 1 0 K) (hp_v0 : am_ob v0 7) (hB : am_Bt m) (h : M_X7_get v0 v1 v2 K m) : am_Z F 0 [] [(2, v0), (0, v1), (0, v2)] m 200 := by
  have G := X.G
  unfold M_X7_get at h
  refine z_iload_n (nx := 1) (a := 1) G rfl dX7_get_0 rfl ?_
  refine z_if_lt (nx := 4) (tgt := 40) G dX7_get_1 (by decide) rfl (fun c => ?_) (fun c => ?_)
  · have h := h.1 c
    refine z_iconst (nx := 41) (z := (-1)) G (R32c rfl) dX7_get_40 rfl ?_
    exact b_ireturn X hB dX7_get_41 h
  · have h := h.2 c
    refine z_iload_n (nx := 5) (a := 1) G rfl dX7_get_4 rfl (z_aload_n (nx := 6) (a := 0) G rfl (Or.inl rfl) dX7_get_5 rfl (b_getI (nx := 9) (k0 := 2) (t := 0) G fl_RX7_25 (Nat.le_of_ble_eq_true rfl) (Nat.le_of_ble_eq_true rfl) rfl hp_v0 dX7_get_6 rfl ?_))
    refine z_icmp_ge (nx := 12) (tgt := 40) G dX7_get_9 (by decide) rfl (fun c => ?_) (fun c => ?_)
    · have h := h.1 c
      refine z_iconst (nx := 41) (z := (-1)) G (R32c rfl) dX7_get_40 rfl ?_
      exact b_ireturn X hB dX7_get_41 h
    · have h := h.2 c
      refine z_iload_n (nx := 13) (a := 2) G rfl dX7_get_12 rfl ?_
      refine z_if_lt (nx := 16) (tgt := 40) G dX7_get_13 (by decide) rfl (fun c => ?_) (fun c => ?_)
      · have h := h.1 c
        refine z_iconst (nx := 41) (z := (-1)) G (R32c rfl) dX7_get_40 rfl ?_
        exact b_ireturn X hB dX7_get_41 h
      · have h := h.2 c
        refine z_iload_n (nx := 17) (a := 2) G rfl dX7_get_16 rfl (z_aload_n (nx := 18) (a := 0) G rfl (Or.inl rfl) dX7_get_17 rfl (b_getI (nx := 21) (k0 := 1) (t := 0) G fl_RX7_15 (Nat.le_of_ble_eq_true rfl) (Nat.le_of_ble_eq_true rfl) rfl hp_v0 dX7_get_18 rfl ?_))
        refine z_icmp_ge (nx := 24) (tgt := 40) G dX7_get_21 (by decide) rfl (fun c => ?_) (fun c => ?_)
        · have h := h.1 c
          refine z_iconst (nx := 41) (z := (-1)) G (R32c rfl) dX7_get_40 rfl ?_
          exact b_ireturn X hB dX7_get_41 h
        · have h := h.2 c
          refine z_aload_n (nx := 25) (a := 0) G rfl (Or.inl rfl) dX7_get_24 rfl (b_getA (nx := 28) (k0 := 0) G hB fl_RX7_21 (Nat.le_of_ble_eq_true rfl) (Nat.le_of_ble_eq_true rfl) rfl hp_v0 dX7_get_25 rfl (z_iload_n (nx := 29) (a := 1) G rfl dX7_get_28 rfl (z_aload_n (nx := 30) (a := 0) G rfl (Or.inl rfl) dX7_get_29 rfl (b_getI (nx := 33) (k0 := 1) (t := 0) G fl_RX7_15 (Nat.le_of_ble_eq_true rfl) (Nat.le_of_ble_eq_true rfl) rfl hp_v0 dX7_get_30 rfl (z_imul (nx := 34) G dX7_get_33 rfl (z_iload_n (nx := 35) (a := 2) G rfl dX7_get_34 rfl (z_iadd (nx := 36) G dX7_get_35 rfl ?_)))))))
          obtain ⟨hb, h⟩ := h
          refine z_iald (nx := 37) G (sh_7_0 _ hp_v0) hb.1 hb.2 dX7_get_36 rfl ?_
          refine z_goto (tgt := 41) G dX7_get_37 (by decide) ?_
          exact b_ireturn X hB dX7_get_41 h
theorem NM_X7_get {v0 : Int} {v1 : Int} {v2 : Int} {K : am_KK} {m : am_M} (hp_v0 : am_ob v0 7) (h : M_X7_get v0 v1 v2 K m) : N_X7_get [v0, v1, v2] K m := ⟨hp_v0, h⟩
theorem SS_X7_get : am_Snd yX7_get cX7_get 3 (some .int) 0 1 (am_L [2, 0, 0] 0 N_X7_get) := by
  refine am_SB (by decide +kernel) (Nat.le_of_ble_eq_true rfl) (fun F zs as K m X ht hB hM => ?_)
  obtain ⟨v0, zs, as, rfl, rfl, hz0, ht⟩ := am_inv ht
  obtain ⟨v1, zs, as, rfl, rfl, hz1, ht⟩ := am_inv ht
  obtain ⟨v2, zs, as, rfl, rfl, hz2, ht⟩ := am_inv ht
  obtain ⟨rfl, rfl⟩ := am_inv0 ht
  obtain ⟨hp_v0, hM⟩ := hM
  exact S_X7_get X hp_v0 hB hM
set_option maxRecDepth 20000 in
set_option maxHeartbeats 4000000 in
theorem S_X0_coverCost_J1 {F : am_F} {K : am_KK} {v0 : Int} {v1 : Int} {v2 : Int} {v3 : Int} {v4 : Int} {v5 : Int} {C8 : Int → Int → Int → am_M → Prop} {m : am_M} (X : am_Cx F cX0_coverCost RX0 (some .int) 2 0 K) (hp_v0 : am_ob v0 0) (hC8 : ∀ w3 w4 w5 m, C8 w3 w4 w5 m → am_Bt m → am_Z F 8 [] [(2, v0), (0, v1), (0, v2), (0, w3), (0, w4), (0, w5)] m 200) (hB : am_Bt m) (h : M_X0_coverCost_J1 v0 v1 v2 v3 v4 v5 C8 K m) : am_Z F 63 [] [(2, v0), (0, v1), (0, v2), (0, v3), (0, v4), (0, v5)] m 200 := by
  have G := X.G
  unfold M_X0_coverCost_J1 at h
  refine b_iinc (nx := 66) (a := 5) (loc2 := fun v5_1 => [(2, v0), (0, v1), (0, v2), (0, v3), (0, v4), (0, v5_1)]) G (fun _ => rfl) rfl (am_pl1 rfl (fun h => nomatch h)) dX0_coverCost_63 rfl (fun v5_1 e_v5_1 => ?_)
  have h := h v5_1 e_v5_1
  refine z_goto (tgt := 8) G dX0_coverCost_66 (by decide) ?_
  exact b_fewer (loc2 := [(2, v0), (0, v1), (0, v2), (0, v3), (0, v4), (0, v5_1)]) (am_lk (am_lk (am_lk (am_lk (am_lk (am_lk am_ln)))))) (hC8 _ _ _ _ h hB)
set_option maxRecDepth 20000 in
set_option maxHeartbeats 4000000 in
theorem S_X0_coverCost_L1B {F : am_F} {K : am_KK} {v0 : Int} {v1 : Int} {v2 : Int} {v3 : Int} {v4 : Int} {v5 : Int} {C8 : Int → Int → Int → am_M → Prop} {m : am_M} (X : am_Cx F cX0_coverCost RX0 (some .int) 2 0 K) (hp_v0 : am_ob v0 0) (hC8 : ∀ w3 w4 w5 m, C8 w3 w4 w5 m → am_Bt m → am_Z F 8 [] [(2, v0), (0, v1), (0, v2), (0, w3), (0, w4), (0, w5)] m 200) (hB : am_Bt m) (h : M_X0_coverCost_L1B v0 v1 v2 v3 v4 v5 C8 K m) : am_Z F 8 [] [(2, v0), (0, v1), (0, v2), (0, v3), (0, v4), (0, v5)] m 200 := by
  have G := X.G
  unfold M_X0_coverCost_L1B at h
  refine z_iload (nx := 10) (a := 5) G rfl dX0_coverCost_8 rfl (z_aload_n (nx := 11) (a := 0) G rfl (Or.inl rfl) dX0_coverCost_10 rfl (b_getA (nx := 14) (k0 := 3) G hB fl_RX0_26 (Nat.le_of_ble_eq_true rfl) (Nat.le_of_ble_eq_true rfl) rfl hp_v0 dX0_coverCost_11 rfl (b_getI (nx := 17) (k0 := 2) (t := 0) G fl_RX0_74 (Nat.le_of_ble_eq_true rfl) (Nat.le_of_ble_eq_true rfl) rfl (sh_0_3 _ hp_v0) dX0_coverCost_14 rfl ?_)))
  refine z_icmp_ge (nx := 20) (tgt := 69) G dX0_coverCost_17 (by decide) rfl (fun c => ?_) (fun c => ?_)
  · have h := h.1 c
    refine z_iload_n (nx := 70) (a := 3) G rfl dX0_coverCost_69 rfl (z_iload_n (nx := 71) (a := 2) G rfl dX0_coverCost_70 rfl (z_iand (nx := 72) G dX0_coverCost_71 rfl (z_iload_n (nx := 73) (a := 2) G rfl dX0_coverCost_72 rfl ?_)))
    refine z_icmp_ne (nx := 76) (tgt := 81) G dX0_coverCost_73 (by decide) rfl (fun c => ?_) (fun c => ?_)
    · have h := h.1 c
      refine z_iconst (nx := 82) (z := (-1)) G (R32c rfl) dX0_coverCost_81 rfl ?_
      exact b_ireturn X hB dX0_coverCost_82 h
    · have h := h.2 c
      refine z_iload (nx := 78) (a := 4) G rfl dX0_coverCost_76 rfl (z_goto (tgt := 82) G dX0_coverCost_78 (by decide) ?_)
      exact b_ireturn X hB dX0_coverCost_82 h
  · have h := h.2 c
    refine z_iload_n (nx := 21) (a := 1) G rfl dX0_coverCost_20 rfl (z_iload (nx := 23) (a := 5) G rfl dX0_coverCost_21 rfl (z_ishr (nx := 24) G dX0_coverCost_23 rfl (z_iconst (nx := 25) (z := 1) G (R32c rfl) dX0_coverCost_24 rfl (z_iand (nx := 26) G dX0_coverCost_25 rfl (z_iconst (nx := 27) (z := 1) G (R32c rfl) dX0_coverCost_26 rfl ?_)))))
    refine z_icmp_ne (nx := 30) (tgt := 63) G dX0_coverCost_27 (by decide) rfl (fun c => ?_) (fun c => ?_)
    · have h := h.1 c
      exact b_fewer (loc2 := [(2, v0), (0, v1), (0, v2), (0, v3), (0, v4), (0, v5)]) (am_lk (am_lk (am_lk (am_lk (am_lk (am_lk am_ln)))))) (S_X0_coverCost_J1 X hp_v0 hC8 hB h)
    · have h := h.2 c
      refine z_iload_n (nx := 31) (a := 3) G rfl dX0_coverCost_30 rfl (z_aload_n (nx := 32) (a := 0) G rfl (Or.inl rfl) dX0_coverCost_31 rfl (b_getA (nx := 35) (k0 := 3) G hB fl_RX0_26 (Nat.le_of_ble_eq_true rfl) (Nat.le_of_ble_eq_true rfl) rfl hp_v0 dX0_coverCost_32 rfl (z_iload (nx := 37) (a := 5) G rfl dX0_coverCost_35 rfl (z_iconst (nx := 38) (z := 0) G (R32c rfl) dX0_coverCost_37 rfl ?_))))
      refine b_callV0 (nx := 41) (zs := [am_rfv v0 3, v5, 0]) (as := [(0, v5), (0, 0)]) X hB (by decide) rfl (sh_0_3 _ hp_v0) SS_X7_get (am_ta (am_ti (am_ti am_tn))) (Nat.le_of_ble_eq_true rfl) (Nat.le_of_ble_eq_true rfl) ml_RX0_77 iw_X7_get vw_X7_get cw_X7_get nw_RX7 pp_X7_get (Nat.le_of_ble_eq_true rfl) dX0_coverCost_38 rfl (NM_X7_get (sh_0_3 _ hp_v0) h) (fun r_2 m_3 h hB => ?_)
      refine z_ior (nx := 42) G dX0_coverCost_41 rfl ?_
      refine b_store_n (nx := 43) (a := 3) (loc2 := fun v3_4 => [(2, v0), (0, v1), (0, v2), (0, v3_4), (0, v4), (0, v5)]) G (fun _ => rfl) (Nat.le_of_ble_eq_true rfl) (am_pl1 rfl (fun h => nomatch h)) dX0_coverCost_42 rfl (fun v3_4 e_v3_4 => ?_)
      have h := h v3_4 e_v3_4
      refine z_iload (nx := 45) (a := 4) G rfl dX0_coverCost_43 rfl (z_aload_n (nx := 46) (a := 0) G rfl (Or.inl rfl) dX0_coverCost_45 rfl (b_getA (nx := 49) (k0 := 3) G hB fl_RX0_26 (Nat.le_of_ble_eq_true rfl) (Nat.le_of_ble_eq_true rfl) rfl hp_v0 dX0_coverCost_46 rfl (z_iload (nx := 51) (a := 5) G rfl dX0_coverCost_49 rfl (z_iconst (nx := 52) (z := 1) G (R32c rfl) dX0_coverCost_51 rfl ?_))))
      refine b_callV0 (nx := 55) (zs := [am_rfv v0 3, v5, 1]) (as := [(0, v5), (0, 1)]) X hB (by decide) rfl (sh_0_3 _ hp_v0) SS_X7_get (am_ta (am_ti (am_ti am_tn))) (Nat.le_of_ble_eq_true rfl) (Nat.le_of_ble_eq_true rfl) ml_RX0_77 iw_X7_get vw_X7_get cw_X7_get nw_RX7 pp_X7_get (Nat.le_of_ble_eq_true rfl) dX0_coverCost_52 rfl (NM_X7_get (sh_0_3 _ hp_v0) h) (fun r_5 m_6 h hB => ?_)
      refine z_bipush (nx := 57) (z := 16) G (R32c rfl) rfl dX0_coverCost_55 rfl (z_imul (nx := 58) G dX0_coverCost_57 rfl (z_iconst (nx := 59) (z := 1) G (R32c rfl) dX0_coverCost_58 rfl (z_iadd (nx := 60) G dX0_coverCost_59 rfl (z_iadd (nx := 61) G dX0_coverCost_60 rfl ?_))))
      refine b_store (nx := 63) (a := 4) (loc2 := fun v4_7 => [(2, v0), (0, v1), (0, v2), (0, v3_4), (0, v4_7), (0, v5)]) G (fun _ => rfl) (Nat.le_of_ble_eq_true rfl) (am_pl1 rfl (fun h => nomatch h)) dX0_coverCost_61 rfl (fun v4_7 e_v4_7 => ?_)
      have h := h v4_7 e_v4_7
      exact b_fewer (loc2 := [(2, v0), (0, v1), (0, v2), (0, v3_4), (0, v4_7), (0, v5)]) (am_lk (am_lk (am_lk (am_lk (am_lk (am_lk am_ln)))))) (S_X0_coverCost_J1 X hp_v0 hC8 hB h)
theorem S_X0_coverCost_L1 {F : am_F} {K : am_KK} {v0 : Int} {v1 : Int} {v2 : Int} {v3 : Int} {v4 : Int} {v5 : Int} {m : am_M} (X : am_Cx F cX0_coverCost RX0 (some .int) 2 0 K) (hp_v0 : am_ob v0 0) (hB : am_Bt m) (h : M_X0_coverCost_L1 v0 v1 v2 v3 v4 v5 K m) : am_Z F 8 [] [(2, v0), (0, v1), (0, v2), (0, v3), (0, v4), (0, v5)] m 200 := by
  obtain ⟨I, ⟨j, hj⟩, hI⟩ := h
  have key : ∀ j v3 v4 v5 m, I j v3 v4 v5 m → am_Bt m → am_Z F 8 [] [(2, v0), (0, v1), (0, v2), (0, v3), (0, v4), (0, v5)] m 200 := by
    intro j
    induction j using Nat.strongRecOn with
    | ind j ih =>
      intro v3 v4 v5 m hj hB
      exact S_X0_coverCost_L1B X hp_v0 (fun v3' v4' v5' m' hc hB' => by
        obtain ⟨j', g1, g2⟩ := hc
        exact ih j' g1 v3' v4' v5' m' g2 hB') hB (hI j v3 v4 v5 m hj)
  exact key j _ _ _ _ hj hB
set_option maxRecDepth 20000 in
set_option maxHeartbeats 4000000 in
theorem S_X0_coverCost {F : am_F} {K : am_KK} {v0 : Int} {v1 : Int} {v2 : Int} {m : am_M} (X : am_Cx F cX0_coverCost RX0 (some .int) 2 0 K) (hp_v0 : am_ob v0 0) (hB : am_Bt m) (h : M_X0_coverCost v0 v1 v2 K m) : am_Z F 0 [] [(2, v0), (0, v1), (0, v2), (9, 0), (9, 0), (9, 0)] m 200 := by
  have G := X.G
  unfold M_X0_coverCost at h
  refine z_iconst (nx := 1) (z := 0) G (R32c rfl) dX0_coverCost_0 rfl (b_storeE_n (nx := 2) (a := 3) (loc2 := [(2, v0), (0, v1), (0, v2), (0, 0), (9, 0), (9, 0)]) G rfl (Nat.le_of_ble_eq_true rfl) (am_pl1 rfl (fun h => nomatch h)) dX0_coverCost_1 rfl (z_iconst (nx := 3) (z := 0) G (R32c rfl) dX0_coverCost_2 rfl (b_storeE (nx := 5) (a := 4) (loc2 := [(2, v0), (0, v1), (0, v2), (0, 0), (0, 0), (9, 0)]) G rfl (Nat.le_of_ble_eq_true rfl) (am_pl1 rfl (fun h => nomatch h)) dX0_coverCost_3 rfl (z_iconst (nx := 6) (z := 0) G (R32c rfl) dX0_coverCost_5 rfl (b_storeE (nx := 8) (a := 5) (loc2 := [(2, v0), (0, v1), (0, v2), (0, 0), (0, 0), (0, 0)]) G rfl (Nat.le_of_ble_eq_true rfl) (am_pl1 rfl (fun h => nomatch h)) dX0_coverCost_6 rfl ?_)))))
  exact b_fewer (loc2 := [(2, v0), (0, v1), (0, v2), (0, 0), (0, 0), (0, 0)]) (am_lk (am_lk (am_lk (am_lk (am_lk (am_lk am_ln)))))) (S_X0_coverCost_L1 X hp_v0 hB h)
theorem NM_X0_coverCost {v0 : Int} {v1 : Int} {v2 : Int} {K : am_KK} {m : am_M} (hp_v0 : am_ob v0 0) (h : M_X0_coverCost v0 v1 v2 K m) : N_X0_coverCost [v0, v1, v2] K m := ⟨hp_v0, h⟩
theorem SS_X0_coverCost : am_Snd yX0_coverCost cX0_coverCost 6 (some .int) 0 2 (am_L [2, 0, 0] 0 N_X0_coverCost) := by
  refine am_SB (by decide +kernel) (Nat.le_of_ble_eq_true rfl) (fun F zs as K m X ht hB hM => ?_)
  obtain ⟨v0, zs, as, rfl, rfl, hz0, ht⟩ := am_inv ht
  obtain ⟨v1, zs, as, rfl, rfl, hz1, ht⟩ := am_inv ht
  obtain ⟨v2, zs, as, rfl, rfl, hz2, ht⟩ := am_inv ht
  obtain ⟨rfl, rfl⟩ := am_inv0 ht
  obtain ⟨hp_v0, hM⟩ := hM
  exact S_X0_coverCost X hp_v0 hB hM
set_option maxRecDepth 20000 in
set_option maxHeartbeats 4000000 in
theorem S_X0_farthestAnswer_L1B {F : am_F} {K : am_KK} {v0 : Int} {v1 : Int} {v2 : Int} {C4 : Int → Int → am_M → Prop} {m : am_M} (X : am_Cx F cX0_farthestAnswer RX0 (some .int) 2 0 K) (hp_v0 : am_ob v0 0) (hC4 : ∀ w1 w2 m, C4 w1 w2 m → am_Bt m → am_Z F 4 [] [(2, v0), (0, w1), (0, w2)] m 200) (hB : am_Bt m) (h : M_X0_farthestAnswer_L1B v0 v1 v2 C4 K m) : am_Z F 4 [] [(2, v0), (0, v1), (0, v2)] m 200 := by
  have G := X.G
  unfold M_X0_farthestAnswer_L1B at h
  refine z_iload_n (nx := 5) (a := 2) G rfl dX0_farthestAnswer_4 rfl (z_aload_n (nx := 6) (a := 0) G rfl (Or.inl rfl) dX0_farthestAnswer_5 rfl (b_getA (nx := 9) (k0 := 4) G hB fl_RX0_29 (Nat.le_of_ble_eq_true rfl) (Nat.le_of_ble_eq_true rfl) rfl hp_v0 dX0_farthestAnswer_6 rfl (b_getI (nx := 12) (k0 := 2) (t := 0) G fl_RX0_74 (Nat.le_of_ble_eq_true rfl) (Nat.le_of_ble_eq_true rfl) rfl (sh_0_4 _ hp_v0) dX0_farthestAnswer_9 rfl ?_)))
  refine z_icmp_ge (nx := 15) (tgt := 35) G dX0_farthestAnswer_12 (by decide) rfl (fun c => ?_) (fun c => ?_)
  · have h := h.1 c
    refine z_iload_n (nx := 36) (a := 1) G rfl dX0_farthestAnswer_35 rfl ?_
    exact b_ireturn X hB dX0_farthestAnswer_36 h
  · have h := h.2 c
    refine z_iload_n (nx := 16) (a := 1) G rfl dX0_farthestAnswer_15 rfl (z_aload_n (nx := 17) (a := 0) G rfl (Or.inl rfl) dX0_farthestAnswer_16 rfl (b_getA (nx := 20) (k0 := 4) G hB fl_RX0_29 (Nat.le_of_ble_eq_true rfl) (Nat.le_of_ble_eq_true rfl) rfl hp_v0 dX0_farthestAnswer_17 rfl (z_iload_n (nx := 21) (a := 2) G rfl dX0_farthestAnswer_20 rfl (z_iconst (nx := 22) (z := 0) G (R32c rfl) dX0_farthestAnswer_21 rfl ?_))))
    refine b_callV0 (nx := 25) (zs := [am_rfv v0 4, v2, 0]) (as := [(0, v2), (0, 0)]) X hB (by decide) rfl (sh_0_4 _ hp_v0) SS_X7_get (am_ta (am_ti (am_ti am_tn))) (Nat.le_of_ble_eq_true rfl) (Nat.le_of_ble_eq_true rfl) ml_RX0_77 iw_X7_get vw_X7_get cw_X7_get nw_RX7 pp_X7_get (Nat.le_of_ble_eq_true rfl) dX0_farthestAnswer_22 rfl (NM_X7_get (sh_0_4 _ hp_v0) h) (fun r_1 m_2 h hB => ?_)
    refine b_mmax (nx := 28) X ml_RX0_81 (Nat.le_of_ble_eq_true rfl) dX0_farthestAnswer_25 rfl ?_
    refine b_store_n (nx := 29) (a := 1) (loc2 := fun v1_3 => [(2, v0), (0, v1_3), (0, v2)]) G (fun _ => rfl) (Nat.le_of_ble_eq_true rfl) (am_pl1 rfl (fun h => nomatch h)) dX0_farthestAnswer_28 rfl (fun v1_3 e_v1_3 => ?_)
    have h := h v1_3 e_v1_3
    refine b_iinc (nx := 32) (a := 2) (loc2 := fun v2_4 => [(2, v0), (0, v1_3), (0, v2_4)]) G (fun _ => rfl) rfl (am_pl1 rfl (fun h => nomatch h)) dX0_farthestAnswer_29 rfl (fun v2_4 e_v2_4 => ?_)
    have h := h v2_4 e_v2_4
    refine z_goto (tgt := 4) G dX0_farthestAnswer_32 (by decide) ?_
    exact b_fewer (loc2 := [(2, v0), (0, v1_3), (0, v2_4)]) (am_lk (am_lk (am_lk am_ln))) (hC4 _ _ _ h hB)
theorem S_X0_farthestAnswer_L1 {F : am_F} {K : am_KK} {v0 : Int} {v1 : Int} {v2 : Int} {m : am_M} (X : am_Cx F cX0_farthestAnswer RX0 (some .int) 2 0 K) (hp_v0 : am_ob v0 0) (hB : am_Bt m) (h : M_X0_farthestAnswer_L1 v0 v1 v2 K m) : am_Z F 4 [] [(2, v0), (0, v1), (0, v2)] m 200 := by
  obtain ⟨I, ⟨j, hj⟩, hI⟩ := h
  have key : ∀ j v1 v2 m, I j v1 v2 m → am_Bt m → am_Z F 4 [] [(2, v0), (0, v1), (0, v2)] m 200 := by
    intro j
    induction j using Nat.strongRecOn with
    | ind j ih =>
      intro v1 v2 m hj hB
      exact S_X0_farthestAnswer_L1B X hp_v0 (fun v1' v2' m' hc hB' => by
        obtain ⟨j', g1, g2⟩ := hc
        exact ih j' g1 v1' v2' m' g2 hB') hB (hI j v1 v2 m hj)
  exact key j _ _ _ hj hB
set_option maxRecDepth 20000 in
set_option maxHeartbeats 4000000 in
theorem S_X0_farthestAnswer {F : am_F} {K : am_KK} {v0 : Int} {m : am_M} (X : am_Cx F cX0_farthestAnswer RX0 (some .int) 2 0 K) (hp_v0 : am_ob v0 0) (hB : am_Bt m) (h : M_X0_farthestAnswer v0 K m) : am_Z F 0 [] [(2, v0), (9, 0), (9, 0)] m 200 := by
  have G := X.G
  unfold M_X0_farthestAnswer at h
  refine z_iconst (nx := 1) (z := 0) G (R32c rfl) dX0_farthestAnswer_0 rfl (b_storeE_n (nx := 2) (a := 1) (loc2 := [(2, v0), (0, 0), (9, 0)]) G rfl (Nat.le_of_ble_eq_true rfl) (am_pl1 rfl (fun h => nomatch h)) dX0_farthestAnswer_1 rfl (z_iconst (nx := 3) (z := 0) G (R32c rfl) dX0_farthestAnswer_2 rfl (b_storeE_n (nx := 4) (a := 2) (loc2 := [(2, v0), (0, 0), (0, 0)]) G rfl (Nat.le_of_ble_eq_true rfl) (am_pl1 rfl (fun h => nomatch h)) dX0_farthestAnswer_3 rfl ?_)))
  exact b_fewer (loc2 := [(2, v0), (0, 0), (0, 0)]) (am_lk (am_lk (am_lk am_ln))) (S_X0_farthestAnswer_L1 X hp_v0 hB h)
theorem NM_X0_farthestAnswer {v0 : Int} {K : am_KK} {m : am_M} (hp_v0 : am_ob v0 0) (h : M_X0_farthestAnswer v0 K m) : N_X0_farthestAnswer [v0] K m := ⟨hp_v0, h⟩
theorem SS_X0_farthestAnswer : am_Snd yX0_farthestAnswer cX0_farthestAnswer 3 (some .int) 0 2 (am_L [2] 0 N_X0_farthestAnswer) := by
  refine am_SB (by decide +kernel) (Nat.le_of_ble_eq_true rfl) (fun F zs as K m X ht hB hM => ?_)
  obtain ⟨v0, zs, as, rfl, rfl, hz0, ht⟩ := am_inv ht
  obtain ⟨rfl, rfl⟩ := am_inv0 ht
  obtain ⟨hp_v0, hM⟩ := hM
  exact S_X0_farthestAnswer X hp_v0 hB hM
set_option maxRecDepth 20000 in
set_option maxHeartbeats 4000000 in
theorem S_X0_answersAre_J1 {F : am_F} {K : am_KK} {v0 : Int} {v1 : Int} {v2 : Int} {v3 : Int} {C2 : Int → am_M → Prop} {m : am_M} (X : am_Cx F cX0_answersAre RX0 (some .boolean) 2 5 K) (hp_v0 : am_ob v0 0) (hC2 : ∀ w3 m, C2 w3 m → am_Bt m → am_Z F 2 [] [(2, v0), (0, v1), (0, v2), (0, w3)] m 200) (hB : am_Bt m) (h : M_X0_answersAre_J1 v0 v1 v2 v3 C2 K m) : am_Z F 53 [] [(2, v0), (0, v1), (0, v2), (0, v3)] m 200 := by
  have G := X.G
  unfold M_X0_answersAre_J1 at h
  refine b_iinc (nx := 56) (a := 3) (loc2 := fun v3_1 => [(2, v0), (0, v1), (0, v2), (0, v3_1)]) G (fun _ => rfl) rfl (am_pl1 rfl (fun h => nomatch h)) dX0_answersAre_53 rfl (fun v3_1 e_v3_1 => ?_)
  have h := h v3_1 e_v3_1
  refine z_goto (tgt := 2) G dX0_answersAre_56 (by decide) ?_
  exact b_fewer (loc2 := [(2, v0), (0, v1), (0, v2), (0, v3_1)]) (am_lk (am_lk (am_lk (am_lk am_ln)))) (hC2 _ _ h hB)
set_option maxRecDepth 20000 in
set_option maxHeartbeats 4000000 in
theorem S_X0_answersAre_L1B {F : am_F} {K : am_KK} {v0 : Int} {v1 : Int} {v2 : Int} {v3 : Int} {C2 : Int → am_M → Prop} {m : am_M} (X : am_Cx F cX0_answersAre RX0 (some .boolean) 2 5 K) (hp_v0 : am_ob v0 0) (hC2 : ∀ w3 m, C2 w3 m → am_Bt m → am_Z F 2 [] [(2, v0), (0, v1), (0, v2), (0, w3)] m 200) (hB : am_Bt m) (h : M_X0_answersAre_L1B v0 v1 v2 v3 C2 K m) : am_Z F 2 [] [(2, v0), (0, v1), (0, v2), (0, v3)] m 200 := by
  have G := X.G
  unfold M_X0_answersAre_L1B at h
  refine z_iload_n (nx := 3) (a := 3) G rfl dX0_answersAre_2 rfl (z_aload_n (nx := 4) (a := 0) G rfl (Or.inl rfl) dX0_answersAre_3 rfl (b_getA (nx := 7) (k0 := 4) G hB fl_RX0_29 (Nat.le_of_ble_eq_true rfl) (Nat.le_of_ble_eq_true rfl) rfl hp_v0 dX0_answersAre_4 rfl (b_getI (nx := 10) (k0 := 2) (t := 0) G fl_RX0_74 (Nat.le_of_ble_eq_true rfl) (Nat.le_of_ble_eq_true rfl) rfl (sh_0_4 _ hp_v0) dX0_answersAre_7 rfl ?_)))
  refine z_icmp_ge (nx := 13) (tgt := 59) G dX0_answersAre_10 (by decide) rfl (fun c => ?_) (fun c => ?_)
  · have h := h.1 c
    refine z_iconst (nx := 60) (z := 1) G (R32c rfl) dX0_answersAre_59 rfl ?_
    exact b_zreturn X hB (Or.inr rfl) dX0_answersAre_60 h
  · have h := h.2 c
    refine z_aload_n (nx := 14) (a := 0) G rfl (Or.inl rfl) dX0_answersAre_13 rfl (b_getA (nx := 17) (k0 := 4) G hB fl_RX0_29 (Nat.le_of_ble_eq_true rfl) (Nat.le_of_ble_eq_true rfl) rfl hp_v0 dX0_answersAre_14 rfl (z_iload_n (nx := 18) (a := 3) G rfl dX0_answersAre_17 rfl (z_iconst (nx := 19) (z := 0) G (R32c rfl) dX0_answersAre_18 rfl ?_)))
    refine b_callV0 (nx := 22) (zs := [am_rfv v0 4, v3, 0]) (as := [(0, v3), (0, 0)]) X hB (by decide) rfl (sh_0_4 _ hp_v0) SS_X7_get (am_ta (am_ti (am_ti am_tn))) (Nat.le_of_ble_eq_true rfl) (Nat.le_of_ble_eq_true rfl) ml_RX0_77 iw_X7_get vw_X7_get cw_X7_get nw_RX7 pp_X7_get (Nat.le_of_ble_eq_true rfl) dX0_answersAre_19 rfl (NM_X7_get (sh_0_4 _ hp_v0) h) (fun r_2 m_3 h hB => ?_)
    refine z_iload_n (nx := 23) (a := 1) G rfl dX0_answersAre_22 rfl ?_
    refine z_icmp_ne (nx := 26) (tgt := 53) G dX0_answersAre_23 (by decide) rfl (fun c => ?_) (fun c => ?_)
    · have h := h.1 c
      exact b_fewer (loc2 := [(2, v0), (0, v1), (0, v2), (0, v3)]) (am_lk (am_lk (am_lk (am_lk am_ln)))) (S_X0_answersAre_J1 X hp_v0 hC2 hB h)
    · have h := h.2 c
      refine z_iload_n (nx := 27) (a := 2) G rfl dX0_answersAre_26 rfl (z_aload_n (nx := 28) (a := 0) G rfl (Or.inl rfl) dX0_answersAre_27 rfl (b_getA (nx := 31) (k0 := 4) G hB fl_RX0_29 (Nat.le_of_ble_eq_true rfl) (Nat.le_of_ble_eq_true rfl) rfl hp_v0 dX0_answersAre_28 rfl (z_iload_n (nx := 32) (a := 3) G rfl dX0_answersAre_31 rfl (z_iconst (nx := 33) (z := 1) G (R32c rfl) dX0_answersAre_32 rfl ?_))))
      refine b_callV0 (nx := 36) (zs := [am_rfv v0 4, v3, 1]) (as := [(0, v3), (0, 1)]) X hB (by decide) rfl (sh_0_4 _ hp_v0) SS_X7_get (am_ta (am_ti (am_ti am_tn))) (Nat.le_of_ble_eq_true rfl) (Nat.le_of_ble_eq_true rfl) ml_RX0_77 iw_X7_get vw_X7_get cw_X7_get nw_RX7 pp_X7_get (Nat.le_of_ble_eq_true rfl) dX0_answersAre_33 rfl (NM_X7_get (sh_0_4 _ hp_v0) h) (fun r_4 m_5 h hB => ?_)
      refine z_ishr (nx := 37) G dX0_answersAre_36 rfl (z_iconst (nx := 38) (z := 1) G (R32c rfl) dX0_answersAre_37 rfl (z_iand (nx := 39) G dX0_answersAre_38 rfl (z_aload_n (nx := 40) (a := 0) G rfl (Or.inl rfl) dX0_answersAre_39 rfl (b_getA (nx := 43) (k0 := 4) G hB fl_RX0_29 (Nat.le_of_ble_eq_true rfl) (Nat.le_of_ble_eq_true rfl) rfl hp_v0 dX0_answersAre_40 rfl (z_iload_n (nx := 44) (a := 3) G rfl dX0_answersAre_43 rfl (z_iconst (nx := 45) (z := 2) G (R32c rfl) dX0_answersAre_44 rfl ?_))))))
      refine b_callV0 (nx := 48) (zs := [am_rfv v0 4, v3, 2]) (as := [(0, v3), (0, 2)]) X hB (by decide) rfl (sh_0_4 _ hp_v0) SS_X7_get (am_ta (am_ti (am_ti am_tn))) (Nat.le_of_ble_eq_true rfl) (Nat.le_of_ble_eq_true rfl) ml_RX0_77 iw_X7_get vw_X7_get cw_X7_get nw_RX7 pp_X7_get (Nat.le_of_ble_eq_true rfl) dX0_answersAre_45 rfl (NM_X7_get (sh_0_4 _ hp_v0) h) (fun r_6 m_7 h hB => ?_)
      refine z_icmp_eq (nx := 51) (tgt := 53) G dX0_answersAre_48 (by decide) rfl (fun c => ?_) (fun c => ?_)
      · have h := h.1 c
        exact b_fewer (loc2 := [(2, v0), (0, v1), (0, v2), (0, v3)]) (am_lk (am_lk (am_lk (am_lk am_ln)))) (S_X0_answersAre_J1 X hp_v0 hC2 hB h)
      · have h := h.2 c
        refine z_iconst (nx := 52) (z := 0) G (R32c rfl) dX0_answersAre_51 rfl ?_
        exact b_zreturn X hB (Or.inl rfl) dX0_answersAre_52 h
theorem S_X0_answersAre_L1 {F : am_F} {K : am_KK} {v0 : Int} {v1 : Int} {v2 : Int} {v3 : Int} {m : am_M} (X : am_Cx F cX0_answersAre RX0 (some .boolean) 2 5 K) (hp_v0 : am_ob v0 0) (hB : am_Bt m) (h : M_X0_answersAre_L1 v0 v1 v2 v3 K m) : am_Z F 2 [] [(2, v0), (0, v1), (0, v2), (0, v3)] m 200 := by
  obtain ⟨I, ⟨j, hj⟩, hI⟩ := h
  have key : ∀ j v3 m, I j v3 m → am_Bt m → am_Z F 2 [] [(2, v0), (0, v1), (0, v2), (0, v3)] m 200 := by
    intro j
    induction j using Nat.strongRecOn with
    | ind j ih =>
      intro v3 m hj hB
      exact S_X0_answersAre_L1B X hp_v0 (fun v3' m' hc hB' => by
        obtain ⟨j', g1, g2⟩ := hc
        exact ih j' g1 v3' m' g2 hB') hB (hI j v3 m hj)
  exact key j _ _ hj hB
set_option maxRecDepth 20000 in
set_option maxHeartbeats 4000000 in
theorem S_X0_answersAre {F : am_F} {K : am_KK} {v0 : Int} {v1 : Int} {v2 : Int} {m : am_M} (X : am_Cx F cX0_answersAre RX0 (some .boolean) 2 5 K) (hp_v0 : am_ob v0 0) (hB : am_Bt m) (h : M_X0_answersAre v0 v1 v2 K m) : am_Z F 0 [] [(2, v0), (0, v1), (0, v2), (9, 0)] m 200 := by
  have G := X.G
  unfold M_X0_answersAre at h
  refine z_iconst (nx := 1) (z := 0) G (R32c rfl) dX0_answersAre_0 rfl (b_storeE_n (nx := 2) (a := 3) (loc2 := [(2, v0), (0, v1), (0, v2), (0, 0)]) G rfl (Nat.le_of_ble_eq_true rfl) (am_pl1 rfl (fun h => nomatch h)) dX0_answersAre_1 rfl ?_)
  exact b_fewer (loc2 := [(2, v0), (0, v1), (0, v2), (0, 0)]) (am_lk (am_lk (am_lk (am_lk am_ln)))) (S_X0_answersAre_L1 X hp_v0 hB h)
theorem NM_X0_answersAre {v0 : Int} {v1 : Int} {v2 : Int} {K : am_KK} {m : am_M} (hp_v0 : am_ob v0 0) (h : M_X0_answersAre v0 v1 v2 K m) : N_X0_answersAre [v0, v1, v2] K m := ⟨hp_v0, h⟩
theorem SS_X0_answersAre : am_Snd yX0_answersAre cX0_answersAre 4 (some .boolean) 0 2 (am_L [2, 0, 0] 5 N_X0_answersAre) := by
  refine am_SB (by decide +kernel) (Nat.le_of_ble_eq_true rfl) (fun F zs as K m X ht hB hM => ?_)
  obtain ⟨v0, zs, as, rfl, rfl, hz0, ht⟩ := am_inv ht
  obtain ⟨v1, zs, as, rfl, rfl, hz1, ht⟩ := am_inv ht
  obtain ⟨v2, zs, as, rfl, rfl, hz2, ht⟩ := am_inv ht
  obtain ⟨rfl, rfl⟩ := am_inv0 ht
  obtain ⟨hp_v0, hM⟩ := hM
  exact S_X0_answersAre X hp_v0 hB hM
set_option maxRecDepth 20000 in
set_option maxHeartbeats 4000000 in
theorem S_X9_takeFrom {F : am_F} {K : am_KK} {v0 : Int} {v1 : Int} {m : am_M} (X : am_Cx F cX9_takeFrom RX9 none 2 9 K) (hp_v0 : am_ob v0 9) (hp_v1 : am_ob v1 9) (hB : am_Bt m) (h : M_X9_takeFrom v0 v1 K m) : am_Z F 0 [] [(2, v0), (2, v1)] m 200 := by
  have G := X.G
  unfold M_X9_takeFrom at h
  refine z_aload_n (nx := 1) (a := 0) G rfl (Or.inl rfl) dX9_takeFrom_0 rfl (b_getA (nx := 4) (k0 := 0) G hB fl_RX9_16 (Nat.le_of_ble_eq_true rfl) (Nat.le_of_ble_eq_true rfl) rfl hp_v0 dX9_takeFrom_1 rfl (z_aload_n (nx := 5) (a := 1) G rfl (Or.inl rfl) dX9_takeFrom_4 rfl (b_getA (nx := 8) (k0 := 0) G hB fl_RX9_16 (Nat.le_of_ble_eq_true rfl) (Nat.le_of_ble_eq_true rfl) rfl hp_v1 dX9_takeFrom_5 rfl ?_)))
  refine b_callV9 (nx := 11) (zs := [am_rfv v0 0, am_rfv v1 0]) (as := [(2, am_rfv v1 0)]) X hB (by decide) rfl (sh_9_0 _ hp_v0) SS_X7_takeFrom (am_ta (am_ta am_tn)) (Nat.le_of_ble_eq_true rfl) (Nat.le_of_ble_eq_true rfl) ml_RX9_50 iw_X7_takeFrom vw_X7_takeFrom cw_X7_takeFrom nw_RX7 pp_X7_takeFrom (Nat.le_of_ble_eq_true rfl) dX9_takeFrom_8 rfl (NM_X7_takeFrom (sh_9_0 _ hp_v0) (sh_9_0 _ hp_v1) h) (fun r_1 m_2 h hB => ?_)
  refine z_aload_n (nx := 12) (a := 0) G rfl (Or.inl rfl) dX9_takeFrom_11 rfl (z_aload_n (nx := 13) (a := 1) G rfl (Or.inl rfl) dX9_takeFrom_12 rfl (b_getI (nx := 16) (k0 := 1) (t := 0) G fl_RX9_40 (Nat.le_of_ble_eq_true rfl) (Nat.le_of_ble_eq_true rfl) rfl hp_v1 dX9_takeFrom_13 rfl ?_))
  refine b_put (nx := 19) (k0 := 1) (t := 0) G hB fl_RX9_40 (Nat.le_of_ble_eq_true rfl) (Nat.le_of_ble_eq_true rfl) rfl (fun h => nomatch h) rfl hp_v0 dX9_takeFrom_16 rfl (fun m_3 e_m_3 hB => ?_)
  have h := h m_3 e_m_3
  exact b_return X hB dX9_takeFrom_19 h
theorem NM_X9_takeFrom {v0 : Int} {v1 : Int} {K : am_KK} {m : am_M} (hp_v0 : am_ob v0 9) (hp_v1 : am_ob v1 9) (h : M_X9_takeFrom v0 v1 K m) : N_X9_takeFrom [v0, v1] K m := ⟨hp_v0, hp_v1, h⟩
theorem SS_X9_takeFrom : am_Snd yX9_takeFrom cX9_takeFrom 2 none 0 2 (am_L [2, 2] 9 N_X9_takeFrom) := by
  refine am_SB (by decide +kernel) (Nat.le_of_ble_eq_true rfl) (fun F zs as K m X ht hB hM => ?_)
  obtain ⟨v0, zs, as, rfl, rfl, hz0, ht⟩ := am_inv ht
  obtain ⟨v1, zs, as, rfl, rfl, hz1, ht⟩ := am_inv ht
  obtain ⟨rfl, rfl⟩ := am_inv0 ht
  obtain ⟨hp_v0, hp_v1, hM⟩ := hM
  exact S_X9_takeFrom X hp_v0 hp_v1 hB hM
set_option maxRecDepth 20000 in
set_option maxHeartbeats 4000000 in
theorem S_X0_takeFrom_L1B {F : am_F} {K : am_KK} {v0 : Int} {v1 : Int} {v2 : Int} {C132 : Int → am_M → Prop} {m : am_M} (X : am_Cx F cX0_takeFrom RX0 none 3 9 K) (hp_v0 : am_ob v0 0) (hp_v1 : am_ob v1 0) (hC132 : ∀ w2 m, C132 w2 m → am_Bt m → am_Z F 132 [] [(2, v0), (2, v1), (0, w2)] m 200) (hB : am_Bt m) (h : M_X0_takeFrom_L1B v0 v1 v2 C132 K m) : am_Z F 132 [] [(2, v0), (2, v1), (0, v2)] m 200 := by
  have G := X.G
  unfold M_X0_takeFrom_L1B at h
  refine z_iload_n (nx := 133) (a := 2) G rfl dX0_takeFrom_132 rfl (z_aload_n (nx := 134) (a := 0) G rfl (Or.inl rfl) dX0_takeFrom_133 rfl (b_getI (nx := 137) (k0 := 10) (t := 0) G fl_RX0_67 (Nat.le_of_ble_eq_true rfl) (Nat.le_of_ble_eq_true rfl) rfl hp_v0 dX0_takeFrom_134 rfl ?_))
  refine z_icmp_ge (nx := 140) (tgt := 161) G dX0_takeFrom_137 (by decide) rfl (fun c => ?_) (fun c => ?_)
  · have h := h.1 c
    refine z_aload_n (nx := 162) (a := 0) G rfl (Or.inl rfl) dX0_takeFrom_161 rfl (z_aload_n (nx := 163) (a := 1) G rfl (Or.inl rfl) dX0_takeFrom_162 rfl (b_getI (nx := 166) (k0 := 11) (t := 0) G fl_RX0_56 (Nat.le_of_ble_eq_true rfl) (Nat.le_of_ble_eq_true rfl) rfl hp_v1 dX0_takeFrom_163 rfl ?_))
    refine b_put (nx := 169) (k0 := 11) (t := 0) G hB fl_RX0_56 (Nat.le_of_ble_eq_true rfl) (Nat.le_of_ble_eq_true rfl) rfl (fun h => nomatch h) rfl hp_v0 dX0_takeFrom_166 rfl (fun m_1 e_m_1 hB => ?_)
    have h := h m_1 e_m_1
    exact b_return X hB dX0_takeFrom_169 h
  · have h := h.2 c
    refine z_aload_n (nx := 141) (a := 0) G rfl (Or.inl rfl) dX0_takeFrom_140 rfl (b_getA (nx := 144) (k0 := 9) G hB fl_RX0_52 (Nat.le_of_ble_eq_true rfl) (Nat.le_of_ble_eq_true rfl) rfl hp_v0 dX0_takeFrom_141 rfl (z_iload_n (nx := 145) (a := 2) G rfl dX0_takeFrom_144 rfl ?_))
    obtain ⟨hb_2, h⟩ := h
    refine b_aald (nx := 146) G hB (Or.inr rfl) (sh_0_9 _ hp_v0) hb_2.1 hb_2.2 dX0_takeFrom_145 rfl ?_
    refine z_aload_n (nx := 147) (a := 1) G rfl (Or.inl rfl) dX0_takeFrom_146 rfl (b_getA (nx := 150) (k0 := 9) G hB fl_RX0_52 (Nat.le_of_ble_eq_true rfl) (Nat.le_of_ble_eq_true rfl) rfl hp_v1 dX0_takeFrom_147 rfl (z_iload_n (nx := 151) (a := 2) G rfl dX0_takeFrom_150 rfl ?_))
    obtain ⟨hb_3, h⟩ := h
    refine b_aald (nx := 152) G hB (Or.inr rfl) (sh_0_9 _ hp_v1) hb_3.1 hb_3.2 dX0_takeFrom_151 rfl ?_
    refine b_callV9 (nx := 155) (zs := [am_rfv (am_rfv v0 9) v2, am_rfv (am_rfv v1 9) v2]) (as := [(2, am_rfv (am_rfv v1 9) v2)]) X hB (by decide) rfl (sh_el25 _ _ (sh_0_9 _ hp_v0) hb_2.1 hb_2.2) SS_X4_takeFrom (am_ta (am_ta am_tn)) (Nat.le_of_ble_eq_true rfl) (Nat.le_of_ble_eq_true rfl) ml_RX0_70 iw_X4_takeFrom vw_X4_takeFrom cw_X4_takeFrom nw_RX4 pp_X4_takeFrom (Nat.le_of_ble_eq_true rfl) dX0_takeFrom_152 rfl (NM_X4_takeFrom (sh_el25 _ _ (sh_0_9 _ hp_v0) hb_2.1 hb_2.2) (sh_el25 _ _ (sh_0_9 _ hp_v1) hb_3.1 hb_3.2) h) (fun r_4 m_5 h hB => ?_)
    refine b_iinc (nx := 158) (a := 2) (loc2 := fun v2_6 => [(2, v0), (2, v1), (0, v2_6)]) G (fun _ => rfl) rfl (am_pl1 rfl (fun h => nomatch h)) dX0_takeFrom_155 rfl (fun v2_6 e_v2_6 => ?_)
    have h := h v2_6 e_v2_6
    refine z_goto (tgt := 132) G dX0_takeFrom_158 (by decide) ?_
    exact b_fewer (loc2 := [(2, v0), (2, v1), (0, v2_6)]) (am_lk (am_lk (am_lk am_ln))) (hC132 _ _ h hB)
theorem S_X0_takeFrom_L1 {F : am_F} {K : am_KK} {v0 : Int} {v1 : Int} {v2 : Int} {m : am_M} (X : am_Cx F cX0_takeFrom RX0 none 3 9 K) (hp_v0 : am_ob v0 0) (hp_v1 : am_ob v1 0) (hB : am_Bt m) (h : M_X0_takeFrom_L1 v0 v1 v2 K m) : am_Z F 132 [] [(2, v0), (2, v1), (0, v2)] m 200 := by
  obtain ⟨I, ⟨j, hj⟩, hI⟩ := h
  have key : ∀ j v2 m, I j v2 m → am_Bt m → am_Z F 132 [] [(2, v0), (2, v1), (0, v2)] m 200 := by
    intro j
    induction j using Nat.strongRecOn with
    | ind j ih =>
      intro v2 m hj hB
      exact S_X0_takeFrom_L1B X hp_v0 hp_v1 (fun v2' m' hc hB' => by
        obtain ⟨j', g1, g2⟩ := hc
        exact ih j' g1 v2' m' g2 hB') hB (hI j v2 m hj)
  exact key j _ _ hj hB
set_option maxRecDepth 20000 in
set_option maxHeartbeats 4000000 in
theorem S_X0_takeFrom {F : am_F} {K : am_KK} {v0 : Int} {v1 : Int} {m : am_M} (X : am_Cx F cX0_takeFrom RX0 none 3 9 K) (hp_v0 : am_ob v0 0) (hp_v1 : am_ob v1 0) (hB : am_Bt m) (h : M_X0_takeFrom v0 v1 K m) : am_Z F 0 [] [(2, v0), (2, v1), (9, 0)] m 200 := by
  have G := X.G
  unfold M_X0_takeFrom at h
  refine z_aload_n (nx := 1) (a := 0) G rfl (Or.inl rfl) dX0_takeFrom_0 rfl (b_getA (nx := 4) (k0 := 0) G hB fl_RX0_14 (Nat.le_of_ble_eq_true rfl) (Nat.le_of_ble_eq_true rfl) rfl hp_v0 dX0_takeFrom_1 rfl (z_aload_n (nx := 5) (a := 1) G rfl (Or.inl rfl) dX0_takeFrom_4 rfl (b_getA (nx := 8) (k0 := 0) G hB fl_RX0_14 (Nat.le_of_ble_eq_true rfl) (Nat.le_of_ble_eq_true rfl) rfl hp_v1 dX0_takeFrom_5 rfl ?_)))
  refine b_callV9 (nx := 11) (zs := [am_rfv v0 0, am_rfv v1 0]) (as := [(2, am_rfv v1 0)]) X hB (by decide) rfl (sh_0_0 _ hp_v0) SS_X7_takeFrom (am_ta (am_ta am_tn)) (Nat.le_of_ble_eq_true rfl) (Nat.le_of_ble_eq_true rfl) ml_RX0_86 iw_X7_takeFrom vw_X7_takeFrom cw_X7_takeFrom nw_RX7 pp_X7_takeFrom (Nat.le_of_ble_eq_true rfl) dX0_takeFrom_8 rfl (NM_X7_takeFrom (sh_0_0 _ hp_v0) (sh_0_0 _ hp_v1) h) (fun r_7 m_8 h hB => ?_)
  refine z_aload_n (nx := 12) (a := 0) G rfl (Or.inl rfl) dX0_takeFrom_11 rfl (b_getA (nx := 15) (k0 := 1) G hB fl_RX0_20 (Nat.le_of_ble_eq_true rfl) (Nat.le_of_ble_eq_true rfl) rfl hp_v0 dX0_takeFrom_12 rfl (z_aload_n (nx := 16) (a := 1) G rfl (Or.inl rfl) dX0_takeFrom_15 rfl (b_getA (nx := 19) (k0 := 1) G hB fl_RX0_20 (Nat.le_of_ble_eq_true rfl) (Nat.le_of_ble_eq_true rfl) rfl hp_v1 dX0_takeFrom_16 rfl ?_)))
  refine b_callV9 (nx := 22) (zs := [am_rfv v0 1, am_rfv v1 1]) (as := [(2, am_rfv v1 1)]) X hB (by decide) rfl (sh_0_1 _ hp_v0) SS_X7_takeFrom (am_ta (am_ta am_tn)) (Nat.le_of_ble_eq_true rfl) (Nat.le_of_ble_eq_true rfl) ml_RX0_86 iw_X7_takeFrom vw_X7_takeFrom cw_X7_takeFrom nw_RX7 pp_X7_takeFrom (Nat.le_of_ble_eq_true rfl) dX0_takeFrom_19 rfl (NM_X7_takeFrom (sh_0_1 _ hp_v0) (sh_0_1 _ hp_v1) h) (fun r_9 m_10 h hB => ?_)
  refine z_aload_n (nx := 23) (a := 0) G rfl (Or.inl rfl) dX0_takeFrom_22 rfl (b_getA (nx := 26) (k0 := 2) G hB fl_RX0_23 (Nat.le_of_ble_eq_true rfl) (Nat.le_of_ble_eq_true rfl) rfl hp_v0 dX0_takeFrom_23 rfl (z_aload_n (nx := 27) (a := 1) G rfl (Or.inl rfl) dX0_takeFrom_26 rfl (b_getA (nx := 30) (k0 := 2) G hB fl_RX0_23 (Nat.le_of_ble_eq_true rfl) (Nat.le_of_ble_eq_true rfl) rfl hp_v1 dX0_takeFrom_27 rfl ?_)))
  refine b_callV9 (nx := 33) (zs := [am_rfv v0 2, am_rfv v1 2]) (as := [(2, am_rfv v1 2)]) X hB (by decide) rfl (sh_0_2 _ hp_v0) SS_X7_takeFrom (am_ta (am_ta am_tn)) (Nat.le_of_ble_eq_true rfl) (Nat.le_of_ble_eq_true rfl) ml_RX0_86 iw_X7_takeFrom vw_X7_takeFrom cw_X7_takeFrom nw_RX7 pp_X7_takeFrom (Nat.le_of_ble_eq_true rfl) dX0_takeFrom_30 rfl (NM_X7_takeFrom (sh_0_2 _ hp_v0) (sh_0_2 _ hp_v1) h) (fun r_11 m_12 h hB => ?_)
  refine z_aload_n (nx := 34) (a := 0) G rfl (Or.inl rfl) dX0_takeFrom_33 rfl (b_getA (nx := 37) (k0 := 3) G hB fl_RX0_26 (Nat.le_of_ble_eq_true rfl) (Nat.le_of_ble_eq_true rfl) rfl hp_v0 dX0_takeFrom_34 rfl (z_aload_n (nx := 38) (a := 1) G rfl (Or.inl rfl) dX0_takeFrom_37 rfl (b_getA (nx := 41) (k0 := 3) G hB fl_RX0_26 (Nat.le_of_ble_eq_true rfl) (Nat.le_of_ble_eq_true rfl) rfl hp_v1 dX0_takeFrom_38 rfl ?_)))
  refine b_callV9 (nx := 44) (zs := [am_rfv v0 3, am_rfv v1 3]) (as := [(2, am_rfv v1 3)]) X hB (by decide) rfl (sh_0_3 _ hp_v0) SS_X7_takeFrom (am_ta (am_ta am_tn)) (Nat.le_of_ble_eq_true rfl) (Nat.le_of_ble_eq_true rfl) ml_RX0_86 iw_X7_takeFrom vw_X7_takeFrom cw_X7_takeFrom nw_RX7 pp_X7_takeFrom (Nat.le_of_ble_eq_true rfl) dX0_takeFrom_41 rfl (NM_X7_takeFrom (sh_0_3 _ hp_v0) (sh_0_3 _ hp_v1) h) (fun r_13 m_14 h hB => ?_)
  refine z_aload_n (nx := 45) (a := 0) G rfl (Or.inl rfl) dX0_takeFrom_44 rfl (b_getA (nx := 48) (k0 := 4) G hB fl_RX0_29 (Nat.le_of_ble_eq_true rfl) (Nat.le_of_ble_eq_true rfl) rfl hp_v0 dX0_takeFrom_45 rfl (z_aload_n (nx := 49) (a := 1) G rfl (Or.inl rfl) dX0_takeFrom_48 rfl (b_getA (nx := 52) (k0 := 4) G hB fl_RX0_29 (Nat.le_of_ble_eq_true rfl) (Nat.le_of_ble_eq_true rfl) rfl hp_v1 dX0_takeFrom_49 rfl ?_)))
  refine b_callV9 (nx := 55) (zs := [am_rfv v0 4, am_rfv v1 4]) (as := [(2, am_rfv v1 4)]) X hB (by decide) rfl (sh_0_4 _ hp_v0) SS_X7_takeFrom (am_ta (am_ta am_tn)) (Nat.le_of_ble_eq_true rfl) (Nat.le_of_ble_eq_true rfl) ml_RX0_86 iw_X7_takeFrom vw_X7_takeFrom cw_X7_takeFrom nw_RX7 pp_X7_takeFrom (Nat.le_of_ble_eq_true rfl) dX0_takeFrom_52 rfl (NM_X7_takeFrom (sh_0_4 _ hp_v0) (sh_0_4 _ hp_v1) h) (fun r_15 m_16 h hB => ?_)
  refine z_aload_n (nx := 56) (a := 0) G rfl (Or.inl rfl) dX0_takeFrom_55 rfl (b_getA (nx := 59) (k0 := 5) G hB fl_RX0_35 (Nat.le_of_ble_eq_true rfl) (Nat.le_of_ble_eq_true rfl) rfl hp_v0 dX0_takeFrom_56 rfl (z_aload_n (nx := 60) (a := 1) G rfl (Or.inl rfl) dX0_takeFrom_59 rfl (b_getA (nx := 63) (k0 := 5) G hB fl_RX0_35 (Nat.le_of_ble_eq_true rfl) (Nat.le_of_ble_eq_true rfl) rfl hp_v1 dX0_takeFrom_60 rfl ?_)))
  refine b_callV9 (nx := 66) (zs := [am_rfv v0 5, am_rfv v1 5]) (as := [(2, am_rfv v1 5)]) X hB (by decide) rfl (sh_0_5 _ hp_v0) SS_X9_takeFrom (am_ta (am_ta am_tn)) (Nat.le_of_ble_eq_true rfl) (Nat.le_of_ble_eq_true rfl) ml_RX0_89 iw_X9_takeFrom vw_X9_takeFrom cw_X9_takeFrom nw_RX9 pp_X9_takeFrom (Nat.le_of_ble_eq_true rfl) dX0_takeFrom_63 rfl (NM_X9_takeFrom (sh_0_5 _ hp_v0) (sh_0_5 _ hp_v1) h) (fun r_17 m_18 h hB => ?_)
  refine z_aload_n (nx := 67) (a := 1) G rfl (Or.inl rfl) dX0_takeFrom_66 rfl (b_getA (nx := 70) (k0 := 6) G hB fl_RX0_39 (Nat.le_of_ble_eq_true rfl) (Nat.le_of_ble_eq_true rfl) rfl hp_v1 dX0_takeFrom_67 rfl (z_iconst (nx := 71) (z := 0) G (R32c rfl) dX0_takeFrom_70 rfl (z_aload_n (nx := 72) (a := 0) G rfl (Or.inl rfl) dX0_takeFrom_71 rfl (b_getA (nx := 75) (k0 := 6) G hB fl_RX0_39 (Nat.le_of_ble_eq_true rfl) (Nat.le_of_ble_eq_true rfl) rfl hp_v0 dX0_takeFrom_72 rfl (z_iconst (nx := 76) (z := 0) G (R32c rfl) dX0_takeFrom_75 rfl (z_bipush (nx := 78) (z := 8) G (R32c rfl) rfl dX0_takeFrom_76 rfl ?_))))))
  obtain ⟨hb, h⟩ := h
  refine b_copy (nx := 81) G hB ml_RX0_92 (sh_0_6 _ hp_v1) (sh_0_6 _ hp_v0) hb (Nat.le_of_ble_eq_true rfl) dX0_takeFrom_78 rfl (fun m_19 e_m_19 hB => ?_)
  have h := h m_19 e_m_19
  refine z_aload_n (nx := 82) (a := 1) G rfl (Or.inl rfl) dX0_takeFrom_81 rfl (b_getA (nx := 85) (k0 := 7) G hB fl_RX0_43 (Nat.le_of_ble_eq_true rfl) (Nat.le_of_ble_eq_true rfl) rfl hp_v1 dX0_takeFrom_82 rfl (z_iconst (nx := 86) (z := 0) G (R32c rfl) dX0_takeFrom_85 rfl (z_aload_n (nx := 87) (a := 0) G rfl (Or.inl rfl) dX0_takeFrom_86 rfl (b_getA (nx := 90) (k0 := 7) G hB fl_RX0_43 (Nat.le_of_ble_eq_true rfl) (Nat.le_of_ble_eq_true rfl) rfl hp_v0 dX0_takeFrom_87 rfl (z_iconst (nx := 91) (z := 0) G (R32c rfl) dX0_takeFrom_90 rfl (z_bipush (nx := 93) (z := 8) G (R32c rfl) rfl dX0_takeFrom_91 rfl ?_))))))
  obtain ⟨hb, h⟩ := h
  refine b_copy (nx := 96) G hB ml_RX0_92 (sh_0_7 _ hp_v1) (sh_0_7 _ hp_v0) hb (Nat.le_of_ble_eq_true rfl) dX0_takeFrom_93 rfl (fun m_20 e_m_20 hB => ?_)
  have h := h m_20 e_m_20
  refine z_aload_n (nx := 97) (a := 1) G rfl (Or.inl rfl) dX0_takeFrom_96 rfl (b_getA (nx := 100) (k0 := 8) G hB fl_RX0_46 (Nat.le_of_ble_eq_true rfl) (Nat.le_of_ble_eq_true rfl) rfl hp_v1 dX0_takeFrom_97 rfl (z_iconst (nx := 101) (z := 0) G (R32c rfl) dX0_takeFrom_100 rfl (z_aload_n (nx := 102) (a := 0) G rfl (Or.inl rfl) dX0_takeFrom_101 rfl (b_getA (nx := 105) (k0 := 8) G hB fl_RX0_46 (Nat.le_of_ble_eq_true rfl) (Nat.le_of_ble_eq_true rfl) rfl hp_v0 dX0_takeFrom_102 rfl (z_iconst (nx := 106) (z := 0) G (R32c rfl) dX0_takeFrom_105 rfl (z_aload_n (nx := 107) (a := 0) G rfl (Or.inl rfl) dX0_takeFrom_106 rfl (b_getA (nx := 110) (k0 := 8) G hB fl_RX0_46 (Nat.le_of_ble_eq_true rfl) (Nat.le_of_ble_eq_true rfl) rfl hp_v0 dX0_takeFrom_107 rfl (b_alen (nx := 111) G (by decide) (by decide) (sh_0_8 _ hp_v0) dX0_takeFrom_110 rfl ?_))))))))
  obtain ⟨hb, h⟩ := h
  refine b_copy (nx := 114) G hB ml_RX0_92 (sh_0_8 _ hp_v1) (sh_0_8 _ hp_v0) hb (Nat.le_of_ble_eq_true rfl) dX0_takeFrom_111 rfl (fun m_21 e_m_21 hB => ?_)
  have h := h m_21 e_m_21
  refine z_aload_n (nx := 115) (a := 0) G rfl (Or.inl rfl) dX0_takeFrom_114 rfl (z_aload_n (nx := 116) (a := 1) G rfl (Or.inl rfl) dX0_takeFrom_115 rfl (b_getI (nx := 119) (k0 := 10) (t := 0) G fl_RX0_67 (Nat.le_of_ble_eq_true rfl) (Nat.le_of_ble_eq_true rfl) rfl hp_v1 dX0_takeFrom_116 rfl (z_aload_n (nx := 120) (a := 0) G rfl (Or.inl rfl) dX0_takeFrom_119 rfl (b_getA (nx := 123) (k0 := 9) G hB fl_RX0_52 (Nat.le_of_ble_eq_true rfl) (Nat.le_of_ble_eq_true rfl) rfl hp_v0 dX0_takeFrom_120 rfl (b_alen (nx := 124) G (by decide) (by decide) (sh_0_9 _ hp_v0) dX0_takeFrom_123 rfl (b_mmin (nx := 127) X ml_RX0_98 (Nat.le_of_ble_eq_true rfl) dX0_takeFrom_124 rfl ?_))))))
  refine b_put (nx := 130) (k0 := 10) (t := 0) G hB fl_RX0_67 (Nat.le_of_ble_eq_true rfl) (Nat.le_of_ble_eq_true rfl) rfl (fun h => nomatch h) rfl hp_v0 dX0_takeFrom_127 rfl (fun m_22 e_m_22 hB => ?_)
  have h := h m_22 e_m_22
  refine z_iconst (nx := 131) (z := 0) G (R32c rfl) dX0_takeFrom_130 rfl (b_storeE_n (nx := 132) (a := 2) (loc2 := [(2, v0), (2, v1), (0, 0)]) G rfl (Nat.le_of_ble_eq_true rfl) (am_pl1 rfl (fun h => nomatch h)) dX0_takeFrom_131 rfl ?_)
  exact b_fewer (loc2 := [(2, v0), (2, v1), (0, 0)]) (am_lk (am_lk (am_lk am_ln))) (S_X0_takeFrom_L1 X hp_v0 hp_v1 hB h)
theorem NM_X0_takeFrom {v0 : Int} {v1 : Int} {K : am_KK} {m : am_M} (hp_v0 : am_ob v0 0) (hp_v1 : am_ob v1 0) (h : M_X0_takeFrom v0 v1 K m) : N_X0_takeFrom [v0, v1] K m := ⟨hp_v0, hp_v1, h⟩
theorem SS_X0_takeFrom : am_Snd yX0_takeFrom cX0_takeFrom 3 none 0 3 (am_L [2, 2] 9 N_X0_takeFrom) := by
  refine am_SB (by decide +kernel) (Nat.le_of_ble_eq_true rfl) (fun F zs as K m X ht hB hM => ?_)
  obtain ⟨v0, zs, as, rfl, rfl, hz0, ht⟩ := am_inv ht
  obtain ⟨v1, zs, as, rfl, rfl, hz1, ht⟩ := am_inv ht
  obtain ⟨rfl, rfl⟩ := am_inv0 ht
  obtain ⟨hp_v0, hp_v1, hM⟩ := hM
  exact S_X0_takeFrom X hp_v0 hp_v1 hB hM
set_option maxRecDepth 20000 in
set_option maxHeartbeats 4000000 in
theorem S_J6_bitCount_0f7a4 {F : am_F} {K : am_KK} {v0 : Int} {m : am_M} (X : am_Cx F cJ6_bitCount_0f7a4 RJ6 (some .int) 1 0 K) (hB : am_Bt m) (h : M_J6_bitCount_0f7a4 v0 K m) : am_Z F 0 [] [(0, v0)] m 200 := by
  have G := X.G
  unfold M_J6_bitCount_0f7a4 at h
  refine z_iload_n (nx := 1) (a := 0) G rfl dJ6_bitCount_0f7a4_0 rfl (z_iload_n (nx := 2) (a := 0) G rfl dJ6_bitCount_0f7a4_1 rfl (z_iconst (nx := 3) (z := 1) G (R32c rfl) dJ6_bitCount_0f7a4_2 rfl (z_iushr (nx := 4) G dJ6_bitCount_0f7a4_3 rfl (z_ldcw (nx := 7) (z := 1431655765) G (R32c rfl) rfl kw_RJ6_265 dJ6_bitCount_0f7a4_4 rfl (z_iand (nx := 8) G dJ6_bitCount_0f7a4_7 rfl (z_isub (nx := 9) G dJ6_bitCount_0f7a4_8 rfl ?_))))))
  refine b_store_n (nx := 10) (a := 0) (loc2 := fun v0_1 => [(0, v0_1)]) G (fun _ => rfl) (Nat.le_of_ble_eq_true rfl) am_pl0 dJ6_bitCount_0f7a4_9 rfl (fun v0_1 e_v0_1 => ?_)
  have h := h v0_1 e_v0_1
  refine z_iload_n (nx := 11) (a := 0) G rfl dJ6_bitCount_0f7a4_10 rfl (z_ldcw (nx := 14) (z := 858993459) G (R32c rfl) rfl kw_RJ6_266 dJ6_bitCount_0f7a4_11 rfl (z_iand (nx := 15) G dJ6_bitCount_0f7a4_14 rfl (z_iload_n (nx := 16) (a := 0) G rfl dJ6_bitCount_0f7a4_15 rfl (z_iconst (nx := 17) (z := 2) G (R32c rfl) dJ6_bitCount_0f7a4_16 rfl (z_iushr (nx := 18) G dJ6_bitCount_0f7a4_17 rfl (z_ldcw (nx := 21) (z := 858993459) G (R32c rfl) rfl kw_RJ6_266 dJ6_bitCount_0f7a4_18 rfl (z_iand (nx := 22) G dJ6_bitCount_0f7a4_21 rfl (z_iadd (nx := 23) G dJ6_bitCount_0f7a4_22 rfl ?_))))))))
  refine b_store_n (nx := 24) (a := 0) (loc2 := fun v0_2 => [(0, v0_2)]) G (fun _ => rfl) (Nat.le_of_ble_eq_true rfl) am_pl0 dJ6_bitCount_0f7a4_23 rfl (fun v0_2 e_v0_2 => ?_)
  have h := h v0_2 e_v0_2
  refine z_iload_n (nx := 25) (a := 0) G rfl dJ6_bitCount_0f7a4_24 rfl (z_iload_n (nx := 26) (a := 0) G rfl dJ6_bitCount_0f7a4_25 rfl (z_iconst (nx := 27) (z := 4) G (R32c rfl) dJ6_bitCount_0f7a4_26 rfl (z_iushr (nx := 28) G dJ6_bitCount_0f7a4_27 rfl (z_iadd (nx := 29) G dJ6_bitCount_0f7a4_28 rfl (z_ldcw (nx := 32) (z := 252645135) G (R32c rfl) rfl kw_RJ6_267 dJ6_bitCount_0f7a4_29 rfl (z_iand (nx := 33) G dJ6_bitCount_0f7a4_32 rfl ?_))))))
  refine b_store_n (nx := 34) (a := 0) (loc2 := fun v0_3 => [(0, v0_3)]) G (fun _ => rfl) (Nat.le_of_ble_eq_true rfl) am_pl0 dJ6_bitCount_0f7a4_33 rfl (fun v0_3 e_v0_3 => ?_)
  have h := h v0_3 e_v0_3
  refine z_iload_n (nx := 35) (a := 0) G rfl dJ6_bitCount_0f7a4_34 rfl (z_iload_n (nx := 36) (a := 0) G rfl dJ6_bitCount_0f7a4_35 rfl (z_bipush (nx := 38) (z := 8) G (R32c rfl) rfl dJ6_bitCount_0f7a4_36 rfl (z_iushr (nx := 39) G dJ6_bitCount_0f7a4_38 rfl (z_iadd (nx := 40) G dJ6_bitCount_0f7a4_39 rfl ?_))))
  refine b_store_n (nx := 41) (a := 0) (loc2 := fun v0_4 => [(0, v0_4)]) G (fun _ => rfl) (Nat.le_of_ble_eq_true rfl) am_pl0 dJ6_bitCount_0f7a4_40 rfl (fun v0_4 e_v0_4 => ?_)
  have h := h v0_4 e_v0_4
  refine z_iload_n (nx := 42) (a := 0) G rfl dJ6_bitCount_0f7a4_41 rfl (z_iload_n (nx := 43) (a := 0) G rfl dJ6_bitCount_0f7a4_42 rfl (z_bipush (nx := 45) (z := 16) G (R32c rfl) rfl dJ6_bitCount_0f7a4_43 rfl (z_iushr (nx := 46) G dJ6_bitCount_0f7a4_45 rfl (z_iadd (nx := 47) G dJ6_bitCount_0f7a4_46 rfl ?_))))
  refine b_store_n (nx := 48) (a := 0) (loc2 := fun v0_5 => [(0, v0_5)]) G (fun _ => rfl) (Nat.le_of_ble_eq_true rfl) am_pl0 dJ6_bitCount_0f7a4_47 rfl (fun v0_5 e_v0_5 => ?_)
  have h := h v0_5 e_v0_5
  refine z_iload_n (nx := 49) (a := 0) G rfl dJ6_bitCount_0f7a4_48 rfl (z_bipush (nx := 51) (z := 63) G (R32c rfl) rfl dJ6_bitCount_0f7a4_49 rfl (z_iand (nx := 52) G dJ6_bitCount_0f7a4_51 rfl ?_))
  exact b_ireturn X hB dJ6_bitCount_0f7a4_52 h
theorem NM_J6_bitCount_0f7a4 {v0 : Int} {K : am_KK} {m : am_M} (h : M_J6_bitCount_0f7a4 v0 K m) : N_J6_bitCount_0f7a4 [v0] K m := h
theorem SS_J6_bitCount_0f7a4 : am_Snd yJ6_bitCount_0f7a4 cJ6_bitCount_0f7a4 1 (some .int) 0 1 (am_L [0] 0 N_J6_bitCount_0f7a4) := by
  refine am_SB (by decide +kernel) (Nat.le_of_ble_eq_true rfl) (fun F zs as K m X ht hB hM => ?_)
  obtain ⟨v0, zs, as, rfl, rfl, hz0, ht⟩ := am_inv ht
  obtain ⟨rfl, rfl⟩ := am_inv0 ht
  exact S_J6_bitCount_0f7a4 X hB hM
set_option maxRecDepth 20000 in
set_option maxHeartbeats 4000000 in
theorem S_X1_takeLetters_J1 {F : am_F} {K : am_KK} {v0 : Int} {v1 : Int} {v2 : Int} {v3 : Int} {C38 : Int → am_M → Prop} {m : am_M} (X : am_Cx F cX1_takeLetters RX1 (some .boolean) 2 5 K) (hp_v0 : am_ob v0 1) (hp_v1 : am_ob v1 0) (hC38 : ∀ w3 m, C38 w3 m → am_Bt m → am_Z F 38 [] [(2, v0), (2, v1), (0, v2), (0, w3)] m 200) (hB : am_Bt m) (h : M_X1_takeLetters_J1 v0 v1 v2 v3 C38 K m) : am_Z F 98 [] [(2, v0), (2, v1), (0, v2), (0, v3)] m 200 := by
  have G := X.G
  unfold M_X1_takeLetters_J1 at h
  refine b_iinc (nx := 101) (a := 3) (loc2 := fun v3_1 => [(2, v0), (2, v1), (0, v2), (0, v3_1)]) G (fun _ => rfl) rfl (am_pl1 rfl (fun h => nomatch h)) dX1_takeLetters_98 rfl (fun v3_1 e_v3_1 => ?_)
  have h := h v3_1 e_v3_1
  refine z_goto (tgt := 38) G dX1_takeLetters_101 (by decide) ?_
  exact b_fewer (loc2 := [(2, v0), (2, v1), (0, v2), (0, v3_1)]) (am_lk (am_lk (am_lk (am_lk am_ln)))) (hC38 _ _ h hB)
set_option maxRecDepth 20000 in
set_option maxHeartbeats 4000000 in
theorem S_X1_takeLetters_L1B {F : am_F} {K : am_KK} {v0 : Int} {v1 : Int} {v2 : Int} {v3 : Int} {C38 : Int → am_M → Prop} {m : am_M} (X : am_Cx F cX1_takeLetters RX1 (some .boolean) 2 5 K) (hp_v0 : am_ob v0 1) (hp_v1 : am_ob v1 0) (hC38 : ∀ w3 m, C38 w3 m → am_Bt m → am_Z F 38 [] [(2, v0), (2, v1), (0, v2), (0, w3)] m 200) (hB : am_Bt m) (h : M_X1_takeLetters_L1B v0 v1 v2 v3 C38 K m) : am_Z F 38 [] [(2, v0), (2, v1), (0, v2), (0, v3)] m 200 := by
  have G := X.G
  unfold M_X1_takeLetters_L1B at h
  refine z_iload_n (nx := 39) (a := 3) G rfl dX1_takeLetters_38 rfl (z_aload_n (nx := 40) (a := 1) G rfl (Or.inl rfl) dX1_takeLetters_39 rfl (b_getA (nx := 43) (k0 := 0) G hB fl_RX1_70 (Nat.le_of_ble_eq_true rfl) (Nat.le_of_ble_eq_true rfl) rfl hp_v1 dX1_takeLetters_40 rfl (b_getI (nx := 46) (k0 := 2) (t := 0) G fl_RX1_76 (Nat.le_of_ble_eq_true rfl) (Nat.le_of_ble_eq_true rfl) rfl (sh_0_0 _ hp_v1) dX1_takeLetters_43 rfl ?_)))
  refine z_icmp_ge (nx := 49) (tgt := 104) G dX1_takeLetters_46 (by decide) rfl (fun c => ?_) (fun c => ?_)
  · have h := h.1 c
    refine z_iconst (nx := 105) (z := 1) G (R32c rfl) dX1_takeLetters_104 rfl ?_
    exact b_zreturn X hB (Or.inr rfl) dX1_takeLetters_105 h
  · have h := h.2 c
    refine z_iload_n (nx := 50) (a := 2) G rfl dX1_takeLetters_49 rfl (z_iload_n (nx := 51) (a := 3) G rfl dX1_takeLetters_50 rfl (z_ishr (nx := 52) G dX1_takeLetters_51 rfl (z_iconst (nx := 53) (z := 1) G (R32c rfl) dX1_takeLetters_52 rfl (z_iand (nx := 54) G dX1_takeLetters_53 rfl (z_iconst (nx := 55) (z := 1) G (R32c rfl) dX1_takeLetters_54 rfl ?_)))))
    refine z_icmp_ne (nx := 58) (tgt := 98) G dX1_takeLetters_55 (by decide) rfl (fun c => ?_) (fun c => ?_)
    · have h := h.1 c
      exact b_fewer (loc2 := [(2, v0), (2, v1), (0, v2), (0, v3)]) (am_lk (am_lk (am_lk (am_lk am_ln)))) (S_X1_takeLetters_J1 X hp_v0 hp_v1 hC38 hB h)
    · have h := h.2 c
      refine z_aload_n (nx := 59) (a := 0) G rfl (Or.inl rfl) dX1_takeLetters_58 rfl (b_getI (nx := 62) (k0 := 3) (t := 0) G fl_RX1_67 (Nat.le_of_ble_eq_true rfl) (Nat.le_of_ble_eq_true rfl) rfl hp_v0 dX1_takeLetters_59 rfl (z_aload_n (nx := 63) (a := 0) G rfl (Or.inl rfl) dX1_takeLetters_62 rfl (b_getA (nx := 66) (k0 := 2) G hB fl_RX1_15 (Nat.le_of_ble_eq_true rfl) (Nat.le_of_ble_eq_true rfl) rfl hp_v0 dX1_takeLetters_63 rfl (b_alen (nx := 67) G (by decide) (by decide) (sh_1_2 _ hp_v0) dX1_takeLetters_66 rfl ?_))))
      refine z_icmp_ge (nx := 70) (tgt := 98) G dX1_takeLetters_67 (by decide) rfl (fun c => ?_) (fun c => ?_)
      · have h := h.1 c
        exact b_fewer (loc2 := [(2, v0), (2, v1), (0, v2), (0, v3)]) (am_lk (am_lk (am_lk (am_lk am_ln)))) (S_X1_takeLetters_J1 X hp_v0 hp_v1 hC38 hB h)
      · have h := h.2 c
        refine z_aload_n (nx := 71) (a := 0) G rfl (Or.inl rfl) dX1_takeLetters_70 rfl (b_getA (nx := 74) (k0 := 2) G hB fl_RX1_15 (Nat.le_of_ble_eq_true rfl) (Nat.le_of_ble_eq_true rfl) rfl hp_v0 dX1_takeLetters_71 rfl (z_aload_n (nx := 75) (a := 0) G rfl (Or.inl rfl) dX1_takeLetters_74 rfl (b_getI (nx := 78) (k0 := 3) (t := 0) G fl_RX1_67 (Nat.le_of_ble_eq_true rfl) (Nat.le_of_ble_eq_true rfl) rfl hp_v0 dX1_takeLetters_75 rfl (z_aload_n (nx := 79) (a := 1) G rfl (Or.inl rfl) dX1_takeLetters_78 rfl (b_getA (nx := 82) (k0 := 0) G hB fl_RX1_70 (Nat.le_of_ble_eq_true rfl) (Nat.le_of_ble_eq_true rfl) rfl hp_v1 dX1_takeLetters_79 rfl (z_iload_n (nx := 83) (a := 3) G rfl dX1_takeLetters_82 rfl (z_iconst (nx := 84) (z := 0) G (R32c rfl) dX1_takeLetters_83 rfl ?_)))))))
        refine b_callV0 (nx := 87) (zs := [am_rfv v1 0, v3, 0]) (as := [(0, v3), (0, 0)]) X hB (by decide) rfl (sh_0_0 _ hp_v1) SS_X7_get (am_ta (am_ti (am_ti am_tn))) (Nat.le_of_ble_eq_true rfl) (Nat.le_of_ble_eq_true rfl) ml_RX1_81 iw_X7_get vw_X7_get cw_X7_get nw_RX7 pp_X7_get (Nat.le_of_ble_eq_true rfl) dX1_takeLetters_84 rfl (NM_X7_get (sh_0_0 _ hp_v1) h) (fun r_2 m_3 h hB => ?_)
        obtain ⟨hb, h⟩ := h
        refine b_iast (nx := 88) G hB (sh_1_2 _ hp_v0) hb.1 hb.2 dX1_takeLetters_87 rfl (fun m_4 e_m_4 hB => ?_)
        have h := h m_4 e_m_4
        refine z_aload_n (nx := 89) (a := 0) G rfl (Or.inl rfl) dX1_takeLetters_88 rfl (z_dup (nx := 90) G (fun h => nomatch h) dX1_takeLetters_89 rfl (b_getI (nx := 93) (k0 := 3) (t := 0) G fl_RX1_67 (Nat.le_of_ble_eq_true rfl) (Nat.le_of_ble_eq_true rfl) rfl hp_v0 dX1_takeLetters_90 rfl (z_iconst (nx := 94) (z := 1) G (R32c rfl) dX1_takeLetters_93 rfl (z_iadd (nx := 95) G dX1_takeLetters_94 rfl ?_))))
        refine b_put (nx := 98) (k0 := 3) (t := 0) G hB fl_RX1_67 (Nat.le_of_ble_eq_true rfl) (Nat.le_of_ble_eq_true rfl) rfl (fun h => nomatch h) rfl hp_v0 dX1_takeLetters_95 rfl (fun m_5 e_m_5 hB => ?_)
        have h := h m_5 e_m_5
        exact b_fewer (loc2 := [(2, v0), (2, v1), (0, v2), (0, v3)]) (am_lk (am_lk (am_lk (am_lk am_ln)))) (S_X1_takeLetters_J1 X hp_v0 hp_v1 hC38 hB h)
theorem S_X1_takeLetters_L1 {F : am_F} {K : am_KK} {v0 : Int} {v1 : Int} {v2 : Int} {v3 : Int} {m : am_M} (X : am_Cx F cX1_takeLetters RX1 (some .boolean) 2 5 K) (hp_v0 : am_ob v0 1) (hp_v1 : am_ob v1 0) (hB : am_Bt m) (h : M_X1_takeLetters_L1 v0 v1 v2 v3 K m) : am_Z F 38 [] [(2, v0), (2, v1), (0, v2), (0, v3)] m 200 := by
  obtain ⟨I, ⟨j, hj⟩, hI⟩ := h
  have key : ∀ j v3 m, I j v3 m → am_Bt m → am_Z F 38 [] [(2, v0), (2, v1), (0, v2), (0, v3)] m 200 := by
    intro j
    induction j using Nat.strongRecOn with
    | ind j ih =>
      intro v3 m hj hB
      exact S_X1_takeLetters_L1B X hp_v0 hp_v1 (fun v3' m' hc hB' => by
        obtain ⟨j', g1, g2⟩ := hc
        exact ih j' g1 v3' m' g2 hB') hB (hI j v3 m hj)
  exact key j _ _ hj hB
set_option maxRecDepth 20000 in
set_option maxHeartbeats 4000000 in
theorem S_X1_takeLetters {F : am_F} {K : am_KK} {v0 : Int} {v1 : Int} {v2 : Int} {m : am_M} (X : am_Cx F cX1_takeLetters RX1 (some .boolean) 2 5 K) (hp_v0 : am_ob v0 1) (hp_v1 : am_ob v1 0) (hB : am_Bt m) (h : M_X1_takeLetters v0 v1 v2 K m) : am_Z F 0 [] [(2, v0), (2, v1), (0, v2), (9, 0)] m 200 := by
  have G := X.G
  unfold M_X1_takeLetters at h
  refine z_aload_n (nx := 1) (a := 0) G rfl (Or.inl rfl) dX1_takeLetters_0 rfl (z_iconst (nx := 2) (z := 0) G (R32c rfl) dX1_takeLetters_1 rfl ?_)
  refine b_put (nx := 5) (k0 := 3) (t := 0) G hB fl_RX1_67 (Nat.le_of_ble_eq_true rfl) (Nat.le_of_ble_eq_true rfl) rfl (fun h => nomatch h) rfl hp_v0 dX1_takeLetters_2 rfl (fun m_6 e_m_6 hB => ?_)
  have h := h m_6 e_m_6
  refine z_iload_n (nx := 6) (a := 2) G rfl dX1_takeLetters_5 rfl ?_
  refine z_if_lt (nx := 9) (tgt := 34) G dX1_takeLetters_6 (by decide) rfl (fun c => ?_) (fun c => ?_)
  · have h := h.1 c
    refine z_iconst (nx := 35) (z := 0) G (R32c rfl) dX1_takeLetters_34 rfl ?_
    exact b_zreturn X hB (Or.inl rfl) dX1_takeLetters_35 h
  · have h := h.2 c
    refine z_iload_n (nx := 10) (a := 2) G rfl dX1_takeLetters_9 rfl (z_iconst (nx := 11) (z := 1) G (R32c rfl) dX1_takeLetters_10 rfl (z_aload_n (nx := 12) (a := 1) G rfl (Or.inl rfl) dX1_takeLetters_11 rfl (b_getA (nx := 15) (k0 := 0) G hB fl_RX1_70 (Nat.le_of_ble_eq_true rfl) (Nat.le_of_ble_eq_true rfl) rfl hp_v1 dX1_takeLetters_12 rfl (b_getI (nx := 18) (k0 := 2) (t := 0) G fl_RX1_76 (Nat.le_of_ble_eq_true rfl) (Nat.le_of_ble_eq_true rfl) rfl (sh_0_0 _ hp_v1) dX1_takeLetters_15 rfl (z_ishl (nx := 19) G dX1_takeLetters_18 rfl ?_)))))
    refine z_icmp_ge (nx := 22) (tgt := 34) G dX1_takeLetters_19 (by decide) rfl (fun c => ?_) (fun c => ?_)
    · have h := h.1 c
      refine z_iconst (nx := 35) (z := 0) G (R32c rfl) dX1_takeLetters_34 rfl ?_
      exact b_zreturn X hB (Or.inl rfl) dX1_takeLetters_35 h
    · have h := h.2 c
      refine z_iload_n (nx := 23) (a := 2) G rfl dX1_takeLetters_22 rfl ?_
      refine b_callS0 (nx := 26) (zs := [v2]) (as := [(0, v2)]) X hB SS_J6_bitCount_0f7a4 (am_ti am_tn) (Nat.le_of_ble_eq_true rfl) (Nat.le_of_ble_eq_true rfl) ml_RX1_50 sw_J6_bitCount_0f7a4 (am_plJ) cw_J6_bitCount_0f7a4 nw_RJ6 pp_J6_bitCount_0f7a4 (Nat.le_of_ble_eq_true rfl) dX1_takeLetters_23 rfl (NM_J6_bitCount_0f7a4 h) (fun r_7 m_8 h hB => ?_)
      refine z_iconst (nx := 27) (z := 2) G (R32c rfl) dX1_takeLetters_26 rfl (z_iconst (nx := 28) (z := 3) G (R32c rfl) dX1_takeLetters_27 rfl ?_)
      refine b_callSN5 (nx := 31) (zs := [r_7, 2, 3]) (as := [(0, r_7), (0, 2), (0, 3)]) X hB SS_X11_within (am_ti (am_ti (am_ti am_tn))) (Nat.le_of_ble_eq_true rfl) (Nat.le_of_ble_eq_true rfl) mn_RX1_63 sw_X11_within (am_plainC 11 (by decide)) cw_X11_within nw_RX11 pp_X11_within (Nat.le_of_ble_eq_true rfl) dX1_takeLetters_28 rfl (NM_X11_within h) (fun r_9 m_10 h h01_11 hB => ?_)
      refine z_if_ne (nx := 34) (tgt := 36) G dX1_takeLetters_31 (by decide) rfl (fun c => ?_) (fun c => ?_)
      · have h := h.1 c
        refine z_iconst (nx := 37) (z := 0) G (R32c rfl) dX1_takeLetters_36 rfl (b_storeE_n (nx := 38) (a := 3) (loc2 := [(2, v0), (2, v1), (0, v2), (0, 0)]) G rfl (Nat.le_of_ble_eq_true rfl) (am_pl1 rfl (fun h => nomatch h)) dX1_takeLetters_37 rfl ?_)
        exact b_fewer (loc2 := [(2, v0), (2, v1), (0, v2), (0, 0)]) (am_lk (am_lk (am_lk (am_lk am_ln)))) (S_X1_takeLetters_L1 X hp_v0 hp_v1 hB h)
      · have h := h.2 c
        refine z_iconst (nx := 35) (z := 0) G (R32c rfl) dX1_takeLetters_34 rfl ?_
        exact b_zreturn X hB (Or.inl rfl) dX1_takeLetters_35 h
theorem NM_X1_takeLetters {v0 : Int} {v1 : Int} {v2 : Int} {K : am_KK} {m : am_M} (hp_v0 : am_ob v0 1) (hp_v1 : am_ob v1 0) (h : M_X1_takeLetters v0 v1 v2 K m) : N_X1_takeLetters [v0, v1, v2] K m := ⟨hp_v0, hp_v1, h⟩
theorem SS_X1_takeLetters : am_Snd yX1_takeLetters cX1_takeLetters 4 (some .boolean) 0 2 (am_L [2, 2, 0] 5 N_X1_takeLetters) := by
  refine am_SB (by decide +kernel) (Nat.le_of_ble_eq_true rfl) (fun F zs as K m X ht hB hM => ?_)
  obtain ⟨v0, zs, as, rfl, rfl, hz0, ht⟩ := am_inv ht
  obtain ⟨v1, zs, as, rfl, rfl, hz1, ht⟩ := am_inv ht
  obtain ⟨v2, zs, as, rfl, rfl, hz2, ht⟩ := am_inv ht
  obtain ⟨rfl, rfl⟩ := am_inv0 ht
  obtain ⟨hp_v0, hp_v1, hM⟩ := hM
  exact S_X1_takeLetters X hp_v0 hp_v1 hB hM
set_option maxRecDepth 20000 in
set_option maxHeartbeats 4000000 in
theorem S_X1_takeAsked_J1 {F : am_F} {K : am_KK} {v0 : Int} {v1 : Int} {v2 : Int} {C7 : Int → am_M → Prop} {m : am_M} (X : am_Cx F cX1_takeAsked RX1 (some .boolean) 1 5 K) (hp_v0 : am_ob v0 1) (hp_v1 : am_ob v1 0) (hC7 : ∀ w2 m, C7 w2 m → am_Bt m → am_Z F 7 [] [(2, v0), (2, v1), (0, w2)] m 200) (hB : am_Bt m) (h : M_X1_takeAsked_J1 v0 v1 v2 C7 K m) : am_Z F 53 [] [(2, v0), (2, v1), (0, v2)] m 200 := by
  have G := X.G
  unfold M_X1_takeAsked_J1 at h
  refine b_iinc (nx := 56) (a := 2) (loc2 := fun v2_1 => [(2, v0), (2, v1), (0, v2_1)]) G (fun _ => rfl) rfl (am_pl1 rfl (fun h => nomatch h)) dX1_takeAsked_53 rfl (fun v2_1 e_v2_1 => ?_)
  have h := h v2_1 e_v2_1
  refine z_goto (tgt := 7) G dX1_takeAsked_56 (by decide) ?_
  exact b_fewer (loc2 := [(2, v0), (2, v1), (0, v2_1)]) (am_lk (am_lk (am_lk am_ln))) (hC7 _ _ h hB)
set_option maxRecDepth 20000 in
set_option maxHeartbeats 4000000 in
theorem S_X1_takeAsked_L1B {F : am_F} {K : am_KK} {v0 : Int} {v1 : Int} {v2 : Int} {C7 : Int → am_M → Prop} {m : am_M} (X : am_Cx F cX1_takeAsked RX1 (some .boolean) 1 5 K) (hp_v0 : am_ob v0 1) (hp_v1 : am_ob v1 0) (hC7 : ∀ w2 m, C7 w2 m → am_Bt m → am_Z F 7 [] [(2, v0), (2, v1), (0, w2)] m 200) (hB : am_Bt m) (h : M_X1_takeAsked_L1B v0 v1 v2 C7 K m) : am_Z F 7 [] [(2, v0), (2, v1), (0, v2)] m 200 := by
  have G := X.G
  unfold M_X1_takeAsked_L1B at h
  refine z_iload_n (nx := 8) (a := 2) G rfl dX1_takeAsked_7 rfl (z_bipush (nx := 10) (z := 8) G (R32c rfl) rfl dX1_takeAsked_8 rfl ?_)
  refine z_icmp_ge (nx := 13) (tgt := 59) G dX1_takeAsked_10 (by decide) rfl (fun c => ?_) (fun c => ?_)
  · have h := h.1 c
    refine z_iconst (nx := 60) (z := 1) G (R32c rfl) dX1_takeAsked_59 rfl ?_
    exact b_zreturn X hB (Or.inr rfl) dX1_takeAsked_60 h
  · have h := h.2 c
    refine z_aload_n (nx := 14) (a := 1) G rfl (Or.inl rfl) dX1_takeAsked_13 rfl (b_getA (nx := 17) (k0 := 7) G hB fl_RX1_85 (Nat.le_of_ble_eq_true rfl) (Nat.le_of_ble_eq_true rfl) rfl hp_v1 dX1_takeAsked_14 rfl (z_iload_n (nx := 18) (a := 2) G rfl dX1_takeAsked_17 rfl ?_))
    obtain ⟨hb, h⟩ := h
    refine z_iald (nx := 19) G (sh_0_7 _ hp_v1) hb.1 hb.2 dX1_takeAsked_18 rfl ?_
    refine z_if_le (nx := 22) (tgt := 53) G dX1_takeAsked_19 (by decide) rfl (fun c => ?_) (fun c => ?_)
    · have h := h.1 c
      exact b_fewer (loc2 := [(2, v0), (2, v1), (0, v2)]) (am_lk (am_lk (am_lk am_ln))) (S_X1_takeAsked_J1 X hp_v0 hp_v1 hC7 hB h)
    · have h := h.2 c
      refine z_aload_n (nx := 23) (a := 0) G rfl (Or.inl rfl) dX1_takeAsked_22 rfl (b_getI (nx := 26) (k0 := 1) (t := 0) G fl_RX1_38 (Nat.le_of_ble_eq_true rfl) (Nat.le_of_ble_eq_true rfl) rfl hp_v0 dX1_takeAsked_23 rfl (z_bipush (nx := 28) (z := 6) G (R32c rfl) rfl dX1_takeAsked_26 rfl ?_))
      refine z_icmp_lt (nx := 31) (tgt := 33) G dX1_takeAsked_28 (by decide) rfl (fun c => ?_) (fun c => ?_)
      · have h := h.1 c
        refine z_aload_n (nx := 34) (a := 0) G rfl (Or.inl rfl) dX1_takeAsked_33 rfl (b_getA (nx := 37) (k0 := 0) G hB fl_RX1_11 (Nat.le_of_ble_eq_true rfl) (Nat.le_of_ble_eq_true rfl) rfl hp_v0 dX1_takeAsked_34 rfl (z_aload_n (nx := 38) (a := 0) G rfl (Or.inl rfl) dX1_takeAsked_37 rfl (b_getI (nx := 41) (k0 := 1) (t := 0) G fl_RX1_38 (Nat.le_of_ble_eq_true rfl) (Nat.le_of_ble_eq_true rfl) rfl hp_v0 dX1_takeAsked_38 rfl (z_iload_n (nx := 42) (a := 2) G rfl dX1_takeAsked_41 rfl ?_))))
        obtain ⟨hb, h⟩ := h
        refine b_iast (nx := 43) G hB (sh_1_0 _ hp_v0) hb.1 hb.2 dX1_takeAsked_42 rfl (fun m_2 e_m_2 hB => ?_)
        have h := h m_2 e_m_2
        refine z_aload_n (nx := 44) (a := 0) G rfl (Or.inl rfl) dX1_takeAsked_43 rfl (z_dup (nx := 45) G (fun h => nomatch h) dX1_takeAsked_44 rfl (b_getI (nx := 48) (k0 := 1) (t := 0) G fl_RX1_38 (Nat.le_of_ble_eq_true rfl) (Nat.le_of_ble_eq_true rfl) rfl hp_v0 dX1_takeAsked_45 rfl (z_iconst (nx := 49) (z := 1) G (R32c rfl) dX1_takeAsked_48 rfl (z_iadd (nx := 50) G dX1_takeAsked_49 rfl ?_))))
        refine b_put (nx := 53) (k0 := 1) (t := 0) G hB fl_RX1_38 (Nat.le_of_ble_eq_true rfl) (Nat.le_of_ble_eq_true rfl) rfl (fun h => nomatch h) rfl hp_v0 dX1_takeAsked_50 rfl (fun m_3 e_m_3 hB => ?_)
        have h := h m_3 e_m_3
        exact b_fewer (loc2 := [(2, v0), (2, v1), (0, v2)]) (am_lk (am_lk (am_lk am_ln))) (S_X1_takeAsked_J1 X hp_v0 hp_v1 hC7 hB h)
      · have h := h.2 c
        refine z_iconst (nx := 32) (z := 0) G (R32c rfl) dX1_takeAsked_31 rfl ?_
        exact b_zreturn X hB (Or.inl rfl) dX1_takeAsked_32 h
theorem S_X1_takeAsked_L1 {F : am_F} {K : am_KK} {v0 : Int} {v1 : Int} {v2 : Int} {m : am_M} (X : am_Cx F cX1_takeAsked RX1 (some .boolean) 1 5 K) (hp_v0 : am_ob v0 1) (hp_v1 : am_ob v1 0) (hB : am_Bt m) (h : M_X1_takeAsked_L1 v0 v1 v2 K m) : am_Z F 7 [] [(2, v0), (2, v1), (0, v2)] m 200 := by
  obtain ⟨I, ⟨j, hj⟩, hI⟩ := h
  have key : ∀ j v2 m, I j v2 m → am_Bt m → am_Z F 7 [] [(2, v0), (2, v1), (0, v2)] m 200 := by
    intro j
    induction j using Nat.strongRecOn with
    | ind j ih =>
      intro v2 m hj hB
      exact S_X1_takeAsked_L1B X hp_v0 hp_v1 (fun v2' m' hc hB' => by
        obtain ⟨j', g1, g2⟩ := hc
        exact ih j' g1 v2' m' g2 hB') hB (hI j v2 m hj)
  exact key j _ _ hj hB
set_option maxRecDepth 20000 in
set_option maxHeartbeats 4000000 in
theorem S_X1_takeAsked {F : am_F} {K : am_KK} {v0 : Int} {v1 : Int} {m : am_M} (X : am_Cx F cX1_takeAsked RX1 (some .boolean) 1 5 K) (hp_v0 : am_ob v0 1) (hp_v1 : am_ob v1 0) (hB : am_Bt m) (h : M_X1_takeAsked v0 v1 K m) : am_Z F 0 [] [(2, v0), (2, v1), (9, 0)] m 200 := by
  have G := X.G
  unfold M_X1_takeAsked at h
  refine z_aload_n (nx := 1) (a := 0) G rfl (Or.inl rfl) dX1_takeAsked_0 rfl (z_iconst (nx := 2) (z := 0) G (R32c rfl) dX1_takeAsked_1 rfl ?_)
  refine b_put (nx := 5) (k0 := 1) (t := 0) G hB fl_RX1_38 (Nat.le_of_ble_eq_true rfl) (Nat.le_of_ble_eq_true rfl) rfl (fun h => nomatch h) rfl hp_v0 dX1_takeAsked_2 rfl (fun m_4 e_m_4 hB => ?_)
  have h := h m_4 e_m_4
  refine z_iconst (nx := 6) (z := 0) G (R32c rfl) dX1_takeAsked_5 rfl (b_storeE_n (nx := 7) (a := 2) (loc2 := [(2, v0), (2, v1), (0, 0)]) G rfl (Nat.le_of_ble_eq_true rfl) (am_pl1 rfl (fun h => nomatch h)) dX1_takeAsked_6 rfl ?_)
  exact b_fewer (loc2 := [(2, v0), (2, v1), (0, 0)]) (am_lk (am_lk (am_lk am_ln))) (S_X1_takeAsked_L1 X hp_v0 hp_v1 hB h)
theorem NM_X1_takeAsked {v0 : Int} {v1 : Int} {K : am_KK} {m : am_M} (hp_v0 : am_ob v0 1) (hp_v1 : am_ob v1 0) (h : M_X1_takeAsked v0 v1 K m) : N_X1_takeAsked [v0, v1] K m := ⟨hp_v0, hp_v1, h⟩
theorem SS_X1_takeAsked : am_Snd yX1_takeAsked cX1_takeAsked 3 (some .boolean) 0 1 (am_L [2, 2] 5 N_X1_takeAsked) := by
  refine am_SB (by decide +kernel) (Nat.le_of_ble_eq_true rfl) (fun F zs as K m X ht hB hM => ?_)
  obtain ⟨v0, zs, as, rfl, rfl, hz0, ht⟩ := am_inv ht
  obtain ⟨v1, zs, as, rfl, rfl, hz1, ht⟩ := am_inv ht
  obtain ⟨rfl, rfl⟩ := am_inv0 ht
  obtain ⟨hp_v0, hp_v1, hM⟩ := hM
  exact S_X1_takeAsked X hp_v0 hp_v1 hB hM
set_option maxRecDepth 20000 in
set_option maxHeartbeats 4000000 in
theorem S_X1_weightOf_J1 {F : am_F} {K : am_KK} {v0 : Int} {v1 : Int} {v2 : Int} {v3 : Int} {v4 : Int} {C5 : Int → Int → am_M → Prop} {m : am_M} (X : am_Cx F cX1_weightOf RX1 (some .int) 3 0 K) (hp_v0 : am_ob v0 1) (hp_v1 : am_ob v1 0) (hC5 : ∀ w3 w4 m, C5 w3 w4 m → am_Bt m → am_Z F 5 [] [(2, v0), (2, v1), (0, v2), (0, w3), (0, w4)] m 200) (hB : am_Bt m) (h : M_X1_weightOf_J1 v0 v1 v2 v3 v4 C5 K m) : am_Z F 59 [] [(2, v0), (2, v1), (0, v2), (0, v3), (0, v4)] m 200 := by
  have G := X.G
  unfold M_X1_weightOf_J1 at h
  refine b_iinc (nx := 62) (a := 4) (loc2 := fun v4_1 => [(2, v0), (2, v1), (0, v2), (0, v3), (0, v4_1)]) G (fun _ => rfl) rfl (am_pl1 rfl (fun h => nomatch h)) dX1_weightOf_59 rfl (fun v4_1 e_v4_1 => ?_)
  have h := h v4_1 e_v4_1
  refine z_goto (tgt := 5) G dX1_weightOf_62 (by decide) ?_
  exact b_fewer (loc2 := [(2, v0), (2, v1), (0, v2), (0, v3), (0, v4_1)]) (am_lk (am_lk (am_lk (am_lk (am_lk am_ln))))) (hC5 _ _ _ h hB)
set_option maxRecDepth 20000 in
set_option maxHeartbeats 4000000 in
theorem S_X1_weightOf_L1B {F : am_F} {K : am_KK} {v0 : Int} {v1 : Int} {v2 : Int} {v3 : Int} {v4 : Int} {C5 : Int → Int → am_M → Prop} {m : am_M} (X : am_Cx F cX1_weightOf RX1 (some .int) 3 0 K) (hp_v0 : am_ob v0 1) (hp_v1 : am_ob v1 0) (hC5 : ∀ w3 w4 m, C5 w3 w4 m → am_Bt m → am_Z F 5 [] [(2, v0), (2, v1), (0, v2), (0, w3), (0, w4)] m 200) (hB : am_Bt m) (h : M_X1_weightOf_L1B v0 v1 v2 v3 v4 C5 K m) : am_Z F 5 [] [(2, v0), (2, v1), (0, v2), (0, v3), (0, v4)] m 200 := by
  have G := X.G
  unfold M_X1_weightOf_L1B at h
  refine z_iload (nx := 7) (a := 4) G rfl dX1_weightOf_5 rfl (z_aload_n (nx := 8) (a := 0) G rfl (Or.inl rfl) dX1_weightOf_7 rfl (b_getI (nx := 11) (k0 := 1) (t := 0) G fl_RX1_38 (Nat.le_of_ble_eq_true rfl) (Nat.le_of_ble_eq_true rfl) rfl hp_v0 dX1_weightOf_8 rfl ?_))
  refine z_icmp_ge (nx := 14) (tgt := 65) G dX1_weightOf_11 (by decide) rfl (fun c => ?_) (fun c => ?_)
  · have h := h.1 c
    refine z_iload_n (nx := 66) (a := 3) G rfl dX1_weightOf_65 rfl ?_
    exact b_ireturn X hB dX1_weightOf_66 h
  · have h := h.2 c
    refine z_iload (nx := 16) (a := 4) G rfl dX1_weightOf_14 rfl (z_bipush (nx := 18) (z := 6) G (R32c rfl) rfl dX1_weightOf_16 rfl ?_)
    refine z_icmp_ge (nx := 21) (tgt := 65) G dX1_weightOf_18 (by decide) rfl (fun c => ?_) (fun c => ?_)
    · have h := h.1 c
      refine z_iload_n (nx := 66) (a := 3) G rfl dX1_weightOf_65 rfl ?_
      exact b_ireturn X hB dX1_weightOf_66 h
    · have h := h.2 c
      refine z_iload_n (nx := 22) (a := 2) G rfl dX1_weightOf_21 rfl (z_iload (nx := 24) (a := 4) G rfl dX1_weightOf_22 rfl (z_ishr (nx := 25) G dX1_weightOf_24 rfl (z_iconst (nx := 26) (z := 1) G (R32c rfl) dX1_weightOf_25 rfl (z_iand (nx := 27) G dX1_weightOf_26 rfl (z_iconst (nx := 28) (z := 1) G (R32c rfl) dX1_weightOf_27 rfl ?_)))))
      refine z_icmp_ne (nx := 31) (tgt := 59) G dX1_weightOf_28 (by decide) rfl (fun c => ?_) (fun c => ?_)
      · have h := h.1 c
        exact b_fewer (loc2 := [(2, v0), (2, v1), (0, v2), (0, v3), (0, v4)]) (am_lk (am_lk (am_lk (am_lk (am_lk am_ln))))) (S_X1_weightOf_J1 X hp_v0 hp_v1 hC5 hB h)
      · have h := h.2 c
        refine z_aload_n (nx := 32) (a := 0) G rfl (Or.inl rfl) dX1_weightOf_31 rfl (b_getA (nx := 35) (k0 := 0) G hB fl_RX1_11 (Nat.le_of_ble_eq_true rfl) (Nat.le_of_ble_eq_true rfl) rfl hp_v0 dX1_weightOf_32 rfl (z_iload (nx := 37) (a := 4) G rfl dX1_weightOf_35 rfl ?_))
        obtain ⟨hb, h⟩ := h
        refine z_iald (nx := 38) G (sh_1_0 _ hp_v0) hb.1 hb.2 dX1_weightOf_37 rfl ?_
        refine b_callSN5 (nx := 41) (zs := [m (am_rfv v0 0) v4]) (as := [(0, m (am_rfv v0 0) v4)]) X hB SS_X11_isThing (am_ti am_tn) (Nat.le_of_ble_eq_true rfl) (Nat.le_of_ble_eq_true rfl) mn_RX1_88 sw_X11_isThing (am_plainC 11 (by decide)) cw_X11_isThing nw_RX11 pp_X11_isThing (Nat.le_of_ble_eq_true rfl) dX1_weightOf_38 rfl (NM_X11_isThing h) (fun r_2 m_3 h h01_4 hB => ?_)
        refine z_if_eq (nx := 44) (tgt := 59) G dX1_weightOf_41 (by decide) rfl (fun c => ?_) (fun c => ?_)
        · have h := h.1 c
          exact b_fewer (loc2 := [(2, v0), (2, v1), (0, v2), (0, v3), (0, v4)]) (am_lk (am_lk (am_lk (am_lk (am_lk am_ln))))) (S_X1_weightOf_J1 X hp_v0 hp_v1 hC5 hB h)
        · have h := h.2 c
          refine z_iload_n (nx := 45) (a := 3) G rfl dX1_weightOf_44 rfl (z_aload_n (nx := 46) (a := 1) G rfl (Or.inl rfl) dX1_weightOf_45 rfl (b_getA (nx := 49) (k0 := 7) G hB fl_RX1_85 (Nat.le_of_ble_eq_true rfl) (Nat.le_of_ble_eq_true rfl) rfl hp_v1 dX1_weightOf_46 rfl (z_aload_n (nx := 50) (a := 0) G rfl (Or.inl rfl) dX1_weightOf_49 rfl (b_getA (nx := 53) (k0 := 0) G hB fl_RX1_11 (Nat.le_of_ble_eq_true rfl) (Nat.le_of_ble_eq_true rfl) rfl hp_v0 dX1_weightOf_50 rfl (z_iload (nx := 55) (a := 4) G rfl dX1_weightOf_53 rfl ?_)))))
          obtain ⟨hb, h⟩ := h
          refine z_iald (nx := 56) G (sh_1_0 _ hp_v0) hb.1 hb.2 dX1_weightOf_55 rfl ?_
          obtain ⟨hb, h⟩ := h
          refine z_iald (nx := 57) G (sh_0_7 _ hp_v1) hb.1 hb.2 dX1_weightOf_56 rfl ?_
          refine z_iadd (nx := 58) G dX1_weightOf_57 rfl ?_
          refine b_store_n (nx := 59) (a := 3) (loc2 := fun v3_5 => [(2, v0), (2, v1), (0, v2), (0, v3_5), (0, v4)]) G (fun _ => rfl) (Nat.le_of_ble_eq_true rfl) (am_pl1 rfl (fun h => nomatch h)) dX1_weightOf_58 rfl (fun v3_5 e_v3_5 => ?_)
          have h := h v3_5 e_v3_5
          exact b_fewer (loc2 := [(2, v0), (2, v1), (0, v2), (0, v3_5), (0, v4)]) (am_lk (am_lk (am_lk (am_lk (am_lk am_ln))))) (S_X1_weightOf_J1 X hp_v0 hp_v1 hC5 hB h)
theorem S_X1_weightOf_L1 {F : am_F} {K : am_KK} {v0 : Int} {v1 : Int} {v2 : Int} {v3 : Int} {v4 : Int} {m : am_M} (X : am_Cx F cX1_weightOf RX1 (some .int) 3 0 K) (hp_v0 : am_ob v0 1) (hp_v1 : am_ob v1 0) (hB : am_Bt m) (h : M_X1_weightOf_L1 v0 v1 v2 v3 v4 K m) : am_Z F 5 [] [(2, v0), (2, v1), (0, v2), (0, v3), (0, v4)] m 200 := by
  obtain ⟨I, ⟨j, hj⟩, hI⟩ := h
  have key : ∀ j v3 v4 m, I j v3 v4 m → am_Bt m → am_Z F 5 [] [(2, v0), (2, v1), (0, v2), (0, v3), (0, v4)] m 200 := by
    intro j
    induction j using Nat.strongRecOn with
    | ind j ih =>
      intro v3 v4 m hj hB
      exact S_X1_weightOf_L1B X hp_v0 hp_v1 (fun v3' v4' m' hc hB' => by
        obtain ⟨j', g1, g2⟩ := hc
        exact ih j' g1 v3' v4' m' g2 hB') hB (hI j v3 v4 m hj)
  exact key j _ _ _ hj hB
set_option maxRecDepth 20000 in
set_option maxHeartbeats 4000000 in
theorem S_X1_weightOf {F : am_F} {K : am_KK} {v0 : Int} {v1 : Int} {v2 : Int} {m : am_M} (X : am_Cx F cX1_weightOf RX1 (some .int) 3 0 K) (hp_v0 : am_ob v0 1) (hp_v1 : am_ob v1 0) (hB : am_Bt m) (h : M_X1_weightOf v0 v1 v2 K m) : am_Z F 0 [] [(2, v0), (2, v1), (0, v2), (9, 0), (9, 0)] m 200 := by
  have G := X.G
  unfold M_X1_weightOf at h
  refine z_iconst (nx := 1) (z := 0) G (R32c rfl) dX1_weightOf_0 rfl (b_storeE_n (nx := 2) (a := 3) (loc2 := [(2, v0), (2, v1), (0, v2), (0, 0), (9, 0)]) G rfl (Nat.le_of_ble_eq_true rfl) (am_pl1 rfl (fun h => nomatch h)) dX1_weightOf_1 rfl (z_iconst (nx := 3) (z := 0) G (R32c rfl) dX1_weightOf_2 rfl (b_storeE (nx := 5) (a := 4) (loc2 := [(2, v0), (2, v1), (0, v2), (0, 0), (0, 0)]) G rfl (Nat.le_of_ble_eq_true rfl) (am_pl1 rfl (fun h => nomatch h)) dX1_weightOf_3 rfl ?_)))
  exact b_fewer (loc2 := [(2, v0), (2, v1), (0, v2), (0, 0), (0, 0)]) (am_lk (am_lk (am_lk (am_lk (am_lk am_ln))))) (S_X1_weightOf_L1 X hp_v0 hp_v1 hB h)
theorem NM_X1_weightOf {v0 : Int} {v1 : Int} {v2 : Int} {K : am_KK} {m : am_M} (hp_v0 : am_ob v0 1) (hp_v1 : am_ob v1 0) (h : M_X1_weightOf v0 v1 v2 K m) : N_X1_weightOf [v0, v1, v2] K m := ⟨hp_v0, hp_v1, h⟩
theorem SS_X1_weightOf : am_Snd yX1_weightOf cX1_weightOf 5 (some .int) 0 3 (am_L [2, 2, 0] 0 N_X1_weightOf) := by
  refine am_SB (by decide +kernel) (Nat.le_of_ble_eq_true rfl) (fun F zs as K m X ht hB hM => ?_)
  obtain ⟨v0, zs, as, rfl, rfl, hz0, ht⟩ := am_inv ht
  obtain ⟨v1, zs, as, rfl, rfl, hz1, ht⟩ := am_inv ht
  obtain ⟨v2, zs, as, rfl, rfl, hz2, ht⟩ := am_inv ht
  obtain ⟨rfl, rfl⟩ := am_inv0 ht
  obtain ⟨hp_v0, hp_v1, hM⟩ := hM
  exact S_X1_weightOf X hp_v0 hp_v1 hB hM
set_option maxRecDepth 20000 in
set_option maxHeartbeats 4000000 in
theorem S_X1_clearLengths_L1B {F : am_F} {K : am_KK} {v0 : Int} {v1 : Int} {v2 : Int} {C2 : Int → am_M → Prop} {m : am_M} (X : am_Cx F cX1_clearLengths RX1 none 1 9 K) (hp_v0 : am_ob v0 1) (hC2 : ∀ w2 m, C2 w2 m → am_Bt m → am_Z F 2 [] [(2, v0), (0, v1), (0, w2)] m 200) (hB : am_Bt m) (h : M_X1_clearLengths_L1B v0 v1 v2 C2 K m) : am_Z F 2 [] [(2, v0), (0, v1), (0, v2)] m 200 := by
  have G := X.G
  unfold M_X1_clearLengths_L1B at h
  refine z_iload_n (nx := 3) (a := 2) G rfl dX1_clearLengths_2 rfl (z_bipush (nx := 5) (z := 6) G (R32c rfl) rfl dX1_clearLengths_3 rfl ?_)
  refine z_icmp_ge (nx := 8) (tgt := 26) G dX1_clearLengths_5 (by decide) rfl (fun c => ?_) (fun c => ?_)
  · have h := h.1 c
    exact b_return X hB dX1_clearLengths_26 h
  · have h := h.2 c
    refine z_aload_n (nx := 9) (a := 0) G rfl (Or.inl rfl) dX1_clearLengths_8 rfl (b_getA (nx := 12) (k0 := 6) G hB fl_RX1_24 (Nat.le_of_ble_eq_true rfl) (Nat.le_of_ble_eq_true rfl) rfl hp_v0 dX1_clearLengths_9 rfl (z_iload_n (nx := 13) (a := 1) G rfl dX1_clearLengths_12 rfl (z_bipush (nx := 15) (z := 6) G (R32c rfl) rfl dX1_clearLengths_13 rfl (z_imul (nx := 16) G dX1_clearLengths_15 rfl (z_iload_n (nx := 17) (a := 2) G rfl dX1_clearLengths_16 rfl (z_iadd (nx := 18) G dX1_clearLengths_17 rfl (z_iconst (nx := 19) (z := 0) G (R32c rfl) dX1_clearLengths_18 rfl ?_)))))))
    obtain ⟨hb, h⟩ := h
    refine b_iast (nx := 20) G hB (sh_1_6 _ hp_v0) hb.1 hb.2 dX1_clearLengths_19 rfl (fun m_1 e_m_1 hB => ?_)
    have h := h m_1 e_m_1
    refine b_iinc (nx := 23) (a := 2) (loc2 := fun v2_2 => [(2, v0), (0, v1), (0, v2_2)]) G (fun _ => rfl) rfl (am_pl1 rfl (fun h => nomatch h)) dX1_clearLengths_20 rfl (fun v2_2 e_v2_2 => ?_)
    have h := h v2_2 e_v2_2
    refine z_goto (tgt := 2) G dX1_clearLengths_23 (by decide) ?_
    exact b_fewer (loc2 := [(2, v0), (0, v1), (0, v2_2)]) (am_lk (am_lk (am_lk am_ln))) (hC2 _ _ h hB)
theorem S_X1_clearLengths_L1 {F : am_F} {K : am_KK} {v0 : Int} {v1 : Int} {v2 : Int} {m : am_M} (X : am_Cx F cX1_clearLengths RX1 none 1 9 K) (hp_v0 : am_ob v0 1) (hB : am_Bt m) (h : M_X1_clearLengths_L1 v0 v1 v2 K m) : am_Z F 2 [] [(2, v0), (0, v1), (0, v2)] m 200 := by
  obtain ⟨I, ⟨j, hj⟩, hI⟩ := h
  have key : ∀ j v2 m, I j v2 m → am_Bt m → am_Z F 2 [] [(2, v0), (0, v1), (0, v2)] m 200 := by
    intro j
    induction j using Nat.strongRecOn with
    | ind j ih =>
      intro v2 m hj hB
      exact S_X1_clearLengths_L1B X hp_v0 (fun v2' m' hc hB' => by
        obtain ⟨j', g1, g2⟩ := hc
        exact ih j' g1 v2' m' g2 hB') hB (hI j v2 m hj)
  exact key j _ _ hj hB
set_option maxRecDepth 20000 in
set_option maxHeartbeats 4000000 in
theorem S_X1_clearLengths {F : am_F} {K : am_KK} {v0 : Int} {v1 : Int} {m : am_M} (X : am_Cx F cX1_clearLengths RX1 none 1 9 K) (hp_v0 : am_ob v0 1) (hB : am_Bt m) (h : M_X1_clearLengths v0 v1 K m) : am_Z F 0 [] [(2, v0), (0, v1), (9, 0)] m 200 := by
  have G := X.G
  unfold M_X1_clearLengths at h
  refine z_iconst (nx := 1) (z := 0) G (R32c rfl) dX1_clearLengths_0 rfl (b_storeE_n (nx := 2) (a := 2) (loc2 := [(2, v0), (0, v1), (0, 0)]) G rfl (Nat.le_of_ble_eq_true rfl) (am_pl1 rfl (fun h => nomatch h)) dX1_clearLengths_1 rfl ?_)
  exact b_fewer (loc2 := [(2, v0), (0, v1), (0, 0)]) (am_lk (am_lk (am_lk am_ln))) (S_X1_clearLengths_L1 X hp_v0 hB h)
theorem NM_X1_clearLengths {v0 : Int} {v1 : Int} {K : am_KK} {m : am_M} (hp_v0 : am_ob v0 1) (h : M_X1_clearLengths v0 v1 K m) : N_X1_clearLengths [v0, v1] K m := ⟨hp_v0, h⟩
theorem SS_X1_clearLengths : am_Snd yX1_clearLengths cX1_clearLengths 3 none 0 1 (am_L [2, 0] 9 N_X1_clearLengths) := by
  refine am_SB (by decide +kernel) (Nat.le_of_ble_eq_true rfl) (fun F zs as K m X ht hB hM => ?_)
  obtain ⟨v0, zs, as, rfl, rfl, hz0, ht⟩ := am_inv ht
  obtain ⟨v1, zs, as, rfl, rfl, hz1, ht⟩ := am_inv ht
  obtain ⟨rfl, rfl⟩ := am_inv0 ht
  obtain ⟨hp_v0, hM⟩ := hM
  exact S_X1_clearLengths X hp_v0 hB hM
set_option maxRecDepth 20000 in
set_option maxHeartbeats 4000000 in
theorem S_X1_isPartOf {F : am_F} {K : am_KK} {v0 : Int} {v1 : Int} {m : am_M} (X : am_Cx F cX1_isPartOf RX1 (some .boolean) 1 5 K) (hB : am_Bt m) (h : M_X1_isPartOf v0 v1 K m) : am_Z F 0 [] [(0, v0), (0, v1)] m 200 := by
  have G := X.G
  unfold M_X1_isPartOf at h
  refine z_iload_n (nx := 1) (a := 0) G rfl dX1_isPartOf_0 rfl (z_iload_n (nx := 2) (a := 1) G rfl dX1_isPartOf_1 rfl (z_iconst (nx := 3) (z := (-1)) G (R32c rfl) dX1_isPartOf_2 rfl (z_ixor (nx := 4) G dX1_isPartOf_3 rfl (z_iand (nx := 5) G dX1_isPartOf_4 rfl ?_))))
  refine z_if_ne (nx := 8) (tgt := 12) G dX1_isPartOf_5 (by decide) rfl (fun c => ?_) (fun c => ?_)
  · have h := h.1 c
    refine z_iconst (nx := 13) (z := 0) G (R32c rfl) dX1_isPartOf_12 rfl ?_
    exact b_zreturn X hB (Or.inl rfl) dX1_isPartOf_13 h
  · have h := h.2 c
    refine z_iconst (nx := 9) (z := 1) G (R32c rfl) dX1_isPartOf_8 rfl (z_goto (tgt := 13) G dX1_isPartOf_9 (by decide) ?_)
    exact b_zreturn X hB (Or.inr rfl) dX1_isPartOf_13 h
theorem NM_X1_isPartOf {v0 : Int} {v1 : Int} {K : am_KK} {m : am_M} (h : M_X1_isPartOf v0 v1 K m) : N_X1_isPartOf [v0, v1] K m := h
theorem SS_X1_isPartOf : am_Snd yX1_isPartOf cX1_isPartOf 2 (some .boolean) 0 1 (am_L [0, 0] 5 N_X1_isPartOf) := by
  refine am_SB (by decide +kernel) (Nat.le_of_ble_eq_true rfl) (fun F zs as K m X ht hB hM => ?_)
  obtain ⟨v0, zs, as, rfl, rfl, hz0, ht⟩ := am_inv ht
  obtain ⟨v1, zs, as, rfl, rfl, hz1, ht⟩ := am_inv ht
  obtain ⟨rfl, rfl⟩ := am_inv0 ht
  exact S_X1_isPartOf X hB hM
set_option maxRecDepth 20000 in
set_option maxHeartbeats 4000000 in
theorem S_X1_isSet {F : am_F} {K : am_KK} {v0 : Int} {m : am_M} (X : am_Cx F cX1_isSet RX1 (some .boolean) 2 5 K) (hB : am_Bt m) (h : M_X1_isSet v0 K m) : am_Z F 0 [] [(0, v0)] m 200 := by
  have G := X.G
  unfold M_X1_isSet at h
  refine z_iload_n (nx := 1) (a := 0) G rfl dX1_isSet_0 rfl (z_iconst (nx := 2) (z := 0) G (R32c rfl) dX1_isSet_1 rfl (z_bipush (nx := 4) (z := 63) G (R32c rfl) rfl dX1_isSet_2 rfl ?_))
  refine b_callSN5 (nx := 7) (zs := [v0, 0, 63]) (as := [(0, v0), (0, 0), (0, 63)]) X hB SS_X11_within (am_ti (am_ti (am_ti am_tn))) (Nat.le_of_ble_eq_true rfl) (Nat.le_of_ble_eq_true rfl) mn_RX1_63 sw_X11_within (am_plainC 11 (by decide)) cw_X11_within nw_RX11 pp_X11_within (Nat.le_of_ble_eq_true rfl) dX1_isSet_4 rfl (NM_X11_within h) (fun r_1 m_2 h h01_3 hB => ?_)
  exact b_zreturn X hB h01_3 dX1_isSet_7 h
theorem NM_X1_isSet {v0 : Int} {K : am_KK} {m : am_M} (h : M_X1_isSet v0 K m) : N_X1_isSet [v0] K m := h
theorem SS_X1_isSet : am_Snd yX1_isSet cX1_isSet 1 (some .boolean) 0 2 (am_L [0] 5 N_X1_isSet) := by
  refine am_SB (by decide +kernel) (Nat.le_of_ble_eq_true rfl) (fun F zs as K m X ht hB hM => ?_)
  obtain ⟨v0, zs, as, rfl, rfl, hz0, ht⟩ := am_inv ht
  obtain ⟨rfl, rfl⟩ := am_inv0 ht
  exact S_X1_isSet X hB hM
set_option maxRecDepth 20000 in
set_option maxHeartbeats 4000000 in
theorem S_X1_isTrialAhead_L1B {F : am_F} {K : am_KK} {v0 : Int} {v1 : Int} {v2 : Int} {C2 : Int → am_M → Prop} {m : am_M} (X : am_Cx F cX1_isTrialAhead RX1 (some .boolean) 1 5 K) (hp_v0 : am_ob v0 1) (hC2 : ∀ w2 m, C2 w2 m → am_Bt m → am_Z F 2 [] [(2, v0), (0, v1), (0, w2)] m 200) (hB : am_Bt m) (h : M_X1_isTrialAhead_L1B v0 v1 v2 C2 K m) : am_Z F 2 [] [(2, v0), (0, v1), (0, v2)] m 200 := by
  have G := X.G
  unfold M_X1_isTrialAhead_L1B at h
  refine z_iload_n (nx := 3) (a := 2) G rfl dX1_isTrialAhead_2 rfl (z_bipush (nx := 5) (z := 6) G (R32c rfl) rfl dX1_isTrialAhead_3 rfl ?_)
  refine z_icmp_ge (nx := 8) (tgt := 60) G dX1_isTrialAhead_5 (by decide) rfl (fun c => ?_) (fun c => ?_)
  · have h := h.1 c
    refine z_iconst (nx := 61) (z := 0) G (R32c rfl) dX1_isTrialAhead_60 rfl ?_
    exact b_zreturn X hB (Or.inl rfl) dX1_isTrialAhead_61 h
  · have h := h.2 c
    refine z_aload_n (nx := 9) (a := 0) G rfl (Or.inl rfl) dX1_isTrialAhead_8 rfl (b_getA (nx := 12) (k0 := 7) G hB fl_RX1_27 (Nat.le_of_ble_eq_true rfl) (Nat.le_of_ble_eq_true rfl) rfl hp_v0 dX1_isTrialAhead_9 rfl (z_iload_n (nx := 13) (a := 2) G rfl dX1_isTrialAhead_12 rfl ?_))
    obtain ⟨hb, h⟩ := h
    refine z_iald (nx := 14) G (sh_1_7 _ hp_v0) hb.1 hb.2 dX1_isTrialAhead_13 rfl ?_
    refine z_aload_n (nx := 15) (a := 0) G rfl (Or.inl rfl) dX1_isTrialAhead_14 rfl (b_getA (nx := 18) (k0 := 6) G hB fl_RX1_24 (Nat.le_of_ble_eq_true rfl) (Nat.le_of_ble_eq_true rfl) rfl hp_v0 dX1_isTrialAhead_15 rfl (z_iload_n (nx := 19) (a := 1) G rfl dX1_isTrialAhead_18 rfl (z_bipush (nx := 21) (z := 6) G (R32c rfl) rfl dX1_isTrialAhead_19 rfl (z_imul (nx := 22) G dX1_isTrialAhead_21 rfl (z_iload_n (nx := 23) (a := 2) G rfl dX1_isTrialAhead_22 rfl (z_iadd (nx := 24) G dX1_isTrialAhead_23 rfl ?_))))))
    obtain ⟨hb, h⟩ := h
    refine z_iald (nx := 25) G (sh_1_6 _ hp_v0) hb.1 hb.2 dX1_isTrialAhead_24 rfl ?_
    refine z_icmp_eq (nx := 28) (tgt := 54) G dX1_isTrialAhead_25 (by decide) rfl (fun c => ?_) (fun c => ?_)
    · have h := h.1 c
      refine b_iinc (nx := 57) (a := 2) (loc2 := fun v2_1 => [(2, v0), (0, v1), (0, v2_1)]) G (fun _ => rfl) rfl (am_pl1 rfl (fun h => nomatch h)) dX1_isTrialAhead_54 rfl (fun v2_1 e_v2_1 => ?_)
      have h := h v2_1 e_v2_1
      refine z_goto (tgt := 2) G dX1_isTrialAhead_57 (by decide) ?_
      exact b_fewer (loc2 := [(2, v0), (0, v1), (0, v2_1)]) (am_lk (am_lk (am_lk am_ln))) (hC2 _ _ h hB)
    · have h := h.2 c
      refine z_aload_n (nx := 29) (a := 0) G rfl (Or.inl rfl) dX1_isTrialAhead_28 rfl (b_getA (nx := 32) (k0 := 7) G hB fl_RX1_27 (Nat.le_of_ble_eq_true rfl) (Nat.le_of_ble_eq_true rfl) rfl hp_v0 dX1_isTrialAhead_29 rfl (z_iload_n (nx := 33) (a := 2) G rfl dX1_isTrialAhead_32 rfl ?_))
      obtain ⟨hb, h⟩ := h
      refine z_iald (nx := 34) G (sh_1_7 _ hp_v0) hb.1 hb.2 dX1_isTrialAhead_33 rfl ?_
      refine z_aload_n (nx := 35) (a := 0) G rfl (Or.inl rfl) dX1_isTrialAhead_34 rfl (b_getA (nx := 38) (k0 := 6) G hB fl_RX1_24 (Nat.le_of_ble_eq_true rfl) (Nat.le_of_ble_eq_true rfl) rfl hp_v0 dX1_isTrialAhead_35 rfl (z_iload_n (nx := 39) (a := 1) G rfl dX1_isTrialAhead_38 rfl (z_bipush (nx := 41) (z := 6) G (R32c rfl) rfl dX1_isTrialAhead_39 rfl (z_imul (nx := 42) G dX1_isTrialAhead_41 rfl (z_iload_n (nx := 43) (a := 2) G rfl dX1_isTrialAhead_42 rfl (z_iadd (nx := 44) G dX1_isTrialAhead_43 rfl ?_))))))
      obtain ⟨hb, h⟩ := h
      refine z_iald (nx := 45) G (sh_1_6 _ hp_v0) hb.1 hb.2 dX1_isTrialAhead_44 rfl ?_
      refine z_icmp_ge (nx := 48) (tgt := 52) G dX1_isTrialAhead_45 (by decide) rfl (fun c => ?_) (fun c => ?_)
      · have h := h.1 c
        refine z_iconst (nx := 53) (z := 0) G (R32c rfl) dX1_isTrialAhead_52 rfl ?_
        exact b_zreturn X hB (Or.inl rfl) dX1_isTrialAhead_53 h
      · have h := h.2 c
        refine z_iconst (nx := 49) (z := 1) G (R32c rfl) dX1_isTrialAhead_48 rfl (z_goto (tgt := 53) G dX1_isTrialAhead_49 (by decide) ?_)
        exact b_zreturn X hB (Or.inr rfl) dX1_isTrialAhead_53 h
theorem S_X1_isTrialAhead_L1 {F : am_F} {K : am_KK} {v0 : Int} {v1 : Int} {v2 : Int} {m : am_M} (X : am_Cx F cX1_isTrialAhead RX1 (some .boolean) 1 5 K) (hp_v0 : am_ob v0 1) (hB : am_Bt m) (h : M_X1_isTrialAhead_L1 v0 v1 v2 K m) : am_Z F 2 [] [(2, v0), (0, v1), (0, v2)] m 200 := by
  obtain ⟨I, ⟨j, hj⟩, hI⟩ := h
  have key : ∀ j v2 m, I j v2 m → am_Bt m → am_Z F 2 [] [(2, v0), (0, v1), (0, v2)] m 200 := by
    intro j
    induction j using Nat.strongRecOn with
    | ind j ih =>
      intro v2 m hj hB
      exact S_X1_isTrialAhead_L1B X hp_v0 (fun v2' m' hc hB' => by
        obtain ⟨j', g1, g2⟩ := hc
        exact ih j' g1 v2' m' g2 hB') hB (hI j v2 m hj)
  exact key j _ _ hj hB
set_option maxRecDepth 20000 in
set_option maxHeartbeats 4000000 in
theorem S_X1_isTrialAhead {F : am_F} {K : am_KK} {v0 : Int} {v1 : Int} {m : am_M} (X : am_Cx F cX1_isTrialAhead RX1 (some .boolean) 1 5 K) (hp_v0 : am_ob v0 1) (hB : am_Bt m) (h : M_X1_isTrialAhead v0 v1 K m) : am_Z F 0 [] [(2, v0), (0, v1), (9, 0)] m 200 := by
  have G := X.G
  unfold M_X1_isTrialAhead at h
  refine z_iconst (nx := 1) (z := 0) G (R32c rfl) dX1_isTrialAhead_0 rfl (b_storeE_n (nx := 2) (a := 2) (loc2 := [(2, v0), (0, v1), (0, 0)]) G rfl (Nat.le_of_ble_eq_true rfl) (am_pl1 rfl (fun h => nomatch h)) dX1_isTrialAhead_1 rfl ?_)
  exact b_fewer (loc2 := [(2, v0), (0, v1), (0, 0)]) (am_lk (am_lk (am_lk am_ln))) (S_X1_isTrialAhead_L1 X hp_v0 hB h)
theorem NM_X1_isTrialAhead {v0 : Int} {v1 : Int} {K : am_KK} {m : am_M} (hp_v0 : am_ob v0 1) (h : M_X1_isTrialAhead v0 v1 K m) : N_X1_isTrialAhead [v0, v1] K m := ⟨hp_v0, h⟩
theorem SS_X1_isTrialAhead : am_Snd yX1_isTrialAhead cX1_isTrialAhead 3 (some .boolean) 0 1 (am_L [2, 0] 5 N_X1_isTrialAhead) := by
  refine am_SB (by decide +kernel) (Nat.le_of_ble_eq_true rfl) (fun F zs as K m X ht hB hM => ?_)
  obtain ⟨v0, zs, as, rfl, rfl, hz0, ht⟩ := am_inv ht
  obtain ⟨v1, zs, as, rfl, rfl, hz1, ht⟩ := am_inv ht
  obtain ⟨rfl, rfl⟩ := am_inv0 ht
  obtain ⟨hp_v0, hM⟩ := hM
  exact S_X1_isTrialAhead X hp_v0 hB hM
set_option maxRecDepth 20000 in
set_option maxHeartbeats 4000000 in
theorem S_X1_tryShares_J7 {F : am_F} {K : am_KK} {v0 : Int} {v1 : Int} {v5 : Int} {m : am_M} (X : am_Cx F cX1_tryShares RX1 none 3 9 K) (hp_v0 : am_ob v0 1) (hB : am_Bt m) (h : M_X1_tryShares_J7 v0 v1 v5 K m) : am_Z F 280 [] [(2, v0), (0, v1), (9, 0), (9, 0), (9, 0), (0, v5), (9, 0), (9, 0), (9, 0), (9, 0)] m 200 := by
  have G := X.G
  unfold M_X1_tryShares_J7 at h
  refine z_aload_n (nx := 281) (a := 0) G rfl (Or.inl rfl) dX1_tryShares_280 rfl (b_getA (nx := 284) (k0 := 5) G hB fl_RX1_21 (Nat.le_of_ble_eq_true rfl) (Nat.le_of_ble_eq_true rfl) rfl hp_v0 dX1_tryShares_281 rfl (z_iload_n (nx := 285) (a := 1) G rfl dX1_tryShares_284 rfl (z_iload (nx := 287) (a := 5) G rfl dX1_tryShares_285 rfl ?_)))
  obtain ⟨hb, h⟩ := h
  refine b_iast (nx := 288) G hB (sh_1_5 _ hp_v0) hb.1 hb.2 dX1_tryShares_287 rfl (fun m_1 e_m_1 hB => ?_)
  have h := h m_1 e_m_1
  refine z_aload_n (nx := 289) (a := 0) G rfl (Or.inl rfl) dX1_tryShares_288 rfl (b_getA (nx := 292) (k0 := 7) G hB fl_RX1_27 (Nat.le_of_ble_eq_true rfl) (Nat.le_of_ble_eq_true rfl) rfl hp_v0 dX1_tryShares_289 rfl (z_iconst (nx := 293) (z := 0) G (R32c rfl) dX1_tryShares_292 rfl (z_aload_n (nx := 294) (a := 0) G rfl (Or.inl rfl) dX1_tryShares_293 rfl (b_getA (nx := 297) (k0 := 6) G hB fl_RX1_24 (Nat.le_of_ble_eq_true rfl) (Nat.le_of_ble_eq_true rfl) rfl hp_v0 dX1_tryShares_294 rfl (z_iload_n (nx := 298) (a := 1) G rfl dX1_tryShares_297 rfl (z_bipush (nx := 300) (z := 6) G (R32c rfl) rfl dX1_tryShares_298 rfl (z_imul (nx := 301) G dX1_tryShares_300 rfl (z_bipush (nx := 303) (z := 6) G (R32c rfl) rfl dX1_tryShares_301 rfl ?_))))))))
  obtain ⟨hb, h⟩ := h
  refine b_copy (nx := 306) G hB ml_RX1_111 (sh_1_7 _ hp_v0) (sh_1_6 _ hp_v0) hb (Nat.le_of_ble_eq_true rfl) dX1_tryShares_303 rfl (fun m_2 e_m_2 hB => ?_)
  have h := h m_2 e_m_2
  exact b_return X hB dX1_tryShares_306 h
set_option maxRecDepth 20000 in
set_option maxHeartbeats 4000000 in
theorem S_X1_tryShares_J6 {F : am_F} {K : am_KK} {v0 : Int} {v1 : Int} {v2 : Int} {v3 : Int} {v4 : Int} {v5 : Int} {v6 : Int} {s0 : Int} {s1 : Int} {s2 : Int} {C130 : Int → am_M → Prop} {m : am_M} (X : am_Cx F cX1_tryShares RX1 none 3 9 K) (hp_v0 : am_ob v0 1) (hp_s0 : am_ar s0 20) (hC130 : ∀ w6 m, C130 w6 m → am_Bt m → am_Z F 130 [] [(2, v0), (0, v1), (0, v2), (0, v3), (0, v4), (0, v5), (0, w6), (9, 0), (9, 0), (9, 0)] m 200) (hB : am_Bt m) (h : M_X1_tryShares_J6 v0 v1 v2 v3 v4 v5 v6 s0 s1 s2 C130 K m) : am_Z F 244 [(0, s2), (0, s1), (2, s0)] [(2, v0), (0, v1), (0, v2), (0, v3), (0, v4), (0, v5), (0, v6), (9, 0), (9, 0), (9, 0)] m 200 := by
  have G := X.G
  unfold M_X1_tryShares_J6 at h
  obtain ⟨hb, h⟩ := h
  refine b_iast (nx := 245) G hB hp_s0 hb.1 hb.2 dX1_tryShares_244 rfl (fun m_3 e_m_3 hB => ?_)
  have h := h m_3 e_m_3
  refine b_iinc (nx := 248) (a := 6) (loc2 := fun v6_4 => [(2, v0), (0, v1), (0, v2), (0, v3), (0, v4), (0, v5), (0, v6_4), (9, 0), (9, 0), (9, 0)]) G (fun _ => rfl) rfl (am_pl1 rfl (fun h => nomatch h)) dX1_tryShares_245 rfl (fun v6_4 e_v6_4 => ?_)
  have h := h v6_4 e_v6_4
  refine z_goto (tgt := 130) G dX1_tryShares_248 (by decide) ?_
  exact b_fewer (loc2 := [(2, v0), (0, v1), (0, v2), (0, v3), (0, v4), (0, v5), (0, v6_4), (9, 0), (9, 0), (9, 0)]) (am_lk (am_lk (am_lk (am_lk (am_lk (am_lk (am_lk (am_lk (am_lk (am_lk am_ln)))))))))) (hC130 _ _ h hB)
set_option maxRecDepth 20000 in
set_option maxHeartbeats 4000000 in
theorem S_X1_tryShares_J5 {F : am_F} {K : am_KK} {v0 : Int} {v1 : Int} {v2 : Int} {v3 : Int} {v4 : Int} {v5 : Int} {v6 : Int} {v7 : Int} {v8 : Int} {s0 : Int} {C130 : Int → am_M → Prop} {m : am_M} (X : am_Cx F cX1_tryShares RX1 none 3 9 K) (hp_v0 : am_ob v0 1) (hp_s0 : s0 = 0 ∨ s0 = 1) (hC130 : ∀ w6 m, C130 w6 m → am_Bt m → am_Z F 130 [] [(2, v0), (0, v1), (0, v2), (0, v3), (0, v4), (0, v5), (0, w6), (9, 0), (9, 0), (9, 0)] m 200) (hB : am_Bt m) (h : M_X1_tryShares_J5 v0 v1 v2 v3 v4 v5 v6 v7 v8 s0 C130 K m) : am_Z F 206 [(0, s0)] [(2, v0), (0, v1), (0, v2), (0, v3), (0, v4), (0, v5), (0, v6), (0, v7), (0, v8), (9, 0)] m 200 := by
  have G := X.G
  unfold M_X1_tryShares_J5 at h
  refine b_storeE (nx := 208) (a := 9) (loc2 := [(2, v0), (0, v1), (0, v2), (0, v3), (0, v4), (0, v5), (0, v6), (0, v7), (0, v8), (0, s0)]) G rfl (Nat.le_of_ble_eq_true rfl) (am_pl1 rfl (fun h => nomatch h)) dX1_tryShares_206 rfl (z_aload_n (nx := 209) (a := 0) G rfl (Or.inl rfl) dX1_tryShares_208 rfl (b_getA (nx := 212) (k0 := 7) G hB fl_RX1_27 (Nat.le_of_ble_eq_true rfl) (Nat.le_of_ble_eq_true rfl) rfl hp_v0 dX1_tryShares_209 rfl (z_iload (nx := 214) (a := 6) G rfl dX1_tryShares_212 rfl (z_iload (nx := 216) (a := 9) G rfl dX1_tryShares_214 rfl ?_))))
  refine z_if_eq (nx := 219) (tgt := 243) G dX1_tryShares_216 (by decide) rfl (fun c => ?_) (fun c => ?_)
  · have h := h.1 c
    refine z_iconst (nx := 244) (z := 0) G (R32c rfl) dX1_tryShares_243 rfl ?_
    exact b_fewer (loc2 := [(2, v0), (0, v1), (0, v2), (0, v3), (0, v4), (0, v5), (0, v6), (9, 0), (9, 0), (9, 0)]) (am_lk (am_lk (am_lk (am_lk (am_lk (am_lk (am_lk (am_lf (am_lf (am_lf am_ln)))))))))) (S_X1_tryShares_J6 X hp_v0 (sh_1_7 _ hp_v0) hC130 hB h)
  · have h := h.2 c
    refine z_aload_n (nx := 220) (a := 0) G rfl (Or.inl rfl) dX1_tryShares_219 rfl (b_getA (nx := 223) (k0 := 6) G hB fl_RX1_24 (Nat.le_of_ble_eq_true rfl) (Nat.le_of_ble_eq_true rfl) rfl hp_v0 dX1_tryShares_220 rfl (z_iload (nx := 225) (a := 8) G rfl dX1_tryShares_223 rfl (z_bipush (nx := 227) (z := 6) G (R32c rfl) rfl dX1_tryShares_225 rfl (z_imul (nx := 228) G dX1_tryShares_227 rfl (z_iload (nx := 230) (a := 6) G rfl dX1_tryShares_228 rfl (z_iadd (nx := 231) G dX1_tryShares_230 rfl ?_))))))
    obtain ⟨hb, h⟩ := h
    refine z_iald (nx := 232) G (sh_1_6 _ hp_v0) hb.1 hb.2 dX1_tryShares_231 rfl ?_
    refine z_aload_n (nx := 233) (a := 0) G rfl (Or.inl rfl) dX1_tryShares_232 rfl (b_getA (nx := 236) (k0 := 2) G hB fl_RX1_15 (Nat.le_of_ble_eq_true rfl) (Nat.le_of_ble_eq_true rfl) rfl hp_v0 dX1_tryShares_233 rfl (z_iload (nx := 238) (a := 7) G rfl dX1_tryShares_236 rfl ?_))
    obtain ⟨hb, h⟩ := h
    refine z_iald (nx := 239) G (sh_1_2 _ hp_v0) hb.1 hb.2 dX1_tryShares_238 rfl ?_
    refine z_iadd (nx := 240) G dX1_tryShares_239 rfl (z_goto (tgt := 244) G dX1_tryShares_240 (by decide) ?_)
    exact b_fewer (loc2 := [(2, v0), (0, v1), (0, v2), (0, v3), (0, v4), (0, v5), (0, v6), (9, 0), (9, 0), (9, 0)]) (am_lk (am_lk (am_lk (am_lk (am_lk (am_lk (am_lk (am_lf (am_lf (am_lf am_ln)))))))))) (S_X1_tryShares_J6 X hp_v0 (sh_1_7 _ hp_v0) hC130 hB h)
set_option maxRecDepth 20000 in
set_option maxHeartbeats 4000000 in
theorem S_X1_tryShares_J4 {F : am_F} {K : am_KK} {v0 : Int} {v1 : Int} {v2 : Int} {v3 : Int} {v4 : Int} {v5 : Int} {v6 : Int} {v7 : Int} {s0 : Int} {C130 : Int → am_M → Prop} {m : am_M} (X : am_Cx F cX1_tryShares RX1 none 3 9 K) (hp_v0 : am_ob v0 1) (hC130 : ∀ w6 m, C130 w6 m → am_Bt m → am_Z F 130 [] [(2, v0), (0, v1), (0, v2), (0, v3), (0, v4), (0, v5), (0, w6), (9, 0), (9, 0), (9, 0)] m 200) (hB : am_Bt m) (h : M_X1_tryShares_J4 v0 v1 v2 v3 v4 v5 v6 v7 s0 C130 K m) : am_Z F 189 [(0, s0)] [(2, v0), (0, v1), (0, v2), (0, v3), (0, v4), (0, v5), (0, v6), (0, v7), (9, 0), (9, 0)] m 200 := by
  have G := X.G
  unfold M_X1_tryShares_J4 at h
  refine b_storeE (nx := 191) (a := 8) (loc2 := [(2, v0), (0, v1), (0, v2), (0, v3), (0, v4), (0, v5), (0, v6), (0, v7), (0, s0), (9, 0)]) G rfl (Nat.le_of_ble_eq_true rfl) (am_pl1 rfl (fun h => nomatch h)) dX1_tryShares_189 rfl (z_iload_n (nx := 192) (a := 1) G rfl dX1_tryShares_191 rfl (z_iload (nx := 194) (a := 6) G rfl dX1_tryShares_192 rfl (z_ishr (nx := 195) G dX1_tryShares_194 rfl (z_iconst (nx := 196) (z := 1) G (R32c rfl) dX1_tryShares_195 rfl (z_iand (nx := 197) G dX1_tryShares_196 rfl (z_iconst (nx := 198) (z := 1) G (R32c rfl) dX1_tryShares_197 rfl ?_))))))
  refine z_icmp_ne (nx := 201) (tgt := 205) G dX1_tryShares_198 (by decide) rfl (fun c => ?_) (fun c => ?_)
  · have h := h.1 c
    refine z_iconst (nx := 206) (z := 0) G (R32c rfl) dX1_tryShares_205 rfl ?_
    exact b_fewer (loc2 := [(2, v0), (0, v1), (0, v2), (0, v3), (0, v4), (0, v5), (0, v6), (0, v7), (0, s0), (9, 0)]) (am_lk (am_lk (am_lk (am_lk (am_lk (am_lk (am_lk (am_lk (am_lk (am_lk am_ln)))))))))) (S_X1_tryShares_J5 X hp_v0 (Or.inl rfl) hC130 hB h)
  · have h := h.2 c
    refine z_iconst (nx := 202) (z := 1) G (R32c rfl) dX1_tryShares_201 rfl (z_goto (tgt := 206) G dX1_tryShares_202 (by decide) ?_)
    exact b_fewer (loc2 := [(2, v0), (0, v1), (0, v2), (0, v3), (0, v4), (0, v5), (0, v6), (0, v7), (0, s0), (9, 0)]) (am_lk (am_lk (am_lk (am_lk (am_lk (am_lk (am_lk (am_lk (am_lk (am_lk am_ln)))))))))) (S_X1_tryShares_J5 X hp_v0 (Or.inr rfl) hC130 hB h)
set_option maxRecDepth 20000 in
set_option maxHeartbeats 4000000 in
theorem S_X1_tryShares_J3 {F : am_F} {K : am_KK} {v0 : Int} {v1 : Int} {v2 : Int} {v3 : Int} {v4 : Int} {v5 : Int} {v6 : Int} {s0 : Int} {C130 : Int → am_M → Prop} {m : am_M} (X : am_Cx F cX1_tryShares RX1 none 3 9 K) (hp_v0 : am_ob v0 1) (hC130 : ∀ w6 m, C130 w6 m → am_Bt m → am_Z F 130 [] [(2, v0), (0, v1), (0, v2), (0, v3), (0, v4), (0, v5), (0, w6), (9, 0), (9, 0), (9, 0)] m 200) (hB : am_Bt m) (h : M_X1_tryShares_J3 v0 v1 v2 v3 v4 v5 v6 s0 C130 K m) : am_Z F 166 [(0, s0)] [(2, v0), (0, v1), (0, v2), (0, v3), (0, v4), (0, v5), (0, v6), (9, 0), (9, 0), (9, 0)] m 200 := by
  have G := X.G
  unfold M_X1_tryShares_J3 at h
  refine b_storeE (nx := 168) (a := 7) (loc2 := [(2, v0), (0, v1), (0, v2), (0, v3), (0, v4), (0, v5), (0, v6), (0, s0), (9, 0), (9, 0)]) G rfl (Nat.le_of_ble_eq_true rfl) (am_pl1 rfl (fun h => nomatch h)) dX1_tryShares_166 rfl (z_iload (nx := 170) (a := 7) G rfl dX1_tryShares_168 rfl ?_)
  refine z_if_ne (nx := 173) (tgt := 177) G dX1_tryShares_170 (by decide) rfl (fun c => ?_) (fun c => ?_)
  · have h := h.1 c
    refine z_iload (nx := 179) (a := 7) G rfl dX1_tryShares_177 rfl (z_iconst (nx := 180) (z := 1) G (R32c rfl) dX1_tryShares_179 rfl ?_)
    refine z_icmp_ne (nx := 183) (tgt := 187) G dX1_tryShares_180 (by decide) rfl (fun c => ?_) (fun c => ?_)
    · have h := h.1 c
      refine z_iload (nx := 189) (a := 4) G rfl dX1_tryShares_187 rfl ?_
      exact b_fewer (loc2 := [(2, v0), (0, v1), (0, v2), (0, v3), (0, v4), (0, v5), (0, v6), (0, s0), (9, 0), (9, 0)]) (am_lk (am_lk (am_lk (am_lk (am_lk (am_lk (am_lk (am_lk (am_lk (am_lk am_ln)))))))))) (S_X1_tryShares_J4 X hp_v0 hC130 hB h)
    · have h := h.2 c
      refine z_iload_n (nx := 184) (a := 3) G rfl dX1_tryShares_183 rfl (z_goto (tgt := 189) G dX1_tryShares_184 (by decide) ?_)
      exact b_fewer (loc2 := [(2, v0), (0, v1), (0, v2), (0, v3), (0, v4), (0, v5), (0, v6), (0, s0), (9, 0), (9, 0)]) (am_lk (am_lk (am_lk (am_lk (am_lk (am_lk (am_lk (am_lk (am_lk (am_lk am_ln)))))))))) (S_X1_tryShares_J4 X hp_v0 hC130 hB h)
  · have h := h.2 c
    refine z_iload_n (nx := 174) (a := 2) G rfl dX1_tryShares_173 rfl (z_goto (tgt := 189) G dX1_tryShares_174 (by decide) ?_)
    exact b_fewer (loc2 := [(2, v0), (0, v1), (0, v2), (0, v3), (0, v4), (0, v5), (0, v6), (0, s0), (9, 0), (9, 0)]) (am_lk (am_lk (am_lk (am_lk (am_lk (am_lk (am_lk (am_lk (am_lk (am_lk am_ln)))))))))) (S_X1_tryShares_J4 X hp_v0 hC130 hB h)
set_option maxRecDepth 20000 in
set_option maxHeartbeats 4000000 in
theorem S_X1_tryShares_L1B {F : am_F} {K : am_KK} {v0 : Int} {v1 : Int} {v2 : Int} {v3 : Int} {v4 : Int} {v5 : Int} {v6 : Int} {C130 : Int → am_M → Prop} {m : am_M} (X : am_Cx F cX1_tryShares RX1 none 3 9 K) (hp_v0 : am_ob v0 1) (hC130 : ∀ w6 m, C130 w6 m → am_Bt m → am_Z F 130 [] [(2, v0), (0, v1), (0, v2), (0, v3), (0, v4), (0, v5), (0, w6), (9, 0), (9, 0), (9, 0)] m 200) (hB : am_Bt m) (h : M_X1_tryShares_L1B v0 v1 v2 v3 v4 v5 v6 C130 K m) : am_Z F 130 [] [(2, v0), (0, v1), (0, v2), (0, v3), (0, v4), (0, v5), (0, v6), (9, 0), (9, 0), (9, 0)] m 200 := by
  have G := X.G
  unfold M_X1_tryShares_L1B at h
  refine z_iload (nx := 132) (a := 6) G rfl dX1_tryShares_130 rfl (z_bipush (nx := 134) (z := 6) G (R32c rfl) rfl dX1_tryShares_132 rfl ?_)
  refine z_icmp_ge (nx := 137) (tgt := 251) G dX1_tryShares_134 (by decide) rfl (fun c => ?_) (fun c => ?_)
  · have h := h.1 c
    refine z_aload_n (nx := 252) (a := 0) G rfl (Or.inl rfl) dX1_tryShares_251 rfl (b_getA (nx := 255) (k0 := 5) G hB fl_RX1_21 (Nat.le_of_ble_eq_true rfl) (Nat.le_of_ble_eq_true rfl) rfl hp_v0 dX1_tryShares_252 rfl (z_iload_n (nx := 256) (a := 1) G rfl dX1_tryShares_255 rfl ?_))
    obtain ⟨hb, h⟩ := h
    refine z_iald (nx := 257) G (sh_1_5 _ hp_v0) hb.1 hb.2 dX1_tryShares_256 rfl ?_
    refine z_iconst (nx := 258) (z := (-1)) G (R32c rfl) dX1_tryShares_257 rfl ?_
    refine z_icmp_eq (nx := 261) (tgt := 280) G dX1_tryShares_258 (by decide) rfl (fun c => ?_) (fun c => ?_)
    · have h := h.1 c
      exact b_fewer (loc2 := [(2, v0), (0, v1), (9, 0), (9, 0), (9, 0), (0, v5), (9, 0), (9, 0), (9, 0), (9, 0)]) (am_lk (am_lk (am_lf (am_lf (am_lf (am_lk (am_lf (am_lk (am_lk (am_lk am_ln)))))))))) (S_X1_tryShares_J7 X hp_v0 hB h)
    · have h := h.2 c
      refine z_iload (nx := 263) (a := 5) G rfl dX1_tryShares_261 rfl (z_aload_n (nx := 264) (a := 0) G rfl (Or.inl rfl) dX1_tryShares_263 rfl (b_getA (nx := 267) (k0 := 5) G hB fl_RX1_21 (Nat.le_of_ble_eq_true rfl) (Nat.le_of_ble_eq_true rfl) rfl hp_v0 dX1_tryShares_264 rfl (z_iload_n (nx := 268) (a := 1) G rfl dX1_tryShares_267 rfl ?_)))
      obtain ⟨hb, h⟩ := h
      refine z_iald (nx := 269) G (sh_1_5 _ hp_v0) hb.1 hb.2 dX1_tryShares_268 rfl ?_
      refine z_icmp_lt (nx := 272) (tgt := 280) G dX1_tryShares_269 (by decide) rfl (fun c => ?_) (fun c => ?_)
      · have h := h.1 c
        exact b_fewer (loc2 := [(2, v0), (0, v1), (9, 0), (9, 0), (9, 0), (0, v5), (9, 0), (9, 0), (9, 0), (9, 0)]) (am_lk (am_lk (am_lf (am_lf (am_lf (am_lk (am_lf (am_lk (am_lk (am_lk am_ln)))))))))) (S_X1_tryShares_J7 X hp_v0 hB h)
      · have h := h.2 c
        refine z_aload_n (nx := 273) (a := 0) G rfl (Or.inl rfl) dX1_tryShares_272 rfl (z_iload_n (nx := 274) (a := 1) G rfl dX1_tryShares_273 rfl ?_)
        refine b_callV5 (nx := 277) (zs := [v0, v1]) (as := [(0, v1)]) X hB (by decide) rfl hp_v0 SS_X1_isTrialAhead (am_ta (am_ti am_tn)) (Nat.le_of_ble_eq_true rfl) (Nat.le_of_ble_eq_true rfl) ml_RX1_108 iw_X1_isTrialAhead vw_X1_isTrialAhead cw_X1_isTrialAhead nw_RX1 pp_X1_isTrialAhead (Nat.le_of_ble_eq_true rfl) dX1_tryShares_274 rfl (NM_X1_isTrialAhead hp_v0 h) (fun r_5 m_6 h h01_7 hB => ?_)
        refine z_if_eq (nx := 280) (tgt := 306) G dX1_tryShares_277 (by decide) rfl (fun c => ?_) (fun c => ?_)
        · have h := h.1 c
          exact b_return X hB dX1_tryShares_306 h
        · have h := h.2 c
          exact b_fewer (loc2 := [(2, v0), (0, v1), (9, 0), (9, 0), (9, 0), (0, v5), (9, 0), (9, 0), (9, 0), (9, 0)]) (am_lk (am_lk (am_lf (am_lf (am_lf (am_lk (am_lf (am_lk (am_lk (am_lk am_ln)))))))))) (S_X1_tryShares_J7 X hp_v0 hB h)
  · have h := h.2 c
    refine z_iload_n (nx := 138) (a := 2) G rfl dX1_tryShares_137 rfl (z_iload (nx := 140) (a := 6) G rfl dX1_tryShares_138 rfl (z_ishr (nx := 141) G dX1_tryShares_140 rfl (z_iconst (nx := 142) (z := 1) G (R32c rfl) dX1_tryShares_141 rfl (z_iand (nx := 143) G dX1_tryShares_142 rfl (z_iconst (nx := 144) (z := 1) G (R32c rfl) dX1_tryShares_143 rfl ?_)))))
    refine z_icmp_ne (nx := 147) (tgt := 151) G dX1_tryShares_144 (by decide) rfl (fun c => ?_) (fun c => ?_)
    · have h := h.1 c
      refine z_iload_n (nx := 152) (a := 3) G rfl dX1_tryShares_151 rfl (z_iload (nx := 154) (a := 6) G rfl dX1_tryShares_152 rfl (z_ishr (nx := 155) G dX1_tryShares_154 rfl (z_iconst (nx := 156) (z := 1) G (R32c rfl) dX1_tryShares_155 rfl (z_iand (nx := 157) G dX1_tryShares_156 rfl (z_iconst (nx := 158) (z := 1) G (R32c rfl) dX1_tryShares_157 rfl ?_)))))
      refine z_icmp_ne (nx := 161) (tgt := 165) G dX1_tryShares_158 (by decide) rfl (fun c => ?_) (fun c => ?_)
      · have h := h.1 c
        refine z_iconst (nx := 166) (z := 2) G (R32c rfl) dX1_tryShares_165 rfl ?_
        exact b_fewer (loc2 := [(2, v0), (0, v1), (0, v2), (0, v3), (0, v4), (0, v5), (0, v6), (9, 0), (9, 0), (9, 0)]) (am_lk (am_lk (am_lk (am_lk (am_lk (am_lk (am_lk (am_lk (am_lk (am_lk am_ln)))))))))) (S_X1_tryShares_J3 X hp_v0 hC130 hB h)
      · have h := h.2 c
        refine z_iconst (nx := 162) (z := 1) G (R32c rfl) dX1_tryShares_161 rfl (z_goto (tgt := 166) G dX1_tryShares_162 (by decide) ?_)
        exact b_fewer (loc2 := [(2, v0), (0, v1), (0, v2), (0, v3), (0, v4), (0, v5), (0, v6), (9, 0), (9, 0), (9, 0)]) (am_lk (am_lk (am_lk (am_lk (am_lk (am_lk (am_lk (am_lk (am_lk (am_lk am_ln)))))))))) (S_X1_tryShares_J3 X hp_v0 hC130 hB h)
    · have h := h.2 c
      refine z_iconst (nx := 148) (z := 0) G (R32c rfl) dX1_tryShares_147 rfl (z_goto (tgt := 166) G dX1_tryShares_148 (by decide) ?_)
      exact b_fewer (loc2 := [(2, v0), (0, v1), (0, v2), (0, v3), (0, v4), (0, v5), (0, v6), (9, 0), (9, 0), (9, 0)]) (am_lk (am_lk (am_lk (am_lk (am_lk (am_lk (am_lk (am_lk (am_lk (am_lk am_ln)))))))))) (S_X1_tryShares_J3 X hp_v0 hC130 hB h)
theorem S_X1_tryShares_L1 {F : am_F} {K : am_KK} {v0 : Int} {v1 : Int} {v2 : Int} {v3 : Int} {v4 : Int} {v5 : Int} {v6 : Int} {m : am_M} (X : am_Cx F cX1_tryShares RX1 none 3 9 K) (hp_v0 : am_ob v0 1) (hB : am_Bt m) (h : M_X1_tryShares_L1 v0 v1 v2 v3 v4 v5 v6 K m) : am_Z F 130 [] [(2, v0), (0, v1), (0, v2), (0, v3), (0, v4), (0, v5), (0, v6), (9, 0), (9, 0), (9, 0)] m 200 := by
  obtain ⟨I, ⟨j, hj⟩, hI⟩ := h
  have key : ∀ j v6 m, I j v6 m → am_Bt m → am_Z F 130 [] [(2, v0), (0, v1), (0, v2), (0, v3), (0, v4), (0, v5), (0, v6), (9, 0), (9, 0), (9, 0)] m 200 := by
    intro j
    induction j using Nat.strongRecOn with
    | ind j ih =>
      intro v6 m hj hB
      exact S_X1_tryShares_L1B X hp_v0 (fun v6' m' hc hB' => by
        obtain ⟨j', g1, g2⟩ := hc
        exact ih j' g1 v6' m' g2 hB') hB (hI j v6 m hj)
  exact key j _ _ hj hB
set_option maxRecDepth 20000 in
set_option maxHeartbeats 4000000 in
theorem S_X1_tryShares_J2 {F : am_F} {K : am_KK} {v0 : Int} {v1 : Int} {v2 : Int} {v3 : Int} {v4 : Int} {v5 : Int} {m : am_M} (X : am_Cx F cX1_tryShares RX1 none 3 9 K) (hp_v0 : am_ob v0 1) (hB : am_Bt m) (h : M_X1_tryShares_J2 v0 v1 v2 v3 v4 v5 K m) : am_Z F 127 [] [(2, v0), (0, v1), (0, v2), (0, v3), (0, v4), (0, v5), (9, 0), (9, 0), (9, 0), (9, 0)] m 200 := by
  have G := X.G
  unfold M_X1_tryShares_J2 at h
  refine z_iconst (nx := 128) (z := 0) G (R32c rfl) dX1_tryShares_127 rfl (b_storeE (nx := 130) (a := 6) (loc2 := [(2, v0), (0, v1), (0, v2), (0, v3), (0, v4), (0, v5), (0, 0), (9, 0), (9, 0), (9, 0)]) G rfl (Nat.le_of_ble_eq_true rfl) (am_pl1 rfl (fun h => nomatch h)) dX1_tryShares_128 rfl ?_)
  exact b_fewer (loc2 := [(2, v0), (0, v1), (0, v2), (0, v3), (0, v4), (0, v5), (0, 0), (9, 0), (9, 0), (9, 0)]) (am_lk (am_lk (am_lk (am_lk (am_lk (am_lk (am_lk (am_lk (am_lk (am_lk am_ln)))))))))) (S_X1_tryShares_L1 X hp_v0 hB h)
set_option maxRecDepth 20000 in
set_option maxHeartbeats 4000000 in
theorem S_X1_tryShares_J1 {F : am_F} {K : am_KK} {v0 : Int} {v1 : Int} {v2 : Int} {v3 : Int} {v4 : Int} {s0 : Int} {s1 : Int} {m : am_M} (X : am_Cx F cX1_tryShares RX1 none 3 9 K) (hp_v0 : am_ob v0 1) (hB : am_Bt m) (h : M_X1_tryShares_J1 v0 v1 v2 v3 v4 s0 s1 K m) : am_Z F 102 [(0, s1), (0, s0)] [(2, v0), (0, v1), (0, v2), (0, v3), (0, v4), (9, 0), (9, 0), (9, 0), (9, 0), (9, 0)] m 200 := by
  have G := X.G
  unfold M_X1_tryShares_J1 at h
  refine z_iadd (nx := 103) G dX1_tryShares_102 rfl ?_
  refine b_store (nx := 105) (a := 5) (loc2 := fun v5_8 => [(2, v0), (0, v1), (0, v2), (0, v3), (0, v4), (0, v5_8), (9, 0), (9, 0), (9, 0), (9, 0)]) G (fun _ => rfl) (Nat.le_of_ble_eq_true rfl) (am_pl1 rfl (fun h => nomatch h)) dX1_tryShares_103 rfl (fun v5_8 e_v5_8 => ?_)
  have h := h v5_8 e_v5_8
  refine z_aload_n (nx := 106) (a := 0) G rfl (Or.inl rfl) dX1_tryShares_105 rfl (b_getA (nx := 109) (k0 := 5) G hB fl_RX1_21 (Nat.le_of_ble_eq_true rfl) (Nat.le_of_ble_eq_true rfl) rfl hp_v0 dX1_tryShares_106 rfl (z_iload_n (nx := 110) (a := 1) G rfl dX1_tryShares_109 rfl ?_))
  obtain ⟨hb, h⟩ := h
  refine z_iald (nx := 111) G (sh_1_5 _ hp_v0) hb.1 hb.2 dX1_tryShares_110 rfl ?_
  refine z_iconst (nx := 112) (z := (-1)) G (R32c rfl) dX1_tryShares_111 rfl ?_
  refine z_icmp_eq (nx := 115) (tgt := 127) G dX1_tryShares_112 (by decide) rfl (fun c => ?_) (fun c => ?_)
  · have h := h.1 c
    exact b_fewer (loc2 := [(2, v0), (0, v1), (0, v2), (0, v3), (0, v4), (0, v5_8), (9, 0), (9, 0), (9, 0), (9, 0)]) (am_lk (am_lk (am_lk (am_lk (am_lk (am_lk (am_lk (am_lk (am_lk (am_lk am_ln)))))))))) (S_X1_tryShares_J2 X hp_v0 hB h)
  · have h := h.2 c
    refine z_iload (nx := 117) (a := 5) G rfl dX1_tryShares_115 rfl (z_aload_n (nx := 118) (a := 0) G rfl (Or.inl rfl) dX1_tryShares_117 rfl (b_getA (nx := 121) (k0 := 5) G hB fl_RX1_21 (Nat.le_of_ble_eq_true rfl) (Nat.le_of_ble_eq_true rfl) rfl hp_v0 dX1_tryShares_118 rfl (z_iload_n (nx := 122) (a := 1) G rfl dX1_tryShares_121 rfl ?_)))
    obtain ⟨hb, h⟩ := h
    refine z_iald (nx := 123) G (sh_1_5 _ hp_v0) hb.1 hb.2 dX1_tryShares_122 rfl ?_
    refine z_icmp_le (nx := 126) (tgt := 127) G dX1_tryShares_123 (by decide) rfl (fun c => ?_) (fun c => ?_)
    · have h := h.1 c
      exact b_fewer (loc2 := [(2, v0), (0, v1), (0, v2), (0, v3), (0, v4), (0, v5_8), (9, 0), (9, 0), (9, 0), (9, 0)]) (am_lk (am_lk (am_lk (am_lk (am_lk (am_lk (am_lk (am_lk (am_lk (am_lk am_ln)))))))))) (S_X1_tryShares_J2 X hp_v0 hB h)
    · have h := h.2 c
      exact b_return X hB dX1_tryShares_126 h
set_option maxRecDepth 20000 in
set_option maxHeartbeats 4000000 in
theorem S_X1_tryShares {F : am_F} {K : am_KK} {v0 : Int} {v1 : Int} {v2 : Int} {v3 : Int} {v4 : Int} {m : am_M} (X : am_Cx F cX1_tryShares RX1 none 3 9 K) (hp_v0 : am_ob v0 1) (hB : am_Bt m) (h : M_X1_tryShares v0 v1 v2 v3 v4 K m) : am_Z F 0 [] [(2, v0), (0, v1), (0, v2), (0, v3), (0, v4), (9, 0), (9, 0), (9, 0), (9, 0), (9, 0)] m 200 := by
  have G := X.G
  unfold M_X1_tryShares at h
  refine z_iload_n (nx := 1) (a := 1) G rfl dX1_tryShares_0 rfl ?_
  refine b_callS5 (nx := 4) (zs := [v1]) (as := [(0, v1)]) X hB SS_X1_isSet (am_ti am_tn) (Nat.le_of_ble_eq_true rfl) (Nat.le_of_ble_eq_true rfl) ml_RX1_105 sw_X1_isSet (am_plainC 1 (by decide)) cw_X1_isSet nw_RX1 pp_X1_isSet (Nat.le_of_ble_eq_true rfl) dX1_tryShares_1 rfl (NM_X1_isSet h) (fun r_9 m_10 h h01_11 hB => ?_)
  refine z_if_eq (nx := 7) (tgt := 29) G dX1_tryShares_4 (by decide) rfl (fun c => ?_) (fun c => ?_)
  · have h := h.1 c
    exact b_return X hB dX1_tryShares_29 h
  · have h := h.2 c
    refine z_iload_n (nx := 8) (a := 2) G rfl dX1_tryShares_7 rfl ?_
    refine b_callS5 (nx := 11) (zs := [v2]) (as := [(0, v2)]) X hB SS_X1_isSet (am_ti am_tn) (Nat.le_of_ble_eq_true rfl) (Nat.le_of_ble_eq_true rfl) ml_RX1_105 sw_X1_isSet (am_plainC 1 (by decide)) cw_X1_isSet nw_RX1 pp_X1_isSet (Nat.le_of_ble_eq_true rfl) dX1_tryShares_8 rfl (NM_X1_isSet h) (fun r_12 m_13 h h01_14 hB => ?_)
    refine z_if_eq (nx := 14) (tgt := 29) G dX1_tryShares_11 (by decide) rfl (fun c => ?_) (fun c => ?_)
    · have h := h.1 c
      exact b_return X hB dX1_tryShares_29 h
    · have h := h.2 c
      refine z_iload_n (nx := 15) (a := 3) G rfl dX1_tryShares_14 rfl ?_
      refine b_callS5 (nx := 18) (zs := [v3]) (as := [(0, v3)]) X hB SS_X1_isSet (am_ti am_tn) (Nat.le_of_ble_eq_true rfl) (Nat.le_of_ble_eq_true rfl) ml_RX1_105 sw_X1_isSet (am_plainC 1 (by decide)) cw_X1_isSet nw_RX1 pp_X1_isSet (Nat.le_of_ble_eq_true rfl) dX1_tryShares_15 rfl (NM_X1_isSet h) (fun r_15 m_16 h h01_17 hB => ?_)
      refine z_if_eq (nx := 21) (tgt := 29) G dX1_tryShares_18 (by decide) rfl (fun c => ?_) (fun c => ?_)
      · have h := h.1 c
        exact b_return X hB dX1_tryShares_29 h
      · have h := h.2 c
        refine z_iload (nx := 23) (a := 4) G rfl dX1_tryShares_21 rfl ?_
        refine b_callS5 (nx := 26) (zs := [v4]) (as := [(0, v4)]) X hB SS_X1_isSet (am_ti am_tn) (Nat.le_of_ble_eq_true rfl) (Nat.le_of_ble_eq_true rfl) ml_RX1_105 sw_X1_isSet (am_plainC 1 (by decide)) cw_X1_isSet nw_RX1 pp_X1_isSet (Nat.le_of_ble_eq_true rfl) dX1_tryShares_23 rfl (NM_X1_isSet h) (fun r_18 m_19 h h01_20 hB => ?_)
        refine z_if_ne (nx := 29) (tgt := 30) G dX1_tryShares_26 (by decide) rfl (fun c => ?_) (fun c => ?_)
        · have h := h.1 c
          refine z_aload_n (nx := 31) (a := 0) G rfl (Or.inl rfl) dX1_tryShares_30 rfl (b_getA (nx := 34) (k0 := 5) G hB fl_RX1_21 (Nat.le_of_ble_eq_true rfl) (Nat.le_of_ble_eq_true rfl) rfl hp_v0 dX1_tryShares_31 rfl (z_iload_n (nx := 35) (a := 2) G rfl dX1_tryShares_34 rfl ?_))
          obtain ⟨hb, h⟩ := h
          refine z_iald (nx := 36) G (sh_1_5 _ hp_v0) hb.1 hb.2 dX1_tryShares_35 rfl ?_
          refine z_aload_n (nx := 37) (a := 0) G rfl (Or.inl rfl) dX1_tryShares_36 rfl (b_getA (nx := 40) (k0 := 2) G hB fl_RX1_15 (Nat.le_of_ble_eq_true rfl) (Nat.le_of_ble_eq_true rfl) rfl hp_v0 dX1_tryShares_37 rfl (z_iconst (nx := 41) (z := 0) G (R32c rfl) dX1_tryShares_40 rfl ?_))
          obtain ⟨hb, h⟩ := h
          refine z_iald (nx := 42) G (sh_1_2 _ hp_v0) hb.1 hb.2 dX1_tryShares_41 rfl ?_
          refine z_aload_n (nx := 43) (a := 0) G rfl (Or.inl rfl) dX1_tryShares_42 rfl (b_getA (nx := 46) (k0 := 4) G hB fl_RX1_18 (Nat.le_of_ble_eq_true rfl) (Nat.le_of_ble_eq_true rfl) rfl hp_v0 dX1_tryShares_43 rfl (z_iload_n (nx := 47) (a := 2) G rfl dX1_tryShares_46 rfl ?_))
          obtain ⟨hb, h⟩ := h
          refine z_iald (nx := 48) G (sh_1_4 _ hp_v0) hb.1 hb.2 dX1_tryShares_47 rfl ?_
          refine z_imul (nx := 49) G dX1_tryShares_48 rfl (z_iadd (nx := 50) G dX1_tryShares_49 rfl (z_aload_n (nx := 51) (a := 0) G rfl (Or.inl rfl) dX1_tryShares_50 rfl (b_getA (nx := 54) (k0 := 5) G hB fl_RX1_21 (Nat.le_of_ble_eq_true rfl) (Nat.le_of_ble_eq_true rfl) rfl hp_v0 dX1_tryShares_51 rfl (z_iload_n (nx := 55) (a := 3) G rfl dX1_tryShares_54 rfl ?_))))
          obtain ⟨hb, h⟩ := h
          refine z_iald (nx := 56) G (sh_1_5 _ hp_v0) hb.1 hb.2 dX1_tryShares_55 rfl ?_
          refine z_iadd (nx := 57) G dX1_tryShares_56 rfl (z_aload_n (nx := 58) (a := 0) G rfl (Or.inl rfl) dX1_tryShares_57 rfl (b_getA (nx := 61) (k0 := 2) G hB fl_RX1_15 (Nat.le_of_ble_eq_true rfl) (Nat.le_of_ble_eq_true rfl) rfl hp_v0 dX1_tryShares_58 rfl (z_iconst (nx := 62) (z := 1) G (R32c rfl) dX1_tryShares_61 rfl ?_)))
          obtain ⟨hb, h⟩ := h
          refine z_iald (nx := 63) G (sh_1_2 _ hp_v0) hb.1 hb.2 dX1_tryShares_62 rfl ?_
          refine z_aload_n (nx := 64) (a := 0) G rfl (Or.inl rfl) dX1_tryShares_63 rfl (b_getA (nx := 67) (k0 := 4) G hB fl_RX1_18 (Nat.le_of_ble_eq_true rfl) (Nat.le_of_ble_eq_true rfl) rfl hp_v0 dX1_tryShares_64 rfl (z_iload_n (nx := 68) (a := 3) G rfl dX1_tryShares_67 rfl ?_))
          obtain ⟨hb, h⟩ := h
          refine z_iald (nx := 69) G (sh_1_4 _ hp_v0) hb.1 hb.2 dX1_tryShares_68 rfl ?_
          refine z_imul (nx := 70) G dX1_tryShares_69 rfl (z_iadd (nx := 71) G dX1_tryShares_70 rfl (z_aload_n (nx := 72) (a := 0) G rfl (Or.inl rfl) dX1_tryShares_71 rfl (b_getA (nx := 75) (k0 := 5) G hB fl_RX1_21 (Nat.le_of_ble_eq_true rfl) (Nat.le_of_ble_eq_true rfl) rfl hp_v0 dX1_tryShares_72 rfl (z_iload (nx := 77) (a := 4) G rfl dX1_tryShares_75 rfl ?_))))
          obtain ⟨hb, h⟩ := h
          refine z_iald (nx := 78) G (sh_1_5 _ hp_v0) hb.1 hb.2 dX1_tryShares_77 rfl ?_
          refine z_iadd (nx := 79) G dX1_tryShares_78 rfl (z_iload (nx := 81) (a := 4) G rfl dX1_tryShares_79 rfl ?_)
          refine z_if_ne (nx := 84) (tgt := 88) G dX1_tryShares_81 (by decide) rfl (fun c => ?_) (fun c => ?_)
          · have h := h.1 c
            refine z_aload_n (nx := 89) (a := 0) G rfl (Or.inl rfl) dX1_tryShares_88 rfl (b_getA (nx := 92) (k0 := 2) G hB fl_RX1_15 (Nat.le_of_ble_eq_true rfl) (Nat.le_of_ble_eq_true rfl) rfl hp_v0 dX1_tryShares_89 rfl (z_iconst (nx := 93) (z := 2) G (R32c rfl) dX1_tryShares_92 rfl ?_))
            obtain ⟨hb, h⟩ := h
            refine z_iald (nx := 94) G (sh_1_2 _ hp_v0) hb.1 hb.2 dX1_tryShares_93 rfl ?_
            refine z_aload_n (nx := 95) (a := 0) G rfl (Or.inl rfl) dX1_tryShares_94 rfl (b_getA (nx := 98) (k0 := 4) G hB fl_RX1_18 (Nat.le_of_ble_eq_true rfl) (Nat.le_of_ble_eq_true rfl) rfl hp_v0 dX1_tryShares_95 rfl (z_iload (nx := 100) (a := 4) G rfl dX1_tryShares_98 rfl ?_))
            obtain ⟨hb, h⟩ := h
            refine z_iald (nx := 101) G (sh_1_4 _ hp_v0) hb.1 hb.2 dX1_tryShares_100 rfl ?_
            refine z_imul (nx := 102) G dX1_tryShares_101 rfl ?_
            exact b_fewer (loc2 := [(2, v0), (0, v1), (0, v2), (0, v3), (0, v4), (9, 0), (9, 0), (9, 0), (9, 0), (9, 0)]) (am_lk (am_lk (am_lk (am_lk (am_lk (am_lk (am_lk (am_lk (am_lk (am_lk am_ln)))))))))) (S_X1_tryShares_J1 X hp_v0 hB h)
          · have h := h.2 c
            refine z_iconst (nx := 85) (z := 0) G (R32c rfl) dX1_tryShares_84 rfl (z_goto (tgt := 102) G dX1_tryShares_85 (by decide) ?_)
            exact b_fewer (loc2 := [(2, v0), (0, v1), (0, v2), (0, v3), (0, v4), (9, 0), (9, 0), (9, 0), (9, 0), (9, 0)]) (am_lk (am_lk (am_lk (am_lk (am_lk (am_lk (am_lk (am_lk (am_lk (am_lk am_ln)))))))))) (S_X1_tryShares_J1 X hp_v0 hB h)
        · have h := h.2 c
          exact b_return X hB dX1_tryShares_29 h
theorem NM_X1_tryShares {v0 : Int} {v1 : Int} {v2 : Int} {v3 : Int} {v4 : Int} {K : am_KK} {m : am_M} (hp_v0 : am_ob v0 1) (h : M_X1_tryShares v0 v1 v2 v3 v4 K m) : N_X1_tryShares [v0, v1, v2, v3, v4] K m := ⟨hp_v0, h⟩
theorem SS_X1_tryShares : am_Snd yX1_tryShares cX1_tryShares 10 none 0 3 (am_L [2, 0, 0, 0, 0] 9 N_X1_tryShares) := by
  refine am_SB (by decide +kernel) (Nat.le_of_ble_eq_true rfl) (fun F zs as K m X ht hB hM => ?_)
  obtain ⟨v0, zs, as, rfl, rfl, hz0, ht⟩ := am_inv ht
  obtain ⟨v1, zs, as, rfl, rfl, hz1, ht⟩ := am_inv ht
  obtain ⟨v2, zs, as, rfl, rfl, hz2, ht⟩ := am_inv ht
  obtain ⟨v3, zs, as, rfl, rfl, hz3, ht⟩ := am_inv ht
  obtain ⟨v4, zs, as, rfl, rfl, hz4, ht⟩ := am_inv ht
  obtain ⟨rfl, rfl⟩ := am_inv0 ht
  obtain ⟨hp_v0, hM⟩ := hM
  exact S_X1_tryShares X hp_v0 hB hM
set_option maxRecDepth 20000 in
set_option maxHeartbeats 4000000 in
theorem S_X1_share_J3 {F : am_F} {K : am_KK} {v0 : Int} {v1 : Int} {v2 : Int} {C9 : Int → am_M → Prop} {m : am_M} (X : am_Cx F cX1_share RX1 none 4 9 K) (hp_v0 : am_ob v0 1) (hC9 : ∀ w2 m, C9 w2 m → am_Bt m → am_Z F 9 [] [(2, v0), (0, v1), (0, w2), (9, 0), (9, 0)] m 200) (hB : am_Bt m) (h : M_X1_share_J3 v0 v1 v2 C9 K m) : am_Z F 86 [] [(2, v0), (0, v1), (0, v2), (9, 0), (9, 0)] m 200 := by
  have G := X.G
  unfold M_X1_share_J3 at h
  refine b_iinc (nx := 89) (a := 2) (loc2 := fun v2_1 => [(2, v0), (0, v1), (0, v2_1), (9, 0), (9, 0)]) G (fun _ => rfl) rfl (am_pl1 rfl (fun h => nomatch h)) dX1_share_86 rfl (fun v2_1 e_v2_1 => ?_)
  have h := h v2_1 e_v2_1
  refine z_goto (tgt := 9) G dX1_share_89 (by decide) ?_
  exact b_fewer (loc2 := [(2, v0), (0, v1), (0, v2_1), (9, 0), (9, 0)]) (am_lk (am_lk (am_lk (am_lk (am_lk am_ln))))) (hC9 _ _ h hB)
set_option maxRecDepth 20000 in
set_option maxHeartbeats 4000000 in
theorem S_X1_share_J2 {F : am_F} {K : am_KK} {v0 : Int} {v1 : Int} {v2 : Int} {v3 : Int} {C16 : Int → am_M → Prop} {C9 : Int → am_M → Prop} {m : am_M} (X : am_Cx F cX1_share RX1 none 4 9 K) (hp_v0 : am_ob v0 1) (hC16 : ∀ w3 m, C16 w3 m → am_Bt m → am_Z F 16 [] [(2, v0), (0, v1), (0, v2), (0, w3), (9, 0)] m 200) (hC9 : ∀ w2 m, C9 w2 m → am_Bt m → am_Z F 9 [] [(2, v0), (0, v1), (0, w2), (9, 0), (9, 0)] m 200) (hB : am_Bt m) (h : M_X1_share_J2 v0 v1 v2 v3 C16 C9 K m) : am_Z F 80 [] [(2, v0), (0, v1), (0, v2), (0, v3), (9, 0)] m 200 := by
  have G := X.G
  unfold M_X1_share_J2 at h
  refine b_iinc (nx := 83) (a := 3) (loc2 := fun v3_2 => [(2, v0), (0, v1), (0, v2), (0, v3_2), (9, 0)]) G (fun _ => rfl) rfl (am_pl1 rfl (fun h => nomatch h)) dX1_share_80 rfl (fun v3_2 e_v3_2 => ?_)
  have h := h v3_2 e_v3_2
  refine z_goto (tgt := 16) G dX1_share_83 (by decide) ?_
  exact b_fewer (loc2 := [(2, v0), (0, v1), (0, v2), (0, v3_2), (9, 0)]) (am_lk (am_lk (am_lk (am_lk (am_lk am_ln))))) (hC16 _ _ h hB)
set_option maxRecDepth 20000 in
set_option maxHeartbeats 4000000 in
theorem S_X1_share_J1 {F : am_F} {K : am_KK} {v0 : Int} {v1 : Int} {v2 : Int} {v3 : Int} {v4 : Int} {C16 : Int → am_M → Prop} {C9 : Int → am_M → Prop} {m : am_M} (X : am_Cx F cX1_share RX1 none 4 9 K) (hp_v0 : am_ob v0 1) (hC16 : ∀ w3 m, C16 w3 m → am_Bt m → am_Z F 16 [] [(2, v0), (0, v1), (0, v2), (0, w3), (9, 0)] m 200) (hC9 : ∀ w2 m, C9 w2 m → am_Bt m → am_Z F 9 [] [(2, v0), (0, v1), (0, w2), (9, 0), (9, 0)] m 200) (hB : am_Bt m) (h : M_X1_share_J1 v0 v1 v2 v3 v4 C16 C9 K m) : am_Z F 71 [] [(2, v0), (0, v1), (0, v2), (0, v3), (0, v4)] m 200 := by
  have G := X.G
  unfold M_X1_share_J1 at h
  refine z_aload_n (nx := 72) (a := 0) G rfl (Or.inl rfl) dX1_share_71 rfl (z_iload_n (nx := 73) (a := 1) G rfl dX1_share_72 rfl (z_iload_n (nx := 74) (a := 2) G rfl dX1_share_73 rfl (z_iload_n (nx := 75) (a := 3) G rfl dX1_share_74 rfl (z_iload (nx := 77) (a := 4) G rfl dX1_share_75 rfl ?_))))
  refine b_callV9 (nx := 80) (zs := [v0, v1, v2, v3, v4]) (as := [(0, v1), (0, v2), (0, v3), (0, v4)]) X hB (by decide) rfl hp_v0 SS_X1_tryShares (am_ta (am_ti (am_ti (am_ti (am_ti am_tn))))) (Nat.le_of_ble_eq_true rfl) (Nat.le_of_ble_eq_true rfl) ml_RX1_101 iw_X1_tryShares vw_X1_tryShares cw_X1_tryShares nw_RX1 pp_X1_tryShares (Nat.le_of_ble_eq_true rfl) dX1_share_77 rfl (NM_X1_tryShares hp_v0 h) (fun r_3 m_4 h hB => ?_)
  exact b_fewer (loc2 := [(2, v0), (0, v1), (0, v2), (0, v3), (9, 0)]) (am_lk (am_lk (am_lk (am_lk (am_lf am_ln))))) (S_X1_share_J2 X hp_v0 hC16 hC9 hB h)
set_option maxRecDepth 20000 in
set_option maxHeartbeats 4000000 in
theorem S_X1_share_L2B {F : am_F} {K : am_KK} {v0 : Int} {v1 : Int} {v2 : Int} {v3 : Int} {C16 : Int → am_M → Prop} {C9 : Int → am_M → Prop} {m : am_M} (X : am_Cx F cX1_share RX1 none 4 9 K) (hp_v0 : am_ob v0 1) (hC16 : ∀ w3 m, C16 w3 m → am_Bt m → am_Z F 16 [] [(2, v0), (0, v1), (0, v2), (0, w3), (9, 0)] m 200) (hC9 : ∀ w2 m, C9 w2 m → am_Bt m → am_Z F 9 [] [(2, v0), (0, v1), (0, w2), (9, 0), (9, 0)] m 200) (hB : am_Bt m) (h : M_X1_share_L2B v0 v1 v2 v3 C16 C9 K m) : am_Z F 16 [] [(2, v0), (0, v1), (0, v2), (0, v3), (9, 0)] m 200 := by
  have G := X.G
  unfold M_X1_share_L2B at h
  refine z_iload_n (nx := 17) (a := 3) G rfl dX1_share_16 rfl (z_iload_n (nx := 18) (a := 1) G rfl dX1_share_17 rfl ?_)
  refine z_icmp_ge (nx := 21) (tgt := 86) G dX1_share_18 (by decide) rfl (fun c => ?_) (fun c => ?_)
  · have h := h.1 c
    exact b_fewer (loc2 := [(2, v0), (0, v1), (0, v2), (9, 0), (9, 0)]) (am_lk (am_lk (am_lk (am_lf (am_lk am_ln))))) (S_X1_share_J3 X hp_v0 hC9 hB h)
  · have h := h.2 c
    refine z_iload_n (nx := 22) (a := 2) G rfl dX1_share_21 rfl (z_iload_n (nx := 23) (a := 1) G rfl dX1_share_22 rfl ?_)
    refine b_callS5 (nx := 26) (zs := [v2, v1]) (as := [(0, v2), (0, v1)]) X hB SS_X1_isPartOf (am_ti (am_ti am_tn)) (Nat.le_of_ble_eq_true rfl) (Nat.le_of_ble_eq_true rfl) ml_RX1_97 sw_X1_isPartOf (am_plainC 1 (by decide)) cw_X1_isPartOf nw_RX1 pp_X1_isPartOf (Nat.le_of_ble_eq_true rfl) dX1_share_23 rfl (NM_X1_isPartOf h) (fun r_5 m_6 h h01_7 hB => ?_)
    refine z_if_eq (nx := 29) (tgt := 86) G dX1_share_26 (by decide) rfl (fun c => ?_) (fun c => ?_)
    · have h := h.1 c
      exact b_fewer (loc2 := [(2, v0), (0, v1), (0, v2), (9, 0), (9, 0)]) (am_lk (am_lk (am_lk (am_lf (am_lk am_ln))))) (S_X1_share_J3 X hp_v0 hC9 hB h)
    · have h := h.2 c
      refine z_iload_n (nx := 30) (a := 1) G rfl dX1_share_29 rfl (z_iload_n (nx := 31) (a := 2) G rfl dX1_share_30 rfl (z_iconst (nx := 32) (z := (-1)) G (R32c rfl) dX1_share_31 rfl (z_ixor (nx := 33) G dX1_share_32 rfl (z_iand (nx := 34) G dX1_share_33 rfl (z_iload_n (nx := 35) (a := 3) G rfl dX1_share_34 rfl (z_iconst (nx := 36) (z := (-1)) G (R32c rfl) dX1_share_35 rfl (z_ixor (nx := 37) G dX1_share_36 rfl (z_iand (nx := 38) G dX1_share_37 rfl ?_))))))))
      refine b_store (nx := 40) (a := 4) (loc2 := fun v4_8 => [(2, v0), (0, v1), (0, v2), (0, v3), (0, v4_8)]) G (fun _ => rfl) (Nat.le_of_ble_eq_true rfl) (am_pl1 rfl (fun h => nomatch h)) dX1_share_38 rfl (fun v4_8 e_v4_8 => ?_)
      have h := h v4_8 e_v4_8
      refine z_iload_n (nx := 41) (a := 3) G rfl dX1_share_40 rfl (z_iload_n (nx := 42) (a := 1) G rfl dX1_share_41 rfl (z_iload_n (nx := 43) (a := 2) G rfl dX1_share_42 rfl (z_iconst (nx := 44) (z := (-1)) G (R32c rfl) dX1_share_43 rfl (z_ixor (nx := 45) G dX1_share_44 rfl (z_iand (nx := 46) G dX1_share_45 rfl ?_)))))
      refine b_callS5 (nx := 49) (zs := [v3, am_and v1 (am_xor v2 (-1))]) (as := [(0, v3), (0, am_and v1 (am_xor v2 (-1)))]) X hB SS_X1_isPartOf (am_ti (am_ti am_tn)) (Nat.le_of_ble_eq_true rfl) (Nat.le_of_ble_eq_true rfl) ml_RX1_97 sw_X1_isPartOf (am_plainC 1 (by decide)) cw_X1_isPartOf nw_RX1 pp_X1_isPartOf (Nat.le_of_ble_eq_true rfl) dX1_share_46 rfl (NM_X1_isPartOf h) (fun r_9 m_10 h h01_11 hB => ?_)
      refine z_if_eq (nx := 52) (tgt := 80) G dX1_share_49 (by decide) rfl (fun c => ?_) (fun c => ?_)
      · have h := h.1 c
        exact b_fewer (loc2 := [(2, v0), (0, v1), (0, v2), (0, v3), (9, 0)]) (am_lk (am_lk (am_lk (am_lk (am_lf am_ln))))) (S_X1_share_J2 X hp_v0 hC16 hC9 hB h)
      · have h := h.2 c
        refine z_iload (nx := 54) (a := 4) G rfl dX1_share_52 rfl (z_iload_n (nx := 55) (a := 1) G rfl dX1_share_54 rfl ?_)
        refine z_icmp_eq (nx := 58) (tgt := 80) G dX1_share_55 (by decide) rfl (fun c => ?_) (fun c => ?_)
        · have h := h.1 c
          exact b_fewer (loc2 := [(2, v0), (0, v1), (0, v2), (0, v3), (9, 0)]) (am_lk (am_lk (am_lk (am_lk (am_lf am_ln))))) (S_X1_share_J2 X hp_v0 hC16 hC9 hB h)
        · have h := h.2 c
          refine z_iload (nx := 60) (a := 4) G rfl dX1_share_58 rfl ?_
          refine z_if_eq (nx := 63) (tgt := 71) G dX1_share_60 (by decide) rfl (fun c => ?_) (fun c => ?_)
          · have h := h.1 c
            exact b_fewer (loc2 := [(2, v0), (0, v1), (0, v2), (0, v3), (0, v4_8)]) (am_lk (am_lk (am_lk (am_lk (am_lk am_ln))))) (S_X1_share_J1 X hp_v0 hC16 hC9 hB h)
          · have h := h.2 c
            refine z_aload_n (nx := 64) (a := 0) G rfl (Or.inl rfl) dX1_share_63 rfl (b_getI (nx := 67) (k0 := 3) (t := 0) G fl_RX1_67 (Nat.le_of_ble_eq_true rfl) (Nat.le_of_ble_eq_true rfl) rfl hp_v0 dX1_share_64 rfl (z_iconst (nx := 68) (z := 3) G (R32c rfl) dX1_share_67 rfl ?_))
            refine z_icmp_ne (nx := 71) (tgt := 80) G dX1_share_68 (by decide) rfl (fun c => ?_) (fun c => ?_)
            · have h := h.1 c
              exact b_fewer (loc2 := [(2, v0), (0, v1), (0, v2), (0, v3), (9, 0)]) (am_lk (am_lk (am_lk (am_lk (am_lf am_ln))))) (S_X1_share_J2 X hp_v0 hC16 hC9 hB h)
            · have h := h.2 c
              exact b_fewer (loc2 := [(2, v0), (0, v1), (0, v2), (0, v3), (0, v4_8)]) (am_lk (am_lk (am_lk (am_lk (am_lk am_ln))))) (S_X1_share_J1 X hp_v0 hC16 hC9 hB h)
theorem S_X1_share_L2 {F : am_F} {K : am_KK} {v0 : Int} {v1 : Int} {v2 : Int} {v3 : Int} {C9 : Int → am_M → Prop} {m : am_M} (X : am_Cx F cX1_share RX1 none 4 9 K) (hp_v0 : am_ob v0 1) (hC9 : ∀ w2 m, C9 w2 m → am_Bt m → am_Z F 9 [] [(2, v0), (0, v1), (0, w2), (9, 0), (9, 0)] m 200) (hB : am_Bt m) (h : M_X1_share_L2 v0 v1 v2 v3 C9 K m) : am_Z F 16 [] [(2, v0), (0, v1), (0, v2), (0, v3), (9, 0)] m 200 := by
  obtain ⟨I, ⟨j, hj⟩, hI⟩ := h
  have key : ∀ j v3 m, I j v3 m → am_Bt m → am_Z F 16 [] [(2, v0), (0, v1), (0, v2), (0, v3), (9, 0)] m 200 := by
    intro j
    induction j using Nat.strongRecOn with
    | ind j ih =>
      intro v3 m hj hB
      exact S_X1_share_L2B X hp_v0 (fun v3' m' hc hB' => by
        obtain ⟨j', g1, g2⟩ := hc
        exact ih j' g1 v3' m' g2 hB') hC9 hB (hI j v3 m hj)
  exact key j _ _ hj hB
set_option maxRecDepth 20000 in
set_option maxHeartbeats 4000000 in
theorem S_X1_share_L1B {F : am_F} {K : am_KK} {v0 : Int} {v1 : Int} {v2 : Int} {C9 : Int → am_M → Prop} {m : am_M} (X : am_Cx F cX1_share RX1 none 4 9 K) (hp_v0 : am_ob v0 1) (hC9 : ∀ w2 m, C9 w2 m → am_Bt m → am_Z F 9 [] [(2, v0), (0, v1), (0, w2), (9, 0), (9, 0)] m 200) (hB : am_Bt m) (h : M_X1_share_L1B v0 v1 v2 C9 K m) : am_Z F 9 [] [(2, v0), (0, v1), (0, v2), (9, 0), (9, 0)] m 200 := by
  have G := X.G
  unfold M_X1_share_L1B at h
  refine z_iload_n (nx := 10) (a := 2) G rfl dX1_share_9 rfl (z_iload_n (nx := 11) (a := 1) G rfl dX1_share_10 rfl ?_)
  refine z_icmp_ge (nx := 14) (tgt := 92) G dX1_share_11 (by decide) rfl (fun c => ?_) (fun c => ?_)
  · have h := h.1 c
    exact b_return X hB dX1_share_92 h
  · have h := h.2 c
    refine z_iconst (nx := 15) (z := 0) G (R32c rfl) dX1_share_14 rfl (b_storeE_n (nx := 16) (a := 3) (loc2 := [(2, v0), (0, v1), (0, v2), (0, 0), (9, 0)]) G rfl (Nat.le_of_ble_eq_true rfl) (am_pl1 rfl (fun h => nomatch h)) dX1_share_15 rfl ?_)
    exact b_fewer (loc2 := [(2, v0), (0, v1), (0, v2), (0, 0), (9, 0)]) (am_lk (am_lk (am_lk (am_lk (am_lk am_ln))))) (S_X1_share_L2 X hp_v0 hC9 hB h)
theorem S_X1_share_L1 {F : am_F} {K : am_KK} {v0 : Int} {v1 : Int} {v2 : Int} {m : am_M} (X : am_Cx F cX1_share RX1 none 4 9 K) (hp_v0 : am_ob v0 1) (hB : am_Bt m) (h : M_X1_share_L1 v0 v1 v2 K m) : am_Z F 9 [] [(2, v0), (0, v1), (0, v2), (9, 0), (9, 0)] m 200 := by
  obtain ⟨I, ⟨j, hj⟩, hI⟩ := h
  have key : ∀ j v2 m, I j v2 m → am_Bt m → am_Z F 9 [] [(2, v0), (0, v1), (0, v2), (9, 0), (9, 0)] m 200 := by
    intro j
    induction j using Nat.strongRecOn with
    | ind j ih =>
      intro v2 m hj hB
      exact S_X1_share_L1B X hp_v0 (fun v2' m' hc hB' => by
        obtain ⟨j', g1, g2⟩ := hc
        exact ih j' g1 v2' m' g2 hB') hB (hI j v2 m hj)
  exact key j _ _ hj hB
set_option maxRecDepth 20000 in
set_option maxHeartbeats 4000000 in
theorem S_X1_share {F : am_F} {K : am_KK} {v0 : Int} {v1 : Int} {m : am_M} (X : am_Cx F cX1_share RX1 none 4 9 K) (hp_v0 : am_ob v0 1) (hB : am_Bt m) (h : M_X1_share v0 v1 K m) : am_Z F 0 [] [(2, v0), (0, v1), (9, 0), (9, 0), (9, 0)] m 200 := by
  have G := X.G
  unfold M_X1_share at h
  refine z_aload_n (nx := 1) (a := 0) G rfl (Or.inl rfl) dX1_share_0 rfl (b_getA (nx := 4) (k0 := 5) G hB fl_RX1_21 (Nat.le_of_ble_eq_true rfl) (Nat.le_of_ble_eq_true rfl) rfl hp_v0 dX1_share_1 rfl (z_iload_n (nx := 5) (a := 1) G rfl dX1_share_4 rfl (z_iconst (nx := 6) (z := (-1)) G (R32c rfl) dX1_share_5 rfl ?_)))
  obtain ⟨hb, h⟩ := h
  refine b_iast (nx := 7) G hB (sh_1_5 _ hp_v0) hb.1 hb.2 dX1_share_6 rfl (fun m_12 e_m_12 hB => ?_)
  have h := h m_12 e_m_12
  refine z_iconst (nx := 8) (z := 0) G (R32c rfl) dX1_share_7 rfl (b_storeE_n (nx := 9) (a := 2) (loc2 := [(2, v0), (0, v1), (0, 0), (9, 0), (9, 0)]) G rfl (Nat.le_of_ble_eq_true rfl) (am_pl1 rfl (fun h => nomatch h)) dX1_share_8 rfl ?_)
  exact b_fewer (loc2 := [(2, v0), (0, v1), (0, 0), (9, 0), (9, 0)]) (am_lk (am_lk (am_lk (am_lk (am_lk am_ln))))) (S_X1_share_L1 X hp_v0 hB h)
theorem NM_X1_share {v0 : Int} {v1 : Int} {K : am_KK} {m : am_M} (hp_v0 : am_ob v0 1) (h : M_X1_share v0 v1 K m) : N_X1_share [v0, v1] K m := ⟨hp_v0, h⟩
theorem SS_X1_share : am_Snd yX1_share cX1_share 5 none 0 4 (am_L [2, 0] 9 N_X1_share) := by
  refine am_SB (by decide +kernel) (Nat.le_of_ble_eq_true rfl) (fun F zs as K m X ht hB hM => ?_)
  obtain ⟨v0, zs, as, rfl, rfl, hz0, ht⟩ := am_inv ht
  obtain ⟨v1, zs, as, rfl, rfl, hz1, ht⟩ := am_inv ht
  obtain ⟨rfl, rfl⟩ := am_inv0 ht
  obtain ⟨hp_v0, hM⟩ := hM
  exact S_X1_share X hp_v0 hB hM
set_option maxRecDepth 20000 in
set_option maxHeartbeats 4000000 in
theorem S_X1_shortestLetter_L1B {F : am_F} {K : am_KK} {v0 : Int} {v1 : Int} {v2 : Int} {C9 : Int → Int → am_M → Prop} {m : am_M} (X : am_Cx F cX1_shortestLetter RX1 (some .int) 1 0 K) (hp_v0 : am_ob v0 1) (hC9 : ∀ w1 w2 m, C9 w1 w2 m → am_Bt m → am_Z F 9 [] [(2, v0), (0, w1), (0, w2)] m 200) (hB : am_Bt m) (h : M_X1_shortestLetter_L1B v0 v1 v2 C9 K m) : am_Z F 9 [] [(2, v0), (0, v1), (0, v2)] m 200 := by
  have G := X.G
  unfold M_X1_shortestLetter_L1B at h
  refine z_iload_n (nx := 10) (a := 2) G rfl dX1_shortestLetter_9 rfl (z_aload_n (nx := 11) (a := 0) G rfl (Or.inl rfl) dX1_shortestLetter_10 rfl (b_getI (nx := 14) (k0 := 3) (t := 0) G fl_RX1_67 (Nat.le_of_ble_eq_true rfl) (Nat.le_of_ble_eq_true rfl) rfl hp_v0 dX1_shortestLetter_11 rfl ?_))
  refine z_icmp_ge (nx := 17) (tgt := 43) G dX1_shortestLetter_14 (by decide) rfl (fun c => ?_) (fun c => ?_)
  · have h := h.1 c
    refine z_iload_n (nx := 44) (a := 1) G rfl dX1_shortestLetter_43 rfl ?_
    exact b_ireturn X hB dX1_shortestLetter_44 h
  · have h := h.2 c
    refine z_iload_n (nx := 18) (a := 2) G rfl dX1_shortestLetter_17 rfl (z_aload_n (nx := 19) (a := 0) G rfl (Or.inl rfl) dX1_shortestLetter_18 rfl (b_getA (nx := 22) (k0 := 2) G hB fl_RX1_15 (Nat.le_of_ble_eq_true rfl) (Nat.le_of_ble_eq_true rfl) rfl hp_v0 dX1_shortestLetter_19 rfl (b_alen (nx := 23) G (by decide) (by decide) (sh_1_2 _ hp_v0) dX1_shortestLetter_22 rfl ?_)))
    refine z_icmp_ge (nx := 26) (tgt := 43) G dX1_shortestLetter_23 (by decide) rfl (fun c => ?_) (fun c => ?_)
    · have h := h.1 c
      refine z_iload_n (nx := 44) (a := 1) G rfl dX1_shortestLetter_43 rfl ?_
      exact b_ireturn X hB dX1_shortestLetter_44 h
    · have h := h.2 c
      refine z_iload_n (nx := 27) (a := 1) G rfl dX1_shortestLetter_26 rfl (z_aload_n (nx := 28) (a := 0) G rfl (Or.inl rfl) dX1_shortestLetter_27 rfl (b_getA (nx := 31) (k0 := 2) G hB fl_RX1_15 (Nat.le_of_ble_eq_true rfl) (Nat.le_of_ble_eq_true rfl) rfl hp_v0 dX1_shortestLetter_28 rfl (z_iload_n (nx := 32) (a := 2) G rfl dX1_shortestLetter_31 rfl ?_)))
      obtain ⟨hb, h⟩ := h
      refine z_iald (nx := 33) G (sh_1_2 _ hp_v0) hb.1 hb.2 dX1_shortestLetter_32 rfl ?_
      refine b_mmin (nx := 36) X ml_RX1_92 (Nat.le_of_ble_eq_true rfl) dX1_shortestLetter_33 rfl ?_
      refine b_store_n (nx := 37) (a := 1) (loc2 := fun v1_1 => [(2, v0), (0, v1_1), (0, v2)]) G (fun _ => rfl) (Nat.le_of_ble_eq_true rfl) (am_pl1 rfl (fun h => nomatch h)) dX1_shortestLetter_36 rfl (fun v1_1 e_v1_1 => ?_)
      have h := h v1_1 e_v1_1
      refine b_iinc (nx := 40) (a := 2) (loc2 := fun v2_2 => [(2, v0), (0, v1_1), (0, v2_2)]) G (fun _ => rfl) rfl (am_pl1 rfl (fun h => nomatch h)) dX1_shortestLetter_37 rfl (fun v2_2 e_v2_2 => ?_)
      have h := h v2_2 e_v2_2
      refine z_goto (tgt := 9) G dX1_shortestLetter_40 (by decide) ?_
      exact b_fewer (loc2 := [(2, v0), (0, v1_1), (0, v2_2)]) (am_lk (am_lk (am_lk am_ln))) (hC9 _ _ _ h hB)
theorem S_X1_shortestLetter_L1 {F : am_F} {K : am_KK} {v0 : Int} {v1 : Int} {v2 : Int} {m : am_M} (X : am_Cx F cX1_shortestLetter RX1 (some .int) 1 0 K) (hp_v0 : am_ob v0 1) (hB : am_Bt m) (h : M_X1_shortestLetter_L1 v0 v1 v2 K m) : am_Z F 9 [] [(2, v0), (0, v1), (0, v2)] m 200 := by
  obtain ⟨I, ⟨j, hj⟩, hI⟩ := h
  have key : ∀ j v1 v2 m, I j v1 v2 m → am_Bt m → am_Z F 9 [] [(2, v0), (0, v1), (0, v2)] m 200 := by
    intro j
    induction j using Nat.strongRecOn with
    | ind j ih =>
      intro v1 v2 m hj hB
      exact S_X1_shortestLetter_L1B X hp_v0 (fun v1' v2' m' hc hB' => by
        obtain ⟨j', g1, g2⟩ := hc
        exact ih j' g1 v1' v2' m' g2 hB') hB (hI j v1 v2 m hj)
  exact key j _ _ _ hj hB
set_option maxRecDepth 20000 in
set_option maxHeartbeats 4000000 in
theorem S_X1_shortestLetter {F : am_F} {K : am_KK} {v0 : Int} {m : am_M} (X : am_Cx F cX1_shortestLetter RX1 (some .int) 1 0 K) (hp_v0 : am_ob v0 1) (hB : am_Bt m) (h : M_X1_shortestLetter v0 K m) : am_Z F 0 [] [(2, v0), (9, 0), (9, 0)] m 200 := by
  have G := X.G
  unfold M_X1_shortestLetter at h
  refine z_aload_n (nx := 1) (a := 0) G rfl (Or.inl rfl) dX1_shortestLetter_0 rfl (b_getA (nx := 4) (k0 := 2) G hB fl_RX1_15 (Nat.le_of_ble_eq_true rfl) (Nat.le_of_ble_eq_true rfl) rfl hp_v0 dX1_shortestLetter_1 rfl (z_iconst (nx := 5) (z := 0) G (R32c rfl) dX1_shortestLetter_4 rfl ?_))
  obtain ⟨hb, h⟩ := h
  refine z_iald (nx := 6) G (sh_1_2 _ hp_v0) hb.1 hb.2 dX1_shortestLetter_5 rfl ?_
  refine b_store_n (nx := 7) (a := 1) (loc2 := fun v1_3 => [(2, v0), (0, v1_3), (9, 0)]) G (fun _ => rfl) (Nat.le_of_ble_eq_true rfl) (am_pl1 rfl (fun h => nomatch h)) dX1_shortestLetter_6 rfl (fun v1_3 e_v1_3 => ?_)
  have h := h v1_3 e_v1_3
  refine z_iconst (nx := 8) (z := 1) G (R32c rfl) dX1_shortestLetter_7 rfl (b_storeE_n (nx := 9) (a := 2) (loc2 := [(2, v0), (0, v1_3), (0, 1)]) G rfl (Nat.le_of_ble_eq_true rfl) (am_pl1 rfl (fun h => nomatch h)) dX1_shortestLetter_8 rfl ?_)
  exact b_fewer (loc2 := [(2, v0), (0, v1_3), (0, 1)]) (am_lk (am_lk (am_lk am_ln))) (S_X1_shortestLetter_L1 X hp_v0 hB h)
theorem NM_X1_shortestLetter {v0 : Int} {K : am_KK} {m : am_M} (hp_v0 : am_ob v0 1) (h : M_X1_shortestLetter v0 K m) : N_X1_shortestLetter [v0] K m := ⟨hp_v0, h⟩
theorem SS_X1_shortestLetter : am_Snd yX1_shortestLetter cX1_shortestLetter 3 (some .int) 0 1 (am_L [2] 0 N_X1_shortestLetter) := by
  refine am_SB (by decide +kernel) (Nat.le_of_ble_eq_true rfl) (fun F zs as K m X ht hB hM => ?_)
  obtain ⟨v0, zs, as, rfl, rfl, hz0, ht⟩ := am_inv ht
  obtain ⟨rfl, rfl⟩ := am_inv0 ht
  obtain ⟨hp_v0, hM⟩ := hM
  exact S_X1_shortestLetter X hp_v0 hB hM
set_option maxRecDepth 20000 in
set_option maxHeartbeats 4000000 in
theorem S_X1_find_J2 {F : am_F} {K : am_KK} {v0 : Int} {m : am_M} (X : am_Cx F cX1_find RX1 (some .boolean) 5 5 K) (hp_v0 : am_ob v0 1) (hB : am_Bt m) (h : M_X1_find_J2 v0 K m) : am_Z F 80 [] [(2, v0), (9, 0), (9, 0), (9, 0)] m 200 := by
  have G := X.G
  unfold M_X1_find_J2 at h
  refine z_aload_n (nx := 81) (a := 0) G rfl (Or.inl rfl) dX1_find_80 rfl (b_getI (nx := 84) (k0 := 1) (t := 0) G fl_RX1_38 (Nat.le_of_ble_eq_true rfl) (Nat.le_of_ble_eq_true rfl) rfl hp_v0 dX1_find_81 rfl (z_iconst (nx := 85) (z := 1) G (R32c rfl) dX1_find_84 rfl ?_))
  refine z_icmp_ne (nx := 88) (tgt := 116) G dX1_find_85 (by decide) rfl (fun c => ?_) (fun c => ?_)
  · have h := h.1 c
    refine z_iconst (nx := 117) (z := 1) G (R32c rfl) dX1_find_116 rfl ?_
    exact b_zreturn X hB (Or.inr rfl) dX1_find_117 h
  · have h := h.2 c
    refine z_aload_n (nx := 89) (a := 0) G rfl (Or.inl rfl) dX1_find_88 rfl (b_getA (nx := 92) (k0 := 6) G hB fl_RX1_24 (Nat.le_of_ble_eq_true rfl) (Nat.le_of_ble_eq_true rfl) rfl hp_v0 dX1_find_89 rfl (z_bipush (nx := 94) (z := 6) G (R32c rfl) rfl dX1_find_92 rfl (z_aload_n (nx := 95) (a := 0) G rfl (Or.inl rfl) dX1_find_94 rfl ?_)))
    refine b_callV0 (nx := 98) (zs := [v0]) (as := []) X hB (by decide) rfl hp_v0 SS_X1_shortestLetter (am_ta am_tn) (Nat.le_of_ble_eq_true rfl) (Nat.le_of_ble_eq_true rfl) ml_RX1_59 iw_X1_shortestLetter vw_X1_shortestLetter cw_X1_shortestLetter nw_RX1 pp_X1_shortestLetter (Nat.le_of_ble_eq_true rfl) dX1_find_95 rfl (NM_X1_shortestLetter hp_v0 h) (fun r_1 m_2 h hB => ?_)
    obtain ⟨hb, h⟩ := h
    refine b_iast (nx := 99) G hB (sh_1_6 _ hp_v0) hb.1 hb.2 dX1_find_98 rfl (fun m_3 e_m_3 hB => ?_)
    have h := h m_3 e_m_3
    refine z_aload_n (nx := 100) (a := 0) G rfl (Or.inl rfl) dX1_find_99 rfl (b_getA (nx := 103) (k0 := 5) G hB fl_RX1_21 (Nat.le_of_ble_eq_true rfl) (Nat.le_of_ble_eq_true rfl) rfl hp_v0 dX1_find_100 rfl (z_iconst (nx := 104) (z := 1) G (R32c rfl) dX1_find_103 rfl (z_aload_n (nx := 105) (a := 0) G rfl (Or.inl rfl) dX1_find_104 rfl (b_getA (nx := 108) (k0 := 4) G hB fl_RX1_18 (Nat.le_of_ble_eq_true rfl) (Nat.le_of_ble_eq_true rfl) rfl hp_v0 dX1_find_105 rfl (z_iconst (nx := 109) (z := 1) G (R32c rfl) dX1_find_108 rfl ?_)))))
    obtain ⟨hb, h⟩ := h
    refine z_iald (nx := 110) G (sh_1_4 _ hp_v0) hb.1 hb.2 dX1_find_109 rfl ?_
    refine z_aload_n (nx := 111) (a := 0) G rfl (Or.inl rfl) dX1_find_110 rfl ?_
    refine b_callV0 (nx := 114) (zs := [v0]) (as := []) X hB (by decide) rfl hp_v0 SS_X1_shortestLetter (am_ta am_tn) (Nat.le_of_ble_eq_true rfl) (Nat.le_of_ble_eq_true rfl) ml_RX1_59 iw_X1_shortestLetter vw_X1_shortestLetter cw_X1_shortestLetter nw_RX1 pp_X1_shortestLetter (Nat.le_of_ble_eq_true rfl) dX1_find_111 rfl (NM_X1_shortestLetter hp_v0 h) (fun r_4 m_5 h hB => ?_)
    refine z_imul (nx := 115) G dX1_find_114 rfl ?_
    obtain ⟨hb, h⟩ := h
    refine b_iast (nx := 116) G hB (sh_1_5 _ hp_v0) hb.1 hb.2 dX1_find_115 rfl (fun m_6 e_m_6 hB => ?_)
    have h := h m_6 e_m_6
    refine z_iconst (nx := 117) (z := 1) G (R32c rfl) dX1_find_116 rfl ?_
    exact b_zreturn X hB (Or.inr rfl) dX1_find_117 h
set_option maxRecDepth 20000 in
set_option maxHeartbeats 4000000 in
theorem S_X1_find_J1 {F : am_F} {K : am_KK} {v0 : Int} {v1 : Int} {v3 : Int} {C21 : Int → am_M → Prop} {m : am_M} (X : am_Cx F cX1_find RX1 (some .boolean) 5 5 K) (hp_v0 : am_ob v0 1) (hp_v1 : am_ob v1 0) (hC21 : ∀ w3 m, C21 w3 m → am_Bt m → am_Z F 21 [] [(2, v0), (2, v1), (9, 0), (0, w3)] m 200) (hB : am_Bt m) (h : M_X1_find_J1 v0 v1 v3 C21 K m) : am_Z F 74 [] [(2, v0), (2, v1), (9, 0), (0, v3)] m 200 := by
  have G := X.G
  unfold M_X1_find_J1 at h
  refine b_iinc (nx := 77) (a := 3) (loc2 := fun v3_7 => [(2, v0), (2, v1), (9, 0), (0, v3_7)]) G (fun _ => rfl) rfl (am_pl1 rfl (fun h => nomatch h)) dX1_find_74 rfl (fun v3_7 e_v3_7 => ?_)
  have h := h v3_7 e_v3_7
  refine z_goto (tgt := 21) G dX1_find_77 (by decide) ?_
  exact b_fewer (loc2 := [(2, v0), (2, v1), (9, 0), (0, v3_7)]) (am_lk (am_lk (am_lk (am_lk am_ln)))) (hC21 _ _ h hB)
set_option maxRecDepth 20000 in
set_option maxHeartbeats 4000000 in
theorem S_X1_find_L1B {F : am_F} {K : am_KK} {v0 : Int} {v1 : Int} {v3 : Int} {C21 : Int → am_M → Prop} {m : am_M} (X : am_Cx F cX1_find RX1 (some .boolean) 5 5 K) (hp_v0 : am_ob v0 1) (hp_v1 : am_ob v1 0) (hC21 : ∀ w3 m, C21 w3 m → am_Bt m → am_Z F 21 [] [(2, v0), (2, v1), (9, 0), (0, w3)] m 200) (hB : am_Bt m) (h : M_X1_find_L1B v0 v1 v3 C21 K m) : am_Z F 21 [] [(2, v0), (2, v1), (9, 0), (0, v3)] m 200 := by
  have G := X.G
  unfold M_X1_find_L1B at h
  refine z_iload_n (nx := 22) (a := 3) G rfl dX1_find_21 rfl (z_iconst (nx := 23) (z := 1) G (R32c rfl) dX1_find_22 rfl (z_aload_n (nx := 24) (a := 0) G rfl (Or.inl rfl) dX1_find_23 rfl (b_getI (nx := 27) (k0 := 1) (t := 0) G fl_RX1_38 (Nat.le_of_ble_eq_true rfl) (Nat.le_of_ble_eq_true rfl) rfl hp_v0 dX1_find_24 rfl (z_ishl (nx := 28) G dX1_find_27 rfl ?_))))
  refine z_icmp_ge (nx := 31) (tgt := 80) G dX1_find_28 (by decide) rfl (fun c => ?_) (fun c => ?_)
  · have h := h.1 c
    exact b_fewer (loc2 := [(2, v0), (9, 0), (9, 0), (9, 0)]) (am_lk (am_lf (am_lk (am_lf am_ln)))) (S_X1_find_J2 X hp_v0 hB h)
  · have h := h.2 c
    refine z_iload_n (nx := 32) (a := 3) G rfl dX1_find_31 rfl (z_bipush (nx := 34) (z := 64) G (R32c rfl) rfl dX1_find_32 rfl ?_)
    refine z_icmp_ge (nx := 37) (tgt := 80) G dX1_find_34 (by decide) rfl (fun c => ?_) (fun c => ?_)
    · have h := h.1 c
      exact b_fewer (loc2 := [(2, v0), (9, 0), (9, 0), (9, 0)]) (am_lk (am_lf (am_lk (am_lf am_ln)))) (S_X1_find_J2 X hp_v0 hB h)
    · have h := h.2 c
      refine z_aload_n (nx := 38) (a := 0) G rfl (Or.inl rfl) dX1_find_37 rfl (b_getA (nx := 41) (k0 := 4) G hB fl_RX1_18 (Nat.le_of_ble_eq_true rfl) (Nat.le_of_ble_eq_true rfl) rfl hp_v0 dX1_find_38 rfl (z_iload_n (nx := 42) (a := 3) G rfl dX1_find_41 rfl (z_aload_n (nx := 43) (a := 0) G rfl (Or.inl rfl) dX1_find_42 rfl (z_aload_n (nx := 44) (a := 1) G rfl (Or.inl rfl) dX1_find_43 rfl (z_iload_n (nx := 45) (a := 3) G rfl dX1_find_44 rfl ?_)))))
      refine b_callV0 (nx := 48) (zs := [v0, v1, v3]) (as := [(2, v1), (0, v3)]) X hB (by decide) rfl hp_v0 SS_X1_weightOf (am_ta (am_ta (am_ti am_tn))) (Nat.le_of_ble_eq_true rfl) (Nat.le_of_ble_eq_true rfl) ml_RX1_42 iw_X1_weightOf vw_X1_weightOf cw_X1_weightOf nw_RX1 pp_X1_weightOf (Nat.le_of_ble_eq_true rfl) dX1_find_45 rfl (NM_X1_weightOf hp_v0 hp_v1 h) (fun r_8 m_9 h hB => ?_)
      obtain ⟨hb, h⟩ := h
      refine b_iast (nx := 49) G hB (sh_1_4 _ hp_v0) hb.1 hb.2 dX1_find_48 rfl (fun m_10 e_m_10 hB => ?_)
      have h := h m_10 e_m_10
      refine z_aload_n (nx := 50) (a := 0) G rfl (Or.inl rfl) dX1_find_49 rfl (b_getA (nx := 53) (k0 := 5) G hB fl_RX1_21 (Nat.le_of_ble_eq_true rfl) (Nat.le_of_ble_eq_true rfl) rfl hp_v0 dX1_find_50 rfl (z_iload_n (nx := 54) (a := 3) G rfl dX1_find_53 rfl (z_iconst (nx := 55) (z := 0) G (R32c rfl) dX1_find_54 rfl ?_)))
      obtain ⟨hb, h⟩ := h
      refine b_iast (nx := 56) G hB (sh_1_5 _ hp_v0) hb.1 hb.2 dX1_find_55 rfl (fun m_11 e_m_11 hB => ?_)
      have h := h m_11 e_m_11
      refine z_aload_n (nx := 57) (a := 0) G rfl (Or.inl rfl) dX1_find_56 rfl (z_iload_n (nx := 58) (a := 3) G rfl dX1_find_57 rfl ?_)
      refine b_callV9 (nx := 61) (zs := [v0, v3]) (as := [(0, v3)]) X hB (by decide) rfl hp_v0 SS_X1_clearLengths (am_ta (am_ti am_tn)) (Nat.le_of_ble_eq_true rfl) (Nat.le_of_ble_eq_true rfl) ml_RX1_46 iw_X1_clearLengths vw_X1_clearLengths cw_X1_clearLengths nw_RX1 pp_X1_clearLengths (Nat.le_of_ble_eq_true rfl) dX1_find_58 rfl (NM_X1_clearLengths hp_v0 h) (fun r_12 m_13 h hB => ?_)
      refine z_iload_n (nx := 62) (a := 3) G rfl dX1_find_61 rfl ?_
      refine b_callS0 (nx := 65) (zs := [v3]) (as := [(0, v3)]) X hB SS_J6_bitCount_0f7a4 (am_ti am_tn) (Nat.le_of_ble_eq_true rfl) (Nat.le_of_ble_eq_true rfl) ml_RX1_50 sw_J6_bitCount_0f7a4 (am_plJ) cw_J6_bitCount_0f7a4 nw_RJ6 pp_J6_bitCount_0f7a4 (Nat.le_of_ble_eq_true rfl) dX1_find_62 rfl (NM_J6_bitCount_0f7a4 h) (fun r_14 m_15 h hB => ?_)
      refine z_iconst (nx := 66) (z := 1) G (R32c rfl) dX1_find_65 rfl ?_
      refine z_icmp_le (nx := 69) (tgt := 74) G dX1_find_66 (by decide) rfl (fun c => ?_) (fun c => ?_)
      · have h := h.1 c
        exact b_fewer (loc2 := [(2, v0), (2, v1), (9, 0), (0, v3)]) (am_lk (am_lk (am_lk (am_lk am_ln)))) (S_X1_find_J1 X hp_v0 hp_v1 hC21 hB h)
      · have h := h.2 c
        refine z_aload_n (nx := 70) (a := 0) G rfl (Or.inl rfl) dX1_find_69 rfl (z_iload_n (nx := 71) (a := 3) G rfl dX1_find_70 rfl ?_)
        refine b_callV9 (nx := 74) (zs := [v0, v3]) (as := [(0, v3)]) X hB (by decide) rfl hp_v0 SS_X1_share (am_ta (am_ti am_tn)) (Nat.le_of_ble_eq_true rfl) (Nat.le_of_ble_eq_true rfl) ml_RX1_56 iw_X1_share vw_X1_share cw_X1_share nw_RX1 pp_X1_share (Nat.le_of_ble_eq_true rfl) dX1_find_71 rfl (NM_X1_share hp_v0 h) (fun r_16 m_17 h hB => ?_)
        exact b_fewer (loc2 := [(2, v0), (2, v1), (9, 0), (0, v3)]) (am_lk (am_lk (am_lk (am_lk am_ln)))) (S_X1_find_J1 X hp_v0 hp_v1 hC21 hB h)
theorem S_X1_find_L1 {F : am_F} {K : am_KK} {v0 : Int} {v1 : Int} {v3 : Int} {m : am_M} (X : am_Cx F cX1_find RX1 (some .boolean) 5 5 K) (hp_v0 : am_ob v0 1) (hp_v1 : am_ob v1 0) (hB : am_Bt m) (h : M_X1_find_L1 v0 v1 v3 K m) : am_Z F 21 [] [(2, v0), (2, v1), (9, 0), (0, v3)] m 200 := by
  obtain ⟨I, ⟨j, hj⟩, hI⟩ := h
  have key : ∀ j v3 m, I j v3 m → am_Bt m → am_Z F 21 [] [(2, v0), (2, v1), (9, 0), (0, v3)] m 200 := by
    intro j
    induction j using Nat.strongRecOn with
    | ind j ih =>
      intro v3 m hj hB
      exact S_X1_find_L1B X hp_v0 hp_v1 (fun v3' m' hc hB' => by
        obtain ⟨j', g1, g2⟩ := hc
        exact ih j' g1 v3' m' g2 hB') hB (hI j v3 m hj)
  exact key j _ _ hj hB
set_option maxRecDepth 20000 in
set_option maxHeartbeats 4000000 in
theorem S_X1_find {F : am_F} {K : am_KK} {v0 : Int} {v1 : Int} {v2 : Int} {m : am_M} (X : am_Cx F cX1_find RX1 (some .boolean) 5 5 K) (hp_v0 : am_ob v0 1) (hp_v1 : am_ob v1 0) (hB : am_Bt m) (h : M_X1_find v0 v1 v2 K m) : am_Z F 0 [] [(2, v0), (2, v1), (0, v2), (9, 0)] m 200 := by
  have G := X.G
  unfold M_X1_find at h
  refine z_aload_n (nx := 1) (a := 0) G rfl (Or.inl rfl) dX1_find_0 rfl (z_aload_n (nx := 2) (a := 1) G rfl (Or.inl rfl) dX1_find_1 rfl (z_iload_n (nx := 3) (a := 2) G rfl dX1_find_2 rfl ?_))
  refine b_callV5 (nx := 6) (zs := [v0, v1, v2]) (as := [(2, v1), (0, v2)]) X hB (by decide) rfl hp_v0 SS_X1_takeLetters (am_ta (am_ta (am_ti am_tn))) (Nat.le_of_ble_eq_true rfl) (Nat.le_of_ble_eq_true rfl) ml_RX1_30 iw_X1_takeLetters vw_X1_takeLetters cw_X1_takeLetters nw_RX1 pp_X1_takeLetters (Nat.le_of_ble_eq_true rfl) dX1_find_3 rfl (NM_X1_takeLetters hp_v0 hp_v1 h) (fun r_18 m_19 h h01_20 hB => ?_)
  refine z_if_eq (nx := 9) (tgt := 17) G dX1_find_6 (by decide) rfl (fun c => ?_) (fun c => ?_)
  · have h := h.1 c
    refine z_iconst (nx := 18) (z := 0) G (R32c rfl) dX1_find_17 rfl ?_
    exact b_zreturn X hB (Or.inl rfl) dX1_find_18 h
  · have h := h.2 c
    refine z_aload_n (nx := 10) (a := 0) G rfl (Or.inl rfl) dX1_find_9 rfl (z_aload_n (nx := 11) (a := 1) G rfl (Or.inl rfl) dX1_find_10 rfl ?_)
    refine b_callV5 (nx := 14) (zs := [v0, v1]) (as := [(2, v1)]) X hB (by decide) rfl hp_v0 SS_X1_takeAsked (am_ta (am_ta am_tn)) (Nat.le_of_ble_eq_true rfl) (Nat.le_of_ble_eq_true rfl) ml_RX1_34 iw_X1_takeAsked vw_X1_takeAsked cw_X1_takeAsked nw_RX1 pp_X1_takeAsked (Nat.le_of_ble_eq_true rfl) dX1_find_11 rfl (NM_X1_takeAsked hp_v0 hp_v1 h) (fun r_21 m_22 h h01_23 hB => ?_)
    refine z_if_ne (nx := 17) (tgt := 19) G dX1_find_14 (by decide) rfl (fun c => ?_) (fun c => ?_)
    · have h := h.1 c
      refine z_iconst (nx := 20) (z := 0) G (R32c rfl) dX1_find_19 rfl (b_storeE_n (nx := 21) (a := 3) (loc2 := [(2, v0), (2, v1), (0, v2), (0, 0)]) G rfl (Nat.le_of_ble_eq_true rfl) (am_pl1 rfl (fun h => nomatch h)) dX1_find_20 rfl ?_)
      exact b_fewer (loc2 := [(2, v0), (2, v1), (9, 0), (0, 0)]) (am_lk (am_lk (am_lf (am_lk am_ln)))) (S_X1_find_L1 X hp_v0 hp_v1 hB h)
    · have h := h.2 c
      refine z_iconst (nx := 18) (z := 0) G (R32c rfl) dX1_find_17 rfl ?_
      exact b_zreturn X hB (Or.inl rfl) dX1_find_18 h
theorem NM_X1_find {v0 : Int} {v1 : Int} {v2 : Int} {K : am_KK} {m : am_M} (hp_v0 : am_ob v0 1) (hp_v1 : am_ob v1 0) (h : M_X1_find v0 v1 v2 K m) : N_X1_find [v0, v1, v2] K m := ⟨hp_v0, hp_v1, h⟩
theorem SS_X1_find : am_Snd yX1_find cX1_find 4 (some .boolean) 0 5 (am_L [2, 2, 0] 5 N_X1_find) := by
  refine am_SB (by decide +kernel) (Nat.le_of_ble_eq_true rfl) (fun F zs as K m X ht hB hM => ?_)
  obtain ⟨v0, zs, as, rfl, rfl, hz0, ht⟩ := am_inv ht
  obtain ⟨v1, zs, as, rfl, rfl, hz1, ht⟩ := am_inv ht
  obtain ⟨v2, zs, as, rfl, rfl, hz2, ht⟩ := am_inv ht
  obtain ⟨rfl, rfl⟩ := am_inv0 ht
  obtain ⟨hp_v0, hp_v1, hM⟩ := hM
  exact S_X1_find X hp_v0 hp_v1 hB hM
set_option maxRecDepth 20000 in
set_option maxHeartbeats 4000000 in
theorem S_X1_total {F : am_F} {K : am_KK} {v0 : Int} {m : am_M} (X : am_Cx F cX1_total RX1 (some .int) 2 0 K) (hp_v0 : am_ob v0 1) (hB : am_Bt m) (h : M_X1_total v0 K m) : am_Z F 0 [] [(2, v0)] m 200 := by
  have G := X.G
  unfold M_X1_total at h
  refine z_aload_n (nx := 1) (a := 0) G rfl (Or.inl rfl) dX1_total_0 rfl (b_getI (nx := 4) (k0 := 1) (t := 0) G fl_RX1_38 (Nat.le_of_ble_eq_true rfl) (Nat.le_of_ble_eq_true rfl) rfl hp_v0 dX1_total_1 rfl (z_iconst (nx := 5) (z := 0) G (R32c rfl) dX1_total_4 rfl (z_bipush (nx := 7) (z := 6) G (R32c rfl) rfl dX1_total_5 rfl ?_)))
  refine b_callSN5 (nx := 10) (zs := [m v0 1, 0, 6]) (as := [(0, m v0 1), (0, 0), (0, 6)]) X hB SS_X11_within (am_ti (am_ti (am_ti am_tn))) (Nat.le_of_ble_eq_true rfl) (Nat.le_of_ble_eq_true rfl) mn_RX1_63 sw_X11_within (am_plainC 11 (by decide)) cw_X11_within nw_RX11 pp_X11_within (Nat.le_of_ble_eq_true rfl) dX1_total_7 rfl (NM_X11_within h) (fun r_1 m_2 h h01_3 hB => ?_)
  refine z_if_eq (nx := 13) (tgt := 29) G dX1_total_10 (by decide) rfl (fun c => ?_) (fun c => ?_)
  · have h := h.1 c
    refine z_iconst (nx := 30) (z := (-1)) G (R32c rfl) dX1_total_29 rfl ?_
    exact b_ireturn X hB dX1_total_30 h
  · have h := h.2 c
    refine z_aload_n (nx := 14) (a := 0) G rfl (Or.inl rfl) dX1_total_13 rfl (b_getA (nx := 17) (k0 := 5) G hB fl_RX1_21 (Nat.le_of_ble_eq_true rfl) (Nat.le_of_ble_eq_true rfl) rfl hp_v0 dX1_total_14 rfl (z_iconst (nx := 18) (z := 1) G (R32c rfl) dX1_total_17 rfl (z_aload_n (nx := 19) (a := 0) G rfl (Or.inl rfl) dX1_total_18 rfl (b_getI (nx := 22) (k0 := 1) (t := 0) G fl_RX1_38 (Nat.le_of_ble_eq_true rfl) (Nat.le_of_ble_eq_true rfl) rfl hp_v0 dX1_total_19 rfl (z_ishl (nx := 23) G dX1_total_22 rfl (z_iconst (nx := 24) (z := 1) G (R32c rfl) dX1_total_23 rfl (z_isub (nx := 25) G dX1_total_24 rfl ?_)))))))
    obtain ⟨hb, h⟩ := h
    refine z_iald (nx := 26) G (sh_1_5 _ hp_v0) hb.1 hb.2 dX1_total_25 rfl ?_
    refine z_goto (tgt := 30) G dX1_total_26 (by decide) ?_
    exact b_ireturn X hB dX1_total_30 h
theorem NM_X1_total {v0 : Int} {K : am_KK} {m : am_M} (hp_v0 : am_ob v0 1) (h : M_X1_total v0 K m) : N_X1_total [v0] K m := ⟨hp_v0, h⟩
theorem SS_X1_total : am_Snd yX1_total cX1_total 1 (some .int) 0 2 (am_L [2] 0 N_X1_total) := by
  refine am_SB (by decide +kernel) (Nat.le_of_ble_eq_true rfl) (fun F zs as K m X ht hB hM => ?_)
  obtain ⟨v0, zs, as, rfl, rfl, hz0, ht⟩ := am_inv ht
  obtain ⟨rfl, rfl⟩ := am_inv0 ht
  obtain ⟨hp_v0, hM⟩ := hM
  exact S_X1_total X hp_v0 hB hM
set_option maxRecDepth 20000 in
set_option maxHeartbeats 4000000 in
theorem S_X1_lengthFor_L1B {F : am_F} {K : am_KK} {v0 : Int} {v1 : Int} {v2 : Int} {C2 : Int → am_M → Prop} {m : am_M} (X : am_Cx F cX1_lengthFor RX1 (some .int) 1 0 K) (hp_v0 : am_ob v0 1) (hC2 : ∀ w2 m, C2 w2 m → am_Bt m → am_Z F 2 [] [(2, v0), (0, v1), (0, w2)] m 200) (hB : am_Bt m) (h : M_X1_lengthFor_L1B v0 v1 v2 C2 K m) : am_Z F 2 [] [(2, v0), (0, v1), (0, v2)] m 200 := by
  have G := X.G
  unfold M_X1_lengthFor_L1B at h
  refine z_iload_n (nx := 3) (a := 2) G rfl dX1_lengthFor_2 rfl (z_aload_n (nx := 4) (a := 0) G rfl (Or.inl rfl) dX1_lengthFor_3 rfl (b_getI (nx := 7) (k0 := 1) (t := 0) G fl_RX1_38 (Nat.le_of_ble_eq_true rfl) (Nat.le_of_ble_eq_true rfl) rfl hp_v0 dX1_lengthFor_4 rfl ?_))
  refine z_icmp_ge (nx := 10) (tgt := 54) G dX1_lengthFor_7 (by decide) rfl (fun c => ?_) (fun c => ?_)
  · have h := h.1 c
    refine z_iconst (nx := 55) (z := (-1)) G (R32c rfl) dX1_lengthFor_54 rfl ?_
    exact b_ireturn X hB dX1_lengthFor_55 h
  · have h := h.2 c
    refine z_aload_n (nx := 11) (a := 0) G rfl (Or.inl rfl) dX1_lengthFor_10 rfl (b_getI (nx := 14) (k0 := 1) (t := 0) G fl_RX1_38 (Nat.le_of_ble_eq_true rfl) (Nat.le_of_ble_eq_true rfl) rfl hp_v0 dX1_lengthFor_11 rfl (z_bipush (nx := 16) (z := 6) G (R32c rfl) rfl dX1_lengthFor_14 rfl ?_))
    refine z_icmp_gt (nx := 19) (tgt := 54) G dX1_lengthFor_16 (by decide) rfl (fun c => ?_) (fun c => ?_)
    · have h := h.1 c
      refine z_iconst (nx := 55) (z := (-1)) G (R32c rfl) dX1_lengthFor_54 rfl ?_
      exact b_ireturn X hB dX1_lengthFor_55 h
    · have h := h.2 c
      refine z_aload_n (nx := 20) (a := 0) G rfl (Or.inl rfl) dX1_lengthFor_19 rfl (b_getA (nx := 23) (k0 := 0) G hB fl_RX1_11 (Nat.le_of_ble_eq_true rfl) (Nat.le_of_ble_eq_true rfl) rfl hp_v0 dX1_lengthFor_20 rfl (z_iload_n (nx := 24) (a := 2) G rfl dX1_lengthFor_23 rfl ?_))
      obtain ⟨hb, h⟩ := h
      refine z_iald (nx := 25) G (sh_1_0 _ hp_v0) hb.1 hb.2 dX1_lengthFor_24 rfl ?_
      refine z_iload_n (nx := 26) (a := 1) G rfl dX1_lengthFor_25 rfl ?_
      refine z_icmp_ne (nx := 29) (tgt := 48) G dX1_lengthFor_26 (by decide) rfl (fun c => ?_) (fun c => ?_)
      · have h := h.1 c
        refine b_iinc (nx := 51) (a := 2) (loc2 := fun v2_1 => [(2, v0), (0, v1), (0, v2_1)]) G (fun _ => rfl) rfl (am_pl1 rfl (fun h => nomatch h)) dX1_lengthFor_48 rfl (fun v2_1 e_v2_1 => ?_)
        have h := h v2_1 e_v2_1
        refine z_goto (tgt := 2) G dX1_lengthFor_51 (by decide) ?_
        exact b_fewer (loc2 := [(2, v0), (0, v1), (0, v2_1)]) (am_lk (am_lk (am_lk am_ln))) (hC2 _ _ h hB)
      · have h := h.2 c
        refine z_aload_n (nx := 30) (a := 0) G rfl (Or.inl rfl) dX1_lengthFor_29 rfl (b_getA (nx := 33) (k0 := 6) G hB fl_RX1_24 (Nat.le_of_ble_eq_true rfl) (Nat.le_of_ble_eq_true rfl) rfl hp_v0 dX1_lengthFor_30 rfl (z_iconst (nx := 34) (z := 1) G (R32c rfl) dX1_lengthFor_33 rfl (z_aload_n (nx := 35) (a := 0) G rfl (Or.inl rfl) dX1_lengthFor_34 rfl (b_getI (nx := 38) (k0 := 1) (t := 0) G fl_RX1_38 (Nat.le_of_ble_eq_true rfl) (Nat.le_of_ble_eq_true rfl) rfl hp_v0 dX1_lengthFor_35 rfl (z_ishl (nx := 39) G dX1_lengthFor_38 rfl (z_iconst (nx := 40) (z := 1) G (R32c rfl) dX1_lengthFor_39 rfl (z_isub (nx := 41) G dX1_lengthFor_40 rfl (z_bipush (nx := 43) (z := 6) G (R32c rfl) rfl dX1_lengthFor_41 rfl (z_imul (nx := 44) G dX1_lengthFor_43 rfl (z_iload_n (nx := 45) (a := 2) G rfl dX1_lengthFor_44 rfl (z_iadd (nx := 46) G dX1_lengthFor_45 rfl ?_)))))))))))
        obtain ⟨hb, h⟩ := h
        refine z_iald (nx := 47) G (sh_1_6 _ hp_v0) hb.1 hb.2 dX1_lengthFor_46 rfl ?_
        exact b_ireturn X hB dX1_lengthFor_47 h
theorem S_X1_lengthFor_L1 {F : am_F} {K : am_KK} {v0 : Int} {v1 : Int} {v2 : Int} {m : am_M} (X : am_Cx F cX1_lengthFor RX1 (some .int) 1 0 K) (hp_v0 : am_ob v0 1) (hB : am_Bt m) (h : M_X1_lengthFor_L1 v0 v1 v2 K m) : am_Z F 2 [] [(2, v0), (0, v1), (0, v2)] m 200 := by
  obtain ⟨I, ⟨j, hj⟩, hI⟩ := h
  have key : ∀ j v2 m, I j v2 m → am_Bt m → am_Z F 2 [] [(2, v0), (0, v1), (0, v2)] m 200 := by
    intro j
    induction j using Nat.strongRecOn with
    | ind j ih =>
      intro v2 m hj hB
      exact S_X1_lengthFor_L1B X hp_v0 (fun v2' m' hc hB' => by
        obtain ⟨j', g1, g2⟩ := hc
        exact ih j' g1 v2' m' g2 hB') hB (hI j v2 m hj)
  exact key j _ _ hj hB
set_option maxRecDepth 20000 in
set_option maxHeartbeats 4000000 in
theorem S_X1_lengthFor {F : am_F} {K : am_KK} {v0 : Int} {v1 : Int} {m : am_M} (X : am_Cx F cX1_lengthFor RX1 (some .int) 1 0 K) (hp_v0 : am_ob v0 1) (hB : am_Bt m) (h : M_X1_lengthFor v0 v1 K m) : am_Z F 0 [] [(2, v0), (0, v1), (9, 0)] m 200 := by
  have G := X.G
  unfold M_X1_lengthFor at h
  refine z_iconst (nx := 1) (z := 0) G (R32c rfl) dX1_lengthFor_0 rfl (b_storeE_n (nx := 2) (a := 2) (loc2 := [(2, v0), (0, v1), (0, 0)]) G rfl (Nat.le_of_ble_eq_true rfl) (am_pl1 rfl (fun h => nomatch h)) dX1_lengthFor_1 rfl ?_)
  exact b_fewer (loc2 := [(2, v0), (0, v1), (0, 0)]) (am_lk (am_lk (am_lk am_ln))) (S_X1_lengthFor_L1 X hp_v0 hB h)
theorem NM_X1_lengthFor {v0 : Int} {v1 : Int} {K : am_KK} {m : am_M} (hp_v0 : am_ob v0 1) (h : M_X1_lengthFor v0 v1 K m) : N_X1_lengthFor [v0, v1] K m := ⟨hp_v0, h⟩
theorem SS_X1_lengthFor : am_Snd yX1_lengthFor cX1_lengthFor 3 (some .int) 0 1 (am_L [2, 0] 0 N_X1_lengthFor) := by
  refine am_SB (by decide +kernel) (Nat.le_of_ble_eq_true rfl) (fun F zs as K m X ht hB hM => ?_)
  obtain ⟨v0, zs, as, rfl, rfl, hz0, ht⟩ := am_inv ht
  obtain ⟨v1, zs, as, rfl, rfl, hz1, ht⟩ := am_inv ht
  obtain ⟨rfl, rfl⟩ := am_inv0 ht
  obtain ⟨hp_v0, hM⟩ := hM
  exact S_X1_lengthFor X hp_v0 hB hM
set_option maxRecDepth 20000 in
set_option maxHeartbeats 4000000 in
theorem S_X9_waits {F : am_F} {K : am_KK} {v0 : Int} {v1 : Int} {m : am_M} (X : am_Cx F cX9_waits RX9 (some .boolean) 2 5 K) (hp_v0 : am_ob v0 9) (hB : am_Bt m) (h : M_X9_waits v0 v1 K m) : am_Z F 0 [] [(2, v0), (0, v1)] m 200 := by
  have G := X.G
  unfold M_X9_waits at h
  refine z_aload_n (nx := 1) (a := 0) G rfl (Or.inl rfl) dX9_waits_0 rfl (b_getA (nx := 4) (k0 := 0) G hB fl_RX9_16 (Nat.le_of_ble_eq_true rfl) (Nat.le_of_ble_eq_true rfl) rfl hp_v0 dX9_waits_1 rfl (z_iload_n (nx := 5) (a := 1) G rfl dX9_waits_4 rfl (z_iconst (nx := 6) (z := 5) G (R32c rfl) dX9_waits_5 rfl ?_)))
  refine b_callV0 (nx := 9) (zs := [am_rfv v0 0, v1, 5]) (as := [(0, v1), (0, 5)]) X hB (by decide) rfl (sh_9_0 _ hp_v0) SS_X7_get (am_ta (am_ti (am_ti am_tn))) (Nat.le_of_ble_eq_true rfl) (Nat.le_of_ble_eq_true rfl) ml_RX9_20 iw_X7_get vw_X7_get cw_X7_get nw_RX7 pp_X7_get (Nat.le_of_ble_eq_true rfl) dX9_waits_6 rfl (NM_X7_get (sh_9_0 _ hp_v0) h) (fun r_1 m_2 h hB => ?_)
  refine z_if_ne (nx := 12) (tgt := 16) G dX9_waits_9 (by decide) rfl (fun c => ?_) (fun c => ?_)
  · have h := h.1 c
    refine z_iconst (nx := 17) (z := 0) G (R32c rfl) dX9_waits_16 rfl ?_
    exact b_zreturn X hB (Or.inl rfl) dX9_waits_17 h
  · have h := h.2 c
    refine z_iconst (nx := 13) (z := 1) G (R32c rfl) dX9_waits_12 rfl (z_goto (tgt := 17) G dX9_waits_13 (by decide) ?_)
    exact b_zreturn X hB (Or.inr rfl) dX9_waits_17 h
theorem NM_X9_waits {v0 : Int} {v1 : Int} {K : am_KK} {m : am_M} (hp_v0 : am_ob v0 9) (h : M_X9_waits v0 v1 K m) : N_X9_waits [v0, v1] K m := ⟨hp_v0, h⟩
theorem SS_X9_waits : am_Snd yX9_waits cX9_waits 2 (some .boolean) 0 2 (am_L [2, 0] 5 N_X9_waits) := by
  refine am_SB (by decide +kernel) (Nat.le_of_ble_eq_true rfl) (fun F zs as K m X ht hB hM => ?_)
  obtain ⟨v0, zs, as, rfl, rfl, hz0, ht⟩ := am_inv ht
  obtain ⟨v1, zs, as, rfl, rfl, hz1, ht⟩ := am_inv ht
  obtain ⟨rfl, rfl⟩ := am_inv0 ht
  obtain ⟨hp_v0, hM⟩ := hM
  exact S_X9_waits X hp_v0 hB hM
set_option maxRecDepth 20000 in
set_option maxHeartbeats 4000000 in
theorem S_X2_isForeseen {F : am_F} {K : am_KK} {v0 : Int} {v1 : Int} {m : am_M} (X : am_Cx F cX2_isForeseen RX2 (some .boolean) 2 5 K) (hB : am_Bt m) (h : M_X2_isForeseen v0 v1 K m) : am_Z F 0 [] [(0, v0), (0, v1)] m 200 := by
  have G := X.G
  unfold M_X2_isForeseen at h
  refine z_iload_n (nx := 1) (a := 0) G rfl dX2_isForeseen_0 rfl (z_iconst (nx := 2) (z := 0) G (R32c rfl) dX2_isForeseen_1 rfl (z_bipush (nx := 4) (z := 23) G (R32c rfl) rfl dX2_isForeseen_2 rfl ?_))
  refine b_callSN5 (nx := 7) (zs := [v0, 0, 23]) (as := [(0, v0), (0, 0), (0, 23)]) X hB SS_X11_within (am_ti (am_ti (am_ti am_tn))) (Nat.le_of_ble_eq_true rfl) (Nat.le_of_ble_eq_true rfl) mn_RX2_61 sw_X11_within (am_plainC 11 (by decide)) cw_X11_within nw_RX11 pp_X11_within (Nat.le_of_ble_eq_true rfl) dX2_isForeseen_4 rfl (NM_X11_within h) (fun r_1 m_2 h h01_3 hB => ?_)
  refine z_if_eq (nx := 10) (tgt := 24) G dX2_isForeseen_7 (by decide) rfl (fun c => ?_) (fun c => ?_)
  · have h := h.1 c
    refine z_iconst (nx := 25) (z := 0) G (R32c rfl) dX2_isForeseen_24 rfl ?_
    exact b_zreturn X hB (Or.inl rfl) dX2_isForeseen_25 h
  · have h := h.2 c
    refine z_iload_n (nx := 11) (a := 1) G rfl dX2_isForeseen_10 rfl (z_iconst (nx := 12) (z := 0) G (R32c rfl) dX2_isForeseen_11 rfl (z_bipush (nx := 14) (z := 20) G (R32c rfl) rfl dX2_isForeseen_12 rfl ?_))
    refine b_callSN5 (nx := 17) (zs := [v1, 0, 20]) (as := [(0, v1), (0, 0), (0, 20)]) X hB SS_X11_within (am_ti (am_ti (am_ti am_tn))) (Nat.le_of_ble_eq_true rfl) (Nat.le_of_ble_eq_true rfl) mn_RX2_61 sw_X11_within (am_plainC 11 (by decide)) cw_X11_within nw_RX11 pp_X11_within (Nat.le_of_ble_eq_true rfl) dX2_isForeseen_14 rfl (NM_X11_within h) (fun r_4 m_5 h h01_6 hB => ?_)
    refine z_if_eq (nx := 20) (tgt := 24) G dX2_isForeseen_17 (by decide) rfl (fun c => ?_) (fun c => ?_)
    · have h := h.1 c
      refine z_iconst (nx := 25) (z := 0) G (R32c rfl) dX2_isForeseen_24 rfl ?_
      exact b_zreturn X hB (Or.inl rfl) dX2_isForeseen_25 h
    · have h := h.2 c
      refine z_iconst (nx := 21) (z := 1) G (R32c rfl) dX2_isForeseen_20 rfl (z_goto (tgt := 25) G dX2_isForeseen_21 (by decide) ?_)
      exact b_zreturn X hB (Or.inr rfl) dX2_isForeseen_25 h
theorem NM_X2_isForeseen {v0 : Int} {v1 : Int} {K : am_KK} {m : am_M} (h : M_X2_isForeseen v0 v1 K m) : N_X2_isForeseen [v0, v1] K m := h
theorem SS_X2_isForeseen : am_Snd yX2_isForeseen cX2_isForeseen 2 (some .boolean) 0 2 (am_L [0, 0] 5 N_X2_isForeseen) := by
  refine am_SB (by decide +kernel) (Nat.le_of_ble_eq_true rfl) (fun F zs as K m X ht hB hM => ?_)
  obtain ⟨v0, zs, as, rfl, rfl, hz0, ht⟩ := am_inv ht
  obtain ⟨v1, zs, as, rfl, rfl, hz1, ht⟩ := am_inv ht
  obtain ⟨rfl, rfl⟩ := am_inv0 ht
  exact S_X2_isForeseen X hB hM
set_option maxRecDepth 20000 in
set_option maxHeartbeats 4000000 in
theorem S_X3_look {F : am_F} {K : am_KK} {v0 : Int} {v1 : Int} {v2 : Int} {v3 : Int} {v4 : Int} {m : am_M} (X : am_Cx F cX3_look RX3 none 2 9 K) (hp_v0 : am_ob v0 3) (hp_v1 : am_ob v1 0) (hp_v2 : am_ob v2 9) (hB : am_Bt m) (h : M_X3_look v0 v1 v2 v3 v4 K m) : am_Z F 0 [] [(2, v0), (2, v1), (2, v2), (0, v3), (0, v4)] m 200 := by
  have G := X.G
  unfold M_X3_look at h
  refine z_aload_n (nx := 1) (a := 0) G rfl (Or.inl rfl) dX3_look_0 rfl (b_getA (nx := 4) (k0 := 0) G hB fl_RX3_9 (Nat.le_of_ble_eq_true rfl) (Nat.le_of_ble_eq_true rfl) rfl hp_v0 dX3_look_1 rfl (z_iconst (nx := 5) (z := 0) G (R32c rfl) dX3_look_4 rfl (z_aload_n (nx := 6) (a := 2) G rfl (Or.inl rfl) dX3_look_5 rfl (b_getA (nx := 9) (k0 := 0) G hB fl_RX3_22 (Nat.le_of_ble_eq_true rfl) (Nat.le_of_ble_eq_true rfl) rfl hp_v2 dX3_look_6 rfl (z_iload_n (nx := 10) (a := 3) G rfl dX3_look_9 rfl (z_iconst (nx := 11) (z := 2) G (R32c rfl) dX3_look_10 rfl ?_))))))
  refine b_callV0 (nx := 14) (zs := [am_rfv v2 0, v3, 2]) (as := [(0, v3), (0, 2)]) X hB (by decide) rfl (sh_9_0 _ hp_v2) SS_X7_get (am_ta (am_ti (am_ti am_tn))) (Nat.le_of_ble_eq_true rfl) (Nat.le_of_ble_eq_true rfl) ml_RX3_28 iw_X7_get vw_X7_get cw_X7_get nw_RX7 pp_X7_get (Nat.le_of_ble_eq_true rfl) dX3_look_11 rfl (NM_X7_get (sh_9_0 _ hp_v2) h) (fun r_1 m_2 h hB => ?_)
  obtain ⟨hb, h⟩ := h
  refine b_iast (nx := 15) G hB (sh_3_0 _ hp_v0) hb.1 hb.2 dX3_look_14 rfl (fun m_3 e_m_3 hB => ?_)
  have h := h m_3 e_m_3
  refine z_aload_n (nx := 16) (a := 0) G rfl (Or.inl rfl) dX3_look_15 rfl (b_getA (nx := 19) (k0 := 0) G hB fl_RX3_9 (Nat.le_of_ble_eq_true rfl) (Nat.le_of_ble_eq_true rfl) rfl hp_v0 dX3_look_16 rfl (z_iconst (nx := 20) (z := 1) G (R32c rfl) dX3_look_19 rfl (z_aload_n (nx := 21) (a := 2) G rfl (Or.inl rfl) dX3_look_20 rfl (b_getA (nx := 24) (k0 := 0) G hB fl_RX3_22 (Nat.le_of_ble_eq_true rfl) (Nat.le_of_ble_eq_true rfl) rfl hp_v2 dX3_look_21 rfl (z_iload_n (nx := 25) (a := 3) G rfl dX3_look_24 rfl (z_iconst (nx := 26) (z := 3) G (R32c rfl) dX3_look_25 rfl ?_))))))
  refine b_callV0 (nx := 29) (zs := [am_rfv v2 0, v3, 3]) (as := [(0, v3), (0, 3)]) X hB (by decide) rfl (sh_9_0 _ hp_v2) SS_X7_get (am_ta (am_ti (am_ti am_tn))) (Nat.le_of_ble_eq_true rfl) (Nat.le_of_ble_eq_true rfl) ml_RX3_28 iw_X7_get vw_X7_get cw_X7_get nw_RX7 pp_X7_get (Nat.le_of_ble_eq_true rfl) dX3_look_26 rfl (NM_X7_get (sh_9_0 _ hp_v2) h) (fun r_4 m_5 h hB => ?_)
  obtain ⟨hb, h⟩ := h
  refine b_iast (nx := 30) G hB (sh_3_0 _ hp_v0) hb.1 hb.2 dX3_look_29 rfl (fun m_6 e_m_6 hB => ?_)
  have h := h m_6 e_m_6
  refine z_aload_n (nx := 31) (a := 0) G rfl (Or.inl rfl) dX3_look_30 rfl (b_getA (nx := 34) (k0 := 0) G hB fl_RX3_9 (Nat.le_of_ble_eq_true rfl) (Nat.le_of_ble_eq_true rfl) rfl hp_v0 dX3_look_31 rfl (z_iconst (nx := 35) (z := 2) G (R32c rfl) dX3_look_34 rfl (z_aload_n (nx := 36) (a := 2) G rfl (Or.inl rfl) dX3_look_35 rfl (b_getA (nx := 39) (k0 := 0) G hB fl_RX3_22 (Nat.le_of_ble_eq_true rfl) (Nat.le_of_ble_eq_true rfl) rfl hp_v2 dX3_look_36 rfl (z_iload_n (nx := 40) (a := 3) G rfl dX3_look_39 rfl (z_iconst (nx := 41) (z := 0) G (R32c rfl) dX3_look_40 rfl ?_))))))
  refine b_callV0 (nx := 44) (zs := [am_rfv v2 0, v3, 0]) (as := [(0, v3), (0, 0)]) X hB (by decide) rfl (sh_9_0 _ hp_v2) SS_X7_get (am_ta (am_ti (am_ti am_tn))) (Nat.le_of_ble_eq_true rfl) (Nat.le_of_ble_eq_true rfl) ml_RX3_28 iw_X7_get vw_X7_get cw_X7_get nw_RX7 pp_X7_get (Nat.le_of_ble_eq_true rfl) dX3_look_41 rfl (NM_X7_get (sh_9_0 _ hp_v2) h) (fun r_7 m_8 h hB => ?_)
  obtain ⟨hb, h⟩ := h
  refine b_iast (nx := 45) G hB (sh_3_0 _ hp_v0) hb.1 hb.2 dX3_look_44 rfl (fun m_9 e_m_9 hB => ?_)
  have h := h m_9 e_m_9
  refine z_aload_n (nx := 46) (a := 0) G rfl (Or.inl rfl) dX3_look_45 rfl (b_getA (nx := 49) (k0 := 0) G hB fl_RX3_9 (Nat.le_of_ble_eq_true rfl) (Nat.le_of_ble_eq_true rfl) rfl hp_v0 dX3_look_46 rfl (z_iconst (nx := 50) (z := 3) G (R32c rfl) dX3_look_49 rfl (z_aload_n (nx := 51) (a := 1) G rfl (Or.inl rfl) dX3_look_50 rfl (b_getA (nx := 54) (k0 := 2) G hB fl_RX3_34 (Nat.le_of_ble_eq_true rfl) (Nat.le_of_ble_eq_true rfl) rfl hp_v1 dX3_look_51 rfl (z_aload_n (nx := 55) (a := 0) G rfl (Or.inl rfl) dX3_look_54 rfl (b_getA (nx := 58) (k0 := 0) G hB fl_RX3_9 (Nat.le_of_ble_eq_true rfl) (Nat.le_of_ble_eq_true rfl) rfl hp_v0 dX3_look_55 rfl (z_iconst (nx := 59) (z := 2) G (R32c rfl) dX3_look_58 rfl ?_)))))))
  obtain ⟨hb, h⟩ := h
  refine z_iald (nx := 60) G (sh_3_0 _ hp_v0) hb.1 hb.2 dX3_look_59 rfl ?_
  refine z_iconst (nx := 61) (z := 0) G (R32c rfl) dX3_look_60 rfl ?_
  refine b_callV0 (nx := 64) (zs := [am_rfv v1 2, m_9 (am_rfv v0 0) 2, 0]) (as := [(0, m_9 (am_rfv v0 0) 2), (0, 0)]) X hB (by decide) rfl (sh_0_2 _ hp_v1) SS_X7_get (am_ta (am_ti (am_ti am_tn))) (Nat.le_of_ble_eq_true rfl) (Nat.le_of_ble_eq_true rfl) ml_RX3_28 iw_X7_get vw_X7_get cw_X7_get nw_RX7 pp_X7_get (Nat.le_of_ble_eq_true rfl) dX3_look_61 rfl (NM_X7_get (sh_0_2 _ hp_v1) h) (fun r_10 m_11 h hB => ?_)
  obtain ⟨hb, h⟩ := h
  refine b_iast (nx := 65) G hB (sh_3_0 _ hp_v0) hb.1 hb.2 dX3_look_64 rfl (fun m_12 e_m_12 hB => ?_)
  have h := h m_12 e_m_12
  refine z_aload_n (nx := 66) (a := 0) G rfl (Or.inl rfl) dX3_look_65 rfl (b_getA (nx := 69) (k0 := 0) G hB fl_RX3_9 (Nat.le_of_ble_eq_true rfl) (Nat.le_of_ble_eq_true rfl) rfl hp_v0 dX3_look_66 rfl (z_iconst (nx := 70) (z := 4) G (R32c rfl) dX3_look_69 rfl (z_aload_n (nx := 71) (a := 2) G rfl (Or.inl rfl) dX3_look_70 rfl (b_getA (nx := 74) (k0 := 0) G hB fl_RX3_22 (Nat.le_of_ble_eq_true rfl) (Nat.le_of_ble_eq_true rfl) rfl hp_v2 dX3_look_71 rfl (z_iload_n (nx := 75) (a := 3) G rfl dX3_look_74 rfl (z_iconst (nx := 76) (z := 1) G (R32c rfl) dX3_look_75 rfl ?_))))))
  refine b_callV0 (nx := 79) (zs := [am_rfv v2 0, v3, 1]) (as := [(0, v3), (0, 1)]) X hB (by decide) rfl (sh_9_0 _ hp_v2) SS_X7_get (am_ta (am_ti (am_ti am_tn))) (Nat.le_of_ble_eq_true rfl) (Nat.le_of_ble_eq_true rfl) ml_RX3_28 iw_X7_get vw_X7_get cw_X7_get nw_RX7 pp_X7_get (Nat.le_of_ble_eq_true rfl) dX3_look_76 rfl (NM_X7_get (sh_9_0 _ hp_v2) h) (fun r_13 m_14 h hB => ?_)
  obtain ⟨hb, h⟩ := h
  refine b_iast (nx := 80) G hB (sh_3_0 _ hp_v0) hb.1 hb.2 dX3_look_79 rfl (fun m_15 e_m_15 hB => ?_)
  have h := h m_15 e_m_15
  refine z_aload_n (nx := 81) (a := 0) G rfl (Or.inl rfl) dX3_look_80 rfl (b_getA (nx := 84) (k0 := 0) G hB fl_RX3_9 (Nat.le_of_ble_eq_true rfl) (Nat.le_of_ble_eq_true rfl) rfl hp_v0 dX3_look_81 rfl (z_iconst (nx := 85) (z := 5) G (R32c rfl) dX3_look_84 rfl (z_iload (nx := 87) (a := 4) G rfl dX3_look_85 rfl (z_aload_n (nx := 88) (a := 2) G rfl (Or.inl rfl) dX3_look_87 rfl (b_getA (nx := 91) (k0 := 0) G hB fl_RX3_22 (Nat.le_of_ble_eq_true rfl) (Nat.le_of_ble_eq_true rfl) rfl hp_v2 dX3_look_88 rfl (z_iload_n (nx := 92) (a := 3) G rfl dX3_look_91 rfl (z_iconst (nx := 93) (z := 4) G (R32c rfl) dX3_look_92 rfl ?_)))))))
  refine b_callV0 (nx := 96) (zs := [am_rfv v2 0, v3, 4]) (as := [(0, v3), (0, 4)]) X hB (by decide) rfl (sh_9_0 _ hp_v2) SS_X7_get (am_ta (am_ti (am_ti am_tn))) (Nat.le_of_ble_eq_true rfl) (Nat.le_of_ble_eq_true rfl) ml_RX3_28 iw_X7_get vw_X7_get cw_X7_get nw_RX7 pp_X7_get (Nat.le_of_ble_eq_true rfl) dX3_look_93 rfl (NM_X7_get (sh_9_0 _ hp_v2) h) (fun r_16 m_17 h hB => ?_)
  refine z_isub (nx := 97) G dX3_look_96 rfl ?_
  obtain ⟨hb, h⟩ := h
  refine b_iast (nx := 98) G hB (sh_3_0 _ hp_v0) hb.1 hb.2 dX3_look_97 rfl (fun m_18 e_m_18 hB => ?_)
  have h := h m_18 e_m_18
  refine z_aload_n (nx := 99) (a := 0) G rfl (Or.inl rfl) dX3_look_98 rfl (b_getA (nx := 102) (k0 := 0) G hB fl_RX3_9 (Nat.le_of_ble_eq_true rfl) (Nat.le_of_ble_eq_true rfl) rfl hp_v0 dX3_look_99 rfl (z_bipush (nx := 104) (z := 6) G (R32c rfl) rfl dX3_look_102 rfl (z_iload (nx := 106) (a := 4) G rfl dX3_look_104 rfl ?_)))
  obtain ⟨hb, h⟩ := h
  refine b_iast (nx := 107) G hB (sh_3_0 _ hp_v0) hb.1 hb.2 dX3_look_106 rfl (fun m_19 e_m_19 hB => ?_)
  have h := h m_19 e_m_19
  refine z_aload_n (nx := 108) (a := 0) G rfl (Or.inl rfl) dX3_look_107 rfl (b_getA (nx := 111) (k0 := 0) G hB fl_RX3_9 (Nat.le_of_ble_eq_true rfl) (Nat.le_of_ble_eq_true rfl) rfl hp_v0 dX3_look_108 rfl (z_bipush (nx := 113) (z := 7) G (R32c rfl) rfl dX3_look_111 rfl (z_aload_n (nx := 114) (a := 1) G rfl (Or.inl rfl) dX3_look_113 rfl (z_iconst (nx := 115) (z := 3) G (R32c rfl) dX3_look_114 rfl ?_))))
  refine b_callV0 (nx := 118) (zs := [v1, 3]) (as := [(0, 3)]) X hB (by decide) rfl hp_v1 SS_X0_term (am_ta (am_ti am_tn)) (Nat.le_of_ble_eq_true rfl) (Nat.le_of_ble_eq_true rfl) ml_RX3_39 iw_X0_term vw_X0_term cw_X0_term nw_RX0 pp_X0_term (Nat.le_of_ble_eq_true rfl) dX3_look_115 rfl (NM_X0_term hp_v1 h) (fun r_20 m_21 h hB => ?_)
  obtain ⟨hb, h⟩ := h
  refine b_iast (nx := 119) G hB (sh_3_0 _ hp_v0) hb.1 hb.2 dX3_look_118 rfl (fun m_22 e_m_22 hB => ?_)
  have h := h m_22 e_m_22
  exact b_return X hB dX3_look_119 h
theorem NM_X3_look {v0 : Int} {v1 : Int} {v2 : Int} {v3 : Int} {v4 : Int} {K : am_KK} {m : am_M} (hp_v0 : am_ob v0 3) (hp_v1 : am_ob v1 0) (hp_v2 : am_ob v2 9) (h : M_X3_look v0 v1 v2 v3 v4 K m) : N_X3_look [v0, v1, v2, v3, v4] K m := ⟨hp_v0, hp_v1, hp_v2, h⟩
theorem SS_X3_look : am_Snd yX3_look cX3_look 5 none 0 2 (am_L [2, 2, 2, 0, 0] 9 N_X3_look) := by
  refine am_SB (by decide +kernel) (Nat.le_of_ble_eq_true rfl) (fun F zs as K m X ht hB hM => ?_)
  obtain ⟨v0, zs, as, rfl, rfl, hz0, ht⟩ := am_inv ht
  obtain ⟨v1, zs, as, rfl, rfl, hz1, ht⟩ := am_inv ht
  obtain ⟨v2, zs, as, rfl, rfl, hz2, ht⟩ := am_inv ht
  obtain ⟨v3, zs, as, rfl, rfl, hz3, ht⟩ := am_inv ht
  obtain ⟨v4, zs, as, rfl, rfl, hz4, ht⟩ := am_inv ht
  obtain ⟨rfl, rfl⟩ := am_inv0 ht
  obtain ⟨hp_v0, hp_v1, hp_v2, hM⟩ := hM
  exact S_X3_look X hp_v0 hp_v1 hp_v2 hB hM
set_option maxRecDepth 20000 in
set_option maxHeartbeats 4000000 in
theorem S_X6_join_J4 {F : am_F} {K : am_KK} {m : am_M} (X : am_Cx F cX6_join RX6 (some .int) 1 0 K) (hB : am_Bt m) (h : M_X6_join_J4  K m) : am_Z F 171 [] [(9, 0), (9, 0), (9, 0), (9, 0), (9, 0), (9, 0), (9, 0)] m 200 := by
  have G := X.G
  unfold M_X6_join_J4 at h
  refine z_ldc (nx := 173) (z := (-2000000000)) G (R32c rfl) rfl kw_RX6_39 dX6_join_171 rfl (z_goto (tgt := 179) G dX6_join_173 (by decide) ?_)
  exact b_ireturn X hB dX6_join_179 h
set_option maxRecDepth 20000 in
set_option maxHeartbeats 4000000 in
theorem S_X6_join_J3 {F : am_F} {K : am_KK} {v5 : Int} {m : am_M} (X : am_Cx F cX6_join RX6 (some .int) 1 0 K) (hB : am_Bt m) (h : M_X6_join_J3 v5 K m) : am_Z F 153 [] [(9, 0), (9, 0), (9, 0), (9, 0), (9, 0), (1, v5), (9, 0)] m 200 := by
  have G := X.G
  unfold M_X6_join_J3 at h
  refine z_lload (nx := 155) (a := 5) G rfl dX6_join_153 rfl (z_ldc2 (nx := 158) (z := 1000000000) G (R64c rfl) rfl kl_RX6_46 dX6_join_155 rfl (z_lcmp (nx := 159) G dX6_join_158 rfl ?_))
  refine z_if_gt (nx := 162) (tgt := 171) G dX6_join_159 (by decide) rfl (fun c => ?_) (fun c => ?_)
  · have h := h.1 c
    exact b_fewer (loc2 := [(9, 0), (9, 0), (9, 0), (9, 0), (9, 0), (9, 0), (9, 0)]) (am_lk (am_lk (am_lk (am_lk (am_lk (am_lf (am_lk am_ln))))))) (S_X6_join_J4 X hB h)
  · have h := h.2 c
    refine z_lload (nx := 164) (a := 5) G rfl dX6_join_162 rfl (z_ldc2 (nx := 167) (z := (-1000000000)) G (R64c rfl) rfl kl_RX6_48 dX6_join_164 rfl (z_lcmp (nx := 168) G dX6_join_167 rfl ?_))
    refine z_if_ge (nx := 171) (tgt := 176) G dX6_join_168 (by decide) rfl (fun c => ?_) (fun c => ?_)
    · have h := h.1 c
      refine z_lload (nx := 178) (a := 5) G rfl dX6_join_176 rfl (z_l2i (nx := 179) G dX6_join_178 rfl ?_)
      exact b_ireturn X hB dX6_join_179 h
    · have h := h.2 c
      exact b_fewer (loc2 := [(9, 0), (9, 0), (9, 0), (9, 0), (9, 0), (9, 0), (9, 0)]) (am_lk (am_lk (am_lk (am_lk (am_lk (am_lf (am_lk am_ln))))))) (S_X6_join_J4 X hB h)
set_option maxRecDepth 20000 in
set_option maxHeartbeats 4000000 in
theorem S_X6_join_J2 {F : am_F} {K : am_KK} {s0 : Int} {m : am_M} (X : am_Cx F cX6_join RX6 (some .int) 1 0 K) (hB : am_Bt m) (h : M_X6_join_J2 s0 K m) : am_Z F 143 [(1, s0)] [(9, 0), (9, 0), (9, 0), (9, 0), (9, 0), (9, 0), (9, 0)] m 200 := by
  have G := X.G
  unfold M_X6_join_J2 at h
  refine b_lstoreE (nx := 145) (a := 5) (loc2 := [(9, 0), (9, 0), (9, 0), (9, 0), (9, 0), (1, s0), (9, 0)]) G rfl (Nat.le_of_ble_eq_true rfl) (am_pl1 rfl (fun h => nomatch h)) (am_nx9 rfl rfl) dX6_join_143 rfl (z_goto (tgt := 153) G dX6_join_145 (by decide) ?_)
  exact b_fewer (loc2 := [(9, 0), (9, 0), (9, 0), (9, 0), (9, 0), (1, s0), (9, 0)]) (am_lk (am_lk (am_lk (am_lk (am_lk (am_lk (am_lk am_ln))))))) (S_X6_join_J3 X hB h)
set_option maxRecDepth 20000 in
set_option maxHeartbeats 4000000 in
theorem S_X6_join_J1 {F : am_F} {K : am_KK} {s0 : Int} {m : am_M} (X : am_Cx F cX6_join RX6 (some .int) 1 0 K) (hB : am_Bt m) (h : M_X6_join_J1 s0 K m) : am_Z F 123 [(1, s0)] [(9, 0), (9, 0), (9, 0), (9, 0), (9, 0), (9, 0), (9, 0)] m 200 := by
  have G := X.G
  unfold M_X6_join_J1 at h
  refine b_lstoreE (nx := 125) (a := 5) (loc2 := [(9, 0), (9, 0), (9, 0), (9, 0), (9, 0), (1, s0), (9, 0)]) G rfl (Nat.le_of_ble_eq_true rfl) (am_pl1 rfl (fun h => nomatch h)) (am_nx9 rfl rfl) dX6_join_123 rfl (z_goto (tgt := 153) G dX6_join_125 (by decide) ?_)
  exact b_fewer (loc2 := [(9, 0), (9, 0), (9, 0), (9, 0), (9, 0), (1, s0), (9, 0)]) (am_lk (am_lk (am_lk (am_lk (am_lk (am_lk (am_lk am_ln))))))) (S_X6_join_J3 X hB h)
set_option maxRecDepth 20000 in
set_option maxHeartbeats 4000000 in
theorem S_X6_join {F : am_F} {K : am_KK} {v0 : Int} {v1 : Int} {v3 : Int} {m : am_M} (X : am_Cx F cX6_join RX6 (some .int) 1 0 K) (hB : am_Bt m) (h : M_X6_join v0 v1 v3 K m) : am_Z F 0 [] [(0, v0), (1, v1), (9, 0), (1, v3), (9, 0), (9, 0), (9, 0)] m 200 := by
  have G := X.G
  unfold M_X6_join at h
  refine z_iload_n (nx := 1) (a := 0) G rfl dX6_join_0 rfl ?_
  refine z_table G dX6_join_1 (fun i => match i with | 0 => 48 | 1 => 60 | 2 => 72 | 3 => 84 | 4 => 92 | 5 => 100 | 6 => 108 | _ => 128) 148 (fun i hi => ?_) (by decide) (fun i hi c => ?_) (fun c => ?_)
  · match i, hi with
    | 0, _ => exact ⟨_, rfl, by decide⟩
    | 1, _ => exact ⟨_, rfl, by decide⟩
    | 2, _ => exact ⟨_, rfl, by decide⟩
    | 3, _ => exact ⟨_, rfl, by decide⟩
    | 4, _ => exact ⟨_, rfl, by decide⟩
    | 5, _ => exact ⟨_, rfl, by decide⟩
    | 6, _ => exact ⟨_, rfl, by decide⟩
    | 7, _ => exact ⟨_, rfl, by decide⟩
    | i + 8, hi => exact absurd hi (by omega)
  · match i, hi, c with
    | 0, _, c =>
      have h := h.1 (c.trans (by decide))
      refine z_lload_n (nx := 49) (a := 1) G rfl dX6_join_48 rfl (z_lload_n (nx := 50) (a := 3) G rfl dX6_join_49 rfl (z_lcmp (nx := 51) G dX6_join_50 rfl ?_))
      refine z_if_ge (nx := 54) (tgt := 58) G dX6_join_51 (by decide) rfl (fun c => ?_) (fun c => ?_)
      · have h := h.1 c
        refine z_iconst (nx := 59) (z := 0) G (R32c rfl) dX6_join_58 rfl ?_
        exact b_ireturn X hB dX6_join_59 h
      · have h := h.2 c
        refine z_iconst (nx := 55) (z := 1) G (R32c rfl) dX6_join_54 rfl (z_goto (tgt := 59) G dX6_join_55 (by decide) ?_)
        exact b_ireturn X hB dX6_join_59 h
    | 1, _, c =>
      have h := h.2.1 (c.trans (by decide))
      refine z_lload_n (nx := 61) (a := 1) G rfl dX6_join_60 rfl (z_lload_n (nx := 62) (a := 3) G rfl dX6_join_61 rfl (z_lcmp (nx := 63) G dX6_join_62 rfl ?_))
      refine z_if_le (nx := 66) (tgt := 70) G dX6_join_63 (by decide) rfl (fun c => ?_) (fun c => ?_)
      · have h := h.1 c
        refine z_iconst (nx := 71) (z := 0) G (R32c rfl) dX6_join_70 rfl ?_
        exact b_ireturn X hB dX6_join_71 h
      · have h := h.2 c
        refine z_iconst (nx := 67) (z := 1) G (R32c rfl) dX6_join_66 rfl (z_goto (tgt := 71) G dX6_join_67 (by decide) ?_)
        exact b_ireturn X hB dX6_join_71 h
    | 2, _, c =>
      have h := h.2.2.1 (c.trans (by decide))
      refine z_lload_n (nx := 73) (a := 1) G rfl dX6_join_72 rfl (z_lload_n (nx := 74) (a := 3) G rfl dX6_join_73 rfl (z_lcmp (nx := 75) G dX6_join_74 rfl ?_))
      refine z_if_ne (nx := 78) (tgt := 82) G dX6_join_75 (by decide) rfl (fun c => ?_) (fun c => ?_)
      · have h := h.1 c
        refine z_iconst (nx := 83) (z := 0) G (R32c rfl) dX6_join_82 rfl ?_
        exact b_ireturn X hB dX6_join_83 h
      · have h := h.2 c
        refine z_iconst (nx := 79) (z := 1) G (R32c rfl) dX6_join_78 rfl (z_goto (tgt := 83) G dX6_join_79 (by decide) ?_)
        exact b_ireturn X hB dX6_join_83 h
    | 3, _, c =>
      have h := h.2.2.2.1 (c.trans (by decide))
      refine z_lload_n (nx := 85) (a := 1) G rfl dX6_join_84 rfl (z_lload_n (nx := 86) (a := 3) G rfl dX6_join_85 rfl (z_ladd (nx := 87) G dX6_join_86 rfl ?_))
      refine b_lstore (nx := 89) (a := 5) (loc2 := fun v5_1 => [(0, v0), (1, v1), (9, 0), (1, v3), (9, 0), (1, v5_1), (9, 0)]) G (fun _ => rfl) (Nat.le_of_ble_eq_true rfl) (am_pl1 rfl (fun h => nomatch h)) (am_nx9 rfl rfl) dX6_join_87 rfl (fun v5_1 e_v5_1 => ?_)
      have h := h v5_1 e_v5_1
      refine z_goto (tgt := 153) G dX6_join_89 (by decide) ?_
      exact b_fewer (loc2 := [(9, 0), (9, 0), (9, 0), (9, 0), (9, 0), (1, v5_1), (9, 0)]) (am_lf (am_lf (am_lk (am_lf (am_lk (am_lk (am_lk am_ln))))))) (S_X6_join_J3 X hB h)
    | 4, _, c =>
      have h := h.2.2.2.2.1 (c.trans (by decide))
      refine z_lload_n (nx := 93) (a := 1) G rfl dX6_join_92 rfl (z_lload_n (nx := 94) (a := 3) G rfl dX6_join_93 rfl (z_lsub (nx := 95) G dX6_join_94 rfl ?_))
      refine b_lstore (nx := 97) (a := 5) (loc2 := fun v5_2 => [(0, v0), (1, v1), (9, 0), (1, v3), (9, 0), (1, v5_2), (9, 0)]) G (fun _ => rfl) (Nat.le_of_ble_eq_true rfl) (am_pl1 rfl (fun h => nomatch h)) (am_nx9 rfl rfl) dX6_join_95 rfl (fun v5_2 e_v5_2 => ?_)
      have h := h v5_2 e_v5_2
      refine z_goto (tgt := 153) G dX6_join_97 (by decide) ?_
      exact b_fewer (loc2 := [(9, 0), (9, 0), (9, 0), (9, 0), (9, 0), (1, v5_2), (9, 0)]) (am_lf (am_lf (am_lk (am_lf (am_lk (am_lk (am_lk am_ln))))))) (S_X6_join_J3 X hB h)
    | 5, _, c =>
      have h := h.2.2.2.2.2.1 (c.trans (by decide))
      refine z_lload_n (nx := 101) (a := 1) G rfl dX6_join_100 rfl (z_lload_n (nx := 102) (a := 3) G rfl dX6_join_101 rfl (z_lmul (nx := 103) G dX6_join_102 rfl ?_))
      refine b_lstore (nx := 105) (a := 5) (loc2 := fun v5_3 => [(0, v0), (1, v1), (9, 0), (1, v3), (9, 0), (1, v5_3), (9, 0)]) G (fun _ => rfl) (Nat.le_of_ble_eq_true rfl) (am_pl1 rfl (fun h => nomatch h)) (am_nx9 rfl rfl) dX6_join_103 rfl (fun v5_3 e_v5_3 => ?_)
      have h := h v5_3 e_v5_3
      refine z_goto (tgt := 153) G dX6_join_105 (by decide) ?_
      exact b_fewer (loc2 := [(9, 0), (9, 0), (9, 0), (9, 0), (9, 0), (1, v5_3), (9, 0)]) (am_lf (am_lf (am_lk (am_lf (am_lk (am_lk (am_lk am_ln))))))) (S_X6_join_J3 X hB h)
    | 6, _, c =>
      have h := h.2.2.2.2.2.2.1 (c.trans (by decide))
      refine z_lload_n (nx := 109) (a := 3) G rfl dX6_join_108 rfl (z_lconst (nx := 110) (z := 0) G (R64c rfl) rfl dX6_join_109 rfl (z_lcmp (nx := 111) G dX6_join_110 rfl ?_))
      refine z_if_ne (nx := 114) (tgt := 120) G dX6_join_111 (by decide) rfl (fun c => ?_) (fun c => ?_)
      · have h := h.1 c
        refine z_lload_n (nx := 121) (a := 1) G rfl dX6_join_120 rfl (z_lload_n (nx := 122) (a := 3) G rfl dX6_join_121 rfl ?_)
        obtain ⟨hb, h⟩ := h
        refine z_ldiv (nx := 123) G hb dX6_join_122 rfl ?_
        exact b_fewer (loc2 := [(9, 0), (9, 0), (9, 0), (9, 0), (9, 0), (9, 0), (9, 0)]) (am_lf (am_lf (am_lk (am_lf (am_lk (am_lk (am_lk am_ln))))))) (S_X6_join_J1 X hB h)
      · have h := h.2 c
        refine z_ldc2 (nx := 117) (z := (-2000000000)) G (R64c rfl) rfl kl_RX6_44 dX6_join_114 rfl (z_goto (tgt := 123) G dX6_join_117 (by decide) ?_)
        exact b_fewer (loc2 := [(9, 0), (9, 0), (9, 0), (9, 0), (9, 0), (9, 0), (9, 0)]) (am_lf (am_lf (am_lk (am_lf (am_lk (am_lk (am_lk am_ln))))))) (S_X6_join_J1 X hB h)
    | 7, _, c =>
      have h := h.2.2.2.2.2.2.2.1 (c.trans (by decide))
      refine z_lload_n (nx := 129) (a := 3) G rfl dX6_join_128 rfl (z_lconst (nx := 130) (z := 0) G (R64c rfl) rfl dX6_join_129 rfl (z_lcmp (nx := 131) G dX6_join_130 rfl ?_))
      refine z_if_ne (nx := 134) (tgt := 140) G dX6_join_131 (by decide) rfl (fun c => ?_) (fun c => ?_)
      · have h := h.1 c
        refine z_lload_n (nx := 141) (a := 1) G rfl dX6_join_140 rfl (z_lload_n (nx := 142) (a := 3) G rfl dX6_join_141 rfl ?_)
        obtain ⟨hb, h⟩ := h
        refine z_lrem (nx := 143) G hb dX6_join_142 rfl ?_
        exact b_fewer (loc2 := [(9, 0), (9, 0), (9, 0), (9, 0), (9, 0), (9, 0), (9, 0)]) (am_lf (am_lf (am_lk (am_lf (am_lk (am_lk (am_lk am_ln))))))) (S_X6_join_J2 X hB h)
      · have h := h.2 c
        refine z_ldc2 (nx := 137) (z := (-2000000000)) G (R64c rfl) rfl kl_RX6_44 dX6_join_134 rfl (z_goto (tgt := 143) G dX6_join_137 (by decide) ?_)
        exact b_fewer (loc2 := [(9, 0), (9, 0), (9, 0), (9, 0), (9, 0), (9, 0), (9, 0)]) (am_lf (am_lf (am_lk (am_lf (am_lk (am_lk (am_lk am_ln))))))) (S_X6_join_J2 X hB h)
    | i + 8, hi, _ => exact absurd hi (by omega)
  · have h := h.2.2.2.2.2.2.2.2 c
    refine z_ldc2 (nx := 151) (z := (-2000000000)) G (R64c rfl) rfl kl_RX6_44 dX6_join_148 rfl (b_lstoreE (nx := 153) (a := 5) (loc2 := [(0, v0), (1, v1), (9, 0), (1, v3), (9, 0), (1, (-2000000000)), (9, 0)]) G rfl (Nat.le_of_ble_eq_true rfl) (am_pl1 rfl (fun h => nomatch h)) (am_nx9 rfl rfl) dX6_join_151 rfl ?_)
    exact b_fewer (loc2 := [(9, 0), (9, 0), (9, 0), (9, 0), (9, 0), (1, (-2000000000)), (9, 0)]) (am_lf (am_lf (am_lk (am_lf (am_lk (am_lk (am_lk am_ln))))))) (S_X6_join_J3 X hB h)
theorem NM_X6_join {v0 : Int} {v1 : Int} {v3 : Int} {K : am_KK} {m : am_M} (h : M_X6_join v0 v1 v3 K m) : N_X6_join [v0, v1, v3] K m := h
theorem SS_X6_join : am_Snd yX6_join cX6_join 7 (some .int) 0 1 (am_L [0, 1, 1] 0 N_X6_join) := by
  refine am_SB (by decide +kernel) (Nat.le_of_ble_eq_true rfl) (fun F zs as K m X ht hB hM => ?_)
  obtain ⟨v0, zs, as, rfl, rfl, hz0, ht⟩ := am_inv ht
  obtain ⟨v1, zs, as, rfl, rfl, hz1, ht⟩ := am_inv ht
  obtain ⟨v3, zs, as, rfl, rfl, hz3, ht⟩ := am_inv ht
  obtain ⟨rfl, rfl⟩ := am_inv0 ht
  exact S_X6_join X hB hM
set_option maxRecDepth 20000 in
set_option maxHeartbeats 4000000 in
theorem S_X6_value_J8 {F : am_F} {K : am_KK} {v0 : Int} {v1 : Int} {v4 : Int} {v6 : Int} {v7 : Int} {v8 : Int} {C56 : Int → Int → am_M → Prop} {m : am_M} (X : am_Cx F cX6_value RX6 (some .int) 2 0 K) (hp_v0 : am_ob v0 6) (hp_v1 : am_ob v1 4) (hp_v4 : am_ar v4 20) (hC56 : ∀ w7 w8 m, C56 w7 w8 m → am_Bt m → am_Z F 56 [] [(2, v0), (2, v1), (9, 0), (9, 0), (2, v4), (9, 0), (0, v6), (0, w7), (0, w8), (9, 0), (9, 0), (9, 0)] m 200) (hB : am_Bt m) (h : M_X6_value_J8 v0 v1 v4 v6 v7 v8 C56 K m) : am_Z F 304 [] [(2, v0), (2, v1), (9, 0), (9, 0), (2, v4), (9, 0), (0, v6), (0, v7), (0, v8), (9, 0), (9, 0), (9, 0)] m 200 := by
  have G := X.G
  unfold M_X6_value_J8 at h
  refine b_iinc (nx := 307) (a := 8) (loc2 := fun v8_1 => [(2, v0), (2, v1), (9, 0), (9, 0), (2, v4), (9, 0), (0, v6), (0, v7), (0, v8_1), (9, 0), (9, 0), (9, 0)]) G (fun _ => rfl) rfl (am_pl1 rfl (fun h => nomatch h)) dX6_value_304 rfl (fun v8_1 e_v8_1 => ?_)
  have h := h v8_1 e_v8_1
  refine z_goto (tgt := 56) G dX6_value_307 (by decide) ?_
  exact b_fewer (loc2 := [(2, v0), (2, v1), (9, 0), (9, 0), (2, v4), (9, 0), (0, v6), (0, v7), (0, v8_1), (9, 0), (9, 0), (9, 0)]) (am_lk (am_lk (am_lk (am_lk (am_lk (am_lk (am_lk (am_lk (am_lk (am_lk (am_lk (am_lk am_ln)))))))))))) (hC56 _ _ _ h hB)
set_option maxRecDepth 20000 in
set_option maxHeartbeats 4000000 in
theorem S_X6_value_J7 {F : am_F} {K : am_KK} {v0 : Int} {v1 : Int} {v4 : Int} {v6 : Int} {v7 : Int} {v8 : Int} {s0 : Int} {C56 : Int → Int → am_M → Prop} {m : am_M} (X : am_Cx F cX6_value RX6 (some .int) 2 0 K) (hp_v0 : am_ob v0 6) (hp_v1 : am_ob v1 4) (hp_v4 : am_ar v4 20) (hC56 : ∀ w7 w8 m, C56 w7 w8 m → am_Bt m → am_Z F 56 [] [(2, v0), (2, v1), (9, 0), (9, 0), (2, v4), (9, 0), (0, v6), (0, w7), (0, w8), (9, 0), (9, 0), (9, 0)] m 200) (hB : am_Bt m) (h : M_X6_value_J7 v0 v1 v4 v6 v7 v8 s0 C56 K m) : am_Z F 281 [(0, s0)] [(2, v0), (2, v1), (9, 0), (9, 0), (2, v4), (9, 0), (0, v6), (0, v7), (0, v8), (9, 0), (9, 0), (9, 0)] m 200 := by
  have G := X.G
  unfold M_X6_value_J7 at h
  refine b_storeE (nx := 283) (a := 11) (loc2 := [(2, v0), (2, v1), (9, 0), (9, 0), (2, v4), (9, 0), (0, v6), (0, v7), (0, v8), (9, 0), (9, 0), (0, s0)]) G rfl (Nat.le_of_ble_eq_true rfl) (am_pl1 rfl (fun h => nomatch h)) dX6_value_281 rfl (z_iload (nx := 285) (a := 11) G rfl dX6_value_283 rfl (z_ldc (nx := 287) (z := (-2000000000)) G (R32c rfl) rfl kw_RX6_39 dX6_value_285 rfl ?_))
  refine z_icmp_ne (nx := 290) (tgt := 293) G dX6_value_287 (by decide) rfl (fun c => ?_) (fun c => ?_)
  · have h := h.1 c
    refine z_aload_n (nx := 294) (a := 0) G rfl (Or.inl rfl) dX6_value_293 rfl (b_getA (nx := 297) (k0 := 0) G hB fl_RX6_9 (Nat.le_of_ble_eq_true rfl) (Nat.le_of_ble_eq_true rfl) rfl hp_v0 dX6_value_294 rfl (z_iload (nx := 299) (a := 7) G rfl dX6_value_297 rfl (z_iconst (nx := 300) (z := 1) G (R32c rfl) dX6_value_299 rfl (z_isub (nx := 301) G dX6_value_300 rfl (z_iload (nx := 303) (a := 11) G rfl dX6_value_301 rfl ?_)))))
    obtain ⟨hb, h⟩ := h
    refine b_iast (nx := 304) G hB (sh_6_0 _ hp_v0) hb.1 hb.2 dX6_value_303 rfl (fun m_2 e_m_2 hB => ?_)
    have h := h m_2 e_m_2
    exact b_fewer (loc2 := [(2, v0), (2, v1), (9, 0), (9, 0), (2, v4), (9, 0), (0, v6), (0, v7), (0, v8), (9, 0), (9, 0), (9, 0)]) (am_lk (am_lk (am_lk (am_lk (am_lk (am_lk (am_lk (am_lk (am_lk (am_lk (am_lk (am_lf am_ln)))))))))))) (S_X6_value_J8 X hp_v0 hp_v1 hp_v4 hC56 hB h)
  · have h := h.2 c
    refine z_ldc (nx := 292) (z := (-2000000000)) G (R32c rfl) rfl kw_RX6_39 dX6_value_290 rfl ?_
    exact b_ireturn X hB dX6_value_292 h
set_option maxRecDepth 20000 in
set_option maxHeartbeats 4000000 in
theorem S_X6_value_J6 {F : am_F} {K : am_KK} {v0 : Int} {v1 : Int} {v4 : Int} {v6 : Int} {v7 : Int} {v8 : Int} {v10 : Int} {s0 : Int} {s1 : Int} {C56 : Int → Int → am_M → Prop} {m : am_M} (X : am_Cx F cX6_value RX6 (some .int) 2 0 K) (hp_v0 : am_ob v0 6) (hp_v1 : am_ob v1 4) (hp_v4 : am_ar v4 20) (hp_s1 : s1 = 0 ∨ s1 = 1) (hC56 : ∀ w7 w8 m, C56 w7 w8 m → am_Bt m → am_Z F 56 [] [(2, v0), (2, v1), (9, 0), (9, 0), (2, v4), (9, 0), (0, v6), (0, w7), (0, w8), (9, 0), (9, 0), (9, 0)] m 200) (hB : am_Bt m) (h : M_X6_value_J6 v0 v1 v4 v6 v7 v8 v10 s0 s1 C56 K m) : am_Z F 225 [(0, s1), (0, s0)] [(2, v0), (2, v1), (9, 0), (9, 0), (2, v4), (9, 0), (0, v6), (0, v7), (0, v8), (9, 0), (0, v10), (9, 0)] m 200 := by
  have G := X.G
  unfold M_X6_value_J6 at h
  refine z_icmp_ne (nx := 228) (tgt := 238) G dX6_value_225 (by decide) rfl (fun c => ?_) (fun c => ?_)
  · have h := h.1 c
    refine b_iinc (nx := 241) (a := 7) (loc2 := fun v7_3 => [(2, v0), (2, v1), (9, 0), (9, 0), (2, v4), (9, 0), (0, v6), (0, v7_3), (0, v8), (9, 0), (0, v10), (9, 0)]) G (fun _ => rfl) rfl (am_pl1 rfl (fun h => nomatch h)) dX6_value_238 rfl (fun v7_3 e_v7_3 => ?_)
    have h := h v7_3 e_v7_3
    refine z_goto (tgt := 304) G dX6_value_241 (by decide) ?_
    exact b_fewer (loc2 := [(2, v0), (2, v1), (9, 0), (9, 0), (2, v4), (9, 0), (0, v6), (0, v7_3), (0, v8), (9, 0), (9, 0), (9, 0)]) (am_lk (am_lk (am_lk (am_lk (am_lk (am_lk (am_lk (am_lk (am_lk (am_lk (am_lf (am_lk am_ln)))))))))))) (S_X6_value_J8 X hp_v0 hp_v1 hp_v4 hC56 hB h)
  · have h := h.2 c
    refine z_iload (nx := 230) (a := 8) G rfl dX6_value_228 rfl (z_iload (nx := 232) (a := 10) G rfl dX6_value_230 rfl (z_iadd (nx := 233) G dX6_value_232 rfl ?_))
    refine b_store (nx := 235) (a := 8) (loc2 := fun v8_4 => [(2, v0), (2, v1), (9, 0), (9, 0), (2, v4), (9, 0), (0, v6), (0, v7), (0, v8_4), (9, 0), (0, v10), (9, 0)]) G (fun _ => rfl) (Nat.le_of_ble_eq_true rfl) (am_pl1 rfl (fun h => nomatch h)) dX6_value_233 rfl (fun v8_4 e_v8_4 => ?_)
    have h := h v8_4 e_v8_4
    refine z_goto (tgt := 304) G dX6_value_235 (by decide) ?_
    exact b_fewer (loc2 := [(2, v0), (2, v1), (9, 0), (9, 0), (2, v4), (9, 0), (0, v6), (0, v7), (0, v8_4), (9, 0), (9, 0), (9, 0)]) (am_lk (am_lk (am_lk (am_lk (am_lk (am_lk (am_lk (am_lk (am_lk (am_lk (am_lf (am_lk am_ln)))))))))))) (S_X6_value_J8 X hp_v0 hp_v1 hp_v4 hC56 hB h)
set_option maxRecDepth 20000 in
set_option maxHeartbeats 4000000 in
theorem S_X6_value_J5 {F : am_F} {K : am_KK} {v0 : Int} {v1 : Int} {v4 : Int} {v6 : Int} {v7 : Int} {v8 : Int} {v9 : Int} {v10 : Int} {C56 : Int → Int → am_M → Prop} {m : am_M} (X : am_Cx F cX6_value RX6 (some .int) 2 0 K) (hp_v0 : am_ob v0 6) (hp_v1 : am_ob v1 4) (hp_v4 : am_ar v4 20) (hC56 : ∀ w7 w8 m, C56 w7 w8 m → am_Bt m → am_Z F 56 [] [(2, v0), (2, v1), (9, 0), (9, 0), (2, v4), (9, 0), (0, v6), (0, w7), (0, w8), (9, 0), (9, 0), (9, 0)] m 200) (hB : am_Bt m) (h : M_X6_value_J5 v0 v1 v4 v6 v7 v8 v9 v10 C56 K m) : am_Z F 205 [] [(2, v0), (2, v1), (9, 0), (9, 0), (2, v4), (9, 0), (0, v6), (0, v7), (0, v8), (0, v9), (0, v10), (9, 0)] m 200 := by
  have G := X.G
  unfold M_X6_value_J5 at h
  refine z_aload_n (nx := 206) (a := 0) G rfl (Or.inl rfl) dX6_value_205 rfl (b_getA (nx := 209) (k0 := 0) G hB fl_RX6_9 (Nat.le_of_ble_eq_true rfl) (Nat.le_of_ble_eq_true rfl) rfl hp_v0 dX6_value_206 rfl (z_iload (nx := 211) (a := 7) G rfl dX6_value_209 rfl (z_iconst (nx := 212) (z := 1) G (R32c rfl) dX6_value_211 rfl (z_isub (nx := 213) G dX6_value_212 rfl ?_))))
  obtain ⟨hb, h⟩ := h
  refine z_iald (nx := 214) G (sh_6_0 _ hp_v0) hb.1 hb.2 dX6_value_213 rfl ?_
  refine z_iload (nx := 216) (a := 9) G rfl dX6_value_214 rfl (z_iconst (nx := 217) (z := 4) G (R32c rfl) dX6_value_216 rfl ?_)
  refine z_icmp_ne (nx := 220) (tgt := 224) G dX6_value_217 (by decide) rfl (fun c => ?_) (fun c => ?_)
  · have h := h.1 c
    refine z_iconst (nx := 225) (z := 0) G (R32c rfl) dX6_value_224 rfl ?_
    exact b_fewer (loc2 := [(2, v0), (2, v1), (9, 0), (9, 0), (2, v4), (9, 0), (0, v6), (0, v7), (0, v8), (9, 0), (0, v10), (9, 0)]) (am_lk (am_lk (am_lk (am_lk (am_lk (am_lk (am_lk (am_lk (am_lk (am_lf (am_lk (am_lk am_ln)))))))))))) (S_X6_value_J6 X hp_v0 hp_v1 hp_v4 (Or.inl rfl) hC56 hB h)
  · have h := h.2 c
    refine z_iconst (nx := 221) (z := 1) G (R32c rfl) dX6_value_220 rfl (z_goto (tgt := 225) G dX6_value_221 (by decide) ?_)
    exact b_fewer (loc2 := [(2, v0), (2, v1), (9, 0), (9, 0), (2, v4), (9, 0), (0, v6), (0, v7), (0, v8), (9, 0), (0, v10), (9, 0)]) (am_lk (am_lk (am_lk (am_lk (am_lk (am_lk (am_lk (am_lk (am_lk (am_lf (am_lk (am_lk am_ln)))))))))))) (S_X6_value_J6 X hp_v0 hp_v1 hp_v4 (Or.inr rfl) hC56 hB h)
set_option maxRecDepth 20000 in
set_option maxHeartbeats 4000000 in
theorem S_X6_value_J4 {F : am_F} {K : am_KK} {v0 : Int} {v1 : Int} {v4 : Int} {v6 : Int} {v7 : Int} {v8 : Int} {s0 : Int} {s1 : Int} {s2 : Int} {C56 : Int → Int → am_M → Prop} {m : am_M} (X : am_Cx F cX6_value RX6 (some .int) 2 0 K) (hp_v0 : am_ob v0 6) (hp_v1 : am_ob v1 4) (hp_v4 : am_ar v4 20) (hp_s0 : am_ar s0 20) (hC56 : ∀ w7 w8 m, C56 w7 w8 m → am_Bt m → am_Z F 56 [] [(2, v0), (2, v1), (9, 0), (9, 0), (2, v4), (9, 0), (0, v6), (0, w7), (0, w8), (9, 0), (9, 0), (9, 0)] m 200) (hB : am_Bt m) (h : M_X6_value_J4 v0 v1 v4 v6 v7 v8 s0 s1 s2 C56 K m) : am_Z F 148 [(0, s2), (0, s1), (2, s0)] [(2, v0), (2, v1), (9, 0), (9, 0), (2, v4), (9, 0), (0, v6), (0, v7), (0, v8), (9, 0), (9, 0), (9, 0)] m 200 := by
  have G := X.G
  unfold M_X6_value_J4 at h
  obtain ⟨hb, h⟩ := h
  refine b_iast (nx := 149) G hB hp_s0 hb.1 hb.2 dX6_value_148 rfl (fun m_5 e_m_5 hB => ?_)
  have h := h m_5 e_m_5
  refine b_iinc (nx := 152) (a := 7) (loc2 := fun v7_6 => [(2, v0), (2, v1), (9, 0), (9, 0), (2, v4), (9, 0), (0, v6), (0, v7_6), (0, v8), (9, 0), (9, 0), (9, 0)]) G (fun _ => rfl) rfl (am_pl1 rfl (fun h => nomatch h)) dX6_value_149 rfl (fun v7_6 e_v7_6 => ?_)
  have h := h v7_6 e_v7_6
  refine z_goto (tgt := 304) G dX6_value_152 (by decide) ?_
  exact b_fewer (loc2 := [(2, v0), (2, v1), (9, 0), (9, 0), (2, v4), (9, 0), (0, v6), (0, v7_6), (0, v8), (9, 0), (9, 0), (9, 0)]) (am_lk (am_lk (am_lk (am_lk (am_lk (am_lk (am_lk (am_lk (am_lk (am_lk (am_lk (am_lk am_ln)))))))))))) (S_X6_value_J8 X hp_v0 hp_v1 hp_v4 hC56 hB h)
set_option maxRecDepth 20000 in
set_option maxHeartbeats 4000000 in
theorem S_X6_value_J3 {F : am_F} {K : am_KK} {v0 : Int} {v1 : Int} {v4 : Int} {v6 : Int} {v7 : Int} {v8 : Int} {v9 : Int} {v10 : Int} {C56 : Int → Int → am_M → Prop} {m : am_M} (X : am_Cx F cX6_value RX6 (some .int) 2 0 K) (hp_v0 : am_ob v0 6) (hp_v1 : am_ob v1 4) (hp_v4 : am_ar v4 20) (hC56 : ∀ w7 w8 m, C56 w7 w8 m → am_Bt m → am_Z F 56 [] [(2, v0), (2, v1), (9, 0), (9, 0), (2, v4), (9, 0), (0, v6), (0, w7), (0, w8), (9, 0), (9, 0), (9, 0)] m 200) (hB : am_Bt m) (h : M_X6_value_J3 v0 v1 v4 v6 v7 v8 v9 v10 C56 K m) : am_Z F 127 [] [(2, v0), (2, v1), (9, 0), (9, 0), (2, v4), (9, 0), (0, v6), (0, v7), (0, v8), (0, v9), (0, v10), (9, 0)] m 200 := by
  have G := X.G
  unfold M_X6_value_J3 at h
  refine z_aload_n (nx := 128) (a := 0) G rfl (Or.inl rfl) dX6_value_127 rfl (b_getA (nx := 131) (k0 := 0) G hB fl_RX6_9 (Nat.le_of_ble_eq_true rfl) (Nat.le_of_ble_eq_true rfl) rfl hp_v0 dX6_value_128 rfl (z_iload (nx := 133) (a := 7) G rfl dX6_value_131 rfl (z_iload (nx := 135) (a := 9) G rfl dX6_value_133 rfl ?_)))
  refine z_if_ne (nx := 138) (tgt := 143) G dX6_value_135 (by decide) rfl (fun c => ?_) (fun c => ?_)
  · have h := h.1 c
    refine z_aload (nx := 145) (a := 4) G rfl (Or.inl rfl) dX6_value_143 rfl (z_iload (nx := 147) (a := 10) G rfl dX6_value_145 rfl ?_)
    obtain ⟨hb, h⟩ := h
    refine z_iald (nx := 148) G hp_v4 hb.1 hb.2 dX6_value_147 rfl ?_
    exact b_fewer (loc2 := [(2, v0), (2, v1), (9, 0), (9, 0), (2, v4), (9, 0), (0, v6), (0, v7), (0, v8), (9, 0), (9, 0), (9, 0)]) (am_lk (am_lk (am_lk (am_lk (am_lk (am_lk (am_lk (am_lk (am_lk (am_lf (am_lf (am_lk am_ln)))))))))))) (S_X6_value_J4 X hp_v0 hp_v1 hp_v4 (sh_6_0 _ hp_v0) hC56 hB h)
  · have h := h.2 c
    refine z_iload (nx := 140) (a := 10) G rfl dX6_value_138 rfl (z_goto (tgt := 148) G dX6_value_140 (by decide) ?_)
    exact b_fewer (loc2 := [(2, v0), (2, v1), (9, 0), (9, 0), (2, v4), (9, 0), (0, v6), (0, v7), (0, v8), (9, 0), (9, 0), (9, 0)]) (am_lk (am_lk (am_lk (am_lk (am_lk (am_lk (am_lk (am_lk (am_lk (am_lf (am_lf (am_lk am_ln)))))))))))) (S_X6_value_J4 X hp_v0 hp_v1 hp_v4 (sh_6_0 _ hp_v0) hC56 hB h)
set_option maxRecDepth 20000 in
set_option maxHeartbeats 4000000 in
theorem S_X6_value_J2 {F : am_F} {K : am_KK} {m : am_M} (X : am_Cx F cX6_value RX6 (some .int) 2 0 K) (hB : am_Bt m) (h : M_X6_value_J2  K m) : am_Z F 124 [] [(9, 0), (9, 0), (9, 0), (9, 0), (9, 0), (9, 0), (9, 0), (9, 0), (9, 0), (9, 0), (9, 0), (9, 0)] m 200 := by
  have G := X.G
  unfold M_X6_value_J2 at h
  refine z_ldc (nx := 126) (z := (-2000000000)) G (R32c rfl) rfl kw_RX6_39 dX6_value_124 rfl ?_
  exact b_ireturn X hB dX6_value_126 h
set_option maxRecDepth 20000 in
set_option maxHeartbeats 4000000 in
theorem S_X6_value_J1 {F : am_F} {K : am_KK} {v0 : Int} {v1 : Int} {v4 : Int} {v6 : Int} {v7 : Int} {v8 : Int} {v9 : Int} {v10 : Int} {C56 : Int → Int → am_M → Prop} {m : am_M} (X : am_Cx F cX6_value RX6 (some .int) 2 0 K) (hp_v0 : am_ob v0 6) (hp_v1 : am_ob v1 4) (hp_v4 : am_ar v4 20) (hC56 : ∀ w7 w8 m, C56 w7 w8 m → am_Bt m → am_Z F 56 [] [(2, v0), (2, v1), (9, 0), (9, 0), (2, v4), (9, 0), (0, v6), (0, w7), (0, w8), (9, 0), (9, 0), (9, 0)] m 200) (hB : am_Bt m) (h : M_X6_value_J1 v0 v1 v4 v6 v7 v8 v9 v10 C56 K m) : am_Z F 100 [] [(2, v0), (2, v1), (9, 0), (9, 0), (2, v4), (9, 0), (0, v6), (0, v7), (0, v8), (0, v9), (0, v10), (9, 0)] m 200 := by
  have G := X.G
  unfold M_X6_value_J1 at h
  refine z_iload (nx := 102) (a := 7) G rfl dX6_value_100 rfl (z_aload_n (nx := 103) (a := 0) G rfl (Or.inl rfl) dX6_value_102 rfl (b_getA (nx := 106) (k0 := 0) G hB fl_RX6_9 (Nat.le_of_ble_eq_true rfl) (Nat.le_of_ble_eq_true rfl) rfl hp_v0 dX6_value_103 rfl (b_alen (nx := 107) G (by decide) (by decide) (sh_6_0 _ hp_v0) dX6_value_106 rfl ?_)))
  refine z_icmp_ge (nx := 110) (tgt := 124) G dX6_value_107 (by decide) rfl (fun c => ?_) (fun c => ?_)
  · have h := h.1 c
    exact b_fewer (loc2 := [(9, 0), (9, 0), (9, 0), (9, 0), (9, 0), (9, 0), (9, 0), (9, 0), (9, 0), (9, 0), (9, 0), (9, 0)]) (am_lf (am_lf (am_lk (am_lk (am_lf (am_lk (am_lf (am_lf (am_lf (am_lf (am_lf (am_lk am_ln)))))))))))) (S_X6_value_J2 X hB h)
  · have h := h.2 c
    refine z_iload (nx := 112) (a := 9) G rfl dX6_value_110 rfl (z_iconst (nx := 113) (z := 1) G (R32c rfl) dX6_value_112 rfl ?_)
    refine z_icmp_ne (nx := 116) (tgt := 127) G dX6_value_113 (by decide) rfl (fun c => ?_) (fun c => ?_)
    · have h := h.1 c
      exact b_fewer (loc2 := [(2, v0), (2, v1), (9, 0), (9, 0), (2, v4), (9, 0), (0, v6), (0, v7), (0, v8), (0, v9), (0, v10), (9, 0)]) (am_lk (am_lk (am_lk (am_lk (am_lk (am_lk (am_lk (am_lk (am_lk (am_lk (am_lk (am_lk am_ln)))))))))))) (S_X6_value_J3 X hp_v0 hp_v1 hp_v4 hC56 hB h)
    · have h := h.2 c
      refine z_iload (nx := 118) (a := 10) G rfl dX6_value_116 rfl (z_aload (nx := 120) (a := 4) G rfl (Or.inl rfl) dX6_value_118 rfl (b_alen (nx := 121) G (by decide) (by decide) hp_v4 dX6_value_120 rfl ?_))
      refine z_icmp_lt (nx := 124) (tgt := 127) G dX6_value_121 (by decide) rfl (fun c => ?_) (fun c => ?_)
      · have h := h.1 c
        exact b_fewer (loc2 := [(2, v0), (2, v1), (9, 0), (9, 0), (2, v4), (9, 0), (0, v6), (0, v7), (0, v8), (0, v9), (0, v10), (9, 0)]) (am_lk (am_lk (am_lk (am_lk (am_lk (am_lk (am_lk (am_lk (am_lk (am_lk (am_lk (am_lk am_ln)))))))))))) (S_X6_value_J3 X hp_v0 hp_v1 hp_v4 hC56 hB h)
      · have h := h.2 c
        exact b_fewer (loc2 := [(9, 0), (9, 0), (9, 0), (9, 0), (9, 0), (9, 0), (9, 0), (9, 0), (9, 0), (9, 0), (9, 0), (9, 0)]) (am_lf (am_lf (am_lk (am_lk (am_lf (am_lk (am_lf (am_lf (am_lf (am_lf (am_lf (am_lk am_ln)))))))))))) (S_X6_value_J2 X hB h)
set_option maxRecDepth 20000 in
set_option maxHeartbeats 4000000 in
theorem S_X6_value_L1B {F : am_F} {K : am_KK} {v0 : Int} {v1 : Int} {v4 : Int} {v6 : Int} {v7 : Int} {v8 : Int} {C56 : Int → Int → am_M → Prop} {m : am_M} (X : am_Cx F cX6_value RX6 (some .int) 2 0 K) (hp_v0 : am_ob v0 6) (hp_v1 : am_ob v1 4) (hp_v4 : am_ar v4 20) (hC56 : ∀ w7 w8 m, C56 w7 w8 m → am_Bt m → am_Z F 56 [] [(2, v0), (2, v1), (9, 0), (9, 0), (2, v4), (9, 0), (0, v6), (0, w7), (0, w8), (9, 0), (9, 0), (9, 0)] m 200) (hB : am_Bt m) (h : M_X6_value_L1B v0 v1 v4 v6 v7 v8 C56 K m) : am_Z F 56 [] [(2, v0), (2, v1), (9, 0), (9, 0), (2, v4), (9, 0), (0, v6), (0, v7), (0, v8), (9, 0), (9, 0), (9, 0)] m 200 := by
  have G := X.G
  unfold M_X6_value_L1B at h
  refine z_iload (nx := 58) (a := 8) G rfl dX6_value_56 rfl (z_iload (nx := 60) (a := 6) G rfl dX6_value_58 rfl ?_)
  refine z_icmp_ge (nx := 63) (tgt := 310) G dX6_value_60 (by decide) rfl (fun c => ?_) (fun c => ?_)
  · have h := h.1 c
    refine z_iload (nx := 312) (a := 7) G rfl dX6_value_310 rfl (z_iconst (nx := 313) (z := 1) G (R32c rfl) dX6_value_312 rfl ?_)
    refine z_icmp_ne (nx := 316) (tgt := 325) G dX6_value_313 (by decide) rfl (fun c => ?_) (fun c => ?_)
    · have h := h.1 c
      refine z_ldc (nx := 327) (z := (-2000000000)) G (R32c rfl) rfl kw_RX6_39 dX6_value_325 rfl ?_
      exact b_ireturn X hB dX6_value_327 h
    · have h := h.2 c
      refine z_aload_n (nx := 317) (a := 0) G rfl (Or.inl rfl) dX6_value_316 rfl (b_getA (nx := 320) (k0 := 0) G hB fl_RX6_9 (Nat.le_of_ble_eq_true rfl) (Nat.le_of_ble_eq_true rfl) rfl hp_v0 dX6_value_317 rfl (z_iconst (nx := 321) (z := 0) G (R32c rfl) dX6_value_320 rfl ?_))
      obtain ⟨hb, h⟩ := h
      refine z_iald (nx := 322) G (sh_6_0 _ hp_v0) hb.1 hb.2 dX6_value_321 rfl ?_
      refine z_goto (tgt := 327) G dX6_value_322 (by decide) ?_
      exact b_ireturn X hB dX6_value_327 h
  · have h := h.2 c
    refine z_aload_n (nx := 64) (a := 1) G rfl (Or.inl rfl) dX6_value_63 rfl (b_getA (nx := 67) (k0 := 0) G hB fl_RX6_36 (Nat.le_of_ble_eq_true rfl) (Nat.le_of_ble_eq_true rfl) rfl hp_v1 dX6_value_64 rfl (z_iload (nx := 69) (a := 8) G rfl dX6_value_67 rfl ?_))
    obtain ⟨hb, h⟩ := h
    refine z_iald (nx := 70) G (sh_4_0 _ hp_v1) hb.1 hb.2 dX6_value_69 rfl ?_
    refine z_sipush (nx := 73) (z := 2048) G (R32c rfl) rfl dX6_value_70 rfl (z_idiv (nx := 74) G (by decide) dX6_value_73 rfl ?_)
    refine b_store (nx := 76) (a := 9) (loc2 := fun v9_7 => [(2, v0), (2, v1), (9, 0), (9, 0), (2, v4), (9, 0), (0, v6), (0, v7), (0, v8), (0, v9_7), (9, 0), (9, 0)]) G (fun _ => rfl) (Nat.le_of_ble_eq_true rfl) (am_pl1 rfl (fun h => nomatch h)) dX6_value_74 rfl (fun v9_7 e_v9_7 => ?_)
    have h := h v9_7 e_v9_7
    refine z_aload_n (nx := 77) (a := 1) G rfl (Or.inl rfl) dX6_value_76 rfl (b_getA (nx := 80) (k0 := 0) G hB fl_RX6_36 (Nat.le_of_ble_eq_true rfl) (Nat.le_of_ble_eq_true rfl) rfl hp_v1 dX6_value_77 rfl (z_iload (nx := 82) (a := 8) G rfl dX6_value_80 rfl ?_))
    obtain ⟨hb, h⟩ := h
    refine z_iald (nx := 83) G (sh_4_0 _ hp_v1) hb.1 hb.2 dX6_value_82 rfl ?_
    refine z_sipush (nx := 86) (z := 2048) G (R32c rfl) rfl dX6_value_83 rfl (z_irem (nx := 87) G (by decide) dX6_value_86 rfl ?_)
    refine b_store (nx := 89) (a := 10) (loc2 := fun v10_8 => [(2, v0), (2, v1), (9, 0), (9, 0), (2, v4), (9, 0), (0, v6), (0, v7), (0, v8), (0, v9_7), (0, v10_8), (9, 0)]) G (fun _ => rfl) (Nat.le_of_ble_eq_true rfl) (am_pl1 rfl (fun h => nomatch h)) dX6_value_87 rfl (fun v10_8 e_v10_8 => ?_)
    have h := h v10_8 e_v10_8
    refine z_iload (nx := 91) (a := 9) G rfl dX6_value_89 rfl ?_
    refine z_if_eq (nx := 94) (tgt := 100) G dX6_value_91 (by decide) rfl (fun c => ?_) (fun c => ?_)
    · have h := h.1 c
      exact b_fewer (loc2 := [(2, v0), (2, v1), (9, 0), (9, 0), (2, v4), (9, 0), (0, v6), (0, v7), (0, v8), (0, v9_7), (0, v10_8), (9, 0)]) (am_lk (am_lk (am_lk (am_lk (am_lk (am_lk (am_lk (am_lk (am_lk (am_lk (am_lk (am_lk am_ln)))))))))))) (S_X6_value_J1 X hp_v0 hp_v1 hp_v4 hC56 hB h)
    · have h := h.2 c
      refine z_iload (nx := 96) (a := 9) G rfl dX6_value_94 rfl (z_iconst (nx := 97) (z := 1) G (R32c rfl) dX6_value_96 rfl ?_)
      refine z_icmp_ne (nx := 100) (tgt := 155) G dX6_value_97 (by decide) rfl (fun c => ?_) (fun c => ?_)
      · have h := h.1 c
        refine z_iload (nx := 157) (a := 7) G rfl dX6_value_155 rfl (z_iconst (nx := 158) (z := 1) G (R32c rfl) dX6_value_157 rfl ?_)
        refine z_icmp_ge (nx := 161) (tgt := 164) G dX6_value_158 (by decide) rfl (fun c => ?_) (fun c => ?_)
        · have h := h.1 c
          refine z_iload (nx := 166) (a := 9) G rfl dX6_value_164 rfl (z_iconst (nx := 167) (z := 2) G (R32c rfl) dX6_value_166 rfl ?_)
          refine z_icmp_ne (nx := 170) (tgt := 193) G dX6_value_167 (by decide) rfl (fun c => ?_) (fun c => ?_)
          · have h := h.1 c
            refine z_iload (nx := 195) (a := 9) G rfl dX6_value_193 rfl (z_iconst (nx := 196) (z := 3) G (R32c rfl) dX6_value_195 rfl ?_)
            refine z_icmp_eq (nx := 199) (tgt := 205) G dX6_value_196 (by decide) rfl (fun c => ?_) (fun c => ?_)
            · have h := h.1 c
              exact b_fewer (loc2 := [(2, v0), (2, v1), (9, 0), (9, 0), (2, v4), (9, 0), (0, v6), (0, v7), (0, v8), (0, v9_7), (0, v10_8), (9, 0)]) (am_lk (am_lk (am_lk (am_lk (am_lk (am_lk (am_lk (am_lk (am_lk (am_lk (am_lk (am_lk am_ln)))))))))))) (S_X6_value_J5 X hp_v0 hp_v1 hp_v4 hC56 hB h)
            · have h := h.2 c
              refine z_iload (nx := 201) (a := 9) G rfl dX6_value_199 rfl (z_iconst (nx := 202) (z := 4) G (R32c rfl) dX6_value_201 rfl ?_)
              refine z_icmp_ne (nx := 205) (tgt := 244) G dX6_value_202 (by decide) rfl (fun c => ?_) (fun c => ?_)
              · have h := h.1 c
                refine b_iinc (nx := 247) (a := 7) (loc2 := fun v7_9 => [(2, v0), (2, v1), (9, 0), (9, 0), (2, v4), (9, 0), (0, v6), (0, v7_9), (0, v8), (0, v9_7), (0, v10_8), (9, 0)]) G (fun _ => rfl) rfl (am_pl1 rfl (fun h => nomatch h)) dX6_value_244 rfl (fun v7_9 e_v7_9 => ?_)
                have h := h v7_9 e_v7_9
                refine z_iload (nx := 249) (a := 7) G rfl dX6_value_247 rfl (z_iconst (nx := 250) (z := 1) G (R32c rfl) dX6_value_249 rfl ?_)
                refine z_icmp_ge (nx := 253) (tgt := 258) G dX6_value_250 (by decide) rfl (fun c => ?_) (fun c => ?_)
                · have h := h.1 c
                  refine z_iload (nx := 260) (a := 9) G rfl dX6_value_258 rfl (z_aload_n (nx := 261) (a := 0) G rfl (Or.inl rfl) dX6_value_260 rfl (b_getA (nx := 264) (k0 := 0) G hB fl_RX6_9 (Nat.le_of_ble_eq_true rfl) (Nat.le_of_ble_eq_true rfl) rfl hp_v0 dX6_value_261 rfl (z_iload (nx := 266) (a := 7) G rfl dX6_value_264 rfl (z_iconst (nx := 267) (z := 1) G (R32c rfl) dX6_value_266 rfl (z_isub (nx := 268) G dX6_value_267 rfl ?_)))))
                  obtain ⟨hb, h⟩ := h
                  refine z_iald (nx := 269) G (sh_6_0 _ hp_v0) hb.1 hb.2 dX6_value_268 rfl ?_
                  refine z_i2l (nx := 270) G dX6_value_269 rfl (z_aload_n (nx := 271) (a := 0) G rfl (Or.inl rfl) dX6_value_270 rfl (b_getA (nx := 274) (k0 := 0) G hB fl_RX6_9 (Nat.le_of_ble_eq_true rfl) (Nat.le_of_ble_eq_true rfl) rfl hp_v0 dX6_value_271 rfl (z_iload (nx := 276) (a := 7) G rfl dX6_value_274 rfl ?_)))
                  obtain ⟨hb, h⟩ := h
                  refine z_iald (nx := 277) G (sh_6_0 _ hp_v0) hb.1 hb.2 dX6_value_276 rfl ?_
                  refine z_i2l (nx := 278) G dX6_value_277 rfl ?_
                  refine b_callS0 (nx := 281) (zs := [v9_7, m (am_rfv v0 0) (w32 (v7_9 - 1)), m (am_rfv v0 0) v7_9]) (as := [(0, v9_7), (1, m (am_rfv v0 0) (w32 (v7_9 - 1))), (1, m (am_rfv v0 0) v7_9)]) X hB SS_X6_join (am_ti (am_tj (am_tj am_tn))) (Nat.le_of_ble_eq_true rfl) (Nat.le_of_ble_eq_true rfl) ml_RX6_40 sw_X6_join (am_plainC 6 (by decide)) cw_X6_join nw_RX6 pp_X6_join (Nat.le_of_ble_eq_true rfl) dX6_value_278 rfl (NM_X6_join h) (fun r_10 m_11 h hB => ?_)
                  exact b_fewer (loc2 := [(2, v0), (2, v1), (9, 0), (9, 0), (2, v4), (9, 0), (0, v6), (0, v7_9), (0, v8), (9, 0), (9, 0), (9, 0)]) (am_lk (am_lk (am_lk (am_lk (am_lk (am_lk (am_lk (am_lk (am_lk (am_lf (am_lf (am_lk am_ln)))))))))))) (S_X6_value_J7 X hp_v0 hp_v1 hp_v4 hC56 hB h)
                · have h := h.2 c
                  refine z_ldc (nx := 255) (z := (-2000000000)) G (R32c rfl) rfl kw_RX6_39 dX6_value_253 rfl (z_goto (tgt := 281) G dX6_value_255 (by decide) ?_)
                  exact b_fewer (loc2 := [(2, v0), (2, v1), (9, 0), (9, 0), (2, v4), (9, 0), (0, v6), (0, v7_9), (0, v8), (9, 0), (9, 0), (9, 0)]) (am_lk (am_lk (am_lk (am_lk (am_lk (am_lk (am_lk (am_lk (am_lk (am_lf (am_lf (am_lk am_ln)))))))))))) (S_X6_value_J7 X hp_v0 hp_v1 hp_v4 hC56 hB h)
              · have h := h.2 c
                exact b_fewer (loc2 := [(2, v0), (2, v1), (9, 0), (9, 0), (2, v4), (9, 0), (0, v6), (0, v7), (0, v8), (0, v9_7), (0, v10_8), (9, 0)]) (am_lk (am_lk (am_lk (am_lk (am_lk (am_lk (am_lk (am_lk (am_lk (am_lk (am_lk (am_lk am_ln)))))))))))) (S_X6_value_J5 X hp_v0 hp_v1 hp_v4 hC56 hB h)
          · have h := h.2 c
            refine z_aload_n (nx := 171) (a := 0) G rfl (Or.inl rfl) dX6_value_170 rfl (b_getA (nx := 174) (k0 := 0) G hB fl_RX6_9 (Nat.le_of_ble_eq_true rfl) (Nat.le_of_ble_eq_true rfl) rfl hp_v0 dX6_value_171 rfl (z_iload (nx := 176) (a := 7) G rfl dX6_value_174 rfl (z_iconst (nx := 177) (z := 1) G (R32c rfl) dX6_value_176 rfl (z_isub (nx := 178) G dX6_value_177 rfl (z_iconst (nx := 179) (z := 1) G (R32c rfl) dX6_value_178 rfl (z_aload_n (nx := 180) (a := 0) G rfl (Or.inl rfl) dX6_value_179 rfl (b_getA (nx := 183) (k0 := 0) G hB fl_RX6_9 (Nat.le_of_ble_eq_true rfl) (Nat.le_of_ble_eq_true rfl) rfl hp_v0 dX6_value_180 rfl (z_iload (nx := 185) (a := 7) G rfl dX6_value_183 rfl (z_iconst (nx := 186) (z := 1) G (R32c rfl) dX6_value_185 rfl (z_isub (nx := 187) G dX6_value_186 rfl ?_))))))))))
            obtain ⟨hb, h⟩ := h
            refine z_iald (nx := 188) G (sh_6_0 _ hp_v0) hb.1 hb.2 dX6_value_187 rfl ?_
            refine z_isub (nx := 189) G dX6_value_188 rfl ?_
            obtain ⟨hb, h⟩ := h
            refine b_iast (nx := 190) G hB (sh_6_0 _ hp_v0) hb.1 hb.2 dX6_value_189 rfl (fun m_12 e_m_12 hB => ?_)
            have h := h m_12 e_m_12
            refine z_goto (tgt := 304) G dX6_value_190 (by decide) ?_
            exact b_fewer (loc2 := [(2, v0), (2, v1), (9, 0), (9, 0), (2, v4), (9, 0), (0, v6), (0, v7), (0, v8), (9, 0), (9, 0), (9, 0)]) (am_lk (am_lk (am_lk (am_lk (am_lk (am_lk (am_lk (am_lk (am_lk (am_lf (am_lf (am_lk am_ln)))))))))))) (S_X6_value_J8 X hp_v0 hp_v1 hp_v4 hC56 hB h)
        · have h := h.2 c
          refine z_ldc (nx := 163) (z := (-2000000000)) G (R32c rfl) rfl kw_RX6_39 dX6_value_161 rfl ?_
          exact b_ireturn X hB dX6_value_163 h
      · have h := h.2 c
        exact b_fewer (loc2 := [(2, v0), (2, v1), (9, 0), (9, 0), (2, v4), (9, 0), (0, v6), (0, v7), (0, v8), (0, v9_7), (0, v10_8), (9, 0)]) (am_lk (am_lk (am_lk (am_lk (am_lk (am_lk (am_lk (am_lk (am_lk (am_lk (am_lk (am_lk am_ln)))))))))))) (S_X6_value_J1 X hp_v0 hp_v1 hp_v4 hC56 hB h)
theorem S_X6_value_L1 {F : am_F} {K : am_KK} {v0 : Int} {v1 : Int} {v4 : Int} {v6 : Int} {v7 : Int} {v8 : Int} {m : am_M} (X : am_Cx F cX6_value RX6 (some .int) 2 0 K) (hp_v0 : am_ob v0 6) (hp_v1 : am_ob v1 4) (hp_v4 : am_ar v4 20) (hB : am_Bt m) (h : M_X6_value_L1 v0 v1 v4 v6 v7 v8 K m) : am_Z F 56 [] [(2, v0), (2, v1), (9, 0), (9, 0), (2, v4), (9, 0), (0, v6), (0, v7), (0, v8), (9, 0), (9, 0), (9, 0)] m 200 := by
  obtain ⟨I, ⟨j, hj⟩, hI⟩ := h
  have key : ∀ j v7 v8 m, I j v7 v8 m → am_Bt m → am_Z F 56 [] [(2, v0), (2, v1), (9, 0), (9, 0), (2, v4), (9, 0), (0, v6), (0, v7), (0, v8), (9, 0), (9, 0), (9, 0)] m 200 := by
    intro j
    induction j using Nat.strongRecOn with
    | ind j ih =>
      intro v7 v8 m hj hB
      exact S_X6_value_L1B X hp_v0 hp_v1 hp_v4 (fun v7' v8' m' hc hB' => by
        obtain ⟨j', g1, g2⟩ := hc
        exact ih j' g1 v7' v8' m' g2 hB') hB (hI j v7 v8 m hj)
  exact key j _ _ _ hj hB
set_option maxRecDepth 20000 in
set_option maxHeartbeats 4000000 in
theorem S_X6_value {F : am_F} {K : am_KK} {v0 : Int} {v1 : Int} {v2 : Int} {v3 : Int} {v4 : Int} {m : am_M} (X : am_Cx F cX6_value RX6 (some .int) 2 0 K) (hp_v0 : am_ob v0 6) (hp_v1 : am_ob v1 4) (hp_v4 : am_ar v4 20) (hB : am_Bt m) (h : M_X6_value v0 v1 v2 v3 v4 K m) : am_Z F 0 [] [(2, v0), (2, v1), (0, v2), (0, v3), (2, v4), (9, 0), (9, 0), (9, 0), (9, 0), (9, 0), (9, 0), (9, 0)] m 200 := by
  have G := X.G
  unfold M_X6_value at h
  refine z_aload_n (nx := 1) (a := 1) G rfl (Or.inl rfl) dX6_value_0 rfl (b_getA (nx := 4) (k0 := 2) G hB fl_RX6_15 (Nat.le_of_ble_eq_true rfl) (Nat.le_of_ble_eq_true rfl) rfl hp_v1 dX6_value_1 rfl (z_iload_n (nx := 5) (a := 2) G rfl dX6_value_4 rfl (z_iconst (nx := 6) (z := 2) G (R32c rfl) dX6_value_5 rfl (z_iload_n (nx := 7) (a := 3) G rfl dX6_value_6 rfl (z_iadd (nx := 8) G dX6_value_7 rfl ?_)))))
  refine b_callV0 (nx := 11) (zs := [am_rfv v1 2, v2, w32 (2 + v3)]) (as := [(0, v2), (0, w32 (2 + v3))]) X hB (by decide) rfl (sh_4_2 _ hp_v1) SS_X7_get (am_ta (am_ti (am_ti am_tn))) (Nat.le_of_ble_eq_true rfl) (Nat.le_of_ble_eq_true rfl) ml_RX6_21 iw_X7_get vw_X7_get cw_X7_get nw_RX7 pp_X7_get (Nat.le_of_ble_eq_true rfl) dX6_value_8 rfl (NM_X7_get (sh_4_2 _ hp_v1) h) (fun r_13 m_14 h hB => ?_)
  refine b_storeE (nx := 13) (a := 5) (loc2 := [(2, v0), (2, v1), (0, v2), (0, v3), (2, v4), (0, r_13), (9, 0), (9, 0), (9, 0), (9, 0), (9, 0), (9, 0)]) G rfl (Nat.le_of_ble_eq_true rfl) (am_pl1 rfl (fun h => nomatch h)) dX6_value_11 rfl (z_aload_n (nx := 14) (a := 1) G rfl (Or.inl rfl) dX6_value_13 rfl (b_getA (nx := 17) (k0 := 2) G hB fl_RX6_15 (Nat.le_of_ble_eq_true rfl) (Nat.le_of_ble_eq_true rfl) rfl hp_v1 dX6_value_14 rfl (z_iload_n (nx := 18) (a := 2) G rfl dX6_value_17 rfl (z_iconst (nx := 19) (z := 2) G (R32c rfl) dX6_value_18 rfl (z_iload_n (nx := 20) (a := 3) G rfl dX6_value_19 rfl (z_iadd (nx := 21) G dX6_value_20 rfl (z_iconst (nx := 22) (z := 1) G (R32c rfl) dX6_value_21 rfl (z_iadd (nx := 23) G dX6_value_22 rfl ?_))))))))
  refine b_callV0 (nx := 26) (zs := [am_rfv v1 2, v2, w32 ((w32 (2 + v3)) + 1)]) (as := [(0, v2), (0, w32 ((w32 (2 + v3)) + 1))]) X hB (by decide) rfl (sh_4_2 _ hp_v1) SS_X7_get (am_ta (am_ti (am_ti am_tn))) (Nat.le_of_ble_eq_true rfl) (Nat.le_of_ble_eq_true rfl) ml_RX6_21 iw_X7_get vw_X7_get cw_X7_get nw_RX7 pp_X7_get (Nat.le_of_ble_eq_true rfl) dX6_value_23 rfl (NM_X7_get (sh_4_2 _ hp_v1) h) (fun r_15 m_16 h hB => ?_)
  refine z_aload_n (nx := 27) (a := 1) G rfl (Or.inl rfl) dX6_value_26 rfl (b_getI (nx := 30) (k0 := 1) (t := 0) G fl_RX6_27 (Nat.le_of_ble_eq_true rfl) (Nat.le_of_ble_eq_true rfl) rfl hp_v1 dX6_value_27 rfl (b_mmin (nx := 33) X ml_RX6_31 (Nat.le_of_ble_eq_true rfl) dX6_value_30 rfl ?_))
  refine b_store (nx := 35) (a := 6) (loc2 := fun v6_17 => [(2, v0), (2, v1), (0, v2), (0, v3), (2, v4), (0, r_13), (0, v6_17), (9, 0), (9, 0), (9, 0), (9, 0), (9, 0)]) G (fun _ => rfl) (Nat.le_of_ble_eq_true rfl) (am_pl1 rfl (fun h => nomatch h)) dX6_value_33 rfl (fun v6_17 e_v6_17 => ?_)
  have h := h v6_17 e_v6_17
  refine z_iload (nx := 37) (a := 5) G rfl dX6_value_35 rfl ?_
  refine z_if_lt (nx := 40) (tgt := 47) G dX6_value_37 (by decide) rfl (fun c => ?_) (fun c => ?_)
  · have h := h.1 c
    refine z_iconst (nx := 48) (z := 1) G (R32c rfl) dX6_value_47 rfl ?_
    exact b_ireturn X hB dX6_value_48 h
  · have h := h.2 c
    refine z_iload (nx := 42) (a := 5) G rfl dX6_value_40 rfl (z_iload (nx := 44) (a := 6) G rfl dX6_value_42 rfl ?_)
    refine z_icmp_lt (nx := 47) (tgt := 49) G dX6_value_44 (by decide) rfl (fun c => ?_) (fun c => ?_)
    · have h := h.1 c
      refine z_iconst (nx := 50) (z := 0) G (R32c rfl) dX6_value_49 rfl (b_storeE (nx := 52) (a := 7) (loc2 := [(2, v0), (2, v1), (0, v2), (0, v3), (2, v4), (0, r_13), (0, v6_17), (0, 0), (9, 0), (9, 0), (9, 0), (9, 0)]) G rfl (Nat.le_of_ble_eq_true rfl) (am_pl1 rfl (fun h => nomatch h)) dX6_value_50 rfl (z_iload (nx := 54) (a := 5) G rfl dX6_value_52 rfl (b_storeE (nx := 56) (a := 8) (loc2 := [(2, v0), (2, v1), (0, v2), (0, v3), (2, v4), (0, r_13), (0, v6_17), (0, 0), (0, r_13), (9, 0), (9, 0), (9, 0)]) G rfl (Nat.le_of_ble_eq_true rfl) (am_pl1 rfl (fun h => nomatch h)) dX6_value_54 rfl ?_)))
      exact b_fewer (loc2 := [(2, v0), (2, v1), (9, 0), (9, 0), (2, v4), (9, 0), (0, v6_17), (0, 0), (0, r_13), (9, 0), (9, 0), (9, 0)]) (am_lk (am_lk (am_lf (am_lf (am_lk (am_lf (am_lk (am_lk (am_lk (am_lk (am_lk (am_lk am_ln)))))))))))) (S_X6_value_L1 X hp_v0 hp_v1 hp_v4 hB h)
    · have h := h.2 c
      refine z_iconst (nx := 48) (z := 1) G (R32c rfl) dX6_value_47 rfl ?_
      exact b_ireturn X hB dX6_value_48 h
theorem NM_X6_value {v0 : Int} {v1 : Int} {v2 : Int} {v3 : Int} {v4 : Int} {K : am_KK} {m : am_M} (hp_v0 : am_ob v0 6) (hp_v1 : am_ob v1 4) (hp_v4 : am_ar v4 20) (h : M_X6_value v0 v1 v2 v3 v4 K m) : N_X6_value [v0, v1, v2, v3, v4] K m := ⟨hp_v0, hp_v1, hp_v4, h⟩
theorem SS_X6_value : am_Snd yX6_value cX6_value 12 (some .int) 0 2 (am_L [2, 2, 0, 0, 2] 0 N_X6_value) := by
  refine am_SB (by decide +kernel) (Nat.le_of_ble_eq_true rfl) (fun F zs as K m X ht hB hM => ?_)
  obtain ⟨v0, zs, as, rfl, rfl, hz0, ht⟩ := am_inv ht
  obtain ⟨v1, zs, as, rfl, rfl, hz1, ht⟩ := am_inv ht
  obtain ⟨v2, zs, as, rfl, rfl, hz2, ht⟩ := am_inv ht
  obtain ⟨v3, zs, as, rfl, rfl, hz3, ht⟩ := am_inv ht
  obtain ⟨v4, zs, as, rfl, rfl, hz4, ht⟩ := am_inv ht
  obtain ⟨rfl, rfl⟩ := am_inv0 ht
  obtain ⟨hp_v0, hp_v1, hp_v4, hM⟩ := hM
  exact S_X6_value X hp_v0 hp_v1 hp_v4 hB hM
set_option maxRecDepth 20000 in
set_option maxHeartbeats 4000000 in
theorem S_X3_tells_J1 {F : am_F} {K : am_KK} {v0 : Int} {v2 : Int} {v3 : Int} {v4 : Int} {v5 : Int} {v6 : Int} {v7 : Int} {C25 : Int → am_M → Prop} {m : am_M} (X : am_Cx F cX3_tells RX3 (some .int) 3 0 K) (hp_v0 : am_ob v0 3) (hC25 : ∀ w7 m, C25 w7 m → am_Bt m → am_Z F 25 [] [(2, v0), (9, 0), (0, v2), (0, v3), (0, v4), (0, v5), (2, v6), (0, w7), (9, 0)] m 200) (hB : am_Bt m) (h : M_X3_tells_J1 v0 v2 v3 v4 v5 v6 v7 C25 K m) : am_Z F 103 [] [(2, v0), (9, 0), (0, v2), (0, v3), (0, v4), (0, v5), (2, v6), (0, v7), (9, 0)] m 200 := by
  have G := X.G
  unfold M_X3_tells_J1 at h
  refine b_iinc (nx := 106) (a := 7) (loc2 := fun v7_1 => [(2, v0), (9, 0), (0, v2), (0, v3), (0, v4), (0, v5), (2, v6), (0, v7_1), (9, 0)]) G (fun _ => rfl) rfl (am_pl1 rfl (fun h => nomatch h)) dX3_tells_103 rfl (fun v7_1 e_v7_1 => ?_)
  have h := h v7_1 e_v7_1
  refine z_goto (tgt := 25) G dX3_tells_106 (by decide) ?_
  exact b_fewer (loc2 := [(2, v0), (9, 0), (0, v2), (0, v3), (0, v4), (0, v5), (2, v6), (0, v7_1), (9, 0)]) (am_lk (am_lk (am_lk (am_lk (am_lk (am_lk (am_lk (am_lk (am_lk am_ln))))))))) (hC25 _ _ h hB)
set_option maxRecDepth 20000 in
set_option maxHeartbeats 4000000 in
theorem S_X3_tells_L1B {F : am_F} {K : am_KK} {v0 : Int} {v2 : Int} {v3 : Int} {v4 : Int} {v5 : Int} {v6 : Int} {v7 : Int} {C25 : Int → am_M → Prop} {m : am_M} (X : am_Cx F cX3_tells RX3 (some .int) 3 0 K) (hp_v0 : am_ob v0 3) (hC25 : ∀ w7 m, C25 w7 m → am_Bt m → am_Z F 25 [] [(2, v0), (9, 0), (0, v2), (0, v3), (0, v4), (0, v5), (2, v6), (0, w7), (9, 0)] m 200) (hB : am_Bt m) (h : M_X3_tells_L1B v0 v2 v3 v4 v5 v6 v7 C25 K m) : am_Z F 25 [] [(2, v0), (9, 0), (0, v2), (0, v3), (0, v4), (0, v5), (2, v6), (0, v7), (9, 0)] m 200 := by
  have G := X.G
  unfold M_X3_tells_L1B at h
  refine z_iload (nx := 27) (a := 7) G rfl dX3_tells_25 rfl ?_
  refine z_if_lt (nx := 30) (tgt := 109) G dX3_tells_27 (by decide) rfl (fun c => ?_) (fun c => ?_)
  · have h := h.1 c
    refine z_iload_n (nx := 110) (a := 3) G rfl dX3_tells_109 rfl ?_
    exact b_ireturn X hB dX3_tells_110 h
  · have h := h.2 c
    refine z_aload (nx := 32) (a := 6) G rfl (Or.inl rfl) dX3_tells_30 rfl ?_
    obtain ⟨hq_2, h⟩ := h
    refine b_getA (nx := 35) (k0 := 2) G hB fl_RX3_51 (Nat.le_of_ble_eq_true rfl) (Nat.le_of_ble_eq_true rfl) rfl hq_2 dX3_tells_32 rfl (z_iload (nx := 37) (a := 7) G rfl dX3_tells_35 rfl (z_iconst (nx := 38) (z := 0) G (R32c rfl) dX3_tells_37 rfl ?_))
    refine b_callV0 (nx := 41) (zs := [am_rfv v6 2, v7, 0]) (as := [(0, v7), (0, 0)]) X hB (by decide) rfl (sh_4_2 _ hq_2) SS_X7_get (am_ta (am_ti (am_ti am_tn))) (Nat.le_of_ble_eq_true rfl) (Nat.le_of_ble_eq_true rfl) ml_RX3_28 iw_X7_get vw_X7_get cw_X7_get nw_RX7 pp_X7_get (Nat.le_of_ble_eq_true rfl) dX3_tells_38 rfl (NM_X7_get (sh_4_2 _ hq_2) h) (fun r_3 m_4 h hB => ?_)
    refine z_iload_n (nx := 42) (a := 2) G rfl dX3_tells_41 rfl ?_
    refine z_icmp_ne (nx := 45) (tgt := 103) G dX3_tells_42 (by decide) rfl (fun c => ?_) (fun c => ?_)
    · have h := h.1 c
      exact b_fewer (loc2 := [(2, v0), (9, 0), (0, v2), (0, v3), (0, v4), (0, v5), (2, v6), (0, v7), (9, 0)]) (am_lk (am_lk (am_lk (am_lk (am_lk (am_lk (am_lk (am_lk (am_lk am_ln))))))))) (S_X3_tells_J1 X hp_v0 hC25 hB h)
    · have h := h.2 c
      refine z_aload_n (nx := 46) (a := 0) G rfl (Or.inl rfl) dX3_tells_45 rfl (b_getA (nx := 49) (k0 := 1) G hB fl_RX3_18 (Nat.le_of_ble_eq_true rfl) (Nat.le_of_ble_eq_true rfl) rfl hp_v0 dX3_tells_46 rfl (z_aload (nx := 51) (a := 6) G rfl (Or.inl rfl) dX3_tells_49 rfl (z_iload (nx := 53) (a := 7) G rfl dX3_tells_51 rfl (z_iconst (nx := 54) (z := 3) G (R32c rfl) dX3_tells_53 rfl (z_aload_n (nx := 55) (a := 0) G rfl (Or.inl rfl) dX3_tells_54 rfl (b_getA (nx := 58) (k0 := 0) G hB fl_RX3_9 (Nat.le_of_ble_eq_true rfl) (Nat.le_of_ble_eq_true rfl) rfl hp_v0 dX3_tells_55 rfl ?_))))))
      refine b_callV0 (nx := 61) (zs := [am_rfv v0 1, v6, v7, 3, am_rfv v0 0]) (as := [(2, v6), (0, v7), (0, 3), (2, am_rfv v0 0)]) X hB (by decide) rfl (sh_3_1 _ hp_v0) SS_X6_value (am_ta (am_ta (am_ti (am_ti (am_ta am_tn))))) (Nat.le_of_ble_eq_true rfl) (Nat.le_of_ble_eq_true rfl) ml_RX3_60 iw_X6_value vw_X6_value cw_X6_value nw_RX6 pp_X6_value (Nat.le_of_ble_eq_true rfl) dX3_tells_58 rfl (NM_X6_value (sh_3_1 _ hp_v0) hq_2 (sh_3_0 _ hp_v0) h) (fun r_5 m_6 h hB => ?_)
      refine z_iconst (nx := 62) (z := 1) G (R32c rfl) dX3_tells_61 rfl ?_
      refine z_icmp_ne (nx := 65) (tgt := 103) G dX3_tells_62 (by decide) rfl (fun c => ?_) (fun c => ?_)
      · have h := h.1 c
        exact b_fewer (loc2 := [(2, v0), (9, 0), (0, v2), (0, v3), (0, v4), (0, v5), (2, v6), (0, v7), (9, 0)]) (am_lk (am_lk (am_lk (am_lk (am_lk (am_lk (am_lk (am_lk (am_lk am_ln))))))))) (S_X3_tells_J1 X hp_v0 hC25 hB h)
      · have h := h.2 c
        refine z_aload_n (nx := 66) (a := 0) G rfl (Or.inl rfl) dX3_tells_65 rfl (b_getA (nx := 69) (k0 := 1) G hB fl_RX3_18 (Nat.le_of_ble_eq_true rfl) (Nat.le_of_ble_eq_true rfl) rfl hp_v0 dX3_tells_66 rfl (z_aload (nx := 71) (a := 6) G rfl (Or.inl rfl) dX3_tells_69 rfl (z_iload (nx := 73) (a := 7) G rfl dX3_tells_71 rfl (z_iconst (nx := 74) (z := 0) G (R32c rfl) dX3_tells_73 rfl (z_aload_n (nx := 75) (a := 0) G rfl (Or.inl rfl) dX3_tells_74 rfl (b_getA (nx := 78) (k0 := 0) G hB fl_RX3_9 (Nat.le_of_ble_eq_true rfl) (Nat.le_of_ble_eq_true rfl) rfl hp_v0 dX3_tells_75 rfl ?_))))))
        refine b_callV0 (nx := 81) (zs := [am_rfv v0 1, v6, v7, 0, am_rfv v0 0]) (as := [(2, v6), (0, v7), (0, 0), (2, am_rfv v0 0)]) X hB (by decide) rfl (sh_3_1 _ hp_v0) SS_X6_value (am_ta (am_ta (am_ti (am_ti (am_ta am_tn))))) (Nat.le_of_ble_eq_true rfl) (Nat.le_of_ble_eq_true rfl) ml_RX3_60 iw_X6_value vw_X6_value cw_X6_value nw_RX6 pp_X6_value (Nat.le_of_ble_eq_true rfl) dX3_tells_78 rfl (NM_X6_value (sh_3_1 _ hp_v0) hq_2 (sh_3_0 _ hp_v0) h) (fun r_7 m_8 h hB => ?_)
        refine b_storeE (nx := 83) (a := 8) (loc2 := [(2, v0), (9, 0), (0, v2), (0, v3), (0, v4), (0, v5), (2, v6), (0, v7), (0, r_7)]) G rfl (Nat.le_of_ble_eq_true rfl) (am_pl1 rfl (fun h => nomatch h)) dX3_tells_81 rfl (z_iload (nx := 85) (a := 8) G rfl dX3_tells_83 rfl (z_ldc (nx := 87) (z := (-2000000000)) G (R32c rfl) rfl kw_RX3_64 dX3_tells_85 rfl ?_))
        refine z_icmp_eq (nx := 90) (tgt := 103) G dX3_tells_87 (by decide) rfl (fun c => ?_) (fun c => ?_)
        · have h := h.1 c
          exact b_fewer (loc2 := [(2, v0), (9, 0), (0, v2), (0, v3), (0, v4), (0, v5), (2, v6), (0, v7), (9, 0)]) (am_lk (am_lk (am_lk (am_lk (am_lk (am_lk (am_lk (am_lk (am_lf am_ln))))))))) (S_X3_tells_J1 X hp_v0 hC25 hB h)
        · have h := h.2 c
          refine z_iload (nx := 92) (a := 4) G rfl dX3_tells_90 rfl (z_iload (nx := 94) (a := 5) G rfl dX3_tells_92 rfl (z_iload (nx := 96) (a := 8) G rfl dX3_tells_94 rfl (b_mmin (nx := 99) X ml_RX3_65 (Nat.le_of_ble_eq_true rfl) dX3_tells_96 rfl (b_mmax (nx := 102) X ml_RX3_70 (Nat.le_of_ble_eq_true rfl) dX3_tells_99 rfl ?_))))
          exact b_ireturn X hB dX3_tells_102 h
theorem S_X3_tells_L1 {F : am_F} {K : am_KK} {v0 : Int} {v2 : Int} {v3 : Int} {v4 : Int} {v5 : Int} {v6 : Int} {v7 : Int} {m : am_M} (X : am_Cx F cX3_tells RX3 (some .int) 3 0 K) (hp_v0 : am_ob v0 3) (hB : am_Bt m) (h : M_X3_tells_L1 v0 v2 v3 v4 v5 v6 v7 K m) : am_Z F 25 [] [(2, v0), (9, 0), (0, v2), (0, v3), (0, v4), (0, v5), (2, v6), (0, v7), (9, 0)] m 200 := by
  obtain ⟨I, ⟨j, hj⟩, hI⟩ := h
  have key : ∀ j v7 m, I j v7 m → am_Bt m → am_Z F 25 [] [(2, v0), (9, 0), (0, v2), (0, v3), (0, v4), (0, v5), (2, v6), (0, v7), (9, 0)] m 200 := by
    intro j
    induction j using Nat.strongRecOn with
    | ind j ih =>
      intro v7 m hj hB
      exact S_X3_tells_L1B X hp_v0 (fun v7' m' hc hB' => by
        obtain ⟨j', g1, g2⟩ := hc
        exact ih j' g1 v7' m' g2 hB') hB (hI j v7 m hj)
  exact key j _ _ hj hB
set_option maxRecDepth 20000 in
set_option maxHeartbeats 4000000 in
theorem S_X3_tells {F : am_F} {K : am_KK} {v0 : Int} {v1 : Int} {v2 : Int} {v3 : Int} {v4 : Int} {v5 : Int} {m : am_M} (X : am_Cx F cX3_tells RX3 (some .int) 3 0 K) (hp_v0 : am_ob v0 3) (hp_v1 : am_ob v1 0) (hB : am_Bt m) (h : M_X3_tells v0 v1 v2 v3 v4 v5 K m) : am_Z F 0 [] [(2, v0), (2, v1), (0, v2), (0, v3), (0, v4), (0, v5), (9, 0), (9, 0), (9, 0)] m 200 := by
  have G := X.G
  unfold M_X3_tells at h
  refine z_aload_n (nx := 1) (a := 1) G rfl (Or.inl rfl) dX3_tells_0 rfl ?_
  refine b_callV2 (nx := 4) (zs := [v1]) (as := []) X hB (by decide) rfl hp_v1 SS_X0_ruling (am_ta am_tn) (Nat.le_of_ble_eq_true rfl) (Nat.le_of_ble_eq_true rfl) ml_RX3_47 iw_X0_ruling vw_X0_ruling cw_X0_ruling nw_RX0 pp_X0_ruling (Nat.le_of_ble_eq_true rfl) dX3_tells_1 rfl (NM_X0_ruling hp_v1 h) (fun r_9 m_10 h hB => ?_)
  refine b_astore (nx := 6) (a := 6) (loc2 := [(2, v0), (2, v1), (0, v2), (0, v3), (0, v4), (0, v5), (2, r_9), (9, 0), (9, 0)]) G rfl (Or.inl rfl) (Nat.le_of_ble_eq_true rfl) (am_pl1 rfl (fun h => nomatch h)) dX3_tells_4 rfl (z_aload (nx := 8) (a := 6) G rfl (Or.inl rfl) dX3_tells_6 rfl ?_)
  refine z_ifnonnull (nx := 11) (tgt := 13) G dX3_tells_8 (by decide) rfl (fun c => ?_) (fun c => ?_)
  · have h := h.1 c
    refine z_aload (nx := 15) (a := 6) G rfl (Or.inl rfl) dX3_tells_13 rfl ?_
    obtain ⟨hq_11, h⟩ := h
    refine b_getA (nx := 18) (k0 := 2) G hB fl_RX3_51 (Nat.le_of_ble_eq_true rfl) (Nat.le_of_ble_eq_true rfl) rfl hq_11 dX3_tells_15 rfl (b_getI (nx := 21) (k0 := 2) (t := 0) G fl_RX3_56 (Nat.le_of_ble_eq_true rfl) (Nat.le_of_ble_eq_true rfl) rfl (sh_4_2 _ hq_11) dX3_tells_18 rfl (z_iconst (nx := 22) (z := 1) G (R32c rfl) dX3_tells_21 rfl (z_isub (nx := 23) G dX3_tells_22 rfl ?_)))
    refine b_store (nx := 25) (a := 7) (loc2 := fun v7_12 => [(2, v0), (2, v1), (0, v2), (0, v3), (0, v4), (0, v5), (2, r_9), (0, v7_12), (9, 0)]) G (fun _ => rfl) (Nat.le_of_ble_eq_true rfl) (am_pl1 rfl (fun h => nomatch h)) dX3_tells_23 rfl (fun v7_12 e_v7_12 => ?_)
    have h := h v7_12 e_v7_12
    exact b_fewer (loc2 := [(2, v0), (9, 0), (0, v2), (0, v3), (0, v4), (0, v5), (2, r_9), (0, v7_12), (9, 0)]) (am_lk (am_lf (am_lk (am_lk (am_lk (am_lk (am_lk (am_lk (am_lk am_ln))))))))) (S_X3_tells_L1 X hp_v0 hB h)
  · have h := h.2 c
    refine z_iload_n (nx := 12) (a := 3) G rfl dX3_tells_11 rfl ?_
    exact b_ireturn X hB dX3_tells_12 h
theorem NM_X3_tells {v0 : Int} {v1 : Int} {v2 : Int} {v3 : Int} {v4 : Int} {v5 : Int} {K : am_KK} {m : am_M} (hp_v0 : am_ob v0 3) (hp_v1 : am_ob v1 0) (h : M_X3_tells v0 v1 v2 v3 v4 v5 K m) : N_X3_tells [v0, v1, v2, v3, v4, v5] K m := ⟨hp_v0, hp_v1, h⟩
theorem SS_X3_tells : am_Snd yX3_tells cX3_tells 9 (some .int) 0 3 (am_L [2, 2, 0, 0, 0, 0] 0 N_X3_tells) := by
  refine am_SB (by decide +kernel) (Nat.le_of_ble_eq_true rfl) (fun F zs as K m X ht hB hM => ?_)
  obtain ⟨v0, zs, as, rfl, rfl, hz0, ht⟩ := am_inv ht
  obtain ⟨v1, zs, as, rfl, rfl, hz1, ht⟩ := am_inv ht
  obtain ⟨v2, zs, as, rfl, rfl, hz2, ht⟩ := am_inv ht
  obtain ⟨v3, zs, as, rfl, rfl, hz3, ht⟩ := am_inv ht
  obtain ⟨v4, zs, as, rfl, rfl, hz4, ht⟩ := am_inv ht
  obtain ⟨v5, zs, as, rfl, rfl, hz5, ht⟩ := am_inv ht
  obtain ⟨rfl, rfl⟩ := am_inv0 ht
  obtain ⟨hp_v0, hp_v1, hM⟩ := hM
  exact S_X3_tells X hp_v0 hp_v1 hB hM
set_option maxRecDepth 20000 in
set_option maxHeartbeats 4000000 in
theorem S_X2_foresee_J2 {F : am_F} {K : am_KK} {s0 : Int} {s1 : Int} {s2 : Int} {m : am_M} (X : am_Cx F cX2_foresee RX2 none 4 9 K) (hp_s0 : am_ar s0 20) (hB : am_Bt m) (h : M_X2_foresee_J2 s0 s1 s2 K m) : am_Z F 94 [(0, s2), (0, s1), (2, s0)] [(9, 0), (9, 0), (9, 0), (9, 0), (9, 0), (9, 0), (9, 0), (9, 0)] m 200 := by
  have G := X.G
  unfold M_X2_foresee_J2 at h
  obtain ⟨hb, h⟩ := h
  refine b_iast (nx := 95) G hB hp_s0 hb.1 hb.2 dX2_foresee_94 rfl (fun m_1 e_m_1 hB => ?_)
  have h := h m_1 e_m_1
  exact b_return X hB dX2_foresee_95 h
set_option maxRecDepth 20000 in
set_option maxHeartbeats 4000000 in
theorem S_X2_foresee_J1 {F : am_F} {K : am_KK} {v0 : Int} {v1 : Int} {v2 : Int} {v3 : Int} {v4 : Int} {s0 : Int} {m : am_M} (X : am_Cx F cX2_foresee RX2 none 4 9 K) (hp_v0 : am_ob v0 2) (hp_v1 : am_ob v1 0) (hp_v2 : am_ob v2 9) (hp_s0 : s0 = 0 ∨ s0 = 1) (hB : am_Bt m) (h : M_X2_foresee_J1 v0 v1 v2 v3 v4 s0 K m) : am_Z F 43 [(0, s0)] [(2, v0), (2, v1), (2, v2), (0, v3), (0, v4), (9, 0), (9, 0), (9, 0)] m 200 := by
  have G := X.G
  unfold M_X2_foresee_J1 at h
  refine b_storeE (nx := 45) (a := 6) (loc2 := [(2, v0), (2, v1), (2, v2), (0, v3), (0, v4), (9, 0), (0, s0), (9, 0)]) G rfl (Nat.le_of_ble_eq_true rfl) (am_pl1 rfl (fun h => nomatch h)) dX2_foresee_43 rfl (z_aload_n (nx := 46) (a := 2) G rfl (Or.inl rfl) dX2_foresee_45 rfl (b_getA (nx := 49) (k0 := 0) G hB fl_RX2_21 (Nat.le_of_ble_eq_true rfl) (Nat.le_of_ble_eq_true rfl) rfl hp_v2 dX2_foresee_46 rfl (z_iload_n (nx := 50) (a := 3) G rfl dX2_foresee_49 rfl (z_iconst (nx := 51) (z := 2) G (R32c rfl) dX2_foresee_50 rfl ?_))))
  refine b_callV0 (nx := 54) (zs := [am_rfv v2 0, v3, 2]) (as := [(0, v3), (0, 2)]) X hB (by decide) rfl (sh_9_0 _ hp_v2) SS_X7_get (am_ta (am_ti (am_ti am_tn))) (Nat.le_of_ble_eq_true rfl) (Nat.le_of_ble_eq_true rfl) ml_RX2_56 iw_X7_get vw_X7_get cw_X7_get nw_RX7 pp_X7_get (Nat.le_of_ble_eq_true rfl) dX2_foresee_51 rfl (NM_X7_get (sh_9_0 _ hp_v2) h) (fun r_2 m_3 h hB => ?_)
  refine b_storeE (nx := 56) (a := 7) (loc2 := [(2, v0), (2, v1), (2, v2), (0, v3), (0, v4), (9, 0), (0, s0), (0, r_2)]) G rfl (Nat.le_of_ble_eq_true rfl) (am_pl1 rfl (fun h => nomatch h)) dX2_foresee_54 rfl (z_aload_n (nx := 57) (a := 0) G rfl (Or.inl rfl) dX2_foresee_56 rfl (b_getA (nx := 60) (k0 := 0) G hB fl_RX2_13 (Nat.le_of_ble_eq_true rfl) (Nat.le_of_ble_eq_true rfl) rfl hp_v0 dX2_foresee_57 rfl (z_iload (nx := 62) (a := 4) G rfl dX2_foresee_60 rfl (z_bipush (nx := 64) (z := 24) G (R32c rfl) rfl dX2_foresee_62 rfl (z_imul (nx := 65) G dX2_foresee_64 rfl (z_iload_n (nx := 66) (a := 3) G rfl dX2_foresee_65 rfl (z_iadd (nx := 67) G dX2_foresee_66 rfl (z_iload (nx := 69) (a := 6) G rfl dX2_foresee_67 rfl ?_))))))))
  refine z_if_eq (nx := 72) (tgt := 77) G dX2_foresee_69 (by decide) rfl (fun c => ?_) (fun c => ?_)
  · have h := h.1 c
    refine z_aload_n (nx := 78) (a := 0) G rfl (Or.inl rfl) dX2_foresee_77 rfl (b_getA (nx := 81) (k0 := 1) G hB fl_RX2_17 (Nat.le_of_ble_eq_true rfl) (Nat.le_of_ble_eq_true rfl) rfl hp_v0 dX2_foresee_78 rfl (z_aload_n (nx := 82) (a := 1) G rfl (Or.inl rfl) dX2_foresee_81 rfl (z_iconst (nx := 83) (z := 0) G (R32c rfl) dX2_foresee_82 rfl (z_iload (nx := 85) (a := 7) G rfl dX2_foresee_83 rfl (z_sipush (nx := 88) (z := (-9999)) G (R32c rfl) rfl dX2_foresee_85 rfl (z_sipush (nx := 91) (z := 9999) G (R32c rfl) rfl dX2_foresee_88 rfl ?_))))))
    refine b_callV0 (nx := 94) (zs := [am_rfv v0 1, v1, 0, r_2, (-9999), 9999]) (as := [(2, v1), (0, 0), (0, r_2), (0, (-9999)), (0, 9999)]) X hB (by decide) rfl (sh_2_1 _ hp_v0) SS_X3_tells (am_ta (am_ta (am_ti (am_ti (am_ti (am_ti am_tn)))))) (Nat.le_of_ble_eq_true rfl) (Nat.le_of_ble_eq_true rfl) ml_RX2_52 iw_X3_tells vw_X3_tells cw_X3_tells nw_RX3 pp_X3_tells (Nat.le_of_ble_eq_true rfl) dX2_foresee_91 rfl (NM_X3_tells (sh_2_1 _ hp_v0) hp_v1 h) (fun r_4 m_5 h hB => ?_)
    exact b_fewer (loc2 := [(9, 0), (9, 0), (9, 0), (9, 0), (9, 0), (9, 0), (9, 0), (9, 0)]) (am_lf (am_lf (am_lf (am_lf (am_lf (am_lk (am_lf (am_lf am_ln)))))))) (S_X2_foresee_J2 X (sh_2_0 _ hp_v0) hB h)
  · have h := h.2 c
    refine z_ldc (nx := 74) (z := 1000000) G (R32c rfl) rfl kw_RX2_60 dX2_foresee_72 rfl (z_goto (tgt := 94) G dX2_foresee_74 (by decide) ?_)
    exact b_fewer (loc2 := [(9, 0), (9, 0), (9, 0), (9, 0), (9, 0), (9, 0), (9, 0), (9, 0)]) (am_lf (am_lf (am_lf (am_lf (am_lf (am_lk (am_lf (am_lf am_ln)))))))) (S_X2_foresee_J2 X (sh_2_0 _ hp_v0) hB h)
set_option maxRecDepth 20000 in
set_option maxHeartbeats 4000000 in
theorem S_X2_foresee {F : am_F} {K : am_KK} {v0 : Int} {v1 : Int} {v2 : Int} {v3 : Int} {v4 : Int} {v5 : Int} {m : am_M} (X : am_Cx F cX2_foresee RX2 none 4 9 K) (hp_v0 : am_ob v0 2) (hp_v1 : am_ob v1 0) (hp_v2 : am_ob v2 9) (hB : am_Bt m) (h : M_X2_foresee v0 v1 v2 v3 v4 v5 K m) : am_Z F 0 [] [(2, v0), (2, v1), (2, v2), (0, v3), (0, v4), (0, v5), (9, 0), (9, 0)] m 200 := by
  have G := X.G
  unfold M_X2_foresee at h
  refine z_iload_n (nx := 1) (a := 3) G rfl dX2_foresee_0 rfl (z_iload (nx := 3) (a := 4) G rfl dX2_foresee_1 rfl ?_)
  refine b_callS5 (nx := 6) (zs := [v3, v4]) (as := [(0, v3), (0, v4)]) X hB SS_X2_isForeseen (am_ti (am_ti am_tn)) (Nat.le_of_ble_eq_true rfl) (Nat.le_of_ble_eq_true rfl) ml_RX2_42 sw_X2_isForeseen (am_plainC 2 (by decide)) cw_X2_isForeseen nw_RX2 pp_X2_isForeseen (Nat.le_of_ble_eq_true rfl) dX2_foresee_3 rfl (NM_X2_isForeseen h) (fun r_6 m_7 h h01_8 hB => ?_)
  refine z_if_ne (nx := 9) (tgt := 10) G dX2_foresee_6 (by decide) rfl (fun c => ?_) (fun c => ?_)
  · have h := h.1 c
    refine z_aload_n (nx := 11) (a := 0) G rfl (Or.inl rfl) dX2_foresee_10 rfl (b_getA (nx := 14) (k0 := 1) G hB fl_RX2_17 (Nat.le_of_ble_eq_true rfl) (Nat.le_of_ble_eq_true rfl) rfl hp_v0 dX2_foresee_11 rfl (z_aload_n (nx := 15) (a := 1) G rfl (Or.inl rfl) dX2_foresee_14 rfl (z_aload_n (nx := 16) (a := 2) G rfl (Or.inl rfl) dX2_foresee_15 rfl (z_iload_n (nx := 17) (a := 3) G rfl dX2_foresee_16 rfl (z_iload (nx := 19) (a := 5) G rfl dX2_foresee_17 rfl ?_)))))
    refine b_callV9 (nx := 22) (zs := [am_rfv v0 1, v1, v2, v3, v5]) (as := [(2, v1), (2, v2), (0, v3), (0, v5)]) X hB (by decide) rfl (sh_2_1 _ hp_v0) SS_X3_look (am_ta (am_ta (am_ta (am_ti (am_ti am_tn))))) (Nat.le_of_ble_eq_true rfl) (Nat.le_of_ble_eq_true rfl) ml_RX2_46 iw_X3_look vw_X3_look cw_X3_look nw_RX3 pp_X3_look (Nat.le_of_ble_eq_true rfl) dX2_foresee_19 rfl (NM_X3_look (sh_2_1 _ hp_v0) hp_v1 hp_v2 h) (fun r_9 m_10 h hB => ?_)
    refine z_aload_n (nx := 23) (a := 0) G rfl (Or.inl rfl) dX2_foresee_22 rfl (b_getA (nx := 26) (k0 := 1) G hB fl_RX2_17 (Nat.le_of_ble_eq_true rfl) (Nat.le_of_ble_eq_true rfl) rfl hp_v0 dX2_foresee_23 rfl (z_aload_n (nx := 27) (a := 1) G rfl (Or.inl rfl) dX2_foresee_26 rfl (z_iconst (nx := 28) (z := 2) G (R32c rfl) dX2_foresee_27 rfl (z_iconst (nx := 29) (z := 0) G (R32c rfl) dX2_foresee_28 rfl (z_iconst (nx := 30) (z := 0) G (R32c rfl) dX2_foresee_29 rfl (z_iconst (nx := 31) (z := 1) G (R32c rfl) dX2_foresee_30 rfl ?_))))))
    refine b_callV0 (nx := 34) (zs := [am_rfv v0 1, v1, 2, 0, 0, 1]) (as := [(2, v1), (0, 2), (0, 0), (0, 0), (0, 1)]) X hB (by decide) rfl (sh_2_1 _ hp_v0) SS_X3_tells (am_ta (am_ta (am_ti (am_ti (am_ti (am_ti am_tn)))))) (Nat.le_of_ble_eq_true rfl) (Nat.le_of_ble_eq_true rfl) ml_RX2_52 iw_X3_tells vw_X3_tells cw_X3_tells nw_RX3 pp_X3_tells (Nat.le_of_ble_eq_true rfl) dX2_foresee_31 rfl (NM_X3_tells (sh_2_1 _ hp_v0) hp_v1 h) (fun r_11 m_12 h hB => ?_)
    refine z_iconst (nx := 35) (z := 1) G (R32c rfl) dX2_foresee_34 rfl ?_
    refine z_icmp_ne (nx := 38) (tgt := 42) G dX2_foresee_35 (by decide) rfl (fun c => ?_) (fun c => ?_)
    · have h := h.1 c
      refine z_iconst (nx := 43) (z := 0) G (R32c rfl) dX2_foresee_42 rfl ?_
      exact b_fewer (loc2 := [(2, v0), (2, v1), (2, v2), (0, v3), (0, v4), (9, 0), (9, 0), (9, 0)]) (am_lk (am_lk (am_lk (am_lk (am_lk (am_lf (am_lk (am_lk am_ln)))))))) (S_X2_foresee_J1 X hp_v0 hp_v1 hp_v2 (Or.inl rfl) hB h)
    · have h := h.2 c
      refine z_iconst (nx := 39) (z := 1) G (R32c rfl) dX2_foresee_38 rfl (z_goto (tgt := 43) G dX2_foresee_39 (by decide) ?_)
      exact b_fewer (loc2 := [(2, v0), (2, v1), (2, v2), (0, v3), (0, v4), (9, 0), (9, 0), (9, 0)]) (am_lk (am_lk (am_lk (am_lk (am_lk (am_lf (am_lk (am_lk am_ln)))))))) (S_X2_foresee_J1 X hp_v0 hp_v1 hp_v2 (Or.inr rfl) hB h)
  · have h := h.2 c
    exact b_return X hB dX2_foresee_9 h
theorem NM_X2_foresee {v0 : Int} {v1 : Int} {v2 : Int} {v3 : Int} {v4 : Int} {v5 : Int} {K : am_KK} {m : am_M} (hp_v0 : am_ob v0 2) (hp_v1 : am_ob v1 0) (hp_v2 : am_ob v2 9) (h : M_X2_foresee v0 v1 v2 v3 v4 v5 K m) : N_X2_foresee [v0, v1, v2, v3, v4, v5] K m := ⟨hp_v0, hp_v1, hp_v2, h⟩
theorem SS_X2_foresee : am_Snd yX2_foresee cX2_foresee 8 none 0 4 (am_L [2, 2, 2, 0, 0, 0] 9 N_X2_foresee) := by
  refine am_SB (by decide +kernel) (Nat.le_of_ble_eq_true rfl) (fun F zs as K m X ht hB hM => ?_)
  obtain ⟨v0, zs, as, rfl, rfl, hz0, ht⟩ := am_inv ht
  obtain ⟨v1, zs, as, rfl, rfl, hz1, ht⟩ := am_inv ht
  obtain ⟨v2, zs, as, rfl, rfl, hz2, ht⟩ := am_inv ht
  obtain ⟨v3, zs, as, rfl, rfl, hz3, ht⟩ := am_inv ht
  obtain ⟨v4, zs, as, rfl, rfl, hz4, ht⟩ := am_inv ht
  obtain ⟨v5, zs, as, rfl, rfl, hz5, ht⟩ := am_inv ht
  obtain ⟨rfl, rfl⟩ := am_inv0 ht
  obtain ⟨hp_v0, hp_v1, hp_v2, hM⟩ := hM
  exact S_X2_foresee X hp_v0 hp_v1 hp_v2 hB hM
set_option maxRecDepth 20000 in
set_option maxHeartbeats 4000000 in
theorem S_X2_foreseeAll_J1 {F : am_F} {K : am_KK} {v0 : Int} {v1 : Int} {v2 : Int} {v3 : Int} {v4 : Int} {v5 : Int} {C12 : Int → am_M → Prop} {C3 : Int → am_M → Prop} {m : am_M} (X : am_Cx F cX2_foreseeAll RX2 none 5 9 K) (hp_v0 : am_ob v0 2) (hp_v1 : am_ob v1 0) (hp_v2 : am_ob v2 9) (hC12 : ∀ w5 m, C12 w5 m → am_Bt m → am_Z F 12 [] [(2, v0), (2, v1), (2, v2), (0, v3), (0, v4), (0, w5)] m 200) (hC3 : ∀ w4 m, C3 w4 m → am_Bt m → am_Z F 3 [] [(2, v0), (2, v1), (2, v2), (0, v3), (0, w4), (9, 0)] m 200) (hB : am_Bt m) (h : M_X2_foreseeAll_J1 v0 v1 v2 v3 v4 v5 C12 C3 K m) : am_Z F 50 [] [(2, v0), (2, v1), (2, v2), (0, v3), (0, v4), (0, v5)] m 200 := by
  have G := X.G
  unfold M_X2_foreseeAll_J1 at h
  refine b_iinc (nx := 53) (a := 5) (loc2 := fun v5_1 => [(2, v0), (2, v1), (2, v2), (0, v3), (0, v4), (0, v5_1)]) G (fun _ => rfl) rfl (am_pl1 rfl (fun h => nomatch h)) dX2_foreseeAll_50 rfl (fun v5_1 e_v5_1 => ?_)
  have h := h v5_1 e_v5_1
  refine z_goto (tgt := 12) G dX2_foreseeAll_53 (by decide) ?_
  exact b_fewer (loc2 := [(2, v0), (2, v1), (2, v2), (0, v3), (0, v4), (0, v5_1)]) (am_lk (am_lk (am_lk (am_lk (am_lk (am_lk am_ln)))))) (hC12 _ _ h hB)
set_option maxRecDepth 20000 in
set_option maxHeartbeats 4000000 in
theorem S_X2_foreseeAll_L2B {F : am_F} {K : am_KK} {v0 : Int} {v1 : Int} {v2 : Int} {v3 : Int} {v4 : Int} {v5 : Int} {C12 : Int → am_M → Prop} {C3 : Int → am_M → Prop} {m : am_M} (X : am_Cx F cX2_foreseeAll RX2 none 5 9 K) (hp_v0 : am_ob v0 2) (hp_v1 : am_ob v1 0) (hp_v2 : am_ob v2 9) (hC12 : ∀ w5 m, C12 w5 m → am_Bt m → am_Z F 12 [] [(2, v0), (2, v1), (2, v2), (0, v3), (0, v4), (0, w5)] m 200) (hC3 : ∀ w4 m, C3 w4 m → am_Bt m → am_Z F 3 [] [(2, v0), (2, v1), (2, v2), (0, v3), (0, w4), (9, 0)] m 200) (hB : am_Bt m) (h : M_X2_foreseeAll_L2B v0 v1 v2 v3 v4 v5 C12 C3 K m) : am_Z F 12 [] [(2, v0), (2, v1), (2, v2), (0, v3), (0, v4), (0, v5)] m 200 := by
  have G := X.G
  unfold M_X2_foreseeAll_L2B at h
  refine z_iload (nx := 14) (a := 5) G rfl dX2_foreseeAll_12 rfl (z_aload_n (nx := 15) (a := 2) G rfl (Or.inl rfl) dX2_foreseeAll_14 rfl (b_getA (nx := 18) (k0 := 0) G hB fl_RX2_21 (Nat.le_of_ble_eq_true rfl) (Nat.le_of_ble_eq_true rfl) rfl hp_v2 dX2_foreseeAll_15 rfl (b_getI (nx := 21) (k0 := 2) (t := 0) G fl_RX2_25 (Nat.le_of_ble_eq_true rfl) (Nat.le_of_ble_eq_true rfl) rfl (sh_9_0 _ hp_v2) dX2_foreseeAll_18 rfl ?_)))
  refine z_icmp_ge (nx := 24) (tgt := 56) G dX2_foreseeAll_21 (by decide) rfl (fun c => ?_) (fun c => ?_)
  · have h := h.1 c
    refine b_iinc (nx := 59) (a := 4) (loc2 := fun v4_2 => [(2, v0), (2, v1), (2, v2), (0, v3), (0, v4_2), (0, v5)]) G (fun _ => rfl) rfl (am_pl1 rfl (fun h => nomatch h)) dX2_foreseeAll_56 rfl (fun v4_2 e_v4_2 => ?_)
    have h := h v4_2 e_v4_2
    refine z_goto (tgt := 3) G dX2_foreseeAll_59 (by decide) ?_
    exact b_fewer (loc2 := [(2, v0), (2, v1), (2, v2), (0, v3), (0, v4_2), (9, 0)]) (am_lk (am_lk (am_lk (am_lk (am_lk (am_lf am_ln)))))) (hC3 _ _ h hB)
  · have h := h.2 c
    refine z_aload_n (nx := 25) (a := 2) G rfl (Or.inl rfl) dX2_foreseeAll_24 rfl (z_iload (nx := 27) (a := 5) G rfl dX2_foreseeAll_25 rfl ?_)
    refine b_callV5 (nx := 30) (zs := [v2, v5]) (as := [(0, v5)]) X hB (by decide) rfl hp_v2 SS_X9_waits (am_ta (am_ti am_tn)) (Nat.le_of_ble_eq_true rfl) (Nat.le_of_ble_eq_true rfl) ml_RX2_31 iw_X9_waits vw_X9_waits cw_X9_waits nw_RX9 pp_X9_waits (Nat.le_of_ble_eq_true rfl) dX2_foreseeAll_27 rfl (NM_X9_waits hp_v2 h) (fun r_3 m_4 h h01_5 hB => ?_)
    refine z_if_eq (nx := 33) (tgt := 50) G dX2_foreseeAll_30 (by decide) rfl (fun c => ?_) (fun c => ?_)
    · have h := h.1 c
      exact b_fewer (loc2 := [(2, v0), (2, v1), (2, v2), (0, v3), (0, v4), (0, v5)]) (am_lk (am_lk (am_lk (am_lk (am_lk (am_lk am_ln)))))) (S_X2_foreseeAll_J1 X hp_v0 hp_v1 hp_v2 hC12 hC3 hB h)
    · have h := h.2 c
      refine z_aload_n (nx := 34) (a := 0) G rfl (Or.inl rfl) dX2_foreseeAll_33 rfl (z_aload_n (nx := 35) (a := 1) G rfl (Or.inl rfl) dX2_foreseeAll_34 rfl (z_aload_n (nx := 36) (a := 2) G rfl (Or.inl rfl) dX2_foreseeAll_35 rfl (z_iload (nx := 38) (a := 5) G rfl dX2_foreseeAll_36 rfl (z_iload (nx := 40) (a := 4) G rfl dX2_foreseeAll_38 rfl (z_aload_n (nx := 41) (a := 2) G rfl (Or.inl rfl) dX2_foreseeAll_40 rfl (b_getI (nx := 44) (k0 := 1) (t := 0) G fl_RX2_35 (Nat.le_of_ble_eq_true rfl) (Nat.le_of_ble_eq_true rfl) rfl hp_v2 dX2_foreseeAll_41 rfl (z_iload (nx := 46) (a := 4) G rfl dX2_foreseeAll_44 rfl (z_iadd (nx := 47) G dX2_foreseeAll_46 rfl ?_))))))))
      refine b_callV9 (nx := 50) (zs := [v0, v1, v2, v5, v4, w32 ((m_4 v2 1) + v4)]) (as := [(2, v1), (2, v2), (0, v5), (0, v4), (0, w32 ((m_4 v2 1) + v4))]) X hB (by decide) rfl hp_v0 SS_X2_foresee (am_ta (am_ta (am_ta (am_ti (am_ti (am_ti am_tn)))))) (Nat.le_of_ble_eq_true rfl) (Nat.le_of_ble_eq_true rfl) ml_RX2_38 iw_X2_foresee vw_X2_foresee cw_X2_foresee nw_RX2 pp_X2_foresee (Nat.le_of_ble_eq_true rfl) dX2_foreseeAll_47 rfl (NM_X2_foresee hp_v0 hp_v1 hp_v2 h) (fun r_6 m_7 h hB => ?_)
      exact b_fewer (loc2 := [(2, v0), (2, v1), (2, v2), (0, v3), (0, v4), (0, v5)]) (am_lk (am_lk (am_lk (am_lk (am_lk (am_lk am_ln)))))) (S_X2_foreseeAll_J1 X hp_v0 hp_v1 hp_v2 hC12 hC3 hB h)
theorem S_X2_foreseeAll_L2 {F : am_F} {K : am_KK} {v0 : Int} {v1 : Int} {v2 : Int} {v3 : Int} {v4 : Int} {v5 : Int} {C3 : Int → am_M → Prop} {m : am_M} (X : am_Cx F cX2_foreseeAll RX2 none 5 9 K) (hp_v0 : am_ob v0 2) (hp_v1 : am_ob v1 0) (hp_v2 : am_ob v2 9) (hC3 : ∀ w4 m, C3 w4 m → am_Bt m → am_Z F 3 [] [(2, v0), (2, v1), (2, v2), (0, v3), (0, w4), (9, 0)] m 200) (hB : am_Bt m) (h : M_X2_foreseeAll_L2 v0 v1 v2 v3 v4 v5 C3 K m) : am_Z F 12 [] [(2, v0), (2, v1), (2, v2), (0, v3), (0, v4), (0, v5)] m 200 := by
  obtain ⟨I, ⟨j, hj⟩, hI⟩ := h
  have key : ∀ j v5 m, I j v5 m → am_Bt m → am_Z F 12 [] [(2, v0), (2, v1), (2, v2), (0, v3), (0, v4), (0, v5)] m 200 := by
    intro j
    induction j using Nat.strongRecOn with
    | ind j ih =>
      intro v5 m hj hB
      exact S_X2_foreseeAll_L2B X hp_v0 hp_v1 hp_v2 (fun v5' m' hc hB' => by
        obtain ⟨j', g1, g2⟩ := hc
        exact ih j' g1 v5' m' g2 hB') hC3 hB (hI j v5 m hj)
  exact key j _ _ hj hB
set_option maxRecDepth 20000 in
set_option maxHeartbeats 4000000 in
theorem S_X2_foreseeAll_L1B {F : am_F} {K : am_KK} {v0 : Int} {v1 : Int} {v2 : Int} {v3 : Int} {v4 : Int} {C3 : Int → am_M → Prop} {m : am_M} (X : am_Cx F cX2_foreseeAll RX2 none 5 9 K) (hp_v0 : am_ob v0 2) (hp_v1 : am_ob v1 0) (hp_v2 : am_ob v2 9) (hC3 : ∀ w4 m, C3 w4 m → am_Bt m → am_Z F 3 [] [(2, v0), (2, v1), (2, v2), (0, v3), (0, w4), (9, 0)] m 200) (hB : am_Bt m) (h : M_X2_foreseeAll_L1B v0 v1 v2 v3 v4 C3 K m) : am_Z F 3 [] [(2, v0), (2, v1), (2, v2), (0, v3), (0, v4), (9, 0)] m 200 := by
  have G := X.G
  unfold M_X2_foreseeAll_L1B at h
  refine z_iload (nx := 5) (a := 4) G rfl dX2_foreseeAll_3 rfl (z_iload_n (nx := 6) (a := 3) G rfl dX2_foreseeAll_5 rfl ?_)
  refine z_icmp_gt (nx := 9) (tgt := 62) G dX2_foreseeAll_6 (by decide) rfl (fun c => ?_) (fun c => ?_)
  · have h := h.1 c
    exact b_return X hB dX2_foreseeAll_62 h
  · have h := h.2 c
    refine z_iconst (nx := 10) (z := 0) G (R32c rfl) dX2_foreseeAll_9 rfl (b_storeE (nx := 12) (a := 5) (loc2 := [(2, v0), (2, v1), (2, v2), (0, v3), (0, v4), (0, 0)]) G rfl (Nat.le_of_ble_eq_true rfl) (am_pl1 rfl (fun h => nomatch h)) dX2_foreseeAll_10 rfl ?_)
    exact b_fewer (loc2 := [(2, v0), (2, v1), (2, v2), (0, v3), (0, v4), (0, 0)]) (am_lk (am_lk (am_lk (am_lk (am_lk (am_lk am_ln)))))) (S_X2_foreseeAll_L2 X hp_v0 hp_v1 hp_v2 hC3 hB h)
theorem S_X2_foreseeAll_L1 {F : am_F} {K : am_KK} {v0 : Int} {v1 : Int} {v2 : Int} {v3 : Int} {v4 : Int} {m : am_M} (X : am_Cx F cX2_foreseeAll RX2 none 5 9 K) (hp_v0 : am_ob v0 2) (hp_v1 : am_ob v1 0) (hp_v2 : am_ob v2 9) (hB : am_Bt m) (h : M_X2_foreseeAll_L1 v0 v1 v2 v3 v4 K m) : am_Z F 3 [] [(2, v0), (2, v1), (2, v2), (0, v3), (0, v4), (9, 0)] m 200 := by
  obtain ⟨I, ⟨j, hj⟩, hI⟩ := h
  have key : ∀ j v4 m, I j v4 m → am_Bt m → am_Z F 3 [] [(2, v0), (2, v1), (2, v2), (0, v3), (0, v4), (9, 0)] m 200 := by
    intro j
    induction j using Nat.strongRecOn with
    | ind j ih =>
      intro v4 m hj hB
      exact S_X2_foreseeAll_L1B X hp_v0 hp_v1 hp_v2 (fun v4' m' hc hB' => by
        obtain ⟨j', g1, g2⟩ := hc
        exact ih j' g1 v4' m' g2 hB') hB (hI j v4 m hj)
  exact key j _ _ hj hB
set_option maxRecDepth 20000 in
set_option maxHeartbeats 4000000 in
theorem S_X2_foreseeAll {F : am_F} {K : am_KK} {v0 : Int} {v1 : Int} {v2 : Int} {v3 : Int} {m : am_M} (X : am_Cx F cX2_foreseeAll RX2 none 5 9 K) (hp_v0 : am_ob v0 2) (hp_v1 : am_ob v1 0) (hp_v2 : am_ob v2 9) (hB : am_Bt m) (h : M_X2_foreseeAll v0 v1 v2 v3 K m) : am_Z F 0 [] [(2, v0), (2, v1), (2, v2), (0, v3), (9, 0), (9, 0)] m 200 := by
  have G := X.G
  unfold M_X2_foreseeAll at h
  refine z_iconst (nx := 1) (z := 1) G (R32c rfl) dX2_foreseeAll_0 rfl (b_storeE (nx := 3) (a := 4) (loc2 := [(2, v0), (2, v1), (2, v2), (0, v3), (0, 1), (9, 0)]) G rfl (Nat.le_of_ble_eq_true rfl) (am_pl1 rfl (fun h => nomatch h)) dX2_foreseeAll_1 rfl ?_)
  exact b_fewer (loc2 := [(2, v0), (2, v1), (2, v2), (0, v3), (0, 1), (9, 0)]) (am_lk (am_lk (am_lk (am_lk (am_lk (am_lk am_ln)))))) (S_X2_foreseeAll_L1 X hp_v0 hp_v1 hp_v2 hB h)
theorem NM_X2_foreseeAll {v0 : Int} {v1 : Int} {v2 : Int} {v3 : Int} {K : am_KK} {m : am_M} (hp_v0 : am_ob v0 2) (hp_v1 : am_ob v1 0) (hp_v2 : am_ob v2 9) (h : M_X2_foreseeAll v0 v1 v2 v3 K m) : N_X2_foreseeAll [v0, v1, v2, v3] K m := ⟨hp_v0, hp_v1, hp_v2, h⟩
theorem SS_X2_foreseeAll : am_Snd yX2_foreseeAll cX2_foreseeAll 6 none 0 5 (am_L [2, 2, 2, 0] 9 N_X2_foreseeAll) := by
  refine am_SB (by decide +kernel) (Nat.le_of_ble_eq_true rfl) (fun F zs as K m X ht hB hM => ?_)
  obtain ⟨v0, zs, as, rfl, rfl, hz0, ht⟩ := am_inv ht
  obtain ⟨v1, zs, as, rfl, rfl, hz1, ht⟩ := am_inv ht
  obtain ⟨v2, zs, as, rfl, rfl, hz2, ht⟩ := am_inv ht
  obtain ⟨v3, zs, as, rfl, rfl, hz3, ht⟩ := am_inv ht
  obtain ⟨rfl, rfl⟩ := am_inv0 ht
  obtain ⟨hp_v0, hp_v1, hp_v2, hM⟩ := hM
  exact S_X2_foreseeAll X hp_v0 hp_v1 hp_v2 hB hM
set_option maxRecDepth 20000 in
set_option maxHeartbeats 4000000 in
theorem S_X2_lowest_J1 {F : am_F} {K : am_KK} {v0 : Int} {v1 : Int} {v2 : Int} {v3 : Int} {v4 : Int} {v5 : Int} {C9 : Int → Int → Int → am_M → Prop} {m : am_M} (X : am_Cx F cX2_lowest RX2 (some .int) 3 0 K) (hp_v0 : am_ob v0 2) (hp_v1 : am_ob v1 9) (hC9 : ∀ w3 w4 w5 m, C9 w3 w4 w5 m → am_Bt m → am_Z F 9 [] [(2, v0), (2, v1), (0, v2), (0, w3), (0, w4), (0, w5), (9, 0)] m 200) (hB : am_Bt m) (h : M_X2_lowest_J1 v0 v1 v2 v3 v4 v5 C9 K m) : am_Z F 67 [] [(2, v0), (2, v1), (0, v2), (0, v3), (0, v4), (0, v5), (9, 0)] m 200 := by
  have G := X.G
  unfold M_X2_lowest_J1 at h
  refine b_iinc (nx := 70) (a := 5) (loc2 := fun v5_1 => [(2, v0), (2, v1), (0, v2), (0, v3), (0, v4), (0, v5_1), (9, 0)]) G (fun _ => rfl) rfl (am_pl1 rfl (fun h => nomatch h)) dX2_lowest_67 rfl (fun v5_1 e_v5_1 => ?_)
  have h := h v5_1 e_v5_1
  refine z_goto (tgt := 9) G dX2_lowest_70 (by decide) ?_
  exact b_fewer (loc2 := [(2, v0), (2, v1), (0, v2), (0, v3), (0, v4), (0, v5_1), (9, 0)]) (am_lk (am_lk (am_lk (am_lk (am_lk (am_lk (am_lk am_ln))))))) (hC9 _ _ _ _ h hB)
set_option maxRecDepth 20000 in
set_option maxHeartbeats 4000000 in
theorem S_X2_lowest_L1B {F : am_F} {K : am_KK} {v0 : Int} {v1 : Int} {v2 : Int} {v3 : Int} {v4 : Int} {v5 : Int} {C9 : Int → Int → Int → am_M → Prop} {m : am_M} (X : am_Cx F cX2_lowest RX2 (some .int) 3 0 K) (hp_v0 : am_ob v0 2) (hp_v1 : am_ob v1 9) (hC9 : ∀ w3 w4 w5 m, C9 w3 w4 w5 m → am_Bt m → am_Z F 9 [] [(2, v0), (2, v1), (0, v2), (0, w3), (0, w4), (0, w5), (9, 0)] m 200) (hB : am_Bt m) (h : M_X2_lowest_L1B v0 v1 v2 v3 v4 v5 C9 K m) : am_Z F 9 [] [(2, v0), (2, v1), (0, v2), (0, v3), (0, v4), (0, v5), (9, 0)] m 200 := by
  have G := X.G
  unfold M_X2_lowest_L1B at h
  refine z_iload (nx := 11) (a := 5) G rfl dX2_lowest_9 rfl (z_aload_n (nx := 12) (a := 1) G rfl (Or.inl rfl) dX2_lowest_11 rfl (b_getA (nx := 15) (k0 := 0) G hB fl_RX2_21 (Nat.le_of_ble_eq_true rfl) (Nat.le_of_ble_eq_true rfl) rfl hp_v1 dX2_lowest_12 rfl (b_getI (nx := 18) (k0 := 2) (t := 0) G fl_RX2_25 (Nat.le_of_ble_eq_true rfl) (Nat.le_of_ble_eq_true rfl) rfl (sh_9_0 _ hp_v1) dX2_lowest_15 rfl ?_)))
  refine z_icmp_ge (nx := 21) (tgt := 73) G dX2_lowest_18 (by decide) rfl (fun c => ?_) (fun c => ?_)
  · have h := h.1 c
    refine z_iload_n (nx := 74) (a := 3) G rfl dX2_lowest_73 rfl ?_
    exact b_ireturn X hB dX2_lowest_74 h
  · have h := h.2 c
    refine z_iload (nx := 23) (a := 5) G rfl dX2_lowest_21 rfl (z_iload_n (nx := 24) (a := 2) G rfl dX2_lowest_23 rfl ?_)
    refine b_callS5 (nx := 27) (zs := [v5, v2]) (as := [(0, v5), (0, v2)]) X hB SS_X2_isForeseen (am_ti (am_ti am_tn)) (Nat.le_of_ble_eq_true rfl) (Nat.le_of_ble_eq_true rfl) ml_RX2_42 sw_X2_isForeseen (am_plainC 2 (by decide)) cw_X2_isForeseen nw_RX2 pp_X2_isForeseen (Nat.le_of_ble_eq_true rfl) dX2_lowest_24 rfl (NM_X2_isForeseen h) (fun r_2 m_3 h h01_4 hB => ?_)
    refine z_if_eq (nx := 30) (tgt := 73) G dX2_lowest_27 (by decide) rfl (fun c => ?_) (fun c => ?_)
    · have h := h.1 c
      refine z_iload_n (nx := 74) (a := 3) G rfl dX2_lowest_73 rfl ?_
      exact b_ireturn X hB dX2_lowest_74 h
    · have h := h.2 c
      refine z_aload_n (nx := 31) (a := 0) G rfl (Or.inl rfl) dX2_lowest_30 rfl (b_getA (nx := 34) (k0 := 0) G hB fl_RX2_13 (Nat.le_of_ble_eq_true rfl) (Nat.le_of_ble_eq_true rfl) rfl hp_v0 dX2_lowest_31 rfl (z_iload_n (nx := 35) (a := 2) G rfl dX2_lowest_34 rfl (z_bipush (nx := 37) (z := 24) G (R32c rfl) rfl dX2_lowest_35 rfl (z_imul (nx := 38) G dX2_lowest_37 rfl (z_iload (nx := 40) (a := 5) G rfl dX2_lowest_38 rfl (z_iadd (nx := 41) G dX2_lowest_40 rfl ?_))))))
      obtain ⟨hb, h⟩ := h
      refine z_iald (nx := 42) G (sh_2_0 _ hp_v0) hb.1 hb.2 dX2_lowest_41 rfl ?_
      refine b_store (nx := 44) (a := 6) (loc2 := fun v6_5 => [(2, v0), (2, v1), (0, v2), (0, v3), (0, v4), (0, v5), (0, v6_5)]) G (fun _ => rfl) (Nat.le_of_ble_eq_true rfl) (am_pl1 rfl (fun h => nomatch h)) dX2_lowest_42 rfl (fun v6_5 e_v6_5 => ?_)
      have h := h v6_5 e_v6_5
      refine z_iload (nx := 46) (a := 6) G rfl dX2_lowest_44 rfl (z_iload (nx := 48) (a := 4) G rfl dX2_lowest_46 rfl ?_)
      refine z_icmp_ge (nx := 51) (tgt := 67) G dX2_lowest_48 (by decide) rfl (fun c => ?_) (fun c => ?_)
      · have h := h.1 c
        exact b_fewer (loc2 := [(2, v0), (2, v1), (0, v2), (0, v3), (0, v4), (0, v5), (9, 0)]) (am_lk (am_lk (am_lk (am_lk (am_lk (am_lk (am_lf am_ln))))))) (S_X2_lowest_J1 X hp_v0 hp_v1 hC9 hB h)
      · have h := h.2 c
        refine z_aload_n (nx := 52) (a := 1) G rfl (Or.inl rfl) dX2_lowest_51 rfl (z_iload (nx := 54) (a := 5) G rfl dX2_lowest_52 rfl ?_)
        refine b_callV5 (nx := 57) (zs := [v1, v5]) (as := [(0, v5)]) X hB (by decide) rfl hp_v1 SS_X9_waits (am_ta (am_ti am_tn)) (Nat.le_of_ble_eq_true rfl) (Nat.le_of_ble_eq_true rfl) ml_RX2_31 iw_X9_waits vw_X9_waits cw_X9_waits nw_RX9 pp_X9_waits (Nat.le_of_ble_eq_true rfl) dX2_lowest_54 rfl (NM_X9_waits hp_v1 h) (fun r_6 m_7 h h01_8 hB => ?_)
        refine z_if_eq (nx := 60) (tgt := 67) G dX2_lowest_57 (by decide) rfl (fun c => ?_) (fun c => ?_)
        · have h := h.1 c
          exact b_fewer (loc2 := [(2, v0), (2, v1), (0, v2), (0, v3), (0, v4), (0, v5), (9, 0)]) (am_lk (am_lk (am_lk (am_lk (am_lk (am_lk (am_lf am_ln))))))) (S_X2_lowest_J1 X hp_v0 hp_v1 hC9 hB h)
        · have h := h.2 c
          refine z_iload (nx := 62) (a := 5) G rfl dX2_lowest_60 rfl (b_storeE_n (nx := 63) (a := 3) (loc2 := [(2, v0), (2, v1), (0, v2), (0, v5), (0, v4), (0, v5), (0, v6_5)]) G rfl (Nat.le_of_ble_eq_true rfl) (am_pl1 rfl (fun h => nomatch h)) dX2_lowest_62 rfl (z_iload (nx := 65) (a := 6) G rfl dX2_lowest_63 rfl (b_storeE (nx := 67) (a := 4) (loc2 := [(2, v0), (2, v1), (0, v2), (0, v5), (0, v6_5), (0, v5), (0, v6_5)]) G rfl (Nat.le_of_ble_eq_true rfl) (am_pl1 rfl (fun h => nomatch h)) dX2_lowest_65 rfl ?_)))
          exact b_fewer (loc2 := [(2, v0), (2, v1), (0, v2), (0, v5), (0, v6_5), (0, v5), (9, 0)]) (am_lk (am_lk (am_lk (am_lk (am_lk (am_lk (am_lf am_ln))))))) (S_X2_lowest_J1 X hp_v0 hp_v1 hC9 hB h)
theorem S_X2_lowest_L1 {F : am_F} {K : am_KK} {v0 : Int} {v1 : Int} {v2 : Int} {v3 : Int} {v4 : Int} {v5 : Int} {m : am_M} (X : am_Cx F cX2_lowest RX2 (some .int) 3 0 K) (hp_v0 : am_ob v0 2) (hp_v1 : am_ob v1 9) (hB : am_Bt m) (h : M_X2_lowest_L1 v0 v1 v2 v3 v4 v5 K m) : am_Z F 9 [] [(2, v0), (2, v1), (0, v2), (0, v3), (0, v4), (0, v5), (9, 0)] m 200 := by
  obtain ⟨I, ⟨j, hj⟩, hI⟩ := h
  have key : ∀ j v3 v4 v5 m, I j v3 v4 v5 m → am_Bt m → am_Z F 9 [] [(2, v0), (2, v1), (0, v2), (0, v3), (0, v4), (0, v5), (9, 0)] m 200 := by
    intro j
    induction j using Nat.strongRecOn with
    | ind j ih =>
      intro v3 v4 v5 m hj hB
      exact S_X2_lowest_L1B X hp_v0 hp_v1 (fun v3' v4' v5' m' hc hB' => by
        obtain ⟨j', g1, g2⟩ := hc
        exact ih j' g1 v3' v4' v5' m' g2 hB') hB (hI j v3 v4 v5 m hj)
  exact key j _ _ _ _ hj hB
set_option maxRecDepth 20000 in
set_option maxHeartbeats 4000000 in
theorem S_X2_lowest {F : am_F} {K : am_KK} {v0 : Int} {v1 : Int} {v2 : Int} {m : am_M} (X : am_Cx F cX2_lowest RX2 (some .int) 3 0 K) (hp_v0 : am_ob v0 2) (hp_v1 : am_ob v1 9) (hB : am_Bt m) (h : M_X2_lowest v0 v1 v2 K m) : am_Z F 0 [] [(2, v0), (2, v1), (0, v2), (9, 0), (9, 0), (9, 0), (9, 0)] m 200 := by
  have G := X.G
  unfold M_X2_lowest at h
  refine z_iconst (nx := 1) (z := (-1)) G (R32c rfl) dX2_lowest_0 rfl (b_storeE_n (nx := 2) (a := 3) (loc2 := [(2, v0), (2, v1), (0, v2), (0, (-1)), (9, 0), (9, 0), (9, 0)]) G rfl (Nat.le_of_ble_eq_true rfl) (am_pl1 rfl (fun h => nomatch h)) dX2_lowest_1 rfl (z_ldc (nx := 4) (z := 1000000) G (R32c rfl) rfl kw_RX2_60 dX2_lowest_2 rfl (b_storeE (nx := 6) (a := 4) (loc2 := [(2, v0), (2, v1), (0, v2), (0, (-1)), (0, 1000000), (9, 0), (9, 0)]) G rfl (Nat.le_of_ble_eq_true rfl) (am_pl1 rfl (fun h => nomatch h)) dX2_lowest_4 rfl (z_iconst (nx := 7) (z := 0) G (R32c rfl) dX2_lowest_6 rfl (b_storeE (nx := 9) (a := 5) (loc2 := [(2, v0), (2, v1), (0, v2), (0, (-1)), (0, 1000000), (0, 0), (9, 0)]) G rfl (Nat.le_of_ble_eq_true rfl) (am_pl1 rfl (fun h => nomatch h)) dX2_lowest_7 rfl ?_)))))
  exact b_fewer (loc2 := [(2, v0), (2, v1), (0, v2), (0, (-1)), (0, 1000000), (0, 0), (9, 0)]) (am_lk (am_lk (am_lk (am_lk (am_lk (am_lk (am_lk am_ln))))))) (S_X2_lowest_L1 X hp_v0 hp_v1 hB h)
theorem NM_X2_lowest {v0 : Int} {v1 : Int} {v2 : Int} {K : am_KK} {m : am_M} (hp_v0 : am_ob v0 2) (hp_v1 : am_ob v1 9) (h : M_X2_lowest v0 v1 v2 K m) : N_X2_lowest [v0, v1, v2] K m := ⟨hp_v0, hp_v1, h⟩
theorem SS_X2_lowest : am_Snd yX2_lowest cX2_lowest 7 (some .int) 0 3 (am_L [2, 2, 0] 0 N_X2_lowest) := by
  refine am_SB (by decide +kernel) (Nat.le_of_ble_eq_true rfl) (fun F zs as K m X ht hB hM => ?_)
  obtain ⟨v0, zs, as, rfl, rfl, hz0, ht⟩ := am_inv ht
  obtain ⟨v1, zs, as, rfl, rfl, hz1, ht⟩ := am_inv ht
  obtain ⟨v2, zs, as, rfl, rfl, hz2, ht⟩ := am_inv ht
  obtain ⟨rfl, rfl⟩ := am_inv0 ht
  obtain ⟨hp_v0, hp_v1, hM⟩ := hM
  exact S_X2_lowest X hp_v0 hp_v1 hB hM
