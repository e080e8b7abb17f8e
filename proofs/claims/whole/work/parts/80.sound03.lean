/-! the machine does what the forms say, 3 -/
set_option maxRecDepth 20000 in
set_option maxHeartbeats 4000000 in
theorem S_X11_longest_L1B {F : am_F} {K : am_KK} {v0 : Int} {v1 : Int} {v2 : Int} {v3 : Int} {v4 : Int} {C92 : Int → am_M → Prop} {m : am_M} (X : am_Cx F cX11_longest RX11 (some .int) 6 0 K) (hp_v0 : am_ob v0 11) (hC92 : ∀ w4 m, C92 w4 m → am_Bt m → am_Z F 92 [] [(2, v0), (0, v1), (0, v2), (0, v3), (0, w4), (9, 0)] m 200) (hB : am_Bt m) (h : M_X11_longest_L1B v0 v1 v2 v3 v4 C92 K m) : am_Z F 92 [] [(2, v0), (0, v1), (0, v2), (0, v3), (0, v4), (9, 0)] m 200 := by
  have G := X.G
  unfold M_X11_longest_L1B at h
  refine z_iload (nx := 94) (a := 4) G rfl dX11_longest_92 rfl ?_
  refine z_if_le (nx := 97) (tgt := 195) G dX11_longest_94 (by decide) rfl (fun c => ?_) (fun c => ?_)
  · have h := h.1 c
    refine z_iconst (nx := 196) (z := (-1)) G (R32c rfl) dX11_longest_195 rfl ?_
    exact b_ireturn X hB dX11_longest_196 h
  · have h := h.2 c
    refine z_aload_n (nx := 98) (a := 0) G rfl (Or.inl rfl) dX11_longest_97 rfl (b_getA (nx := 101) (k0 := 8) G hB fl_RX11_68 (Nat.le_of_ble_eq_true rfl) (Nat.le_of_ble_eq_true rfl) rfl hp_v0 dX11_longest_98 rfl (z_aload_n (nx := 102) (a := 0) G rfl (Or.inl rfl) dX11_longest_101 rfl (b_getA (nx := 105) (k0 := 0) G hB fl_RX11_10 (Nat.le_of_ble_eq_true rfl) (Nat.le_of_ble_eq_true rfl) rfl hp_v0 dX11_longest_102 rfl (b_getA (nx := 108) (k0 := 5) G hB fl_RX11_162 (Nat.le_of_ble_eq_true rfl) (Nat.le_of_ble_eq_true rfl) rfl (sh_11_0 _ hp_v0) dX11_longest_105 rfl ?_))))
    refine b_callV9 (nx := 111) (zs := [am_rfv v0 8, am_rfv (am_rfv v0 0) 5]) (as := [(2, am_rfv (am_rfv v0 0) 5)]) X hB (by decide) rfl (sh_11_8 _ hp_v0) SS_X9_takeFrom (am_ta (am_ta am_tn)) (Nat.le_of_ble_eq_true rfl) (Nat.le_of_ble_eq_true rfl) ml_RX11_216 iw_X9_takeFrom vw_X9_takeFrom cw_X9_takeFrom nw_RX9 pp_X9_takeFrom (Nat.le_of_ble_eq_true rfl) dX11_longest_108 rfl (NM_X9_takeFrom (sh_11_8 _ hp_v0) (sh_0_5 _ (sh_11_0 _ hp_v0)) h) (fun r_1 m_2 h hB => ?_)
    refine z_aload_n (nx := 112) (a := 0) G rfl (Or.inl rfl) dX11_longest_111 rfl (b_getA (nx := 115) (k0 := 8) G hB fl_RX11_68 (Nat.le_of_ble_eq_true rfl) (Nat.le_of_ble_eq_true rfl) rfl hp_v0 dX11_longest_112 rfl (z_iload_n (nx := 116) (a := 1) G rfl dX11_longest_115 rfl (z_iload_n (nx := 117) (a := 2) G rfl dX11_longest_116 rfl (z_iload (nx := 119) (a := 4) G rfl dX11_longest_117 rfl (z_iload_n (nx := 120) (a := 3) G rfl dX11_longest_119 rfl ?_)))))
    refine b_callV0 (nx := 123) (zs := [am_rfv v0 8, v1, v2, v4, v3]) (as := [(0, v1), (0, v2), (0, v4), (0, v3)]) X hB (by decide) rfl (sh_11_8 _ hp_v0) SS_X9_utter (am_ta (am_ti (am_ti (am_ti (am_ti am_tn))))) (Nat.le_of_ble_eq_true rfl) (Nat.le_of_ble_eq_true rfl) ml_RX11_320 iw_X9_utter vw_X9_utter cw_X9_utter nw_RX9 pp_X9_utter (Nat.le_of_ble_eq_true rfl) dX11_longest_120 rfl (NM_X9_utter (sh_11_8 _ hp_v0) h) (fun r_3 m_4 h hB => ?_)
    refine b_storeE (nx := 125) (a := 5) (loc2 := [(2, v0), (0, v1), (0, v2), (0, v3), (0, v4), (0, r_3)]) G rfl (Nat.le_of_ble_eq_true rfl) (am_pl1 rfl (fun h => nomatch h)) dX11_longest_123 rfl (z_aload_n (nx := 126) (a := 0) G rfl (Or.inl rfl) dX11_longest_125 rfl (b_getA (nx := 129) (k0 := 7) G hB fl_RX11_61 (Nat.le_of_ble_eq_true rfl) (Nat.le_of_ble_eq_true rfl) rfl hp_v0 dX11_longest_126 rfl (z_aload_n (nx := 130) (a := 0) G rfl (Or.inl rfl) dX11_longest_129 rfl (b_getA (nx := 133) (k0 := 0) G hB fl_RX11_10 (Nat.le_of_ble_eq_true rfl) (Nat.le_of_ble_eq_true rfl) rfl hp_v0 dX11_longest_130 rfl (z_aload_n (nx := 134) (a := 0) G rfl (Or.inl rfl) dX11_longest_133 rfl (b_getA (nx := 137) (k0 := 8) G hB fl_RX11_68 (Nat.le_of_ble_eq_true rfl) (Nat.le_of_ble_eq_true rfl) rfl hp_v0 dX11_longest_134 rfl (z_iload (nx := 139) (a := 5) G rfl dX11_longest_137 rfl (z_iconst (nx := 140) (z := 1) G (R32c rfl) dX11_longest_139 rfl (z_aload_n (nx := 141) (a := 0) G rfl (Or.inl rfl) dX11_longest_140 rfl (b_getA (nx := 144) (k0 := 8) G hB fl_RX11_68 (Nat.le_of_ble_eq_true rfl) (Nat.le_of_ble_eq_true rfl) rfl hp_v0 dX11_longest_141 rfl (b_getI (nx := 147) (k0 := 1) (t := 0) G fl_RX11_165 (Nat.le_of_ble_eq_true rfl) (Nat.le_of_ble_eq_true rfl) rfl (sh_11_8 _ hp_v0) dX11_longest_144 rfl (z_iconst (nx := 148) (z := 1) G (R32c rfl) dX11_longest_147 rfl (z_iadd (nx := 149) G dX11_longest_148 rfl ?_)))))))))))))
    refine b_callV9 (nx := 152) (zs := [am_rfv v0 7, am_rfv v0 0, am_rfv v0 8, r_3, 1, w32 ((m_4 (am_rfv v0 8) 1) + 1)]) (as := [(2, am_rfv v0 0), (2, am_rfv v0 8), (0, r_3), (0, 1), (0, w32 ((m_4 (am_rfv v0 8) 1) + 1))]) X hB (by decide) rfl (sh_11_7 _ hp_v0) SS_X2_foresee (am_ta (am_ta (am_ta (am_ti (am_ti (am_ti am_tn)))))) (Nat.le_of_ble_eq_true rfl) (Nat.le_of_ble_eq_true rfl) ml_RX11_324 iw_X2_foresee vw_X2_foresee cw_X2_foresee nw_RX2 pp_X2_foresee (Nat.le_of_ble_eq_true rfl) dX11_longest_149 rfl (NM_X2_foresee (sh_11_7 _ hp_v0) (sh_11_0 _ hp_v0) (sh_11_8 _ hp_v0) h) (fun r_5 m_6 h hB => ?_)
    refine z_aload_n (nx := 153) (a := 0) G rfl (Or.inl rfl) dX11_longest_152 rfl (b_getA (nx := 156) (k0 := 7) G hB fl_RX11_61 (Nat.le_of_ble_eq_true rfl) (Nat.le_of_ble_eq_true rfl) rfl hp_v0 dX11_longest_153 rfl (z_aload_n (nx := 157) (a := 0) G rfl (Or.inl rfl) dX11_longest_156 rfl (b_getA (nx := 160) (k0 := 0) G hB fl_RX11_10 (Nat.le_of_ble_eq_true rfl) (Nat.le_of_ble_eq_true rfl) rfl hp_v0 dX11_longest_157 rfl (z_aload_n (nx := 161) (a := 0) G rfl (Or.inl rfl) dX11_longest_160 rfl (b_getA (nx := 164) (k0 := 8) G hB fl_RX11_68 (Nat.le_of_ble_eq_true rfl) (Nat.le_of_ble_eq_true rfl) rfl hp_v0 dX11_longest_161 rfl (z_iconst (nx := 165) (z := 1) G (R32c rfl) dX11_longest_164 rfl ?_))))))
    refine b_callV0 (nx := 168) (zs := [am_rfv v0 7, am_rfv v0 0, am_rfv v0 8, 1]) (as := [(2, am_rfv v0 0), (2, am_rfv v0 8), (0, 1)]) X hB (by decide) rfl (sh_11_7 _ hp_v0) SS_X2_hear (am_ta (am_ta (am_ta (am_ti am_tn)))) (Nat.le_of_ble_eq_true rfl) (Nat.le_of_ble_eq_true rfl) ml_RX11_316 iw_X2_hear vw_X2_hear cw_X2_hear nw_RX2 pp_X2_hear (Nat.le_of_ble_eq_true rfl) dX11_longest_165 rfl (NM_X2_hear (sh_11_7 _ hp_v0) (sh_11_0 _ hp_v0) (sh_11_8 _ hp_v0) h) (fun r_7 m_8 h hB => ?_)
    refine z_pop (nx := 169) G (fun h => nomatch h) dX11_longest_168 rfl (z_aload_n (nx := 170) (a := 0) G rfl (Or.inl rfl) dX11_longest_169 rfl (b_getA (nx := 173) (k0 := 8) G hB fl_RX11_68 (Nat.le_of_ble_eq_true rfl) (Nat.le_of_ble_eq_true rfl) rfl hp_v0 dX11_longest_170 rfl (b_getA (nx := 176) (k0 := 0) G hB fl_RX11_267 (Nat.le_of_ble_eq_true rfl) (Nat.le_of_ble_eq_true rfl) rfl (sh_11_8 _ hp_v0) dX11_longest_173 rfl (z_iload (nx := 178) (a := 5) G rfl dX11_longest_176 rfl (z_iconst (nx := 179) (z := 5) G (R32c rfl) dX11_longest_178 rfl ?_)))))
    refine b_callV0 (nx := 182) (zs := [am_rfv (am_rfv v0 8) 0, r_3, 5]) (as := [(0, r_3), (0, 5)]) X hB (by decide) rfl (sh_9_0 _ (sh_11_8 _ hp_v0)) SS_X7_get (am_ta (am_ti (am_ti am_tn))) (Nat.le_of_ble_eq_true rfl) (Nat.le_of_ble_eq_true rfl) ml_RX11_135 iw_X7_get vw_X7_get cw_X7_get nw_RX7 pp_X7_get (Nat.le_of_ble_eq_true rfl) dX11_longest_179 rfl (NM_X7_get (sh_9_0 _ (sh_11_8 _ hp_v0)) h) (fun r_9 m_10 h hB => ?_)
    refine z_iconst (nx := 183) (z := 1) G (R32c rfl) dX11_longest_182 rfl ?_
    refine z_icmp_ne (nx := 186) (tgt := 189) G dX11_longest_183 (by decide) rfl (fun c => ?_) (fun c => ?_)
    · have h := h.1 c
      refine b_iinc (nx := 192) (a := 4) (loc2 := fun v4_11 => [(2, v0), (0, v1), (0, v2), (0, v3), (0, v4_11), (0, r_3)]) G (fun _ => rfl) rfl (am_pl1 rfl (fun h => nomatch h)) dX11_longest_189 rfl (fun v4_11 e_v4_11 => ?_)
      have h := h v4_11 e_v4_11
      refine z_goto (tgt := 92) G dX11_longest_192 (by decide) ?_
      exact b_fewer (loc2 := [(2, v0), (0, v1), (0, v2), (0, v3), (0, v4_11), (9, 0)]) (am_lk (am_lk (am_lk (am_lk (am_lk (am_lf am_ln)))))) (hC92 _ _ h hB)
    · have h := h.2 c
      refine z_iload (nx := 188) (a := 4) G rfl dX11_longest_186 rfl ?_
      exact b_ireturn X hB dX11_longest_188 h
theorem S_X11_longest_L1 {F : am_F} {K : am_KK} {v0 : Int} {v1 : Int} {v2 : Int} {v3 : Int} {v4 : Int} {m : am_M} (X : am_Cx F cX11_longest RX11 (some .int) 6 0 K) (hp_v0 : am_ob v0 11) (hB : am_Bt m) (h : M_X11_longest_L1 v0 v1 v2 v3 v4 K m) : am_Z F 92 [] [(2, v0), (0, v1), (0, v2), (0, v3), (0, v4), (9, 0)] m 200 := by
  obtain ⟨I, ⟨j, hj⟩, hI⟩ := h
  have key : ∀ j v4 m, I j v4 m → am_Bt m → am_Z F 92 [] [(2, v0), (0, v1), (0, v2), (0, v3), (0, v4), (9, 0)] m 200 := by
    intro j
    induction j using Nat.strongRecOn with
    | ind j ih =>
      intro v4 m hj hB
      exact S_X11_longest_L1B X hp_v0 (fun v4' m' hc hB' => by
        obtain ⟨j', g1, g2⟩ := hc
        exact ih j' g1 v4' m' g2 hB') hB (hI j v4 m hj)
  exact key j _ _ hj hB
set_option maxRecDepth 20000 in
set_option maxHeartbeats 4000000 in
theorem S_X11_longest {F : am_F} {K : am_KK} {v0 : Int} {v1 : Int} {v2 : Int} {v3 : Int} {m : am_M} (X : am_Cx F cX11_longest RX11 (some .int) 6 0 K) (hp_v0 : am_ob v0 11) (hB : am_Bt m) (h : M_X11_longest v0 v1 v2 v3 K m) : am_Z F 0 [] [(2, v0), (0, v1), (0, v2), (0, v3), (9, 0), (9, 0)] m 200 := by
  have G := X.G
  unfold M_X11_longest at h
  refine z_aload_n (nx := 1) (a := 0) G rfl (Or.inl rfl) dX11_longest_0 rfl (b_getA (nx := 4) (k0 := 0) G hB fl_RX11_10 (Nat.le_of_ble_eq_true rfl) (Nat.le_of_ble_eq_true rfl) rfl hp_v0 dX11_longest_1 rfl (b_getA (nx := 7) (k0 := 2) G hB fl_RX11_156 (Nat.le_of_ble_eq_true rfl) (Nat.le_of_ble_eq_true rfl) rfl (sh_11_0 _ hp_v0) dX11_longest_4 rfl (z_iload_n (nx := 8) (a := 1) G rfl dX11_longest_7 rfl ?_)))
  refine b_callV5 (nx := 11) (zs := [am_rfv (am_rfv v0 0) 2, v1]) (as := [(0, v1)]) X hB (by decide) rfl (sh_0_2 _ (sh_11_0 _ hp_v0)) SS_X7_has (am_ta (am_ti am_tn)) (Nat.le_of_ble_eq_true rfl) (Nat.le_of_ble_eq_true rfl) ml_RX11_159 iw_X7_has vw_X7_has cw_X7_has nw_RX7 pp_X7_has (Nat.le_of_ble_eq_true rfl) dX11_longest_8 rfl (NM_X7_has (sh_0_2 _ (sh_11_0 _ hp_v0)) h) (fun r_12 m_13 h h01_14 hB => ?_)
  refine z_if_eq (nx := 14) (tgt := 47) G dX11_longest_11 (by decide) rfl (fun c => ?_) (fun c => ?_)
  · have h := h.1 c
    refine z_iconst (nx := 48) (z := (-1)) G (R32c rfl) dX11_longest_47 rfl ?_
    exact b_ireturn X hB dX11_longest_48 h
  · have h := h.2 c
    refine z_iload_n (nx := 15) (a := 2) G rfl dX11_longest_14 rfl ?_
    refine b_callS5 (nx := 18) (zs := [v2]) (as := [(0, v2)]) X hB SS_X11_isThing (am_ti am_tn) (Nat.le_of_ble_eq_true rfl) (Nat.le_of_ble_eq_true rfl) ml_RX11_139 sw_X11_isThing (am_plainC 11 (by decide)) cw_X11_isThing nw_RX11 pp_X11_isThing (Nat.le_of_ble_eq_true rfl) dX11_longest_15 rfl (NM_X11_isThing h) (fun r_15 m_16 h h01_17 hB => ?_)
    refine z_if_eq (nx := 21) (tgt := 47) G dX11_longest_18 (by decide) rfl (fun c => ?_) (fun c => ?_)
    · have h := h.1 c
      refine z_iconst (nx := 48) (z := (-1)) G (R32c rfl) dX11_longest_47 rfl ?_
      exact b_ireturn X hB dX11_longest_48 h
    · have h := h.2 c
      refine z_iload_n (nx := 22) (a := 3) G rfl dX11_longest_21 rfl (z_iconst (nx := 23) (z := 1) G (R32c rfl) dX11_longest_22 rfl (z_bipush (nx := 25) (z := 6) G (R32c rfl) rfl dX11_longest_23 rfl ?_))
      refine b_callS5 (nx := 28) (zs := [v3, 1, 6]) (as := [(0, v3), (0, 1), (0, 6)]) X hB SS_X11_within (am_ti (am_ti (am_ti am_tn))) (Nat.le_of_ble_eq_true rfl) (Nat.le_of_ble_eq_true rfl) ml_RX11_113 sw_X11_within (am_plainC 11 (by decide)) cw_X11_within nw_RX11 pp_X11_within (Nat.le_of_ble_eq_true rfl) dX11_longest_25 rfl (NM_X11_within h) (fun r_18 m_19 h h01_20 hB => ?_)
      refine z_if_eq (nx := 31) (tgt := 47) G dX11_longest_28 (by decide) rfl (fun c => ?_) (fun c => ?_)
      · have h := h.1 c
        refine z_iconst (nx := 48) (z := (-1)) G (R32c rfl) dX11_longest_47 rfl ?_
        exact b_ireturn X hB dX11_longest_48 h
      · have h := h.2 c
        refine z_aload_n (nx := 32) (a := 0) G rfl (Or.inl rfl) dX11_longest_31 rfl (b_getA (nx := 35) (k0 := 0) G hB fl_RX11_10 (Nat.le_of_ble_eq_true rfl) (Nat.le_of_ble_eq_true rfl) rfl hp_v0 dX11_longest_32 rfl (b_getA (nx := 38) (k0 := 5) G hB fl_RX11_162 (Nat.le_of_ble_eq_true rfl) (Nat.le_of_ble_eq_true rfl) rfl (sh_11_0 _ hp_v0) dX11_longest_35 rfl (b_getI (nx := 41) (k0 := 1) (t := 0) G fl_RX11_165 (Nat.le_of_ble_eq_true rfl) (Nat.le_of_ble_eq_true rfl) rfl (sh_0_5 _ (sh_11_0 _ hp_v0)) dX11_longest_38 rfl (z_sipush (nx := 44) (z := 999) G (R32c rfl) rfl dX11_longest_41 rfl ?_))))
        refine z_icmp_lt (nx := 47) (tgt := 49) G dX11_longest_44 (by decide) rfl (fun c => ?_) (fun c => ?_)
        · have h := h.1 c
          refine z_aload_n (nx := 50) (a := 0) G rfl (Or.inl rfl) dX11_longest_49 rfl (b_getA (nx := 53) (k0 := 7) G hB fl_RX11_61 (Nat.le_of_ble_eq_true rfl) (Nat.le_of_ble_eq_true rfl) rfl hp_v0 dX11_longest_50 rfl (z_aload_n (nx := 54) (a := 0) G rfl (Or.inl rfl) dX11_longest_53 rfl (b_getA (nx := 57) (k0 := 0) G hB fl_RX11_10 (Nat.le_of_ble_eq_true rfl) (Nat.le_of_ble_eq_true rfl) rfl hp_v0 dX11_longest_54 rfl (z_aload_n (nx := 58) (a := 0) G rfl (Or.inl rfl) dX11_longest_57 rfl (b_getA (nx := 61) (k0 := 0) G hB fl_RX11_10 (Nat.le_of_ble_eq_true rfl) (Nat.le_of_ble_eq_true rfl) rfl hp_v0 dX11_longest_58 rfl (b_getA (nx := 64) (k0 := 5) G hB fl_RX11_162 (Nat.le_of_ble_eq_true rfl) (Nat.le_of_ble_eq_true rfl) rfl (sh_11_0 _ hp_v0) dX11_longest_61 rfl (z_iconst (nx := 65) (z := 1) G (R32c rfl) dX11_longest_64 rfl ?_)))))))
          refine b_callV9 (nx := 68) (zs := [am_rfv v0 7, am_rfv v0 0, am_rfv (am_rfv v0 0) 5, 1]) (as := [(2, am_rfv v0 0), (2, am_rfv (am_rfv v0 0) 5), (0, 1)]) X hB (by decide) rfl (sh_11_7 _ hp_v0) SS_X2_foreseeAll (am_ta (am_ta (am_ta (am_ti am_tn)))) (Nat.le_of_ble_eq_true rfl) (Nat.le_of_ble_eq_true rfl) ml_RX11_286 iw_X2_foreseeAll vw_X2_foreseeAll cw_X2_foreseeAll nw_RX2 pp_X2_foreseeAll (Nat.le_of_ble_eq_true rfl) dX11_longest_65 rfl (NM_X2_foreseeAll (sh_11_7 _ hp_v0) (sh_11_0 _ hp_v0) (sh_0_5 _ (sh_11_0 _ hp_v0)) h) (fun r_21 m_22 h hB => ?_)
          refine z_aload_n (nx := 69) (a := 0) G rfl (Or.inl rfl) dX11_longest_68 rfl (b_getA (nx := 72) (k0 := 6) G hB fl_RX11_52 (Nat.le_of_ble_eq_true rfl) (Nat.le_of_ble_eq_true rfl) rfl hp_v0 dX11_longest_69 rfl (z_aload_n (nx := 73) (a := 0) G rfl (Or.inl rfl) dX11_longest_72 rfl (b_getA (nx := 76) (k0 := 0) G hB fl_RX11_10 (Nat.le_of_ble_eq_true rfl) (Nat.le_of_ble_eq_true rfl) rfl hp_v0 dX11_longest_73 rfl (z_iload_n (nx := 77) (a := 1) G rfl dX11_longest_76 rfl (z_aload_n (nx := 78) (a := 0) G rfl (Or.inl rfl) dX11_longest_77 rfl (b_getA (nx := 81) (k0 := 0) G hB fl_RX11_10 (Nat.le_of_ble_eq_true rfl) (Nat.le_of_ble_eq_true rfl) rfl hp_v0 dX11_longest_78 rfl (b_getA (nx := 84) (k0 := 5) G hB fl_RX11_162 (Nat.le_of_ble_eq_true rfl) (Nat.le_of_ble_eq_true rfl) rfl (sh_11_0 _ hp_v0) dX11_longest_81 rfl (b_getI (nx := 87) (k0 := 1) (t := 0) G fl_RX11_165 (Nat.le_of_ble_eq_true rfl) (Nat.le_of_ble_eq_true rfl) rfl (sh_0_5 _ (sh_11_0 _ hp_v0)) dX11_longest_84 rfl ?_))))))))
          refine b_callV0 (nx := 90) (zs := [am_rfv v0 6, am_rfv v0 0, v1, m_22 (am_rfv (am_rfv v0 0) 5) 1]) (as := [(2, am_rfv v0 0), (0, v1), (0, m_22 (am_rfv (am_rfv v0 0) 5) 1)]) X hB (by decide) rfl (sh_11_6 _ hp_v0) SS_X3_breathOf (am_ta (am_ta (am_ti (am_ti am_tn)))) (Nat.le_of_ble_eq_true rfl) (Nat.le_of_ble_eq_true rfl) ml_RX11_168 iw_X3_breathOf vw_X3_breathOf cw_X3_breathOf nw_RX3 pp_X3_breathOf (Nat.le_of_ble_eq_true rfl) dX11_longest_87 rfl (NM_X3_breathOf (sh_11_6 _ hp_v0) (sh_11_0 _ hp_v0) h) (fun r_23 m_24 h hB => ?_)
          refine b_storeE (nx := 92) (a := 4) (loc2 := [(2, v0), (0, v1), (0, v2), (0, v3), (0, r_23), (9, 0)]) G rfl (Nat.le_of_ble_eq_true rfl) (am_pl1 rfl (fun h => nomatch h)) dX11_longest_90 rfl ?_
          exact b_fewer (loc2 := [(2, v0), (0, v1), (0, v2), (0, v3), (0, r_23), (9, 0)]) (am_lk (am_lk (am_lk (am_lk (am_lk (am_lk am_ln)))))) (S_X11_longest_L1 X hp_v0 hB h)
        · have h := h.2 c
          refine z_iconst (nx := 48) (z := (-1)) G (R32c rfl) dX11_longest_47 rfl ?_
          exact b_ireturn X hB dX11_longest_48 h
theorem NM_X11_longest {v0 : Int} {v1 : Int} {v2 : Int} {v3 : Int} {K : am_KK} {m : am_M} (hp_v0 : am_ob v0 11) (h : M_X11_longest v0 v1 v2 v3 K m) : N_X11_longest [v0, v1, v2, v3] K m := ⟨hp_v0, h⟩
theorem SS_X11_longest : am_Snd yX11_longest cX11_longest 6 (some .int) 0 6 (am_L [2, 0, 0, 0] 0 N_X11_longest) := by
  refine am_SB (by decide +kernel) (Nat.le_of_ble_eq_true rfl) (fun F zs as K m X ht hB hM => ?_)
  obtain ⟨v0, zs, as, rfl, rfl, hz0, ht⟩ := am_inv ht
  obtain ⟨v1, zs, as, rfl, rfl, hz1, ht⟩ := am_inv ht
  obtain ⟨v2, zs, as, rfl, rfl, hz2, ht⟩ := am_inv ht
  obtain ⟨v3, zs, as, rfl, rfl, hz3, ht⟩ := am_inv ht
  obtain ⟨rfl, rfl⟩ := am_inv0 ht
  obtain ⟨hp_v0, hM⟩ := hM
  exact S_X11_longest X hp_v0 hB hM
set_option maxRecDepth 20000 in
set_option maxHeartbeats 4000000 in
theorem S_X11_isGrantedWithin_J1 {F : am_F} {K : am_KK} {v0 : Int} {v1 : Int} {m : am_M} (X : am_Cx F cX11_isGrantedWithin RX11 (some .boolean) 6 5 K) (hp_v0 : am_ob v0 11) (hB : am_Bt m) (h : M_X11_isGrantedWithin_J1 v0 v1 K m) : am_Z F 41 [] [(2, v0), (0, v1), (9, 0), (9, 0)] m 200 := by
  have G := X.G
  unfold M_X11_isGrantedWithin_J1 at h
  refine z_aload_n (nx := 42) (a := 0) G rfl (Or.inl rfl) dX11_isGrantedWithin_41 rfl (b_getA (nx := 45) (k0 := 8) G hB fl_RX11_68 (Nat.le_of_ble_eq_true rfl) (Nat.le_of_ble_eq_true rfl) rfl hp_v0 dX11_isGrantedWithin_42 rfl (b_getA (nx := 48) (k0 := 0) G hB fl_RX11_267 (Nat.le_of_ble_eq_true rfl) (Nat.le_of_ble_eq_true rfl) rfl (sh_11_8 _ hp_v0) dX11_isGrantedWithin_45 rfl (z_iload_n (nx := 49) (a := 1) G rfl dX11_isGrantedWithin_48 rfl (z_iconst (nx := 50) (z := 5) G (R32c rfl) dX11_isGrantedWithin_49 rfl ?_))))
  refine b_callV0 (nx := 53) (zs := [am_rfv (am_rfv v0 8) 0, v1, 5]) (as := [(0, v1), (0, 5)]) X hB (by decide) rfl (sh_9_0 _ (sh_11_8 _ hp_v0)) SS_X7_get (am_ta (am_ti (am_ti am_tn))) (Nat.le_of_ble_eq_true rfl) (Nat.le_of_ble_eq_true rfl) ml_RX11_135 iw_X7_get vw_X7_get cw_X7_get nw_RX7 pp_X7_get (Nat.le_of_ble_eq_true rfl) dX11_isGrantedWithin_50 rfl (NM_X7_get (sh_9_0 _ (sh_11_8 _ hp_v0)) h) (fun r_1 m_2 h hB => ?_)
  refine z_iconst (nx := 54) (z := 1) G (R32c rfl) dX11_isGrantedWithin_53 rfl ?_
  refine z_icmp_ne (nx := 57) (tgt := 61) G dX11_isGrantedWithin_54 (by decide) rfl (fun c => ?_) (fun c => ?_)
  · have h := h.1 c
    refine z_iconst (nx := 62) (z := 0) G (R32c rfl) dX11_isGrantedWithin_61 rfl ?_
    exact b_zreturn X hB (Or.inl rfl) dX11_isGrantedWithin_62 h
  · have h := h.2 c
    refine z_iconst (nx := 58) (z := 1) G (R32c rfl) dX11_isGrantedWithin_57 rfl (z_goto (tgt := 62) G dX11_isGrantedWithin_58 (by decide) ?_)
    exact b_zreturn X hB (Or.inr rfl) dX11_isGrantedWithin_62 h
set_option maxRecDepth 20000 in
set_option maxHeartbeats 4000000 in
theorem S_X11_isGrantedWithin_L1B {F : am_F} {K : am_KK} {v0 : Int} {v1 : Int} {v2 : Int} {v3 : Int} {C2 : Int → am_M → Prop} {m : am_M} (X : am_Cx F cX11_isGrantedWithin RX11 (some .boolean) 6 5 K) (hp_v0 : am_ob v0 11) (hC2 : ∀ w3 m, C2 w3 m → am_Bt m → am_Z F 2 [] [(2, v0), (0, v1), (0, v2), (0, w3)] m 200) (hB : am_Bt m) (h : M_X11_isGrantedWithin_L1B v0 v1 v2 v3 C2 K m) : am_Z F 2 [] [(2, v0), (0, v1), (0, v2), (0, v3)] m 200 := by
  have G := X.G
  unfold M_X11_isGrantedWithin_L1B at h
  refine z_iload_n (nx := 3) (a := 3) G rfl dX11_isGrantedWithin_2 rfl (z_iload_n (nx := 4) (a := 2) G rfl dX11_isGrantedWithin_3 rfl ?_)
  refine z_icmp_gt (nx := 7) (tgt := 41) G dX11_isGrantedWithin_4 (by decide) rfl (fun c => ?_) (fun c => ?_)
  · have h := h.1 c
    exact b_fewer (loc2 := [(2, v0), (0, v1), (9, 0), (9, 0)]) (am_lk (am_lk (am_lf (am_lf am_ln)))) (S_X11_isGrantedWithin_J1 X hp_v0 hB h)
  · have h := h.2 c
    refine z_aload_n (nx := 8) (a := 0) G rfl (Or.inl rfl) dX11_isGrantedWithin_7 rfl (b_getA (nx := 11) (k0 := 8) G hB fl_RX11_68 (Nat.le_of_ble_eq_true rfl) (Nat.le_of_ble_eq_true rfl) rfl hp_v0 dX11_isGrantedWithin_8 rfl (z_iload_n (nx := 12) (a := 1) G rfl dX11_isGrantedWithin_11 rfl ?_))
    refine b_callV5 (nx := 15) (zs := [am_rfv v0 8, v1]) (as := [(0, v1)]) X hB (by decide) rfl (sh_11_8 _ hp_v0) SS_X9_waits (am_ta (am_ti am_tn)) (Nat.le_of_ble_eq_true rfl) (Nat.le_of_ble_eq_true rfl) ml_RX11_270 iw_X9_waits vw_X9_waits cw_X9_waits nw_RX9 pp_X9_waits (Nat.le_of_ble_eq_true rfl) dX11_isGrantedWithin_12 rfl (NM_X9_waits (sh_11_8 _ hp_v0) h) (fun r_3 m_4 h h01_5 hB => ?_)
    refine z_if_eq (nx := 18) (tgt := 41) G dX11_isGrantedWithin_15 (by decide) rfl (fun c => ?_) (fun c => ?_)
    · have h := h.1 c
      exact b_fewer (loc2 := [(2, v0), (0, v1), (9, 0), (9, 0)]) (am_lk (am_lk (am_lf (am_lf am_ln)))) (S_X11_isGrantedWithin_J1 X hp_v0 hB h)
    · have h := h.2 c
      refine z_aload_n (nx := 19) (a := 0) G rfl (Or.inl rfl) dX11_isGrantedWithin_18 rfl (b_getA (nx := 22) (k0 := 7) G hB fl_RX11_61 (Nat.le_of_ble_eq_true rfl) (Nat.le_of_ble_eq_true rfl) rfl hp_v0 dX11_isGrantedWithin_19 rfl (z_aload_n (nx := 23) (a := 0) G rfl (Or.inl rfl) dX11_isGrantedWithin_22 rfl (b_getA (nx := 26) (k0 := 0) G hB fl_RX11_10 (Nat.le_of_ble_eq_true rfl) (Nat.le_of_ble_eq_true rfl) rfl hp_v0 dX11_isGrantedWithin_23 rfl (z_aload_n (nx := 27) (a := 0) G rfl (Or.inl rfl) dX11_isGrantedWithin_26 rfl (b_getA (nx := 30) (k0 := 8) G hB fl_RX11_68 (Nat.le_of_ble_eq_true rfl) (Nat.le_of_ble_eq_true rfl) rfl hp_v0 dX11_isGrantedWithin_27 rfl (z_iload_n (nx := 31) (a := 3) G rfl dX11_isGrantedWithin_30 rfl ?_))))))
      refine b_callV0 (nx := 34) (zs := [am_rfv v0 7, am_rfv v0 0, am_rfv v0 8, v3]) (as := [(2, am_rfv v0 0), (2, am_rfv v0 8), (0, v3)]) X hB (by decide) rfl (sh_11_7 _ hp_v0) SS_X2_hear (am_ta (am_ta (am_ta (am_ti am_tn)))) (Nat.le_of_ble_eq_true rfl) (Nat.le_of_ble_eq_true rfl) ml_RX11_316 iw_X2_hear vw_X2_hear cw_X2_hear nw_RX2 pp_X2_hear (Nat.le_of_ble_eq_true rfl) dX11_isGrantedWithin_31 rfl (NM_X2_hear (sh_11_7 _ hp_v0) (sh_11_0 _ hp_v0) (sh_11_8 _ hp_v0) h) (fun r_6 m_7 h hB => ?_)
      refine z_pop (nx := 35) G (fun h => nomatch h) dX11_isGrantedWithin_34 rfl ?_
      refine b_iinc (nx := 38) (a := 3) (loc2 := fun v3_8 => [(2, v0), (0, v1), (0, v2), (0, v3_8)]) G (fun _ => rfl) rfl (am_pl1 rfl (fun h => nomatch h)) dX11_isGrantedWithin_35 rfl (fun v3_8 e_v3_8 => ?_)
      have h := h v3_8 e_v3_8
      refine z_goto (tgt := 2) G dX11_isGrantedWithin_38 (by decide) ?_
      exact b_fewer (loc2 := [(2, v0), (0, v1), (0, v2), (0, v3_8)]) (am_lk (am_lk (am_lk (am_lk am_ln)))) (hC2 _ _ h hB)
theorem S_X11_isGrantedWithin_L1 {F : am_F} {K : am_KK} {v0 : Int} {v1 : Int} {v2 : Int} {v3 : Int} {m : am_M} (X : am_Cx F cX11_isGrantedWithin RX11 (some .boolean) 6 5 K) (hp_v0 : am_ob v0 11) (hB : am_Bt m) (h : M_X11_isGrantedWithin_L1 v0 v1 v2 v3 K m) : am_Z F 2 [] [(2, v0), (0, v1), (0, v2), (0, v3)] m 200 := by
  obtain ⟨I, ⟨j, hj⟩, hI⟩ := h
  have key : ∀ j v3 m, I j v3 m → am_Bt m → am_Z F 2 [] [(2, v0), (0, v1), (0, v2), (0, v3)] m 200 := by
    intro j
    induction j using Nat.strongRecOn with
    | ind j ih =>
      intro v3 m hj hB
      exact S_X11_isGrantedWithin_L1B X hp_v0 (fun v3' m' hc hB' => by
        obtain ⟨j', g1, g2⟩ := hc
        exact ih j' g1 v3' m' g2 hB') hB (hI j v3 m hj)
  exact key j _ _ hj hB
set_option maxRecDepth 20000 in
set_option maxHeartbeats 4000000 in
theorem S_X11_isGrantedWithin {F : am_F} {K : am_KK} {v0 : Int} {v1 : Int} {v2 : Int} {m : am_M} (X : am_Cx F cX11_isGrantedWithin RX11 (some .boolean) 6 5 K) (hp_v0 : am_ob v0 11) (hB : am_Bt m) (h : M_X11_isGrantedWithin v0 v1 v2 K m) : am_Z F 0 [] [(2, v0), (0, v1), (0, v2), (9, 0)] m 200 := by
  have G := X.G
  unfold M_X11_isGrantedWithin at h
  refine z_iconst (nx := 1) (z := 1) G (R32c rfl) dX11_isGrantedWithin_0 rfl (b_storeE_n (nx := 2) (a := 3) (loc2 := [(2, v0), (0, v1), (0, v2), (0, 1)]) G rfl (Nat.le_of_ble_eq_true rfl) (am_pl1 rfl (fun h => nomatch h)) dX11_isGrantedWithin_1 rfl ?_)
  exact b_fewer (loc2 := [(2, v0), (0, v1), (0, v2), (0, 1)]) (am_lk (am_lk (am_lk (am_lk am_ln)))) (S_X11_isGrantedWithin_L1 X hp_v0 hB h)
theorem NM_X11_isGrantedWithin {v0 : Int} {v1 : Int} {v2 : Int} {K : am_KK} {m : am_M} (hp_v0 : am_ob v0 11) (h : M_X11_isGrantedWithin v0 v1 v2 K m) : N_X11_isGrantedWithin [v0, v1, v2] K m := ⟨hp_v0, h⟩
theorem SS_X11_isGrantedWithin : am_Snd yX11_isGrantedWithin cX11_isGrantedWithin 4 (some .boolean) 0 6 (am_L [2, 0, 0] 5 N_X11_isGrantedWithin) := by
  refine am_SB (by decide +kernel) (Nat.le_of_ble_eq_true rfl) (fun F zs as K m X ht hB hM => ?_)
  obtain ⟨v0, zs, as, rfl, rfl, hz0, ht⟩ := am_inv ht
  obtain ⟨v1, zs, as, rfl, rfl, hz1, ht⟩ := am_inv ht
  obtain ⟨v2, zs, as, rfl, rfl, hz2, ht⟩ := am_inv ht
  obtain ⟨rfl, rfl⟩ := am_inv0 ht
  obtain ⟨hp_v0, hM⟩ := hM
  exact S_X11_isGrantedWithin X hp_v0 hB hM
set_option maxRecDepth 20000 in
set_option maxHeartbeats 4000000 in
theorem S_X11_keep_L3B {F : am_F} {K : am_KK} {v0 : Int} {v1 : Int} {v3 : Int} {v4 : Int} {v5 : Int} {v6 : Int} {v7 : Int} {v8 : Int} {C187 : Int → am_M → Prop} {C163 : Int → am_M → Prop} {m : am_M} (X : am_Cx F cX11_keep RX11 (some .int) 7 0 K) (hp_v0 : am_ob v0 11) (hC187 : ∀ w8 m, C187 w8 m → am_Bt m → am_Z F 187 [] [(2, v0), (0, v1), (9, 0), (0, v3), (0, v4), (0, v5), (0, v6), (0, v7), (0, w8)] m 200) (hC163 : ∀ w7 m, C163 w7 m → am_Bt m → am_Z F 163 [] [(2, v0), (0, v1), (9, 0), (0, v3), (0, v4), (0, v5), (0, v6), (0, w7), (9, 0)] m 200) (hB : am_Bt m) (h : M_X11_keep_L3B v0 v1 v3 v4 v5 v6 v7 v8 C187 C163 K m) : am_Z F 187 [] [(2, v0), (0, v1), (9, 0), (0, v3), (0, v4), (0, v5), (0, v6), (0, v7), (0, v8)] m 200 := by
  have G := X.G
  unfold M_X11_keep_L3B at h
  refine z_iload (nx := 189) (a := 8) G rfl dX11_keep_187 rfl (z_iload (nx := 191) (a := 7) G rfl dX11_keep_189 rfl ?_)
  refine z_icmp_ge (nx := 194) (tgt := 214) G dX11_keep_191 (by decide) rfl (fun c => ?_) (fun c => ?_)
  · have h := h.1 c
    refine z_aload_n (nx := 215) (a := 0) G rfl (Or.inl rfl) dX11_keep_214 rfl (z_iload_n (nx := 216) (a := 1) G rfl dX11_keep_215 rfl (z_iload (nx := 218) (a := 6) G rfl dX11_keep_216 rfl ?_))
    refine b_callV5 (nx := 221) (zs := [v0, v1, v6]) (as := [(0, v1), (0, v6)]) X hB (by decide) rfl hp_v0 SS_X11_isGrantedWithin (am_ta (am_ti (am_ti am_tn))) (Nat.le_of_ble_eq_true rfl) (Nat.le_of_ble_eq_true rfl) ml_RX11_333 iw_X11_isGrantedWithin vw_X11_isGrantedWithin cw_X11_isGrantedWithin nw_RX11 pp_X11_isGrantedWithin (Nat.le_of_ble_eq_true rfl) dX11_keep_218 rfl (NM_X11_isGrantedWithin hp_v0 h) (fun r_1 m_2 h h01_3 hB => ?_)
    refine z_if_ne (nx := 224) (tgt := 227) G dX11_keep_221 (by decide) rfl (fun c => ?_) (fun c => ?_)
    · have h := h.1 c
      refine b_iinc (nx := 230) (a := 7) (loc2 := fun v7_4 => [(2, v0), (0, v1), (9, 0), (0, v3), (0, v4), (0, v5), (0, v6), (0, v7_4), (0, v8)]) G (fun _ => rfl) rfl (am_pl1 rfl (fun h => nomatch h)) dX11_keep_227 rfl (fun v7_4 e_v7_4 => ?_)
      have h := h v7_4 e_v7_4
      refine z_goto (tgt := 163) G dX11_keep_230 (by decide) ?_
      exact b_fewer (loc2 := [(2, v0), (0, v1), (9, 0), (0, v3), (0, v4), (0, v5), (0, v6), (0, v7_4), (9, 0)]) (am_lk (am_lk (am_lk (am_lk (am_lk (am_lk (am_lk (am_lk (am_lf am_ln))))))))) (hC163 _ _ h hB)
    · have h := h.2 c
      refine z_iload (nx := 226) (a := 7) G rfl dX11_keep_224 rfl ?_
      exact b_ireturn X hB dX11_keep_226 h
  · have h := h.2 c
    refine z_aload_n (nx := 195) (a := 0) G rfl (Or.inl rfl) dX11_keep_194 rfl (b_getA (nx := 198) (k0 := 8) G hB fl_RX11_68 (Nat.le_of_ble_eq_true rfl) (Nat.le_of_ble_eq_true rfl) rfl hp_v0 dX11_keep_195 rfl (z_iload_n (nx := 199) (a := 3) G rfl dX11_keep_198 rfl (z_iload (nx := 201) (a := 4) G rfl dX11_keep_199 rfl (z_iload (nx := 203) (a := 5) G rfl dX11_keep_201 rfl (z_iconst (nx := 204) (z := 1) G (R32c rfl) dX11_keep_203 rfl ?_)))))
    refine b_callV0 (nx := 207) (zs := [am_rfv v0 8, v3, v4, v5, 1]) (as := [(0, v3), (0, v4), (0, v5), (0, 1)]) X hB (by decide) rfl (sh_11_8 _ hp_v0) SS_X9_utter (am_ta (am_ti (am_ti (am_ti (am_ti am_tn))))) (Nat.le_of_ble_eq_true rfl) (Nat.le_of_ble_eq_true rfl) ml_RX11_320 iw_X9_utter vw_X9_utter cw_X9_utter nw_RX9 pp_X9_utter (Nat.le_of_ble_eq_true rfl) dX11_keep_204 rfl (NM_X9_utter (sh_11_8 _ hp_v0) h) (fun r_5 m_6 h hB => ?_)
    refine z_pop (nx := 208) G (fun h => nomatch h) dX11_keep_207 rfl ?_
    refine b_iinc (nx := 211) (a := 8) (loc2 := fun v8_7 => [(2, v0), (0, v1), (9, 0), (0, v3), (0, v4), (0, v5), (0, v6), (0, v7), (0, v8_7)]) G (fun _ => rfl) rfl (am_pl1 rfl (fun h => nomatch h)) dX11_keep_208 rfl (fun v8_7 e_v8_7 => ?_)
    have h := h v8_7 e_v8_7
    refine z_goto (tgt := 187) G dX11_keep_211 (by decide) ?_
    exact b_fewer (loc2 := [(2, v0), (0, v1), (9, 0), (0, v3), (0, v4), (0, v5), (0, v6), (0, v7), (0, v8_7)]) (am_lk (am_lk (am_lk (am_lk (am_lk (am_lk (am_lk (am_lk (am_lk am_ln))))))))) (hC187 _ _ h hB)
theorem S_X11_keep_L3 {F : am_F} {K : am_KK} {v0 : Int} {v1 : Int} {v3 : Int} {v4 : Int} {v5 : Int} {v6 : Int} {v7 : Int} {v8 : Int} {C163 : Int → am_M → Prop} {m : am_M} (X : am_Cx F cX11_keep RX11 (some .int) 7 0 K) (hp_v0 : am_ob v0 11) (hC163 : ∀ w7 m, C163 w7 m → am_Bt m → am_Z F 163 [] [(2, v0), (0, v1), (9, 0), (0, v3), (0, v4), (0, v5), (0, v6), (0, w7), (9, 0)] m 200) (hB : am_Bt m) (h : M_X11_keep_L3 v0 v1 v3 v4 v5 v6 v7 v8 C163 K m) : am_Z F 187 [] [(2, v0), (0, v1), (9, 0), (0, v3), (0, v4), (0, v5), (0, v6), (0, v7), (0, v8)] m 200 := by
  obtain ⟨I, ⟨j, hj⟩, hI⟩ := h
  have key : ∀ j v8 m, I j v8 m → am_Bt m → am_Z F 187 [] [(2, v0), (0, v1), (9, 0), (0, v3), (0, v4), (0, v5), (0, v6), (0, v7), (0, v8)] m 200 := by
    intro j
    induction j using Nat.strongRecOn with
    | ind j ih =>
      intro v8 m hj hB
      exact S_X11_keep_L3B X hp_v0 (fun v8' m' hc hB' => by
        obtain ⟨j', g1, g2⟩ := hc
        exact ih j' g1 v8' m' g2 hB') hC163 hB (hI j v8 m hj)
  exact key j _ _ hj hB
set_option maxRecDepth 20000 in
set_option maxHeartbeats 4000000 in
theorem S_X11_keep_L2B {F : am_F} {K : am_KK} {v0 : Int} {v1 : Int} {v3 : Int} {v4 : Int} {v5 : Int} {v6 : Int} {v7 : Int} {C163 : Int → am_M → Prop} {m : am_M} (X : am_Cx F cX11_keep RX11 (some .int) 7 0 K) (hp_v0 : am_ob v0 11) (hC163 : ∀ w7 m, C163 w7 m → am_Bt m → am_Z F 163 [] [(2, v0), (0, v1), (9, 0), (0, v3), (0, v4), (0, v5), (0, v6), (0, w7), (9, 0)] m 200) (hB : am_Bt m) (h : M_X11_keep_L2B v0 v1 v3 v4 v5 v6 v7 C163 K m) : am_Z F 163 [] [(2, v0), (0, v1), (9, 0), (0, v3), (0, v4), (0, v5), (0, v6), (0, v7), (9, 0)] m 200 := by
  have G := X.G
  unfold M_X11_keep_L2B at h
  refine z_iload (nx := 165) (a := 7) G rfl dX11_keep_163 rfl (z_bipush (nx := 167) (z := 8) G (R32c rfl) rfl dX11_keep_165 rfl ?_)
  refine z_icmp_gt (nx := 170) (tgt := 233) G dX11_keep_167 (by decide) rfl (fun c => ?_) (fun c => ?_)
  · have h := h.1 c
    refine z_iconst (nx := 234) (z := (-1)) G (R32c rfl) dX11_keep_233 rfl ?_
    exact b_ireturn X hB dX11_keep_234 h
  · have h := h.2 c
    refine z_aload_n (nx := 171) (a := 0) G rfl (Or.inl rfl) dX11_keep_170 rfl (b_getA (nx := 174) (k0 := 8) G hB fl_RX11_68 (Nat.le_of_ble_eq_true rfl) (Nat.le_of_ble_eq_true rfl) rfl hp_v0 dX11_keep_171 rfl (z_aload_n (nx := 175) (a := 0) G rfl (Or.inl rfl) dX11_keep_174 rfl (b_getA (nx := 178) (k0 := 0) G hB fl_RX11_10 (Nat.le_of_ble_eq_true rfl) (Nat.le_of_ble_eq_true rfl) rfl hp_v0 dX11_keep_175 rfl (b_getA (nx := 181) (k0 := 5) G hB fl_RX11_162 (Nat.le_of_ble_eq_true rfl) (Nat.le_of_ble_eq_true rfl) rfl (sh_11_0 _ hp_v0) dX11_keep_178 rfl ?_))))
    refine b_callV9 (nx := 184) (zs := [am_rfv v0 8, am_rfv (am_rfv v0 0) 5]) (as := [(2, am_rfv (am_rfv v0 0) 5)]) X hB (by decide) rfl (sh_11_8 _ hp_v0) SS_X9_takeFrom (am_ta (am_ta am_tn)) (Nat.le_of_ble_eq_true rfl) (Nat.le_of_ble_eq_true rfl) ml_RX11_216 iw_X9_takeFrom vw_X9_takeFrom cw_X9_takeFrom nw_RX9 pp_X9_takeFrom (Nat.le_of_ble_eq_true rfl) dX11_keep_181 rfl (NM_X9_takeFrom (sh_11_8 _ hp_v0) (sh_0_5 _ (sh_11_0 _ hp_v0)) h) (fun r_8 m_9 h hB => ?_)
    refine z_iconst (nx := 185) (z := 0) G (R32c rfl) dX11_keep_184 rfl (b_storeE (nx := 187) (a := 8) (loc2 := [(2, v0), (0, v1), (9, 0), (0, v3), (0, v4), (0, v5), (0, v6), (0, v7), (0, 0)]) G rfl (Nat.le_of_ble_eq_true rfl) (am_pl1 rfl (fun h => nomatch h)) dX11_keep_185 rfl ?_)
    exact b_fewer (loc2 := [(2, v0), (0, v1), (9, 0), (0, v3), (0, v4), (0, v5), (0, v6), (0, v7), (0, 0)]) (am_lk (am_lk (am_lk (am_lk (am_lk (am_lk (am_lk (am_lk (am_lk am_ln))))))))) (S_X11_keep_L3 X hp_v0 hC163 hB h)
theorem S_X11_keep_L2 {F : am_F} {K : am_KK} {v0 : Int} {v1 : Int} {v3 : Int} {v4 : Int} {v5 : Int} {v6 : Int} {v7 : Int} {m : am_M} (X : am_Cx F cX11_keep RX11 (some .int) 7 0 K) (hp_v0 : am_ob v0 11) (hB : am_Bt m) (h : M_X11_keep_L2 v0 v1 v3 v4 v5 v6 v7 K m) : am_Z F 163 [] [(2, v0), (0, v1), (9, 0), (0, v3), (0, v4), (0, v5), (0, v6), (0, v7), (9, 0)] m 200 := by
  obtain ⟨I, ⟨j, hj⟩, hI⟩ := h
  have key : ∀ j v7 m, I j v7 m → am_Bt m → am_Z F 163 [] [(2, v0), (0, v1), (9, 0), (0, v3), (0, v4), (0, v5), (0, v6), (0, v7), (9, 0)] m 200 := by
    intro j
    induction j using Nat.strongRecOn with
    | ind j ih =>
      intro v7 m hj hB
      exact S_X11_keep_L2B X hp_v0 (fun v7' m' hc hB' => by
        obtain ⟨j', g1, g2⟩ := hc
        exact ih j' g1 v7' m' g2 hB') hB (hI j v7 m hj)
  exact key j _ _ hj hB
set_option maxRecDepth 20000 in
set_option maxHeartbeats 4000000 in
theorem S_X11_keep_L1B {F : am_F} {K : am_KK} {v0 : Int} {v1 : Int} {v3 : Int} {v4 : Int} {v5 : Int} {v6 : Int} {v7 : Int} {C116 : Int → am_M → Prop} {m : am_M} (X : am_Cx F cX11_keep RX11 (some .int) 7 0 K) (hp_v0 : am_ob v0 11) (hC116 : ∀ w7 m, C116 w7 m → am_Bt m → am_Z F 116 [] [(2, v0), (0, v1), (9, 0), (0, v3), (0, v4), (0, v5), (0, v6), (0, w7), (9, 0)] m 200) (hB : am_Bt m) (h : M_X11_keep_L1B v0 v1 v3 v4 v5 v6 v7 C116 K m) : am_Z F 116 [] [(2, v0), (0, v1), (9, 0), (0, v3), (0, v4), (0, v5), (0, v6), (0, v7), (9, 0)] m 200 := by
  have G := X.G
  unfold M_X11_keep_L1B at h
  refine z_iload (nx := 118) (a := 7) G rfl dX11_keep_116 rfl (z_bipush (nx := 120) (z := 8) G (R32c rfl) rfl dX11_keep_118 rfl ?_)
  refine z_icmp_ge (nx := 123) (tgt := 143) G dX11_keep_120 (by decide) rfl (fun c => ?_) (fun c => ?_)
  · have h := h.1 c
    refine z_aload_n (nx := 144) (a := 0) G rfl (Or.inl rfl) dX11_keep_143 rfl (b_getA (nx := 147) (k0 := 7) G hB fl_RX11_61 (Nat.le_of_ble_eq_true rfl) (Nat.le_of_ble_eq_true rfl) rfl hp_v0 dX11_keep_144 rfl (z_aload_n (nx := 148) (a := 0) G rfl (Or.inl rfl) dX11_keep_147 rfl (b_getA (nx := 151) (k0 := 0) G hB fl_RX11_10 (Nat.le_of_ble_eq_true rfl) (Nat.le_of_ble_eq_true rfl) rfl hp_v0 dX11_keep_148 rfl (z_aload_n (nx := 152) (a := 0) G rfl (Or.inl rfl) dX11_keep_151 rfl (b_getA (nx := 155) (k0 := 8) G hB fl_RX11_68 (Nat.le_of_ble_eq_true rfl) (Nat.le_of_ble_eq_true rfl) rfl hp_v0 dX11_keep_152 rfl (z_iload (nx := 157) (a := 6) G rfl dX11_keep_155 rfl ?_))))))
    refine b_callV9 (nx := 160) (zs := [am_rfv v0 7, am_rfv v0 0, am_rfv v0 8, v6]) (as := [(2, am_rfv v0 0), (2, am_rfv v0 8), (0, v6)]) X hB (by decide) rfl (sh_11_7 _ hp_v0) SS_X2_foreseeAll (am_ta (am_ta (am_ta (am_ti am_tn)))) (Nat.le_of_ble_eq_true rfl) (Nat.le_of_ble_eq_true rfl) ml_RX11_286 iw_X2_foreseeAll vw_X2_foreseeAll cw_X2_foreseeAll nw_RX2 pp_X2_foreseeAll (Nat.le_of_ble_eq_true rfl) dX11_keep_157 rfl (NM_X2_foreseeAll (sh_11_7 _ hp_v0) (sh_11_0 _ hp_v0) (sh_11_8 _ hp_v0) h) (fun r_10 m_11 h hB => ?_)
    refine z_iconst (nx := 161) (z := 0) G (R32c rfl) dX11_keep_160 rfl (b_storeE (nx := 163) (a := 7) (loc2 := [(2, v0), (0, v1), (9, 0), (0, v3), (0, v4), (0, v5), (0, v6), (0, 0), (9, 0)]) G rfl (Nat.le_of_ble_eq_true rfl) (am_pl1 rfl (fun h => nomatch h)) dX11_keep_161 rfl ?_)
    exact b_fewer (loc2 := [(2, v0), (0, v1), (9, 0), (0, v3), (0, v4), (0, v5), (0, v6), (0, 0), (9, 0)]) (am_lk (am_lk (am_lk (am_lk (am_lk (am_lk (am_lk (am_lk (am_lk am_ln))))))))) (S_X11_keep_L2 X hp_v0 hB h)
  · have h := h.2 c
    refine z_aload_n (nx := 124) (a := 0) G rfl (Or.inl rfl) dX11_keep_123 rfl (b_getA (nx := 127) (k0 := 8) G hB fl_RX11_68 (Nat.le_of_ble_eq_true rfl) (Nat.le_of_ble_eq_true rfl) rfl hp_v0 dX11_keep_124 rfl (z_iload_n (nx := 128) (a := 3) G rfl dX11_keep_127 rfl (z_iload (nx := 130) (a := 4) G rfl dX11_keep_128 rfl (z_iload (nx := 132) (a := 5) G rfl dX11_keep_130 rfl (z_iconst (nx := 133) (z := 1) G (R32c rfl) dX11_keep_132 rfl ?_)))))
    refine b_callV0 (nx := 136) (zs := [am_rfv v0 8, v3, v4, v5, 1]) (as := [(0, v3), (0, v4), (0, v5), (0, 1)]) X hB (by decide) rfl (sh_11_8 _ hp_v0) SS_X9_utter (am_ta (am_ti (am_ti (am_ti (am_ti am_tn))))) (Nat.le_of_ble_eq_true rfl) (Nat.le_of_ble_eq_true rfl) ml_RX11_320 iw_X9_utter vw_X9_utter cw_X9_utter nw_RX9 pp_X9_utter (Nat.le_of_ble_eq_true rfl) dX11_keep_133 rfl (NM_X9_utter (sh_11_8 _ hp_v0) h) (fun r_12 m_13 h hB => ?_)
    refine z_pop (nx := 137) G (fun h => nomatch h) dX11_keep_136 rfl ?_
    refine b_iinc (nx := 140) (a := 7) (loc2 := fun v7_14 => [(2, v0), (0, v1), (9, 0), (0, v3), (0, v4), (0, v5), (0, v6), (0, v7_14), (9, 0)]) G (fun _ => rfl) rfl (am_pl1 rfl (fun h => nomatch h)) dX11_keep_137 rfl (fun v7_14 e_v7_14 => ?_)
    have h := h v7_14 e_v7_14
    refine z_goto (tgt := 116) G dX11_keep_140 (by decide) ?_
    exact b_fewer (loc2 := [(2, v0), (0, v1), (9, 0), (0, v3), (0, v4), (0, v5), (0, v6), (0, v7_14), (9, 0)]) (am_lk (am_lk (am_lk (am_lk (am_lk (am_lk (am_lk (am_lk (am_lk am_ln))))))))) (hC116 _ _ h hB)
theorem S_X11_keep_L1 {F : am_F} {K : am_KK} {v0 : Int} {v1 : Int} {v3 : Int} {v4 : Int} {v5 : Int} {v6 : Int} {v7 : Int} {m : am_M} (X : am_Cx F cX11_keep RX11 (some .int) 7 0 K) (hp_v0 : am_ob v0 11) (hB : am_Bt m) (h : M_X11_keep_L1 v0 v1 v3 v4 v5 v6 v7 K m) : am_Z F 116 [] [(2, v0), (0, v1), (9, 0), (0, v3), (0, v4), (0, v5), (0, v6), (0, v7), (9, 0)] m 200 := by
  obtain ⟨I, ⟨j, hj⟩, hI⟩ := h
  have key : ∀ j v7 m, I j v7 m → am_Bt m → am_Z F 116 [] [(2, v0), (0, v1), (9, 0), (0, v3), (0, v4), (0, v5), (0, v6), (0, v7), (9, 0)] m 200 := by
    intro j
    induction j using Nat.strongRecOn with
    | ind j ih =>
      intro v7 m hj hB
      exact S_X11_keep_L1B X hp_v0 (fun v7' m' hc hB' => by
        obtain ⟨j', g1, g2⟩ := hc
        exact ih j' g1 v7' m' g2 hB') hB (hI j v7 m hj)
  exact key j _ _ hj hB
set_option maxRecDepth 20000 in
set_option maxHeartbeats 4000000 in
theorem S_X11_keep {F : am_F} {K : am_KK} {v0 : Int} {v1 : Int} {v2 : Int} {v3 : Int} {v4 : Int} {v5 : Int} {m : am_M} (X : am_Cx F cX11_keep RX11 (some .int) 7 0 K) (hp_v0 : am_ob v0 11) (hB : am_Bt m) (h : M_X11_keep v0 v1 v2 v3 v4 v5 K m) : am_Z F 0 [] [(2, v0), (0, v1), (0, v2), (0, v3), (0, v4), (0, v5), (9, 0), (9, 0), (9, 0)] m 200 := by
  have G := X.G
  unfold M_X11_keep at h
  refine z_aload_n (nx := 1) (a := 0) G rfl (Or.inl rfl) dX11_keep_0 rfl (b_getA (nx := 4) (k0 := 0) G hB fl_RX11_10 (Nat.le_of_ble_eq_true rfl) (Nat.le_of_ble_eq_true rfl) rfl hp_v0 dX11_keep_1 rfl (b_getA (nx := 7) (k0 := 5) G hB fl_RX11_162 (Nat.le_of_ble_eq_true rfl) (Nat.le_of_ble_eq_true rfl) rfl (sh_11_0 _ hp_v0) dX11_keep_4 rfl (z_iload_n (nx := 8) (a := 1) G rfl dX11_keep_7 rfl ?_)))
  refine b_callV5 (nx := 11) (zs := [am_rfv (am_rfv v0 0) 5, v1]) (as := [(0, v1)]) X hB (by decide) rfl (sh_0_5 _ (sh_11_0 _ hp_v0)) SS_X9_waits (am_ta (am_ti am_tn)) (Nat.le_of_ble_eq_true rfl) (Nat.le_of_ble_eq_true rfl) ml_RX11_270 iw_X9_waits vw_X9_waits cw_X9_waits nw_RX9 pp_X9_waits (Nat.le_of_ble_eq_true rfl) dX11_keep_8 rfl (NM_X9_waits (sh_0_5 _ (sh_11_0 _ hp_v0)) h) (fun r_15 m_16 h h01_17 hB => ?_)
  refine z_if_eq (nx := 14) (tgt := 77) G dX11_keep_11 (by decide) rfl (fun c => ?_) (fun c => ?_)
  · have h := h.1 c
    refine z_iconst (nx := 78) (z := (-1)) G (R32c rfl) dX11_keep_77 rfl ?_
    exact b_ireturn X hB dX11_keep_78 h
  · have h := h.2 c
    refine z_iload_n (nx := 15) (a := 2) G rfl dX11_keep_14 rfl (z_iconst (nx := 16) (z := 1) G (R32c rfl) dX11_keep_15 rfl (z_bipush (nx := 18) (z := 20) G (R32c rfl) rfl dX11_keep_16 rfl ?_))
    refine b_callS5 (nx := 21) (zs := [v2, 1, 20]) (as := [(0, v2), (0, 1), (0, 20)]) X hB SS_X11_within (am_ti (am_ti (am_ti am_tn))) (Nat.le_of_ble_eq_true rfl) (Nat.le_of_ble_eq_true rfl) ml_RX11_113 sw_X11_within (am_plainC 11 (by decide)) cw_X11_within nw_RX11 pp_X11_within (Nat.le_of_ble_eq_true rfl) dX11_keep_18 rfl (NM_X11_within h) (fun r_18 m_19 h h01_20 hB => ?_)
    refine z_if_eq (nx := 24) (tgt := 77) G dX11_keep_21 (by decide) rfl (fun c => ?_) (fun c => ?_)
    · have h := h.1 c
      refine z_iconst (nx := 78) (z := (-1)) G (R32c rfl) dX11_keep_77 rfl ?_
      exact b_ireturn X hB dX11_keep_78 h
    · have h := h.2 c
      refine z_aload_n (nx := 25) (a := 0) G rfl (Or.inl rfl) dX11_keep_24 rfl (b_getA (nx := 28) (k0 := 0) G hB fl_RX11_10 (Nat.le_of_ble_eq_true rfl) (Nat.le_of_ble_eq_true rfl) rfl hp_v0 dX11_keep_25 rfl (b_getA (nx := 31) (k0 := 2) G hB fl_RX11_156 (Nat.le_of_ble_eq_true rfl) (Nat.le_of_ble_eq_true rfl) rfl (sh_11_0 _ hp_v0) dX11_keep_28 rfl (z_iload_n (nx := 32) (a := 3) G rfl dX11_keep_31 rfl ?_)))
      refine b_callV5 (nx := 35) (zs := [am_rfv (am_rfv v0 0) 2, v3]) (as := [(0, v3)]) X hB (by decide) rfl (sh_0_2 _ (sh_11_0 _ hp_v0)) SS_X7_has (am_ta (am_ti am_tn)) (Nat.le_of_ble_eq_true rfl) (Nat.le_of_ble_eq_true rfl) ml_RX11_159 iw_X7_has vw_X7_has cw_X7_has nw_RX7 pp_X7_has (Nat.le_of_ble_eq_true rfl) dX11_keep_32 rfl (NM_X7_has (sh_0_2 _ (sh_11_0 _ hp_v0)) h) (fun r_21 m_22 h h01_23 hB => ?_)
      refine z_if_eq (nx := 38) (tgt := 77) G dX11_keep_35 (by decide) rfl (fun c => ?_) (fun c => ?_)
      · have h := h.1 c
        refine z_iconst (nx := 78) (z := (-1)) G (R32c rfl) dX11_keep_77 rfl ?_
        exact b_ireturn X hB dX11_keep_78 h
      · have h := h.2 c
        refine z_iload (nx := 40) (a := 4) G rfl dX11_keep_38 rfl ?_
        refine b_callS5 (nx := 43) (zs := [v4]) (as := [(0, v4)]) X hB SS_X11_isThing (am_ti am_tn) (Nat.le_of_ble_eq_true rfl) (Nat.le_of_ble_eq_true rfl) ml_RX11_139 sw_X11_isThing (am_plainC 11 (by decide)) cw_X11_isThing nw_RX11 pp_X11_isThing (Nat.le_of_ble_eq_true rfl) dX11_keep_40 rfl (NM_X11_isThing h) (fun r_24 m_25 h h01_26 hB => ?_)
        refine z_if_eq (nx := 46) (tgt := 77) G dX11_keep_43 (by decide) rfl (fun c => ?_) (fun c => ?_)
        · have h := h.1 c
          refine z_iconst (nx := 78) (z := (-1)) G (R32c rfl) dX11_keep_77 rfl ?_
          exact b_ireturn X hB dX11_keep_78 h
        · have h := h.2 c
          refine z_iload (nx := 48) (a := 5) G rfl dX11_keep_46 rfl (z_iconst (nx := 49) (z := 1) G (R32c rfl) dX11_keep_48 rfl (z_aload_n (nx := 50) (a := 0) G rfl (Or.inl rfl) dX11_keep_49 rfl (b_getA (nx := 53) (k0 := 6) G hB fl_RX11_52 (Nat.le_of_ble_eq_true rfl) (Nat.le_of_ble_eq_true rfl) rfl hp_v0 dX11_keep_50 rfl (z_aload_n (nx := 54) (a := 0) G rfl (Or.inl rfl) dX11_keep_53 rfl (b_getA (nx := 57) (k0 := 0) G hB fl_RX11_10 (Nat.le_of_ble_eq_true rfl) (Nat.le_of_ble_eq_true rfl) rfl hp_v0 dX11_keep_54 rfl (z_iload_n (nx := 58) (a := 3) G rfl dX11_keep_57 rfl (z_aload_n (nx := 59) (a := 0) G rfl (Or.inl rfl) dX11_keep_58 rfl (b_getA (nx := 62) (k0 := 0) G hB fl_RX11_10 (Nat.le_of_ble_eq_true rfl) (Nat.le_of_ble_eq_true rfl) rfl hp_v0 dX11_keep_59 rfl (b_getA (nx := 65) (k0 := 5) G hB fl_RX11_162 (Nat.le_of_ble_eq_true rfl) (Nat.le_of_ble_eq_true rfl) rfl (sh_11_0 _ hp_v0) dX11_keep_62 rfl (b_getI (nx := 68) (k0 := 1) (t := 0) G fl_RX11_165 (Nat.le_of_ble_eq_true rfl) (Nat.le_of_ble_eq_true rfl) rfl (sh_0_5 _ (sh_11_0 _ hp_v0)) dX11_keep_65 rfl ?_))))))))))
          refine b_callV0 (nx := 71) (zs := [am_rfv v0 6, am_rfv v0 0, v3, m_25 (am_rfv (am_rfv v0 0) 5) 1]) (as := [(2, am_rfv v0 0), (0, v3), (0, m_25 (am_rfv (am_rfv v0 0) 5) 1)]) X hB (by decide) rfl (sh_11_6 _ hp_v0) SS_X3_breathOf (am_ta (am_ta (am_ti (am_ti am_tn)))) (Nat.le_of_ble_eq_true rfl) (Nat.le_of_ble_eq_true rfl) ml_RX11_168 iw_X3_breathOf vw_X3_breathOf cw_X3_breathOf nw_RX3 pp_X3_breathOf (Nat.le_of_ble_eq_true rfl) dX11_keep_68 rfl (NM_X3_breathOf (sh_11_6 _ hp_v0) (sh_11_0 _ hp_v0) h) (fun r_27 m_28 h hB => ?_)
          refine b_callS5 (nx := 74) (zs := [v5, 1, r_27]) (as := [(0, v5), (0, 1), (0, r_27)]) X hB SS_X11_within (am_ti (am_ti (am_ti am_tn))) (Nat.le_of_ble_eq_true rfl) (Nat.le_of_ble_eq_true rfl) ml_RX11_113 sw_X11_within (am_plainC 11 (by decide)) cw_X11_within nw_RX11 pp_X11_within (Nat.le_of_ble_eq_true rfl) dX11_keep_71 rfl (NM_X11_within h) (fun r_29 m_30 h h01_31 hB => ?_)
          refine z_if_ne (nx := 77) (tgt := 79) G dX11_keep_74 (by decide) rfl (fun c => ?_) (fun c => ?_)
          · have h := h.1 c
            refine z_iload_n (nx := 80) (a := 2) G rfl dX11_keep_79 rfl (z_sipush (nx := 83) (z := 999) G (R32c rfl) rfl dX11_keep_80 rfl (z_aload_n (nx := 84) (a := 0) G rfl (Or.inl rfl) dX11_keep_83 rfl (b_getA (nx := 87) (k0 := 0) G hB fl_RX11_10 (Nat.le_of_ble_eq_true rfl) (Nat.le_of_ble_eq_true rfl) rfl hp_v0 dX11_keep_84 rfl (b_getA (nx := 90) (k0 := 5) G hB fl_RX11_162 (Nat.le_of_ble_eq_true rfl) (Nat.le_of_ble_eq_true rfl) rfl (sh_11_0 _ hp_v0) dX11_keep_87 rfl (b_getI (nx := 93) (k0 := 1) (t := 0) G fl_RX11_165 (Nat.le_of_ble_eq_true rfl) (Nat.le_of_ble_eq_true rfl) rfl (sh_0_5 _ (sh_11_0 _ hp_v0)) dX11_keep_90 rfl (z_isub (nx := 94) G dX11_keep_93 rfl (b_mmin (nx := 97) X ml_RX11_328 (Nat.le_of_ble_eq_true rfl) dX11_keep_94 rfl ?_)))))))
            refine b_store (nx := 99) (a := 6) (loc2 := fun v6_32 => [(2, v0), (0, v1), (0, v2), (0, v3), (0, v4), (0, v5), (0, v6_32), (9, 0), (9, 0)]) G (fun _ => rfl) (Nat.le_of_ble_eq_true rfl) (am_pl1 rfl (fun h => nomatch h)) dX11_keep_97 rfl (fun v6_32 e_v6_32 => ?_)
            have h := h v6_32 e_v6_32
            refine z_aload_n (nx := 100) (a := 0) G rfl (Or.inl rfl) dX11_keep_99 rfl (b_getA (nx := 103) (k0 := 8) G hB fl_RX11_68 (Nat.le_of_ble_eq_true rfl) (Nat.le_of_ble_eq_true rfl) rfl hp_v0 dX11_keep_100 rfl (z_aload_n (nx := 104) (a := 0) G rfl (Or.inl rfl) dX11_keep_103 rfl (b_getA (nx := 107) (k0 := 0) G hB fl_RX11_10 (Nat.le_of_ble_eq_true rfl) (Nat.le_of_ble_eq_true rfl) rfl hp_v0 dX11_keep_104 rfl (b_getA (nx := 110) (k0 := 5) G hB fl_RX11_162 (Nat.le_of_ble_eq_true rfl) (Nat.le_of_ble_eq_true rfl) rfl (sh_11_0 _ hp_v0) dX11_keep_107 rfl ?_))))
            refine b_callV9 (nx := 113) (zs := [am_rfv v0 8, am_rfv (am_rfv v0 0) 5]) (as := [(2, am_rfv (am_rfv v0 0) 5)]) X hB (by decide) rfl (sh_11_8 _ hp_v0) SS_X9_takeFrom (am_ta (am_ta am_tn)) (Nat.le_of_ble_eq_true rfl) (Nat.le_of_ble_eq_true rfl) ml_RX11_216 iw_X9_takeFrom vw_X9_takeFrom cw_X9_takeFrom nw_RX9 pp_X9_takeFrom (Nat.le_of_ble_eq_true rfl) dX11_keep_110 rfl (NM_X9_takeFrom (sh_11_8 _ hp_v0) (sh_0_5 _ (sh_11_0 _ hp_v0)) h) (fun r_33 m_34 h hB => ?_)
            refine z_iconst (nx := 114) (z := 0) G (R32c rfl) dX11_keep_113 rfl (b_storeE (nx := 116) (a := 7) (loc2 := [(2, v0), (0, v1), (0, v2), (0, v3), (0, v4), (0, v5), (0, v6_32), (0, 0), (9, 0)]) G rfl (Nat.le_of_ble_eq_true rfl) (am_pl1 rfl (fun h => nomatch h)) dX11_keep_114 rfl ?_)
            exact b_fewer (loc2 := [(2, v0), (0, v1), (9, 0), (0, v3), (0, v4), (0, v5), (0, v6_32), (0, 0), (9, 0)]) (am_lk (am_lk (am_lf (am_lk (am_lk (am_lk (am_lk (am_lk (am_lk am_ln))))))))) (S_X11_keep_L1 X hp_v0 hB h)
          · have h := h.2 c
            refine z_iconst (nx := 78) (z := (-1)) G (R32c rfl) dX11_keep_77 rfl ?_
            exact b_ireturn X hB dX11_keep_78 h
theorem NM_X11_keep {v0 : Int} {v1 : Int} {v2 : Int} {v3 : Int} {v4 : Int} {v5 : Int} {K : am_KK} {m : am_M} (hp_v0 : am_ob v0 11) (h : M_X11_keep v0 v1 v2 v3 v4 v5 K m) : N_X11_keep [v0, v1, v2, v3, v4, v5] K m := ⟨hp_v0, h⟩
theorem SS_X11_keep : am_Snd yX11_keep cX11_keep 9 (some .int) 0 7 (am_L [2, 0, 0, 0, 0, 0] 0 N_X11_keep) := by
  refine am_SB (by decide +kernel) (Nat.le_of_ble_eq_true rfl) (fun F zs as K m X ht hB hM => ?_)
  obtain ⟨v0, zs, as, rfl, rfl, hz0, ht⟩ := am_inv ht
  obtain ⟨v1, zs, as, rfl, rfl, hz1, ht⟩ := am_inv ht
  obtain ⟨v2, zs, as, rfl, rfl, hz2, ht⟩ := am_inv ht
  obtain ⟨v3, zs, as, rfl, rfl, hz3, ht⟩ := am_inv ht
  obtain ⟨v4, zs, as, rfl, rfl, hz4, ht⟩ := am_inv ht
  obtain ⟨v5, zs, as, rfl, rfl, hz5, ht⟩ := am_inv ht
  obtain ⟨rfl, rfl⟩ := am_inv0 ht
  obtain ⟨hp_v0, hM⟩ := hM
  exact S_X11_keep X hp_v0 hB hM
set_option maxRecDepth 20000 in
set_option maxHeartbeats 4000000 in
theorem S_X11_answer_J1 {F : am_F} {K : am_KK} {v0 : Int} {m : am_M} (X : am_Cx F cX11_answer RX11 (some .int) 3 0 K) (hp_v0 : am_ob v0 11) (hB : am_Bt m) (h : M_X11_answer_J1 v0 K m) : am_Z F 26 [] [(2, v0), (9, 0), (9, 0), (9, 0), (9, 0)] m 200 := by
  have G := X.G
  unfold M_X11_answer_J1 at h
  refine z_aload_n (nx := 27) (a := 0) G rfl (Or.inl rfl) dX11_answer_26 rfl (z_iconst (nx := 28) (z := (-1)) G (R32c rfl) dX11_answer_27 rfl ?_)
  refine b_callV0 (nx := 31) (zs := [v0, (-1)]) (as := [(0, (-1))]) X hB (by decide) rfl hp_v0 SS_X11_refuse (am_ta (am_ti am_tn)) (Nat.le_of_ble_eq_true rfl) (Nat.le_of_ble_eq_true rfl) ml_RX11_117 iw_X11_refuse vw_X11_refuse cw_X11_refuse nw_RX11 pp_X11_refuse (Nat.le_of_ble_eq_true rfl) dX11_answer_28 rfl (NM_X11_refuse hp_v0 h) (fun r_1 m_2 h hB => ?_)
  exact b_ireturn X hB dX11_answer_31 h
set_option maxRecDepth 20000 in
set_option maxHeartbeats 4000000 in
theorem S_X11_answer {F : am_F} {K : am_KK} {v0 : Int} {v1 : Int} {v2 : Int} {v3 : Int} {m : am_M} (X : am_Cx F cX11_answer RX11 (some .int) 3 0 K) (hp_v0 : am_ob v0 11) (hB : am_Bt m) (h : M_X11_answer v0 v1 v2 v3 K m) : am_Z F 0 [] [(2, v0), (0, v1), (0, v2), (0, v3), (9, 0)] m 200 := by
  have G := X.G
  unfold M_X11_answer at h
  refine z_iload_n (nx := 1) (a := 1) G rfl dX11_answer_0 rfl (z_iconst (nx := 2) (z := 1) G (R32c rfl) dX11_answer_1 rfl (z_bipush (nx := 4) (z := 9) G (R32c rfl) rfl dX11_answer_2 rfl ?_))
  refine b_callS5 (nx := 7) (zs := [v1, 1, 9]) (as := [(0, v1), (0, 1), (0, 9)]) X hB SS_X11_within (am_ti (am_ti (am_ti am_tn))) (Nat.le_of_ble_eq_true rfl) (Nat.le_of_ble_eq_true rfl) ml_RX11_113 sw_X11_within (am_plainC 11 (by decide)) cw_X11_within nw_RX11 pp_X11_within (Nat.le_of_ble_eq_true rfl) dX11_answer_4 rfl (NM_X11_within h) (fun r_3 m_4 h h01_5 hB => ?_)
  refine z_if_eq (nx := 10) (tgt := 26) G dX11_answer_7 (by decide) rfl (fun c => ?_) (fun c => ?_)
  · have h := h.1 c
    exact b_fewer (loc2 := [(2, v0), (9, 0), (9, 0), (9, 0), (9, 0)]) (am_lk (am_lf (am_lf (am_lf (am_lk am_ln))))) (S_X11_answer_J1 X hp_v0 hB h)
  · have h := h.2 c
    refine z_iload_n (nx := 11) (a := 2) G rfl dX11_answer_10 rfl ?_
    refine b_callS5 (nx := 14) (zs := [v2]) (as := [(0, v2)]) X hB SS_X11_isThing (am_ti am_tn) (Nat.le_of_ble_eq_true rfl) (Nat.le_of_ble_eq_true rfl) ml_RX11_139 sw_X11_isThing (am_plainC 11 (by decide)) cw_X11_isThing nw_RX11 pp_X11_isThing (Nat.le_of_ble_eq_true rfl) dX11_answer_11 rfl (NM_X11_isThing h) (fun r_6 m_7 h h01_8 hB => ?_)
    refine z_if_eq (nx := 17) (tgt := 26) G dX11_answer_14 (by decide) rfl (fun c => ?_) (fun c => ?_)
    · have h := h.1 c
      exact b_fewer (loc2 := [(2, v0), (9, 0), (9, 0), (9, 0), (9, 0)]) (am_lk (am_lf (am_lf (am_lf (am_lk am_ln))))) (S_X11_answer_J1 X hp_v0 hB h)
    · have h := h.2 c
      refine z_iload_n (nx := 18) (a := 3) G rfl dX11_answer_17 rfl (z_iconst (nx := 19) (z := 0) G (R32c rfl) dX11_answer_18 rfl (z_iconst (nx := 20) (z := 1) G (R32c rfl) dX11_answer_19 rfl ?_))
      refine b_callS5 (nx := 23) (zs := [v3, 0, 1]) (as := [(0, v3), (0, 0), (0, 1)]) X hB SS_X11_within (am_ti (am_ti (am_ti am_tn))) (Nat.le_of_ble_eq_true rfl) (Nat.le_of_ble_eq_true rfl) ml_RX11_113 sw_X11_within (am_plainC 11 (by decide)) cw_X11_within nw_RX11 pp_X11_within (Nat.le_of_ble_eq_true rfl) dX11_answer_20 rfl (NM_X11_within h) (fun r_9 m_10 h h01_11 hB => ?_)
      refine z_if_ne (nx := 26) (tgt := 32) G dX11_answer_23 (by decide) rfl (fun c => ?_) (fun c => ?_)
      · have h := h.1 c
        refine z_aload_n (nx := 33) (a := 0) G rfl (Or.inl rfl) dX11_answer_32 rfl (b_getA (nx := 36) (k0 := 0) G hB fl_RX11_10 (Nat.le_of_ble_eq_true rfl) (Nat.le_of_ble_eq_true rfl) rfl hp_v0 dX11_answer_33 rfl (b_getA (nx := 39) (k0 := 4) G hB fl_RX11_337 (Nat.le_of_ble_eq_true rfl) (Nat.le_of_ble_eq_true rfl) rfl (sh_11_0 _ hp_v0) dX11_answer_36 rfl ?_))
        refine b_callV0 (nx := 42) (zs := [am_rfv (am_rfv v0 0) 4]) (as := []) X hB (by decide) rfl (sh_0_4 _ (sh_11_0 _ hp_v0)) SS_X7_open (am_ta am_tn) (Nat.le_of_ble_eq_true rfl) (Nat.le_of_ble_eq_true rfl) ml_RX11_124 iw_X7_open vw_X7_open cw_X7_open nw_RX7 pp_X7_open (Nat.le_of_ble_eq_true rfl) dX11_answer_39 rfl (NM_X7_open (sh_0_4 _ (sh_11_0 _ hp_v0)) h) (fun r_12 m_13 h hB => ?_)
        refine b_storeE (nx := 44) (a := 4) (loc2 := [(2, v0), (0, v1), (0, v2), (0, v3), (0, r_12)]) G rfl (Nat.le_of_ble_eq_true rfl) (am_pl1 rfl (fun h => nomatch h)) dX11_answer_42 rfl (z_iload (nx := 46) (a := 4) G rfl dX11_answer_44 rfl (z_iconst (nx := 47) (z := (-1)) G (R32c rfl) dX11_answer_46 rfl ?_))
        refine z_icmp_ne (nx := 50) (tgt := 57) G dX11_answer_47 (by decide) rfl (fun c => ?_) (fun c => ?_)
        · have h := h.1 c
          refine z_aload_n (nx := 58) (a := 0) G rfl (Or.inl rfl) dX11_answer_57 rfl (b_getA (nx := 61) (k0 := 0) G hB fl_RX11_10 (Nat.le_of_ble_eq_true rfl) (Nat.le_of_ble_eq_true rfl) rfl hp_v0 dX11_answer_58 rfl (b_getA (nx := 64) (k0 := 4) G hB fl_RX11_337 (Nat.le_of_ble_eq_true rfl) (Nat.le_of_ble_eq_true rfl) rfl (sh_11_0 _ hp_v0) dX11_answer_61 rfl (z_iload (nx := 66) (a := 4) G rfl dX11_answer_64 rfl (z_iconst (nx := 67) (z := 0) G (R32c rfl) dX11_answer_66 rfl (z_iload_n (nx := 68) (a := 1) G rfl dX11_answer_67 rfl ?_)))))
          refine b_callV9 (nx := 71) (zs := [am_rfv (am_rfv v0 0) 4, r_12, 0, v1]) (as := [(0, r_12), (0, 0), (0, v1)]) X hB (by decide) rfl (sh_0_4 _ (sh_11_0 _ hp_v0)) SS_X7_set (am_ta (am_ti (am_ti (am_ti am_tn)))) (Nat.le_of_ble_eq_true rfl) (Nat.le_of_ble_eq_true rfl) ml_RX11_128 iw_X7_set vw_X7_set cw_X7_set nw_RX7 pp_X7_set (Nat.le_of_ble_eq_true rfl) dX11_answer_68 rfl (NM_X7_set (sh_0_4 _ (sh_11_0 _ hp_v0)) h) (fun r_14 m_15 h hB => ?_)
          refine z_aload_n (nx := 72) (a := 0) G rfl (Or.inl rfl) dX11_answer_71 rfl (b_getA (nx := 75) (k0 := 0) G hB fl_RX11_10 (Nat.le_of_ble_eq_true rfl) (Nat.le_of_ble_eq_true rfl) rfl hp_v0 dX11_answer_72 rfl (b_getA (nx := 78) (k0 := 4) G hB fl_RX11_337 (Nat.le_of_ble_eq_true rfl) (Nat.le_of_ble_eq_true rfl) rfl (sh_11_0 _ hp_v0) dX11_answer_75 rfl (z_iload (nx := 80) (a := 4) G rfl dX11_answer_78 rfl (z_iconst (nx := 81) (z := 1) G (R32c rfl) dX11_answer_80 rfl (z_iload_n (nx := 82) (a := 2) G rfl dX11_answer_81 rfl ?_)))))
          refine b_callV9 (nx := 85) (zs := [am_rfv (am_rfv v0 0) 4, r_12, 1, v2]) (as := [(0, r_12), (0, 1), (0, v2)]) X hB (by decide) rfl (sh_0_4 _ (sh_11_0 _ hp_v0)) SS_X7_set (am_ta (am_ti (am_ti (am_ti am_tn)))) (Nat.le_of_ble_eq_true rfl) (Nat.le_of_ble_eq_true rfl) ml_RX11_128 iw_X7_set vw_X7_set cw_X7_set nw_RX7 pp_X7_set (Nat.le_of_ble_eq_true rfl) dX11_answer_82 rfl (NM_X7_set (sh_0_4 _ (sh_11_0 _ hp_v0)) h) (fun r_16 m_17 h hB => ?_)
          refine z_aload_n (nx := 86) (a := 0) G rfl (Or.inl rfl) dX11_answer_85 rfl (b_getA (nx := 89) (k0 := 0) G hB fl_RX11_10 (Nat.le_of_ble_eq_true rfl) (Nat.le_of_ble_eq_true rfl) rfl hp_v0 dX11_answer_86 rfl (b_getA (nx := 92) (k0 := 4) G hB fl_RX11_337 (Nat.le_of_ble_eq_true rfl) (Nat.le_of_ble_eq_true rfl) rfl (sh_11_0 _ hp_v0) dX11_answer_89 rfl (z_iload (nx := 94) (a := 4) G rfl dX11_answer_92 rfl (z_iconst (nx := 95) (z := 2) G (R32c rfl) dX11_answer_94 rfl (z_iload_n (nx := 96) (a := 3) G rfl dX11_answer_95 rfl ?_)))))
          refine b_callV9 (nx := 99) (zs := [am_rfv (am_rfv v0 0) 4, r_12, 2, v3]) (as := [(0, r_12), (0, 2), (0, v3)]) X hB (by decide) rfl (sh_0_4 _ (sh_11_0 _ hp_v0)) SS_X7_set (am_ta (am_ti (am_ti (am_ti am_tn)))) (Nat.le_of_ble_eq_true rfl) (Nat.le_of_ble_eq_true rfl) ml_RX11_128 iw_X7_set vw_X7_set cw_X7_set nw_RX7 pp_X7_set (Nat.le_of_ble_eq_true rfl) dX11_answer_96 rfl (NM_X7_set (sh_0_4 _ (sh_11_0 _ hp_v0)) h) (fun r_18 m_19 h hB => ?_)
          refine z_aload_n (nx := 100) (a := 0) G rfl (Or.inl rfl) dX11_answer_99 rfl (z_aload_n (nx := 101) (a := 0) G rfl (Or.inl rfl) dX11_answer_100 rfl (b_getA (nx := 104) (k0 := 0) G hB fl_RX11_10 (Nat.le_of_ble_eq_true rfl) (Nat.le_of_ble_eq_true rfl) rfl hp_v0 dX11_answer_101 rfl (b_getA (nx := 107) (k0 := 4) G hB fl_RX11_337 (Nat.le_of_ble_eq_true rfl) (Nat.le_of_ble_eq_true rfl) rfl (sh_11_0 _ hp_v0) dX11_answer_104 rfl (b_getI (nx := 110) (k0 := 2) (t := 0) G fl_RX11_188 (Nat.le_of_ble_eq_true rfl) (Nat.le_of_ble_eq_true rfl) rfl (sh_0_4 _ (sh_11_0 _ hp_v0)) dX11_answer_107 rfl ?_))))
          refine b_callV0 (nx := 113) (zs := [v0, m_19 (am_rfv (am_rfv v0 0) 4) 2]) (as := [(0, m_19 (am_rfv (am_rfv v0 0) 4) 2)]) X hB (by decide) rfl hp_v0 SS_X11_fine (am_ta (am_ti am_tn)) (Nat.le_of_ble_eq_true rfl) (Nat.le_of_ble_eq_true rfl) ml_RX11_132 iw_X11_fine vw_X11_fine cw_X11_fine nw_RX11 pp_X11_fine (Nat.le_of_ble_eq_true rfl) dX11_answer_110 rfl (NM_X11_fine hp_v0 h) (fun r_20 m_21 h hB => ?_)
          exact b_ireturn X hB dX11_answer_113 h
        · have h := h.2 c
          refine z_aload_n (nx := 51) (a := 0) G rfl (Or.inl rfl) dX11_answer_50 rfl (z_bipush (nx := 53) (z := (-5)) G (R32c rfl) rfl dX11_answer_51 rfl ?_)
          refine b_callV0 (nx := 56) (zs := [v0, (-5)]) (as := [(0, (-5))]) X hB (by decide) rfl hp_v0 SS_X11_refuse (am_ta (am_ti am_tn)) (Nat.le_of_ble_eq_true rfl) (Nat.le_of_ble_eq_true rfl) ml_RX11_117 iw_X11_refuse vw_X11_refuse cw_X11_refuse nw_RX11 pp_X11_refuse (Nat.le_of_ble_eq_true rfl) dX11_answer_53 rfl (NM_X11_refuse hp_v0 h) (fun r_22 m_23 h hB => ?_)
          exact b_ireturn X hB dX11_answer_56 h
      · have h := h.2 c
        exact b_fewer (loc2 := [(2, v0), (9, 0), (9, 0), (9, 0), (9, 0)]) (am_lk (am_lf (am_lf (am_lf (am_lk am_ln))))) (S_X11_answer_J1 X hp_v0 hB h)
theorem NM_X11_answer {v0 : Int} {v1 : Int} {v2 : Int} {v3 : Int} {K : am_KK} {m : am_M} (hp_v0 : am_ob v0 11) (h : M_X11_answer v0 v1 v2 v3 K m) : N_X11_answer [v0, v1, v2, v3] K m := ⟨hp_v0, h⟩
theorem SS_X11_answer : am_Snd yX11_answer cX11_answer 5 (some .int) 0 3 (am_L [2, 0, 0, 0] 0 N_X11_answer) := by
  refine am_SB (by decide +kernel) (Nat.le_of_ble_eq_true rfl) (fun F zs as K m X ht hB hM => ?_)
  obtain ⟨v0, zs, as, rfl, rfl, hz0, ht⟩ := am_inv ht
  obtain ⟨v1, zs, as, rfl, rfl, hz1, ht⟩ := am_inv ht
  obtain ⟨v2, zs, as, rfl, rfl, hz2, ht⟩ := am_inv ht
  obtain ⟨v3, zs, as, rfl, rfl, hz3, ht⟩ := am_inv ht
  obtain ⟨rfl, rfl⟩ := am_inv0 ht
  obtain ⟨hp_v0, hM⟩ := hM
  exact S_X11_answer X hp_v0 hB hM
set_option maxRecDepth 20000 in
set_option maxHeartbeats 4000000 in
theorem S_X11_forget {F : am_F} {K : am_KK} {v0 : Int} {m : am_M} (X : am_Cx F cX11_forget RX11 (some .int) 2 0 K) (hp_v0 : am_ob v0 11) (hB : am_Bt m) (h : M_X11_forget v0 K m) : am_Z F 0 [] [(2, v0), (9, 0)] m 200 := by
  have G := X.G
  unfold M_X11_forget at h
  refine z_aload_n (nx := 1) (a := 0) G rfl (Or.inl rfl) dX11_forget_0 rfl (b_getA (nx := 4) (k0 := 0) G hB fl_RX11_10 (Nat.le_of_ble_eq_true rfl) (Nat.le_of_ble_eq_true rfl) rfl hp_v0 dX11_forget_1 rfl (b_getA (nx := 7) (k0 := 4) G hB fl_RX11_337 (Nat.le_of_ble_eq_true rfl) (Nat.le_of_ble_eq_true rfl) rfl (sh_11_0 _ hp_v0) dX11_forget_4 rfl (b_getI (nx := 10) (k0 := 2) (t := 0) G fl_RX11_188 (Nat.le_of_ble_eq_true rfl) (Nat.le_of_ble_eq_true rfl) rfl (sh_0_4 _ (sh_11_0 _ hp_v0)) dX11_forget_7 rfl ?_)))
  refine b_store_n (nx := 11) (a := 1) (loc2 := fun v1_1 => [(2, v0), (0, v1_1)]) G (fun _ => rfl) (Nat.le_of_ble_eq_true rfl) (am_pl1 rfl (fun h => nomatch h)) dX11_forget_10 rfl (fun v1_1 e_v1_1 => ?_)
  have h := h v1_1 e_v1_1
  refine z_aload_n (nx := 12) (a := 0) G rfl (Or.inl rfl) dX11_forget_11 rfl (b_getA (nx := 15) (k0 := 0) G hB fl_RX11_10 (Nat.le_of_ble_eq_true rfl) (Nat.le_of_ble_eq_true rfl) rfl hp_v0 dX11_forget_12 rfl (b_getA (nx := 18) (k0 := 4) G hB fl_RX11_337 (Nat.le_of_ble_eq_true rfl) (Nat.le_of_ble_eq_true rfl) rfl (sh_11_0 _ hp_v0) dX11_forget_15 rfl (z_iconst (nx := 19) (z := 0) G (R32c rfl) dX11_forget_18 rfl ?_)))
  refine b_callV9 (nx := 22) (zs := [am_rfv (am_rfv v0 0) 4, 0]) (as := [(0, 0)]) X hB (by decide) rfl (sh_0_4 _ (sh_11_0 _ hp_v0)) SS_X7_cut (am_ta (am_ti am_tn)) (Nat.le_of_ble_eq_true rfl) (Nat.le_of_ble_eq_true rfl) ml_RX11_184 iw_X7_cut vw_X7_cut cw_X7_cut nw_RX7 pp_X7_cut (Nat.le_of_ble_eq_true rfl) dX11_forget_19 rfl (NM_X7_cut (sh_0_4 _ (sh_11_0 _ hp_v0)) h) (fun r_2 m_3 h hB => ?_)
  refine z_iload_n (nx := 23) (a := 1) G rfl dX11_forget_22 rfl ?_
  exact b_ireturn X hB dX11_forget_23 h
theorem NM_X11_forget {v0 : Int} {K : am_KK} {m : am_M} (hp_v0 : am_ob v0 11) (h : M_X11_forget v0 K m) : N_X11_forget [v0] K m := ⟨hp_v0, h⟩
theorem SS_X11_forget : am_Snd yX11_forget cX11_forget 2 (some .int) 0 2 (am_L [2] 0 N_X11_forget) := by
  refine am_SB (by decide +kernel) (Nat.le_of_ble_eq_true rfl) (fun F zs as K m X ht hB hM => ?_)
  obtain ⟨v0, zs, as, rfl, rfl, hz0, ht⟩ := am_inv ht
  obtain ⟨rfl, rfl⟩ := am_inv0 ht
  obtain ⟨hp_v0, hM⟩ := hM
  exact S_X11_forget X hp_v0 hB hM
set_option maxRecDepth 20000 in
set_option maxHeartbeats 4000000 in
theorem S_X11_explainsAnswers_J2 {F : am_F} {K : am_KK} {v0 : Int} {v2 : Int} {v4 : Int} {v5 : Int} {v6 : Int} {C47 : Int → am_M → Prop} {m : am_M} (X : am_Cx F cX11_explainsAnswers RX11 (some .boolean) 6 5 K) (hp_v0 : am_ob v0 11) (hC47 : ∀ w5 m, C47 w5 m → am_Bt m → am_Z F 47 [] [(2, v0), (9, 0), (0, v2), (9, 0), (0, v4), (0, w5), (9, 0)] m 200) (hB : am_Bt m) (h : M_X11_explainsAnswers_J2 v0 v2 v4 v5 v6 C47 K m) : am_Z F 130 [] [(2, v0), (9, 0), (0, v2), (9, 0), (0, v4), (0, v5), (0, v6)] m 200 := by
  have G := X.G
  unfold M_X11_explainsAnswers_J2 at h
  refine z_aload_n (nx := 131) (a := 0) G rfl (Or.inl rfl) dX11_explainsAnswers_130 rfl (b_getA (nx := 134) (k0 := 0) G hB fl_RX11_10 (Nat.le_of_ble_eq_true rfl) (Nat.le_of_ble_eq_true rfl) rfl hp_v0 dX11_explainsAnswers_131 rfl (z_iload (nx := 136) (a := 5) G rfl dX11_explainsAnswers_134 rfl (z_iload (nx := 138) (a := 6) G rfl dX11_explainsAnswers_136 rfl ?_)))
  refine b_callV5 (nx := 141) (zs := [am_rfv v0 0, v5, v6]) (as := [(0, v5), (0, v6)]) X hB (by decide) rfl (sh_11_0 _ hp_v0) SS_X0_answersAre (am_ta (am_ti (am_ti am_tn))) (Nat.le_of_ble_eq_true rfl) (Nat.le_of_ble_eq_true rfl) ml_RX11_380 iw_X0_answersAre vw_X0_answersAre cw_X0_answersAre nw_RX0 pp_X0_answersAre (Nat.le_of_ble_eq_true rfl) dX11_explainsAnswers_138 rfl (NM_X0_answersAre (sh_11_0 _ hp_v0) h) (fun r_1 m_2 h h01_3 hB => ?_)
  refine z_if_ne (nx := 144) (tgt := 146) G dX11_explainsAnswers_141 (by decide) rfl (fun c => ?_) (fun c => ?_)
  · have h := h.1 c
    refine b_iinc (nx := 149) (a := 5) (loc2 := fun v5_4 => [(2, v0), (9, 0), (0, v2), (9, 0), (0, v4), (0, v5_4), (0, v6)]) G (fun _ => rfl) rfl (am_pl1 rfl (fun h => nomatch h)) dX11_explainsAnswers_146 rfl (fun v5_4 e_v5_4 => ?_)
    have h := h v5_4 e_v5_4
    refine z_goto (tgt := 47) G dX11_explainsAnswers_149 (by decide) ?_
    exact b_fewer (loc2 := [(2, v0), (9, 0), (0, v2), (9, 0), (0, v4), (0, v5_4), (9, 0)]) (am_lk (am_lk (am_lk (am_lk (am_lk (am_lk (am_lf am_ln))))))) (hC47 _ _ h hB)
  · have h := h.2 c
    refine z_iconst (nx := 145) (z := 0) G (R32c rfl) dX11_explainsAnswers_144 rfl ?_
    exact b_zreturn X hB (Or.inl rfl) dX11_explainsAnswers_145 h
set_option maxRecDepth 20000 in
set_option maxHeartbeats 4000000 in
theorem S_X11_explainsAnswers_J1 {F : am_F} {K : am_KK} {v0 : Int} {v2 : Int} {v4 : Int} {v5 : Int} {C47 : Int → am_M → Prop} {m : am_M} (X : am_Cx F cX11_explainsAnswers RX11 (some .boolean) 6 5 K) (hp_v0 : am_ob v0 11) (hC47 : ∀ w5 m, C47 w5 m → am_Bt m → am_Z F 47 [] [(2, v0), (9, 0), (0, v2), (9, 0), (0, v4), (0, w5), (9, 0)] m 200) (hB : am_Bt m) (h : M_X11_explainsAnswers_J1 v0 v2 v4 v5 C47 K m) : am_Z F 103 [] [(2, v0), (9, 0), (0, v2), (9, 0), (0, v4), (0, v5), (9, 0)] m 200 := by
  have G := X.G
  unfold M_X11_explainsAnswers_J1 at h
  refine z_aload_n (nx := 104) (a := 0) G rfl (Or.inl rfl) dX11_explainsAnswers_103 rfl (b_getA (nx := 107) (k0 := 7) G hB fl_RX11_61 (Nat.le_of_ble_eq_true rfl) (Nat.le_of_ble_eq_true rfl) rfl hp_v0 dX11_explainsAnswers_104 rfl (z_aload_n (nx := 108) (a := 0) G rfl (Or.inl rfl) dX11_explainsAnswers_107 rfl (b_getA (nx := 111) (k0 := 0) G hB fl_RX11_10 (Nat.le_of_ble_eq_true rfl) (Nat.le_of_ble_eq_true rfl) rfl hp_v0 dX11_explainsAnswers_108 rfl (z_aload_n (nx := 112) (a := 0) G rfl (Or.inl rfl) dX11_explainsAnswers_111 rfl (b_getA (nx := 115) (k0 := 8) G hB fl_RX11_68 (Nat.le_of_ble_eq_true rfl) (Nat.le_of_ble_eq_true rfl) rfl hp_v0 dX11_explainsAnswers_112 rfl (z_iload (nx := 117) (a := 5) G rfl dX11_explainsAnswers_115 rfl ?_))))))
  refine b_callV0 (nx := 120) (zs := [am_rfv v0 7, am_rfv v0 0, am_rfv v0 8, v5]) (as := [(2, am_rfv v0 0), (2, am_rfv v0 8), (0, v5)]) X hB (by decide) rfl (sh_11_7 _ hp_v0) SS_X2_hear (am_ta (am_ta (am_ta (am_ti am_tn)))) (Nat.le_of_ble_eq_true rfl) (Nat.le_of_ble_eq_true rfl) ml_RX11_316 iw_X2_hear vw_X2_hear cw_X2_hear nw_RX2 pp_X2_hear (Nat.le_of_ble_eq_true rfl) dX11_explainsAnswers_117 rfl (NM_X2_hear (sh_11_7 _ hp_v0) (sh_11_0 _ hp_v0) (sh_11_8 _ hp_v0) h) (fun r_5 m_6 h hB => ?_)
  refine z_pop (nx := 121) G (fun h => nomatch h) dX11_explainsAnswers_120 rfl (z_aload_n (nx := 122) (a := 0) G rfl (Or.inl rfl) dX11_explainsAnswers_121 rfl (b_getA (nx := 125) (k0 := 7) G hB fl_RX11_61 (Nat.le_of_ble_eq_true rfl) (Nat.le_of_ble_eq_true rfl) rfl hp_v0 dX11_explainsAnswers_122 rfl (b_getI (nx := 128) (k0 := 3) (t := 0) G fl_RX11_377 (Nat.le_of_ble_eq_true rfl) (Nat.le_of_ble_eq_true rfl) rfl (sh_11_7 _ hp_v0) dX11_explainsAnswers_125 rfl ?_)))
  refine b_store (nx := 130) (a := 6) (loc2 := fun v6_7 => [(2, v0), (9, 0), (0, v2), (9, 0), (0, v4), (0, v5), (0, v6_7)]) G (fun _ => rfl) (Nat.le_of_ble_eq_true rfl) (am_pl1 rfl (fun h => nomatch h)) dX11_explainsAnswers_128 rfl (fun v6_7 e_v6_7 => ?_)
  have h := h v6_7 e_v6_7
  exact b_fewer (loc2 := [(2, v0), (9, 0), (0, v2), (9, 0), (0, v4), (0, v5), (0, v6_7)]) (am_lk (am_lk (am_lk (am_lk (am_lk (am_lk (am_lk am_ln))))))) (S_X11_explainsAnswers_J2 X hp_v0 hC47 hB h)
set_option maxRecDepth 20000 in
set_option maxHeartbeats 4000000 in
theorem S_X11_explainsAnswers_L1B {F : am_F} {K : am_KK} {v0 : Int} {v2 : Int} {v4 : Int} {v5 : Int} {C47 : Int → am_M → Prop} {m : am_M} (X : am_Cx F cX11_explainsAnswers RX11 (some .boolean) 6 5 K) (hp_v0 : am_ob v0 11) (hC47 : ∀ w5 m, C47 w5 m → am_Bt m → am_Z F 47 [] [(2, v0), (9, 0), (0, v2), (9, 0), (0, v4), (0, w5), (9, 0)] m 200) (hB : am_Bt m) (h : M_X11_explainsAnswers_L1B v0 v2 v4 v5 C47 K m) : am_Z F 47 [] [(2, v0), (9, 0), (0, v2), (9, 0), (0, v4), (0, v5), (9, 0)] m 200 := by
  have G := X.G
  unfold M_X11_explainsAnswers_L1B at h
  refine z_iload (nx := 49) (a := 5) G rfl dX11_explainsAnswers_47 rfl (z_bipush (nx := 51) (z := 9) G (R32c rfl) rfl dX11_explainsAnswers_49 rfl ?_)
  refine z_icmp_gt (nx := 54) (tgt := 152) G dX11_explainsAnswers_51 (by decide) rfl (fun c => ?_) (fun c => ?_)
  · have h := h.1 c
    refine z_iconst (nx := 153) (z := 1) G (R32c rfl) dX11_explainsAnswers_152 rfl ?_
    exact b_zreturn X hB (Or.inr rfl) dX11_explainsAnswers_153 h
  · have h := h.2 c
    refine z_iconst (nx := 55) (z := 0) G (R32c rfl) dX11_explainsAnswers_54 rfl (b_storeE (nx := 57) (a := 6) (loc2 := [(2, v0), (9, 0), (0, v2), (9, 0), (0, v4), (0, v5), (0, 0)]) G rfl (Nat.le_of_ble_eq_true rfl) (am_pl1 rfl (fun h => nomatch h)) dX11_explainsAnswers_55 rfl (z_iload (nx := 59) (a := 5) G rfl dX11_explainsAnswers_57 rfl (z_iload_n (nx := 60) (a := 2) G rfl dX11_explainsAnswers_59 rfl ?_)))
    refine z_icmp_gt (nx := 63) (tgt := 130) G dX11_explainsAnswers_60 (by decide) rfl (fun c => ?_) (fun c => ?_)
    · have h := h.1 c
      exact b_fewer (loc2 := [(2, v0), (9, 0), (0, v2), (9, 0), (0, v4), (0, v5), (0, 0)]) (am_lk (am_lk (am_lk (am_lk (am_lk (am_lk (am_lk am_ln))))))) (S_X11_explainsAnswers_J2 X hp_v0 hC47 hB h)
    · have h := h.2 c
      refine z_aload_n (nx := 64) (a := 0) G rfl (Or.inl rfl) dX11_explainsAnswers_63 rfl (b_getA (nx := 67) (k0 := 8) G hB fl_RX11_68 (Nat.le_of_ble_eq_true rfl) (Nat.le_of_ble_eq_true rfl) rfl hp_v0 dX11_explainsAnswers_64 rfl (z_iload (nx := 69) (a := 4) G rfl dX11_explainsAnswers_67 rfl ?_))
      refine b_callV5 (nx := 72) (zs := [am_rfv v0 8, v4]) (as := [(0, v4)]) X hB (by decide) rfl (sh_11_8 _ hp_v0) SS_X9_waits (am_ta (am_ti am_tn)) (Nat.le_of_ble_eq_true rfl) (Nat.le_of_ble_eq_true rfl) ml_RX11_270 iw_X9_waits vw_X9_waits cw_X9_waits nw_RX9 pp_X9_waits (Nat.le_of_ble_eq_true rfl) dX11_explainsAnswers_69 rfl (NM_X9_waits (sh_11_8 _ hp_v0) h) (fun r_8 m_9 h h01_10 hB => ?_)
      refine z_if_eq (nx := 75) (tgt := 103) G dX11_explainsAnswers_72 (by decide) rfl (fun c => ?_) (fun c => ?_)
      · have h := h.1 c
        exact b_fewer (loc2 := [(2, v0), (9, 0), (0, v2), (9, 0), (0, v4), (0, v5), (9, 0)]) (am_lk (am_lk (am_lk (am_lk (am_lk (am_lk (am_lf am_ln))))))) (S_X11_explainsAnswers_J1 X hp_v0 hC47 hB h)
      · have h := h.2 c
        refine z_aload_n (nx := 76) (a := 0) G rfl (Or.inl rfl) dX11_explainsAnswers_75 rfl (b_getA (nx := 79) (k0 := 7) G hB fl_RX11_61 (Nat.le_of_ble_eq_true rfl) (Nat.le_of_ble_eq_true rfl) rfl hp_v0 dX11_explainsAnswers_76 rfl (z_aload_n (nx := 80) (a := 0) G rfl (Or.inl rfl) dX11_explainsAnswers_79 rfl (b_getA (nx := 83) (k0 := 0) G hB fl_RX11_10 (Nat.le_of_ble_eq_true rfl) (Nat.le_of_ble_eq_true rfl) rfl hp_v0 dX11_explainsAnswers_80 rfl (z_aload_n (nx := 84) (a := 0) G rfl (Or.inl rfl) dX11_explainsAnswers_83 rfl (b_getA (nx := 87) (k0 := 8) G hB fl_RX11_68 (Nat.le_of_ble_eq_true rfl) (Nat.le_of_ble_eq_true rfl) rfl hp_v0 dX11_explainsAnswers_84 rfl (z_iload (nx := 89) (a := 4) G rfl dX11_explainsAnswers_87 rfl (z_iload (nx := 91) (a := 5) G rfl dX11_explainsAnswers_89 rfl (z_aload_n (nx := 92) (a := 0) G rfl (Or.inl rfl) dX11_explainsAnswers_91 rfl (b_getA (nx := 95) (k0 := 8) G hB fl_RX11_68 (Nat.le_of_ble_eq_true rfl) (Nat.le_of_ble_eq_true rfl) rfl hp_v0 dX11_explainsAnswers_92 rfl (b_getI (nx := 98) (k0 := 1) (t := 0) G fl_RX11_165 (Nat.le_of_ble_eq_true rfl) (Nat.le_of_ble_eq_true rfl) rfl (sh_11_8 _ hp_v0) dX11_explainsAnswers_95 rfl (z_iconst (nx := 99) (z := 1) G (R32c rfl) dX11_explainsAnswers_98 rfl (z_iadd (nx := 100) G dX11_explainsAnswers_99 rfl ?_))))))))))))
        refine b_callV9 (nx := 103) (zs := [am_rfv v0 7, am_rfv v0 0, am_rfv v0 8, v4, v5, w32 ((m_9 (am_rfv v0 8) 1) + 1)]) (as := [(2, am_rfv v0 0), (2, am_rfv v0 8), (0, v4), (0, v5), (0, w32 ((m_9 (am_rfv v0 8) 1) + 1))]) X hB (by decide) rfl (sh_11_7 _ hp_v0) SS_X2_foresee (am_ta (am_ta (am_ta (am_ti (am_ti (am_ti am_tn)))))) (Nat.le_of_ble_eq_true rfl) (Nat.le_of_ble_eq_true rfl) ml_RX11_324 iw_X2_foresee vw_X2_foresee cw_X2_foresee nw_RX2 pp_X2_foresee (Nat.le_of_ble_eq_true rfl) dX11_explainsAnswers_100 rfl (NM_X2_foresee (sh_11_7 _ hp_v0) (sh_11_0 _ hp_v0) (sh_11_8 _ hp_v0) h) (fun r_11 m_12 h hB => ?_)
        exact b_fewer (loc2 := [(2, v0), (9, 0), (0, v2), (9, 0), (0, v4), (0, v5), (9, 0)]) (am_lk (am_lk (am_lk (am_lk (am_lk (am_lk (am_lf am_ln))))))) (S_X11_explainsAnswers_J1 X hp_v0 hC47 hB h)
theorem S_X11_explainsAnswers_L1 {F : am_F} {K : am_KK} {v0 : Int} {v2 : Int} {v4 : Int} {v5 : Int} {m : am_M} (X : am_Cx F cX11_explainsAnswers RX11 (some .boolean) 6 5 K) (hp_v0 : am_ob v0 11) (hB : am_Bt m) (h : M_X11_explainsAnswers_L1 v0 v2 v4 v5 K m) : am_Z F 47 [] [(2, v0), (9, 0), (0, v2), (9, 0), (0, v4), (0, v5), (9, 0)] m 200 := by
  obtain ⟨I, ⟨j, hj⟩, hI⟩ := h
  have key : ∀ j v5 m, I j v5 m → am_Bt m → am_Z F 47 [] [(2, v0), (9, 0), (0, v2), (9, 0), (0, v4), (0, v5), (9, 0)] m 200 := by
    intro j
    induction j using Nat.strongRecOn with
    | ind j ih =>
      intro v5 m hj hB
      exact S_X11_explainsAnswers_L1B X hp_v0 (fun v5' m' hc hB' => by
        obtain ⟨j', g1, g2⟩ := hc
        exact ih j' g1 v5' m' g2 hB') hB (hI j v5 m hj)
  exact key j _ _ hj hB
set_option maxRecDepth 20000 in
set_option maxHeartbeats 4000000 in
theorem S_X11_explainsAnswers {F : am_F} {K : am_KK} {v0 : Int} {v1 : Int} {v2 : Int} {m : am_M} (X : am_Cx F cX11_explainsAnswers RX11 (some .boolean) 6 5 K) (hp_v0 : am_ob v0 11) (hB : am_Bt m) (h : M_X11_explainsAnswers v0 v1 v2 K m) : am_Z F 0 [] [(2, v0), (0, v1), (0, v2), (9, 0), (9, 0), (9, 0), (9, 0)] m 200 := by
  have G := X.G
  unfold M_X11_explainsAnswers at h
  refine z_aload_n (nx := 1) (a := 0) G rfl (Or.inl rfl) dX11_explainsAnswers_0 rfl (b_getA (nx := 4) (k0 := 8) G hB fl_RX11_68 (Nat.le_of_ble_eq_true rfl) (Nat.le_of_ble_eq_true rfl) rfl hp_v0 dX11_explainsAnswers_1 rfl (z_aload_n (nx := 5) (a := 0) G rfl (Or.inl rfl) dX11_explainsAnswers_4 rfl (b_getA (nx := 8) (k0 := 0) G hB fl_RX11_10 (Nat.le_of_ble_eq_true rfl) (Nat.le_of_ble_eq_true rfl) rfl hp_v0 dX11_explainsAnswers_5 rfl (b_getA (nx := 11) (k0 := 5) G hB fl_RX11_162 (Nat.le_of_ble_eq_true rfl) (Nat.le_of_ble_eq_true rfl) rfl (sh_11_0 _ hp_v0) dX11_explainsAnswers_8 rfl ?_))))
  refine b_callV9 (nx := 14) (zs := [am_rfv v0 8, am_rfv (am_rfv v0 0) 5]) (as := [(2, am_rfv (am_rfv v0 0) 5)]) X hB (by decide) rfl (sh_11_8 _ hp_v0) SS_X9_takeFrom (am_ta (am_ta am_tn)) (Nat.le_of_ble_eq_true rfl) (Nat.le_of_ble_eq_true rfl) ml_RX11_216 iw_X9_takeFrom vw_X9_takeFrom cw_X9_takeFrom nw_RX9 pp_X9_takeFrom (Nat.le_of_ble_eq_true rfl) dX11_explainsAnswers_11 rfl (NM_X9_takeFrom (sh_11_8 _ hp_v0) (sh_0_5 _ (sh_11_0 _ hp_v0)) h) (fun r_13 m_14 h hB => ?_)
  refine z_sipush (nx := 17) (z := 240) G (R32c rfl) rfl dX11_explainsAnswers_14 rfl (b_storeE_n (nx := 18) (a := 3) (loc2 := [(2, v0), (0, v1), (0, v2), (0, 240), (9, 0), (9, 0), (9, 0)]) G rfl (Nat.le_of_ble_eq_true rfl) (am_pl1 rfl (fun h => nomatch h)) dX11_explainsAnswers_17 rfl (z_aload_n (nx := 19) (a := 0) G rfl (Or.inl rfl) dX11_explainsAnswers_18 rfl (b_getA (nx := 22) (k0 := 8) G hB fl_RX11_68 (Nat.le_of_ble_eq_true rfl) (Nat.le_of_ble_eq_true rfl) rfl hp_v0 dX11_explainsAnswers_19 rfl (z_iload_n (nx := 23) (a := 1) G rfl dX11_explainsAnswers_22 rfl (z_iload_n (nx := 24) (a := 3) G rfl dX11_explainsAnswers_23 rfl (z_idiv (nx := 25) G (by decide) dX11_explainsAnswers_24 rfl (z_iload_n (nx := 26) (a := 1) G rfl dX11_explainsAnswers_25 rfl (z_bipush (nx := 28) (z := 30) G (R32c rfl) rfl dX11_explainsAnswers_26 rfl (z_idiv (nx := 29) G (by decide) dX11_explainsAnswers_28 rfl (z_bipush (nx := 31) (z := 8) G (R32c rfl) rfl dX11_explainsAnswers_29 rfl (z_irem (nx := 32) G (by decide) dX11_explainsAnswers_31 rfl (z_iload_n (nx := 33) (a := 1) G rfl dX11_explainsAnswers_32 rfl (z_bipush (nx := 35) (z := 30) G (R32c rfl) rfl dX11_explainsAnswers_33 rfl (z_irem (nx := 36) G (by decide) dX11_explainsAnswers_35 rfl (z_iconst (nx := 37) (z := 1) G (R32c rfl) dX11_explainsAnswers_36 rfl (z_iadd (nx := 38) G dX11_explainsAnswers_37 rfl (z_iconst (nx := 39) (z := 1) G (R32c rfl) dX11_explainsAnswers_38 rfl ?_)))))))))))))))))
  refine b_callV0 (nx := 42) (zs := [am_rfv v0 8, w32 (Int.tdiv v1 240), w32 (Int.tmod (w32 (Int.tdiv v1 30)) 8), w32 ((w32 (Int.tmod v1 30)) + 1), 1]) (as := [(0, w32 (Int.tdiv v1 240)), (0, w32 (Int.tmod (w32 (Int.tdiv v1 30)) 8)), (0, w32 ((w32 (Int.tmod v1 30)) + 1)), (0, 1)]) X hB (by decide) rfl (sh_11_8 _ hp_v0) SS_X9_utter (am_ta (am_ti (am_ti (am_ti (am_ti am_tn))))) (Nat.le_of_ble_eq_true rfl) (Nat.le_of_ble_eq_true rfl) ml_RX11_320 iw_X9_utter vw_X9_utter cw_X9_utter nw_RX9 pp_X9_utter (Nat.le_of_ble_eq_true rfl) dX11_explainsAnswers_39 rfl (NM_X9_utter (sh_11_8 _ hp_v0) h) (fun r_15 m_16 h hB => ?_)
  refine b_storeE (nx := 44) (a := 4) (loc2 := [(2, v0), (0, v1), (0, v2), (0, 240), (0, r_15), (9, 0), (9, 0)]) G rfl (Nat.le_of_ble_eq_true rfl) (am_pl1 rfl (fun h => nomatch h)) dX11_explainsAnswers_42 rfl (z_iconst (nx := 45) (z := 1) G (R32c rfl) dX11_explainsAnswers_44 rfl (b_storeE (nx := 47) (a := 5) (loc2 := [(2, v0), (0, v1), (0, v2), (0, 240), (0, r_15), (0, 1), (9, 0)]) G rfl (Nat.le_of_ble_eq_true rfl) (am_pl1 rfl (fun h => nomatch h)) dX11_explainsAnswers_45 rfl ?_))
  exact b_fewer (loc2 := [(2, v0), (9, 0), (0, v2), (9, 0), (0, r_15), (0, 1), (9, 0)]) (am_lk (am_lf (am_lk (am_lf (am_lk (am_lk (am_lk am_ln))))))) (S_X11_explainsAnswers_L1 X hp_v0 hB h)
theorem NM_X11_explainsAnswers {v0 : Int} {v1 : Int} {v2 : Int} {K : am_KK} {m : am_M} (hp_v0 : am_ob v0 11) (h : M_X11_explainsAnswers v0 v1 v2 K m) : N_X11_explainsAnswers [v0, v1, v2] K m := ⟨hp_v0, h⟩
theorem SS_X11_explainsAnswers : am_Snd yX11_explainsAnswers cX11_explainsAnswers 7 (some .boolean) 0 6 (am_L [2, 0, 0] 5 N_X11_explainsAnswers) := by
  refine am_SB (by decide +kernel) (Nat.le_of_ble_eq_true rfl) (fun F zs as K m X ht hB hM => ?_)
  obtain ⟨v0, zs, as, rfl, rfl, hz0, ht⟩ := am_inv ht
  obtain ⟨v1, zs, as, rfl, rfl, hz1, ht⟩ := am_inv ht
  obtain ⟨v2, zs, as, rfl, rfl, hz2, ht⟩ := am_inv ht
  obtain ⟨rfl, rfl⟩ := am_inv0 ht
  obtain ⟨hp_v0, hM⟩ := hM
  exact S_X11_explainsAnswers X hp_v0 hB hM
set_option maxRecDepth 20000 in
set_option maxHeartbeats 4000000 in
theorem S_X11_hidden_J1 {F : am_F} {K : am_KK} {v0 : Int} {v1 : Int} {v2 : Int} {v3 : Int} {v4 : Int} {C56 : Int → Int → am_M → Prop} {m : am_M} (X : am_Cx F cX11_hidden RX11 (some .int) 7 0 K) (hp_v0 : am_ob v0 11) (hC56 : ∀ w3 w4 m, C56 w3 w4 m → am_Bt m → am_Z F 56 [] [(2, v0), (0, v1), (0, v2), (0, w3), (0, w4)] m 200) (hB : am_Bt m) (h : M_X11_hidden_J1 v0 v1 v2 v3 v4 C56 K m) : am_Z F 98 [] [(2, v0), (0, v1), (0, v2), (0, v3), (0, v4)] m 200 := by
  have G := X.G
  unfold M_X11_hidden_J1 at h
  refine b_iinc (nx := 101) (a := 4) (loc2 := fun v4_1 => [(2, v0), (0, v1), (0, v2), (0, v3), (0, v4_1)]) G (fun _ => rfl) rfl (am_pl1 rfl (fun h => nomatch h)) dX11_hidden_98 rfl (fun v4_1 e_v4_1 => ?_)
  have h := h v4_1 e_v4_1
  refine z_goto (tgt := 56) G dX11_hidden_101 (by decide) ?_
  exact b_fewer (loc2 := [(2, v0), (0, v1), (0, v2), (0, v3), (0, v4_1)]) (am_lk (am_lk (am_lk (am_lk (am_lk am_ln))))) (hC56 _ _ _ h hB)
set_option maxRecDepth 20000 in
set_option maxHeartbeats 4000000 in
theorem S_X11_hidden_L1B {F : am_F} {K : am_KK} {v0 : Int} {v1 : Int} {v2 : Int} {v3 : Int} {v4 : Int} {C56 : Int → Int → am_M → Prop} {m : am_M} (X : am_Cx F cX11_hidden RX11 (some .int) 7 0 K) (hp_v0 : am_ob v0 11) (hC56 : ∀ w3 w4 m, C56 w3 w4 m → am_Bt m → am_Z F 56 [] [(2, v0), (0, v1), (0, v2), (0, w3), (0, w4)] m 200) (hB : am_Bt m) (h : M_X11_hidden_L1B v0 v1 v2 v3 v4 C56 K m) : am_Z F 56 [] [(2, v0), (0, v1), (0, v2), (0, v3), (0, v4)] m 200 := by
  have G := X.G
  unfold M_X11_hidden_L1B at h
  refine z_iload (nx := 58) (a := 4) G rfl dX11_hidden_56 rfl (z_aload_n (nx := 59) (a := 0) G rfl (Or.inl rfl) dX11_hidden_58 rfl (b_getA (nx := 62) (k0 := 0) G hB fl_RX11_10 (Nat.le_of_ble_eq_true rfl) (Nat.le_of_ble_eq_true rfl) rfl hp_v0 dX11_hidden_59 rfl (b_getA (nx := 65) (k0 := 2) G hB fl_RX11_156 (Nat.le_of_ble_eq_true rfl) (Nat.le_of_ble_eq_true rfl) rfl (sh_11_0 _ hp_v0) dX11_hidden_62 rfl (b_getI (nx := 68) (k0 := 2) (t := 0) G fl_RX11_188 (Nat.le_of_ble_eq_true rfl) (Nat.le_of_ble_eq_true rfl) rfl (sh_0_2 _ (sh_11_0 _ hp_v0)) dX11_hidden_65 rfl (z_bipush (nx := 70) (z := 8) G (R32c rfl) rfl dX11_hidden_68 rfl (z_imul (nx := 71) G dX11_hidden_70 rfl (z_bipush (nx := 73) (z := 30) G (R32c rfl) rfl dX11_hidden_71 rfl (z_imul (nx := 74) G dX11_hidden_73 rfl ?_))))))))
  refine z_icmp_ge (nx := 77) (tgt := 104) G dX11_hidden_74 (by decide) rfl (fun c => ?_) (fun c => ?_)
  · have h := h.1 c
    refine z_iload_n (nx := 105) (a := 1) G rfl dX11_hidden_104 rfl (z_iconst (nx := 106) (z := (-1)) G (R32c rfl) dX11_hidden_105 rfl ?_)
    refine z_icmp_ne (nx := 109) (tgt := 113) G dX11_hidden_106 (by decide) rfl (fun c => ?_) (fun c => ?_)
    · have h := h.1 c
      refine z_iconst (nx := 114) (z := (-1)) G (R32c rfl) dX11_hidden_113 rfl ?_
      exact b_ireturn X hB dX11_hidden_114 h
    · have h := h.2 c
      refine z_iload_n (nx := 110) (a := 3) G rfl dX11_hidden_109 rfl (z_goto (tgt := 114) G dX11_hidden_110 (by decide) ?_)
      exact b_ireturn X hB dX11_hidden_114 h
  · have h := h.2 c
    refine z_aload_n (nx := 78) (a := 0) G rfl (Or.inl rfl) dX11_hidden_77 rfl (z_iload (nx := 80) (a := 4) G rfl dX11_hidden_78 rfl (z_iload_n (nx := 81) (a := 2) G rfl dX11_hidden_80 rfl ?_))
    refine b_callV5 (nx := 84) (zs := [v0, v4, v2]) (as := [(0, v4), (0, v2)]) X hB (by decide) rfl hp_v0 SS_X11_explainsAnswers (am_ta (am_ti (am_ti am_tn))) (Nat.le_of_ble_eq_true rfl) (Nat.le_of_ble_eq_true rfl) ml_RX11_343 iw_X11_explainsAnswers vw_X11_explainsAnswers cw_X11_explainsAnswers nw_RX11 pp_X11_explainsAnswers (Nat.le_of_ble_eq_true rfl) dX11_hidden_81 rfl (NM_X11_explainsAnswers hp_v0 h) (fun r_2 m_3 h h01_4 hB => ?_)
    refine z_if_eq (nx := 87) (tgt := 98) G dX11_hidden_84 (by decide) rfl (fun c => ?_) (fun c => ?_)
    · have h := h.1 c
      exact b_fewer (loc2 := [(2, v0), (0, v1), (0, v2), (0, v3), (0, v4)]) (am_lk (am_lk (am_lk (am_lk (am_lk am_ln))))) (S_X11_hidden_J1 X hp_v0 hC56 hB h)
    · have h := h.2 c
      refine z_iload_n (nx := 88) (a := 3) G rfl dX11_hidden_87 rfl (z_iload_n (nx := 89) (a := 1) G rfl dX11_hidden_88 rfl ?_)
      refine z_icmp_ne (nx := 92) (tgt := 95) G dX11_hidden_89 (by decide) rfl (fun c => ?_) (fun c => ?_)
      · have h := h.1 c
        refine b_iinc (nx := 98) (a := 3) (loc2 := fun v3_5 => [(2, v0), (0, v1), (0, v2), (0, v3_5), (0, v4)]) G (fun _ => rfl) rfl (am_pl1 rfl (fun h => nomatch h)) dX11_hidden_95 rfl (fun v3_5 e_v3_5 => ?_)
        have h := h v3_5 e_v3_5
        exact b_fewer (loc2 := [(2, v0), (0, v1), (0, v2), (0, v3_5), (0, v4)]) (am_lk (am_lk (am_lk (am_lk (am_lk am_ln))))) (S_X11_hidden_J1 X hp_v0 hC56 hB h)
      · have h := h.2 c
        refine z_iload (nx := 94) (a := 4) G rfl dX11_hidden_92 rfl ?_
        exact b_ireturn X hB dX11_hidden_94 h
theorem S_X11_hidden_L1 {F : am_F} {K : am_KK} {v0 : Int} {v1 : Int} {v2 : Int} {v3 : Int} {v4 : Int} {m : am_M} (X : am_Cx F cX11_hidden RX11 (some .int) 7 0 K) (hp_v0 : am_ob v0 11) (hB : am_Bt m) (h : M_X11_hidden_L1 v0 v1 v2 v3 v4 K m) : am_Z F 56 [] [(2, v0), (0, v1), (0, v2), (0, v3), (0, v4)] m 200 := by
  obtain ⟨I, ⟨j, hj⟩, hI⟩ := h
  have key : ∀ j v3 v4 m, I j v3 v4 m → am_Bt m → am_Z F 56 [] [(2, v0), (0, v1), (0, v2), (0, v3), (0, v4)] m 200 := by
    intro j
    induction j using Nat.strongRecOn with
    | ind j ih =>
      intro v3 v4 m hj hB
      exact S_X11_hidden_L1B X hp_v0 (fun v3' v4' m' hc hB' => by
        obtain ⟨j', g1, g2⟩ := hc
        exact ih j' g1 v3' v4' m' g2 hB') hB (hI j v3 v4 m hj)
  exact key j _ _ _ hj hB
set_option maxRecDepth 20000 in
set_option maxHeartbeats 4000000 in
theorem S_X11_hidden {F : am_F} {K : am_KK} {v0 : Int} {v1 : Int} {m : am_M} (X : am_Cx F cX11_hidden RX11 (some .int) 7 0 K) (hp_v0 : am_ob v0 11) (hB : am_Bt m) (h : M_X11_hidden v0 v1 K m) : am_Z F 0 [] [(2, v0), (0, v1), (9, 0), (9, 0), (9, 0)] m 200 := by
  have G := X.G
  unfold M_X11_hidden at h
  refine z_iload_n (nx := 1) (a := 1) G rfl dX11_hidden_0 rfl (z_iconst (nx := 2) (z := (-1)) G (R32c rfl) dX11_hidden_1 rfl ?_)
  refine z_icmp_ge (nx := 5) (tgt := 7) G dX11_hidden_2 (by decide) rfl (fun c => ?_) (fun c => ?_)
  · have h := h.1 c
    refine z_aload_n (nx := 8) (a := 0) G rfl (Or.inl rfl) dX11_hidden_7 rfl (b_getA (nx := 11) (k0 := 0) G hB fl_RX11_10 (Nat.le_of_ble_eq_true rfl) (Nat.le_of_ble_eq_true rfl) rfl hp_v0 dX11_hidden_8 rfl ?_)
    refine b_callV0 (nx := 14) (zs := [am_rfv v0 0]) (as := []) X hB (by decide) rfl (sh_11_0 _ hp_v0) SS_X0_farthestAnswer (am_ta am_tn) (Nat.le_of_ble_eq_true rfl) (Nat.le_of_ble_eq_true rfl) ml_RX11_340 iw_X0_farthestAnswer vw_X0_farthestAnswer cw_X0_farthestAnswer nw_RX0 pp_X0_farthestAnswer (Nat.le_of_ble_eq_true rfl) dX11_hidden_11 rfl (NM_X0_farthestAnswer (sh_11_0 _ hp_v0) h) (fun r_6 m_7 h hB => ?_)
    refine z_sipush (nx := 17) (z := 999) G (R32c rfl) rfl dX11_hidden_14 rfl (z_aload_n (nx := 18) (a := 0) G rfl (Or.inl rfl) dX11_hidden_17 rfl (b_getA (nx := 21) (k0 := 0) G hB fl_RX11_10 (Nat.le_of_ble_eq_true rfl) (Nat.le_of_ble_eq_true rfl) rfl hp_v0 dX11_hidden_18 rfl (b_getA (nx := 24) (k0 := 5) G hB fl_RX11_162 (Nat.le_of_ble_eq_true rfl) (Nat.le_of_ble_eq_true rfl) rfl (sh_11_0 _ hp_v0) dX11_hidden_21 rfl (b_getI (nx := 27) (k0 := 1) (t := 0) G fl_RX11_165 (Nat.le_of_ble_eq_true rfl) (Nat.le_of_ble_eq_true rfl) rfl (sh_0_5 _ (sh_11_0 _ hp_v0)) dX11_hidden_24 rfl (z_isub (nx := 28) G dX11_hidden_27 rfl (b_mmin (nx := 31) X ml_RX11_328 (Nat.le_of_ble_eq_true rfl) dX11_hidden_28 rfl ?_))))))
    refine b_store_n (nx := 32) (a := 2) (loc2 := fun v2_8 => [(2, v0), (0, v1), (0, v2_8), (9, 0), (9, 0)]) G (fun _ => rfl) (Nat.le_of_ble_eq_true rfl) (am_pl1 rfl (fun h => nomatch h)) dX11_hidden_31 rfl (fun v2_8 e_v2_8 => ?_)
    have h := h v2_8 e_v2_8
    refine z_aload_n (nx := 33) (a := 0) G rfl (Or.inl rfl) dX11_hidden_32 rfl (b_getA (nx := 36) (k0 := 7) G hB fl_RX11_61 (Nat.le_of_ble_eq_true rfl) (Nat.le_of_ble_eq_true rfl) rfl hp_v0 dX11_hidden_33 rfl (z_aload_n (nx := 37) (a := 0) G rfl (Or.inl rfl) dX11_hidden_36 rfl (b_getA (nx := 40) (k0 := 0) G hB fl_RX11_10 (Nat.le_of_ble_eq_true rfl) (Nat.le_of_ble_eq_true rfl) rfl hp_v0 dX11_hidden_37 rfl (z_aload_n (nx := 41) (a := 0) G rfl (Or.inl rfl) dX11_hidden_40 rfl (b_getA (nx := 44) (k0 := 0) G hB fl_RX11_10 (Nat.le_of_ble_eq_true rfl) (Nat.le_of_ble_eq_true rfl) rfl hp_v0 dX11_hidden_41 rfl (b_getA (nx := 47) (k0 := 5) G hB fl_RX11_162 (Nat.le_of_ble_eq_true rfl) (Nat.le_of_ble_eq_true rfl) rfl (sh_11_0 _ hp_v0) dX11_hidden_44 rfl (z_iload_n (nx := 48) (a := 2) G rfl dX11_hidden_47 rfl ?_)))))))
    refine b_callV9 (nx := 51) (zs := [am_rfv v0 7, am_rfv v0 0, am_rfv (am_rfv v0 0) 5, v2_8]) (as := [(2, am_rfv v0 0), (2, am_rfv (am_rfv v0 0) 5), (0, v2_8)]) X hB (by decide) rfl (sh_11_7 _ hp_v0) SS_X2_foreseeAll (am_ta (am_ta (am_ta (am_ti am_tn)))) (Nat.le_of_ble_eq_true rfl) (Nat.le_of_ble_eq_true rfl) ml_RX11_286 iw_X2_foreseeAll vw_X2_foreseeAll cw_X2_foreseeAll nw_RX2 pp_X2_foreseeAll (Nat.le_of_ble_eq_true rfl) dX11_hidden_48 rfl (NM_X2_foreseeAll (sh_11_7 _ hp_v0) (sh_11_0 _ hp_v0) (sh_0_5 _ (sh_11_0 _ hp_v0)) h) (fun r_9 m_10 h hB => ?_)
    refine z_iconst (nx := 52) (z := 0) G (R32c rfl) dX11_hidden_51 rfl (b_storeE_n (nx := 53) (a := 3) (loc2 := [(2, v0), (0, v1), (0, v2_8), (0, 0), (9, 0)]) G rfl (Nat.le_of_ble_eq_true rfl) (am_pl1 rfl (fun h => nomatch h)) dX11_hidden_52 rfl (z_iconst (nx := 54) (z := 0) G (R32c rfl) dX11_hidden_53 rfl (b_storeE (nx := 56) (a := 4) (loc2 := [(2, v0), (0, v1), (0, v2_8), (0, 0), (0, 0)]) G rfl (Nat.le_of_ble_eq_true rfl) (am_pl1 rfl (fun h => nomatch h)) dX11_hidden_54 rfl ?_)))
    exact b_fewer (loc2 := [(2, v0), (0, v1), (0, v2_8), (0, 0), (0, 0)]) (am_lk (am_lk (am_lk (am_lk (am_lk am_ln))))) (S_X11_hidden_L1 X hp_v0 hB h)
  · have h := h.2 c
    refine z_iconst (nx := 6) (z := (-1)) G (R32c rfl) dX11_hidden_5 rfl ?_
    exact b_ireturn X hB dX11_hidden_6 h
theorem NM_X11_hidden {v0 : Int} {v1 : Int} {K : am_KK} {m : am_M} (hp_v0 : am_ob v0 11) (h : M_X11_hidden v0 v1 K m) : N_X11_hidden [v0, v1] K m := ⟨hp_v0, h⟩
theorem SS_X11_hidden : am_Snd yX11_hidden cX11_hidden 5 (some .int) 0 7 (am_L [2, 0] 0 N_X11_hidden) := by
  refine am_SB (by decide +kernel) (Nat.le_of_ble_eq_true rfl) (fun F zs as K m X ht hB hM => ?_)
  obtain ⟨v0, zs, as, rfl, rfl, hz0, ht⟩ := am_inv ht
  obtain ⟨v1, zs, as, rfl, rfl, hz1, ht⟩ := am_inv ht
  obtain ⟨rfl, rfl⟩ := am_inv0 ht
  obtain ⟨hp_v0, hM⟩ := hM
  exact S_X11_hidden X hp_v0 hB hM
set_option maxRecDepth 20000 in
set_option maxHeartbeats 4000000 in
theorem S_X11_sayWhatIsDrawn {F : am_F} {K : am_KK} {v0 : Int} {m : am_M} (X : am_Cx F cX11_sayWhatIsDrawn RX11 none 6 9 K) (hp_v0 : am_ob v0 11) (hB : am_Bt m) (h : M_X11_sayWhatIsDrawn v0 K m) : am_Z F 0 [] [(2, v0), (9, 0), (9, 0), (9, 0)] m 200 := by
  have G := X.G
  unfold M_X11_sayWhatIsDrawn at h
  refine z_aload_n (nx := 1) (a := 0) G rfl (Or.inl rfl) dX11_sayWhatIsDrawn_0 rfl (b_getA (nx := 4) (k0 := 14) G hB fl_RX11_98 (Nat.le_of_ble_eq_true rfl) (Nat.le_of_ble_eq_true rfl) rfl hp_v0 dX11_sayWhatIsDrawn_1 rfl (z_aload_n (nx := 5) (a := 0) G rfl (Or.inl rfl) dX11_sayWhatIsDrawn_4 rfl (b_getA (nx := 8) (k0 := 0) G hB fl_RX11_10 (Nat.le_of_ble_eq_true rfl) (Nat.le_of_ble_eq_true rfl) rfl hp_v0 dX11_sayWhatIsDrawn_5 rfl (b_getA (nx := 11) (k0 := 2) G hB fl_RX11_156 (Nat.le_of_ble_eq_true rfl) (Nat.le_of_ble_eq_true rfl) rfl (sh_11_0 _ hp_v0) dX11_sayWhatIsDrawn_8 rfl (b_getI (nx := 14) (k0 := 2) (t := 0) G fl_RX11_188 (Nat.le_of_ble_eq_true rfl) (Nat.le_of_ble_eq_true rfl) rfl (sh_0_2 _ (sh_11_0 _ hp_v0)) dX11_sayWhatIsDrawn_11 rfl ?_)))))
  refine b_callV0 (nx := 17) (zs := [am_rfv v0 14, m (am_rfv (am_rfv v0 0) 2) 2]) (as := [(0, m (am_rfv (am_rfv v0 0) 2) 2)]) X hB (by decide) rfl (sh_11_14 _ hp_v0) SS_X8_draw (am_ta (am_ti am_tn)) (Nat.le_of_ble_eq_true rfl) (Nat.le_of_ble_eq_true rfl) ml_RX11_383 iw_X8_draw vw_X8_draw cw_X8_draw nw_RX8 pp_X8_draw (Nat.le_of_ble_eq_true rfl) dX11_sayWhatIsDrawn_14 rfl (NM_X8_draw (sh_11_14 _ hp_v0) h) (fun r_1 m_2 h hB => ?_)
  refine b_storeE_n (nx := 18) (a := 1) (loc2 := [(2, v0), (0, r_1), (9, 0), (9, 0)]) G rfl (Nat.le_of_ble_eq_true rfl) (am_pl1 rfl (fun h => nomatch h)) dX11_sayWhatIsDrawn_17 rfl (z_aload_n (nx := 19) (a := 0) G rfl (Or.inl rfl) dX11_sayWhatIsDrawn_18 rfl (b_getA (nx := 22) (k0 := 14) G hB fl_RX11_98 (Nat.le_of_ble_eq_true rfl) (Nat.le_of_ble_eq_true rfl) rfl hp_v0 dX11_sayWhatIsDrawn_19 rfl (z_bipush (nx := 24) (z := 8) G (R32c rfl) rfl dX11_sayWhatIsDrawn_22 rfl ?_)))
  refine b_callV0 (nx := 27) (zs := [am_rfv v0 14, 8]) (as := [(0, 8)]) X hB (by decide) rfl (sh_11_14 _ hp_v0) SS_X8_draw (am_ta (am_ti am_tn)) (Nat.le_of_ble_eq_true rfl) (Nat.le_of_ble_eq_true rfl) ml_RX11_383 iw_X8_draw vw_X8_draw cw_X8_draw nw_RX8 pp_X8_draw (Nat.le_of_ble_eq_true rfl) dX11_sayWhatIsDrawn_24 rfl (NM_X8_draw (sh_11_14 _ hp_v0) h) (fun r_3 m_4 h hB => ?_)
  refine b_storeE_n (nx := 28) (a := 2) (loc2 := [(2, v0), (0, r_1), (0, r_3), (9, 0)]) G rfl (Nat.le_of_ble_eq_true rfl) (am_pl1 rfl (fun h => nomatch h)) dX11_sayWhatIsDrawn_27 rfl (z_aload_n (nx := 29) (a := 0) G rfl (Or.inl rfl) dX11_sayWhatIsDrawn_28 rfl (b_getA (nx := 32) (k0 := 14) G hB fl_RX11_98 (Nat.le_of_ble_eq_true rfl) (Nat.le_of_ble_eq_true rfl) rfl hp_v0 dX11_sayWhatIsDrawn_29 rfl (z_bipush (nx := 34) (z := 40) G (R32c rfl) rfl dX11_sayWhatIsDrawn_32 rfl ?_)))
  refine b_callV0 (nx := 37) (zs := [am_rfv v0 14, 40]) (as := [(0, 40)]) X hB (by decide) rfl (sh_11_14 _ hp_v0) SS_X8_draw (am_ta (am_ti am_tn)) (Nat.le_of_ble_eq_true rfl) (Nat.le_of_ble_eq_true rfl) ml_RX11_383 iw_X8_draw vw_X8_draw cw_X8_draw nw_RX8 pp_X8_draw (Nat.le_of_ble_eq_true rfl) dX11_sayWhatIsDrawn_34 rfl (NM_X8_draw (sh_11_14 _ hp_v0) h) (fun r_5 m_6 h hB => ?_)
  refine z_iconst (nx := 38) (z := 1) G (R32c rfl) dX11_sayWhatIsDrawn_37 rfl (z_iadd (nx := 39) G dX11_sayWhatIsDrawn_38 rfl ?_)
  refine b_store_n (nx := 40) (a := 3) (loc2 := fun v3_7 => [(2, v0), (0, r_1), (0, r_3), (0, v3_7)]) G (fun _ => rfl) (Nat.le_of_ble_eq_true rfl) (am_pl1 rfl (fun h => nomatch h)) dX11_sayWhatIsDrawn_39 rfl (fun v3_7 e_v3_7 => ?_)
  have h := h v3_7 e_v3_7
  refine z_aload_n (nx := 41) (a := 0) G rfl (Or.inl rfl) dX11_sayWhatIsDrawn_40 rfl (z_aload_n (nx := 42) (a := 0) G rfl (Or.inl rfl) dX11_sayWhatIsDrawn_41 rfl (b_getA (nx := 45) (k0 := 8) G hB fl_RX11_68 (Nat.le_of_ble_eq_true rfl) (Nat.le_of_ble_eq_true rfl) rfl hp_v0 dX11_sayWhatIsDrawn_42 rfl (z_iload_n (nx := 46) (a := 1) G rfl dX11_sayWhatIsDrawn_45 rfl (z_iload_n (nx := 47) (a := 2) G rfl dX11_sayWhatIsDrawn_46 rfl (z_iload_n (nx := 48) (a := 3) G rfl dX11_sayWhatIsDrawn_47 rfl (z_iconst (nx := 49) (z := 1) G (R32c rfl) dX11_sayWhatIsDrawn_48 rfl ?_))))))
  refine b_callV0 (nx := 52) (zs := [v0, am_rfv v0 8, r_1, r_3, v3_7, 1]) (as := [(2, am_rfv v0 8), (0, r_1), (0, r_3), (0, v3_7), (0, 1)]) X hB (by decide) rfl hp_v0 SS_X11_tryPrayer (am_ta (am_ta (am_ti (am_ti (am_ti (am_ti am_tn)))))) (Nat.le_of_ble_eq_true rfl) (Nat.le_of_ble_eq_true rfl) ml_RX11_197 iw_X11_tryPrayer vw_X11_tryPrayer cw_X11_tryPrayer nw_RX11 pp_X11_tryPrayer (Nat.le_of_ble_eq_true rfl) dX11_sayWhatIsDrawn_49 rfl (NM_X11_tryPrayer hp_v0 (sh_11_8 _ hp_v0) h) (fun r_8 m_9 h hB => ?_)
  refine z_if_ne (nx := 55) (tgt := 63) G dX11_sayWhatIsDrawn_52 (by decide) rfl (fun c => ?_) (fun c => ?_)
  · have h := h.1 c
    exact b_return X hB dX11_sayWhatIsDrawn_63 h
  · have h := h.2 c
    refine z_aload_n (nx := 56) (a := 0) G rfl (Or.inl rfl) dX11_sayWhatIsDrawn_55 rfl (b_getA (nx := 59) (k0 := 14) G hB fl_RX11_98 (Nat.le_of_ble_eq_true rfl) (Nat.le_of_ble_eq_true rfl) rfl hp_v0 dX11_sayWhatIsDrawn_56 rfl (z_iload_n (nx := 60) (a := 1) G rfl dX11_sayWhatIsDrawn_59 rfl ?_))
    refine b_callV9 (nx := 63) (zs := [am_rfv v0 14, r_1]) (as := [(0, r_1)]) X hB (by decide) rfl (sh_11_14 _ hp_v0) SS_X8_noteSaid (am_ta (am_ti am_tn)) (Nat.le_of_ble_eq_true rfl) (Nat.le_of_ble_eq_true rfl) ml_RX11_386 iw_X8_noteSaid vw_X8_noteSaid cw_X8_noteSaid nw_RX8 pp_X8_noteSaid (Nat.le_of_ble_eq_true rfl) dX11_sayWhatIsDrawn_60 rfl (NM_X8_noteSaid (sh_11_14 _ hp_v0) h) (fun r_10 m_11 h hB => ?_)
    exact b_return X hB dX11_sayWhatIsDrawn_63 h
theorem NM_X11_sayWhatIsDrawn {v0 : Int} {K : am_KK} {m : am_M} (hp_v0 : am_ob v0 11) (h : M_X11_sayWhatIsDrawn v0 K m) : N_X11_sayWhatIsDrawn [v0] K m := ⟨hp_v0, h⟩
theorem SS_X11_sayWhatIsDrawn : am_Snd yX11_sayWhatIsDrawn cX11_sayWhatIsDrawn 4 none 0 6 (am_L [2] 9 N_X11_sayWhatIsDrawn) := by
  refine am_SB (by decide +kernel) (Nat.le_of_ble_eq_true rfl) (fun F zs as K m X ht hB hM => ?_)
  obtain ⟨v0, zs, as, rfl, rfl, hz0, ht⟩ := am_inv ht
  obtain ⟨rfl, rfl⟩ := am_inv0 ht
  obtain ⟨hp_v0, hM⟩ := hM
  exact S_X11_sayWhatIsDrawn X hp_v0 hB hM
set_option maxRecDepth 20000 in
set_option maxHeartbeats 4000000 in
theorem S_X11_season_J2 {F : am_F} {K : am_KK} {v0 : Int} {v3 : Int} {m : am_M} (X : am_Cx F cX11_season RX11 (some .int) 7 0 K) (hp_v0 : am_ob v0 11) (hB : am_Bt m) (h : M_X11_season_J2 v0 v3 K m) : am_Z F 151 [] [(2, v0), (9, 0), (9, 0), (0, v3), (9, 0)] m 200 := by
  have G := X.G
  unfold M_X11_season_J2 at h
  refine z_aload_n (nx := 152) (a := 0) G rfl (Or.inl rfl) dX11_season_151 rfl (b_getA (nx := 155) (k0 := 14) G hB fl_RX11_98 (Nat.le_of_ble_eq_true rfl) (Nat.le_of_ble_eq_true rfl) rfl hp_v0 dX11_season_152 rfl (z_aload_n (nx := 156) (a := 0) G rfl (Or.inl rfl) dX11_season_155 rfl (b_getA (nx := 159) (k0 := 8) G hB fl_RX11_68 (Nat.le_of_ble_eq_true rfl) (Nat.le_of_ble_eq_true rfl) rfl hp_v0 dX11_season_156 rfl ?_)))
  refine b_callV9 (nx := 162) (zs := [am_rfv v0 14, am_rfv v0 8]) (as := [(2, am_rfv v0 8)]) X hB (by decide) rfl (sh_11_14 _ hp_v0) SS_X8_noteStanding (am_ta (am_ta am_tn)) (Nat.le_of_ble_eq_true rfl) (Nat.le_of_ble_eq_true rfl) ml_RX11_353 iw_X8_noteStanding vw_X8_noteStanding cw_X8_noteStanding nw_RX8 pp_X8_noteStanding (Nat.le_of_ble_eq_true rfl) dX11_season_159 rfl (NM_X8_noteStanding (sh_11_14 _ hp_v0) (sh_11_8 _ hp_v0) h) (fun r_1 m_2 h hB => ?_)
  refine z_aload_n (nx := 163) (a := 0) G rfl (Or.inl rfl) dX11_season_162 rfl (z_iload_n (nx := 164) (a := 3) G rfl dX11_season_163 rfl ?_)
  refine b_callV0 (nx := 167) (zs := [v0, v3]) (as := [(0, v3)]) X hB (by decide) rfl hp_v0 SS_X11_fine (am_ta (am_ti am_tn)) (Nat.le_of_ble_eq_true rfl) (Nat.le_of_ble_eq_true rfl) ml_RX11_132 iw_X11_fine vw_X11_fine cw_X11_fine nw_RX11 pp_X11_fine (Nat.le_of_ble_eq_true rfl) dX11_season_164 rfl (NM_X11_fine hp_v0 h) (fun r_3 m_4 h hB => ?_)
  exact b_ireturn X hB dX11_season_167 h
set_option maxRecDepth 20000 in
set_option maxHeartbeats 4000000 in
theorem S_X11_season_L1B {F : am_F} {K : am_KK} {v0 : Int} {v2 : Int} {v3 : Int} {v4 : Int} {C84 : Int → Int → am_M → Prop} {m : am_M} (X : am_Cx F cX11_season RX11 (some .int) 7 0 K) (hp_v0 : am_ob v0 11) (hC84 : ∀ w3 w4 m, C84 w3 w4 m → am_Bt m → am_Z F 84 [] [(2, v0), (9, 0), (0, v2), (0, w3), (0, w4)] m 200) (hB : am_Bt m) (h : M_X11_season_L1B v0 v2 v3 v4 C84 K m) : am_Z F 84 [] [(2, v0), (9, 0), (0, v2), (0, v3), (0, v4)] m 200 := by
  have G := X.G
  unfold M_X11_season_L1B at h
  refine z_iload (nx := 86) (a := 4) G rfl dX11_season_84 rfl (z_iload_n (nx := 87) (a := 2) G rfl dX11_season_86 rfl ?_)
  refine z_icmp_ge (nx := 90) (tgt := 151) G dX11_season_87 (by decide) rfl (fun c => ?_) (fun c => ?_)
  · have h := h.1 c
    exact b_fewer (loc2 := [(2, v0), (9, 0), (9, 0), (0, v3), (9, 0)]) (am_lk (am_lk (am_lf (am_lk (am_lf am_ln))))) (S_X11_season_J2 X hp_v0 hB h)
  · have h := h.2 c
    refine z_aload_n (nx := 91) (a := 0) G rfl (Or.inl rfl) dX11_season_90 rfl ?_
    refine b_callV9 (nx := 94) (zs := [v0]) (as := []) X hB (by decide) rfl hp_v0 SS_X11_sayWhatIsDrawn (am_ta am_tn) (Nat.le_of_ble_eq_true rfl) (Nat.le_of_ble_eq_true rfl) ml_RX11_350 iw_X11_sayWhatIsDrawn vw_X11_sayWhatIsDrawn cw_X11_sayWhatIsDrawn nw_RX11 pp_X11_sayWhatIsDrawn (Nat.le_of_ble_eq_true rfl) dX11_season_91 rfl (NM_X11_sayWhatIsDrawn hp_v0 h) (fun r_5 m_6 h hB => ?_)
    refine z_aload_n (nx := 95) (a := 0) G rfl (Or.inl rfl) dX11_season_94 rfl (b_getA (nx := 98) (k0 := 8) G hB fl_RX11_68 (Nat.le_of_ble_eq_true rfl) (Nat.le_of_ble_eq_true rfl) rfl hp_v0 dX11_season_95 rfl (b_getI (nx := 101) (k0 := 1) (t := 0) G fl_RX11_165 (Nat.le_of_ble_eq_true rfl) (Nat.le_of_ble_eq_true rfl) rfl (sh_11_8 _ hp_v0) dX11_season_98 rfl (z_sipush (nx := 104) (z := 999) G (R32c rfl) rfl dX11_season_101 rfl ?_)))
    refine z_icmp_lt (nx := 107) (tgt := 110) G dX11_season_104 (by decide) rfl (fun c => ?_) (fun c => ?_)
    · have h := h.1 c
      refine z_aload_n (nx := 111) (a := 0) G rfl (Or.inl rfl) dX11_season_110 rfl (b_getA (nx := 114) (k0 := 7) G hB fl_RX11_61 (Nat.le_of_ble_eq_true rfl) (Nat.le_of_ble_eq_true rfl) rfl hp_v0 dX11_season_111 rfl (z_aload_n (nx := 115) (a := 0) G rfl (Or.inl rfl) dX11_season_114 rfl (b_getA (nx := 118) (k0 := 0) G hB fl_RX11_10 (Nat.le_of_ble_eq_true rfl) (Nat.le_of_ble_eq_true rfl) rfl hp_v0 dX11_season_115 rfl (z_aload_n (nx := 119) (a := 0) G rfl (Or.inl rfl) dX11_season_118 rfl (b_getA (nx := 122) (k0 := 8) G hB fl_RX11_68 (Nat.le_of_ble_eq_true rfl) (Nat.le_of_ble_eq_true rfl) rfl hp_v0 dX11_season_119 rfl (z_iconst (nx := 123) (z := 1) G (R32c rfl) dX11_season_122 rfl ?_))))))
      refine b_callV9 (nx := 126) (zs := [am_rfv v0 7, am_rfv v0 0, am_rfv v0 8, 1]) (as := [(2, am_rfv v0 0), (2, am_rfv v0 8), (0, 1)]) X hB (by decide) rfl (sh_11_7 _ hp_v0) SS_X2_foreseeAll (am_ta (am_ta (am_ta (am_ti am_tn)))) (Nat.le_of_ble_eq_true rfl) (Nat.le_of_ble_eq_true rfl) ml_RX11_286 iw_X2_foreseeAll vw_X2_foreseeAll cw_X2_foreseeAll nw_RX2 pp_X2_foreseeAll (Nat.le_of_ble_eq_true rfl) dX11_season_123 rfl (NM_X2_foreseeAll (sh_11_7 _ hp_v0) (sh_11_0 _ hp_v0) (sh_11_8 _ hp_v0) h) (fun r_7 m_8 h hB => ?_)
      refine z_iload_n (nx := 127) (a := 3) G rfl dX11_season_126 rfl (z_aload_n (nx := 128) (a := 0) G rfl (Or.inl rfl) dX11_season_127 rfl (b_getA (nx := 131) (k0 := 7) G hB fl_RX11_61 (Nat.le_of_ble_eq_true rfl) (Nat.le_of_ble_eq_true rfl) rfl hp_v0 dX11_season_128 rfl (z_aload_n (nx := 132) (a := 0) G rfl (Or.inl rfl) dX11_season_131 rfl (b_getA (nx := 135) (k0 := 0) G hB fl_RX11_10 (Nat.le_of_ble_eq_true rfl) (Nat.le_of_ble_eq_true rfl) rfl hp_v0 dX11_season_132 rfl (z_aload_n (nx := 136) (a := 0) G rfl (Or.inl rfl) dX11_season_135 rfl (b_getA (nx := 139) (k0 := 8) G hB fl_RX11_68 (Nat.le_of_ble_eq_true rfl) (Nat.le_of_ble_eq_true rfl) rfl hp_v0 dX11_season_136 rfl (z_iconst (nx := 140) (z := 1) G (R32c rfl) dX11_season_139 rfl ?_)))))))
      refine b_callV0 (nx := 143) (zs := [am_rfv v0 7, am_rfv v0 0, am_rfv v0 8, 1]) (as := [(2, am_rfv v0 0), (2, am_rfv v0 8), (0, 1)]) X hB (by decide) rfl (sh_11_7 _ hp_v0) SS_X2_hear (am_ta (am_ta (am_ta (am_ti am_tn)))) (Nat.le_of_ble_eq_true rfl) (Nat.le_of_ble_eq_true rfl) ml_RX11_316 iw_X2_hear vw_X2_hear cw_X2_hear nw_RX2 pp_X2_hear (Nat.le_of_ble_eq_true rfl) dX11_season_140 rfl (NM_X2_hear (sh_11_7 _ hp_v0) (sh_11_0 _ hp_v0) (sh_11_8 _ hp_v0) h) (fun r_9 m_10 h hB => ?_)
      refine z_iadd (nx := 144) G dX11_season_143 rfl ?_
      refine b_store_n (nx := 145) (a := 3) (loc2 := fun v3_11 => [(2, v0), (9, 0), (0, v2), (0, v3_11), (0, v4)]) G (fun _ => rfl) (Nat.le_of_ble_eq_true rfl) (am_pl1 rfl (fun h => nomatch h)) dX11_season_144 rfl (fun v3_11 e_v3_11 => ?_)
      have h := h v3_11 e_v3_11
      refine b_iinc (nx := 148) (a := 4) (loc2 := fun v4_12 => [(2, v0), (9, 0), (0, v2), (0, v3_11), (0, v4_12)]) G (fun _ => rfl) rfl (am_pl1 rfl (fun h => nomatch h)) dX11_season_145 rfl (fun v4_12 e_v4_12 => ?_)
      have h := h v4_12 e_v4_12
      refine z_goto (tgt := 84) G dX11_season_148 (by decide) ?_
      exact b_fewer (loc2 := [(2, v0), (9, 0), (0, v2), (0, v3_11), (0, v4_12)]) (am_lk (am_lk (am_lk (am_lk (am_lk am_ln))))) (hC84 _ _ _ h hB)
    · have h := h.2 c
      refine z_goto (tgt := 151) G dX11_season_107 (by decide) ?_
      exact b_fewer (loc2 := [(2, v0), (9, 0), (9, 0), (0, v3), (9, 0)]) (am_lk (am_lk (am_lf (am_lk (am_lf am_ln))))) (S_X11_season_J2 X hp_v0 hB h)
theorem S_X11_season_L1 {F : am_F} {K : am_KK} {v0 : Int} {v2 : Int} {v3 : Int} {v4 : Int} {m : am_M} (X : am_Cx F cX11_season RX11 (some .int) 7 0 K) (hp_v0 : am_ob v0 11) (hB : am_Bt m) (h : M_X11_season_L1 v0 v2 v3 v4 K m) : am_Z F 84 [] [(2, v0), (9, 0), (0, v2), (0, v3), (0, v4)] m 200 := by
  obtain ⟨I, ⟨j, hj⟩, hI⟩ := h
  have key : ∀ j v3 v4 m, I j v3 v4 m → am_Bt m → am_Z F 84 [] [(2, v0), (9, 0), (0, v2), (0, v3), (0, v4)] m 200 := by
    intro j
    induction j using Nat.strongRecOn with
    | ind j ih =>
      intro v3 v4 m hj hB
      exact S_X11_season_L1B X hp_v0 (fun v3' v4' m' hc hB' => by
        obtain ⟨j', g1, g2⟩ := hc
        exact ih j' g1 v3' v4' m' g2 hB') hB (hI j v3 v4 m hj)
  exact key j _ _ _ hj hB
set_option maxRecDepth 20000 in
set_option maxHeartbeats 4000000 in
theorem S_X11_season_J1 {F : am_F} {K : am_KK} {v0 : Int} {m : am_M} (X : am_Cx F cX11_season RX11 (some .int) 7 0 K) (hp_v0 : am_ob v0 11) (hB : am_Bt m) (h : M_X11_season_J1 v0 K m) : am_Z F 21 [] [(2, v0), (9, 0), (9, 0), (9, 0), (9, 0)] m 200 := by
  have G := X.G
  unfold M_X11_season_J1 at h
  refine z_aload_n (nx := 22) (a := 0) G rfl (Or.inl rfl) dX11_season_21 rfl (z_iconst (nx := 23) (z := (-1)) G (R32c rfl) dX11_season_22 rfl ?_)
  refine b_callV0 (nx := 26) (zs := [v0, (-1)]) (as := [(0, (-1))]) X hB (by decide) rfl hp_v0 SS_X11_refuse (am_ta (am_ti am_tn)) (Nat.le_of_ble_eq_true rfl) (Nat.le_of_ble_eq_true rfl) ml_RX11_117 iw_X11_refuse vw_X11_refuse cw_X11_refuse nw_RX11 pp_X11_refuse (Nat.le_of_ble_eq_true rfl) dX11_season_23 rfl (NM_X11_refuse hp_v0 h) (fun r_13 m_14 h hB => ?_)
  exact b_ireturn X hB dX11_season_26 h
set_option maxRecDepth 20000 in
set_option maxHeartbeats 4000000 in
theorem S_X11_season {F : am_F} {K : am_KK} {v0 : Int} {v1 : Int} {v2 : Int} {m : am_M} (X : am_Cx F cX11_season RX11 (some .int) 7 0 K) (hp_v0 : am_ob v0 11) (hB : am_Bt m) (h : M_X11_season v0 v1 v2 K m) : am_Z F 0 [] [(2, v0), (0, v1), (0, v2), (9, 0), (9, 0)] m 200 := by
  have G := X.G
  unfold M_X11_season at h
  refine z_iload_n (nx := 1) (a := 1) G rfl dX11_season_0 rfl (z_iconst (nx := 2) (z := 0) G (R32c rfl) dX11_season_1 rfl (z_ldcw (nx := 5) (z := 1000000) G (R32c rfl) rfl kw_RX11_346 dX11_season_2 rfl ?_))
  refine b_callS5 (nx := 8) (zs := [v1, 0, 1000000]) (as := [(0, v1), (0, 0), (0, 1000000)]) X hB SS_X11_within (am_ti (am_ti (am_ti am_tn))) (Nat.le_of_ble_eq_true rfl) (Nat.le_of_ble_eq_true rfl) ml_RX11_113 sw_X11_within (am_plainC 11 (by decide)) cw_X11_within nw_RX11 pp_X11_within (Nat.le_of_ble_eq_true rfl) dX11_season_5 rfl (NM_X11_within h) (fun r_15 m_16 h h01_17 hB => ?_)
  refine z_if_eq (nx := 11) (tgt := 21) G dX11_season_8 (by decide) rfl (fun c => ?_) (fun c => ?_)
  · have h := h.1 c
    exact b_fewer (loc2 := [(2, v0), (9, 0), (9, 0), (9, 0), (9, 0)]) (am_lk (am_lf (am_lf (am_lk (am_lk am_ln))))) (S_X11_season_J1 X hp_v0 hB h)
  · have h := h.2 c
    refine z_iload_n (nx := 12) (a := 2) G rfl dX11_season_11 rfl (z_iconst (nx := 13) (z := 1) G (R32c rfl) dX11_season_12 rfl (z_bipush (nx := 15) (z := 60) G (R32c rfl) rfl dX11_season_13 rfl ?_))
    refine b_callS5 (nx := 18) (zs := [v2, 1, 60]) (as := [(0, v2), (0, 1), (0, 60)]) X hB SS_X11_within (am_ti (am_ti (am_ti am_tn))) (Nat.le_of_ble_eq_true rfl) (Nat.le_of_ble_eq_true rfl) ml_RX11_113 sw_X11_within (am_plainC 11 (by decide)) cw_X11_within nw_RX11 pp_X11_within (Nat.le_of_ble_eq_true rfl) dX11_season_15 rfl (NM_X11_within h) (fun r_18 m_19 h h01_20 hB => ?_)
    refine z_if_ne (nx := 21) (tgt := 27) G dX11_season_18 (by decide) rfl (fun c => ?_) (fun c => ?_)
    · have h := h.1 c
      refine z_aload_n (nx := 28) (a := 0) G rfl (Or.inl rfl) dX11_season_27 rfl (b_getA (nx := 31) (k0 := 0) G hB fl_RX11_10 (Nat.le_of_ble_eq_true rfl) (Nat.le_of_ble_eq_true rfl) rfl hp_v0 dX11_season_28 rfl (b_getA (nx := 34) (k0 := 2) G hB fl_RX11_156 (Nat.le_of_ble_eq_true rfl) (Nat.le_of_ble_eq_true rfl) rfl (sh_11_0 _ hp_v0) dX11_season_31 rfl (b_getI (nx := 37) (k0 := 2) (t := 0) G fl_RX11_188 (Nat.le_of_ble_eq_true rfl) (Nat.le_of_ble_eq_true rfl) rfl (sh_0_2 _ (sh_11_0 _ hp_v0)) dX11_season_34 rfl ?_)))
      refine z_if_ne (nx := 40) (tgt := 47) G dX11_season_37 (by decide) rfl (fun c => ?_) (fun c => ?_)
      · have h := h.1 c
        refine z_aload_n (nx := 48) (a := 0) G rfl (Or.inl rfl) dX11_season_47 rfl (b_getA (nx := 51) (k0 := 14) G hB fl_RX11_98 (Nat.le_of_ble_eq_true rfl) (Nat.le_of_ble_eq_true rfl) rfl hp_v0 dX11_season_48 rfl (z_iload_n (nx := 52) (a := 1) G rfl dX11_season_51 rfl (z_aload_n (nx := 53) (a := 0) G rfl (Or.inl rfl) dX11_season_52 rfl (b_getA (nx := 56) (k0 := 0) G hB fl_RX11_10 (Nat.le_of_ble_eq_true rfl) (Nat.le_of_ble_eq_true rfl) rfl hp_v0 dX11_season_53 rfl (b_getA (nx := 59) (k0 := 2) G hB fl_RX11_156 (Nat.le_of_ble_eq_true rfl) (Nat.le_of_ble_eq_true rfl) rfl (sh_11_0 _ hp_v0) dX11_season_56 rfl (b_getI (nx := 62) (k0 := 2) (t := 0) G fl_RX11_188 (Nat.le_of_ble_eq_true rfl) (Nat.le_of_ble_eq_true rfl) rfl (sh_0_2 _ (sh_11_0 _ hp_v0)) dX11_season_59 rfl ?_))))))
        refine b_callV9 (nx := 65) (zs := [am_rfv v0 14, v1, m_19 (am_rfv (am_rfv v0 0) 2) 2]) (as := [(0, v1), (0, m_19 (am_rfv (am_rfv v0 0) 2) 2)]) X hB (by decide) rfl (sh_11_14 _ hp_v0) SS_X8_begin (am_ta (am_ti (am_ti am_tn))) (Nat.le_of_ble_eq_true rfl) (Nat.le_of_ble_eq_true rfl) ml_RX11_347 iw_X8_begin vw_X8_begin cw_X8_begin nw_RX8 pp_X8_begin (Nat.le_of_ble_eq_true rfl) dX11_season_62 rfl (NM_X8_begin (sh_11_14 _ hp_v0) h) (fun r_21 m_22 h hB => ?_)
        refine z_aload_n (nx := 66) (a := 0) G rfl (Or.inl rfl) dX11_season_65 rfl (b_getA (nx := 69) (k0 := 8) G hB fl_RX11_68 (Nat.le_of_ble_eq_true rfl) (Nat.le_of_ble_eq_true rfl) rfl hp_v0 dX11_season_66 rfl (z_aload_n (nx := 70) (a := 0) G rfl (Or.inl rfl) dX11_season_69 rfl (b_getA (nx := 73) (k0 := 0) G hB fl_RX11_10 (Nat.le_of_ble_eq_true rfl) (Nat.le_of_ble_eq_true rfl) rfl hp_v0 dX11_season_70 rfl (b_getA (nx := 76) (k0 := 5) G hB fl_RX11_162 (Nat.le_of_ble_eq_true rfl) (Nat.le_of_ble_eq_true rfl) rfl (sh_11_0 _ hp_v0) dX11_season_73 rfl ?_))))
        refine b_callV9 (nx := 79) (zs := [am_rfv v0 8, am_rfv (am_rfv v0 0) 5]) (as := [(2, am_rfv (am_rfv v0 0) 5)]) X hB (by decide) rfl (sh_11_8 _ hp_v0) SS_X9_takeFrom (am_ta (am_ta am_tn)) (Nat.le_of_ble_eq_true rfl) (Nat.le_of_ble_eq_true rfl) ml_RX11_216 iw_X9_takeFrom vw_X9_takeFrom cw_X9_takeFrom nw_RX9 pp_X9_takeFrom (Nat.le_of_ble_eq_true rfl) dX11_season_76 rfl (NM_X9_takeFrom (sh_11_8 _ hp_v0) (sh_0_5 _ (sh_11_0 _ hp_v0)) h) (fun r_23 m_24 h hB => ?_)
        refine z_iconst (nx := 80) (z := 0) G (R32c rfl) dX11_season_79 rfl (b_storeE_n (nx := 81) (a := 3) (loc2 := [(2, v0), (0, v1), (0, v2), (0, 0), (9, 0)]) G rfl (Nat.le_of_ble_eq_true rfl) (am_pl1 rfl (fun h => nomatch h)) dX11_season_80 rfl (z_iconst (nx := 82) (z := 0) G (R32c rfl) dX11_season_81 rfl (b_storeE (nx := 84) (a := 4) (loc2 := [(2, v0), (0, v1), (0, v2), (0, 0), (0, 0)]) G rfl (Nat.le_of_ble_eq_true rfl) (am_pl1 rfl (fun h => nomatch h)) dX11_season_82 rfl ?_)))
        exact b_fewer (loc2 := [(2, v0), (9, 0), (0, v2), (0, 0), (0, 0)]) (am_lk (am_lf (am_lk (am_lk (am_lk am_ln))))) (S_X11_season_L1 X hp_v0 hB h)
      · have h := h.2 c
        refine z_aload_n (nx := 41) (a := 0) G rfl (Or.inl rfl) dX11_season_40 rfl (z_bipush (nx := 43) (z := (-3)) G (R32c rfl) rfl dX11_season_41 rfl ?_)
        refine b_callV0 (nx := 46) (zs := [v0, (-3)]) (as := [(0, (-3))]) X hB (by decide) rfl hp_v0 SS_X11_refuse (am_ta (am_ti am_tn)) (Nat.le_of_ble_eq_true rfl) (Nat.le_of_ble_eq_true rfl) ml_RX11_117 iw_X11_refuse vw_X11_refuse cw_X11_refuse nw_RX11 pp_X11_refuse (Nat.le_of_ble_eq_true rfl) dX11_season_43 rfl (NM_X11_refuse hp_v0 h) (fun r_25 m_26 h hB => ?_)
        exact b_ireturn X hB dX11_season_46 h
    · have h := h.2 c
      exact b_fewer (loc2 := [(2, v0), (9, 0), (9, 0), (9, 0), (9, 0)]) (am_lk (am_lf (am_lf (am_lk (am_lk am_ln))))) (S_X11_season_J1 X hp_v0 hB h)
theorem NM_X11_season {v0 : Int} {v1 : Int} {v2 : Int} {K : am_KK} {m : am_M} (hp_v0 : am_ob v0 11) (h : M_X11_season v0 v1 v2 K m) : N_X11_season [v0, v1, v2] K m := ⟨hp_v0, h⟩
theorem SS_X11_season : am_Snd yX11_season cX11_season 5 (some .int) 0 7 (am_L [2, 0, 0] 0 N_X11_season) := by
  refine am_SB (by decide +kernel) (Nat.le_of_ble_eq_true rfl) (fun F zs as K m X ht hB hM => ?_)
  obtain ⟨v0, zs, as, rfl, rfl, hz0, ht⟩ := am_inv ht
  obtain ⟨v1, zs, as, rfl, rfl, hz1, ht⟩ := am_inv ht
  obtain ⟨v2, zs, as, rfl, rfl, hz2, ht⟩ := am_inv ht
  obtain ⟨rfl, rfl⟩ := am_inv0 ht
  obtain ⟨hp_v0, hM⟩ := hM
  exact S_X11_season X hp_v0 hB hM
set_option maxRecDepth 20000 in
set_option maxHeartbeats 4000000 in
theorem S_X11_drawn {F : am_F} {K : am_KK} {v0 : Int} {v1 : Int} {v2 : Int} {m : am_M} (X : am_Cx F cX11_drawn RX11 (some .int) 3 0 K) (hp_v0 : am_ob v0 11) (hB : am_Bt m) (h : M_X11_drawn v0 v1 v2 K m) : am_Z F 0 [] [(2, v0), (0, v1), (0, v2)] m 200 := by
  have G := X.G
  unfold M_X11_drawn at h
  refine z_aload_n (nx := 1) (a := 0) G rfl (Or.inl rfl) dX11_drawn_0 rfl (b_getA (nx := 4) (k0 := 14) G hB fl_RX11_98 (Nat.le_of_ble_eq_true rfl) (Nat.le_of_ble_eq_true rfl) rfl hp_v0 dX11_drawn_1 rfl (z_iload_n (nx := 5) (a := 1) G rfl dX11_drawn_4 rfl (z_iload_n (nx := 6) (a := 2) G rfl dX11_drawn_5 rfl ?_)))
  refine b_callV0 (nx := 9) (zs := [am_rfv v0 14, v1, v2]) (as := [(0, v1), (0, v2)]) X hB (by decide) rfl (sh_11_14 _ hp_v0) SS_X8_tally (am_ta (am_ti (am_ti am_tn))) (Nat.le_of_ble_eq_true rfl) (Nat.le_of_ble_eq_true rfl) ml_RX11_356 iw_X8_tally vw_X8_tally cw_X8_tally nw_RX8 pp_X8_tally (Nat.le_of_ble_eq_true rfl) dX11_drawn_6 rfl (NM_X8_tally (sh_11_14 _ hp_v0) h) (fun r_1 m_2 h hB => ?_)
  exact b_ireturn X hB dX11_drawn_9 h
theorem NM_X11_drawn {v0 : Int} {v1 : Int} {v2 : Int} {K : am_KK} {m : am_M} (hp_v0 : am_ob v0 11) (h : M_X11_drawn v0 v1 v2 K m) : N_X11_drawn [v0, v1, v2] K m := ⟨hp_v0, h⟩
theorem SS_X11_drawn : am_Snd yX11_drawn cX11_drawn 3 (some .int) 0 3 (am_L [2, 0, 0] 0 N_X11_drawn) := by
  refine am_SB (by decide +kernel) (Nat.le_of_ble_eq_true rfl) (fun F zs as K m X ht hB hM => ?_)
  obtain ⟨v0, zs, as, rfl, rfl, hz0, ht⟩ := am_inv ht
  obtain ⟨v1, zs, as, rfl, rfl, hz1, ht⟩ := am_inv ht
  obtain ⟨v2, zs, as, rfl, rfl, hz2, ht⟩ := am_inv ht
  obtain ⟨rfl, rfl⟩ := am_inv0 ht
  obtain ⟨hp_v0, hM⟩ := hM
  exact S_X11_drawn X hp_v0 hB hM
set_option maxRecDepth 20000 in
set_option maxHeartbeats 4000000 in
theorem S_X11_image {F : am_F} {K : am_KK} {v0 : Int} {v1 : Int} {m : am_M} (X : am_Cx F cX11_image RX11 (some .int) 4 0 K) (hp_v0 : am_ob v0 11) (hB : am_Bt m) (h : M_X11_image v0 v1 K m) : am_Z F 0 [] [(2, v0), (0, v1)] m 200 := by
  have G := X.G
  unfold M_X11_image at h
  refine z_iload_n (nx := 1) (a := 1) G rfl dX11_image_0 rfl (z_iconst (nx := 2) (z := 0) G (R32c rfl) dX11_image_1 rfl (z_aload_n (nx := 3) (a := 0) G rfl (Or.inl rfl) dX11_image_2 rfl (b_getA (nx := 6) (k0 := 1) G hB fl_RX11_16 (Nat.le_of_ble_eq_true rfl) (Nat.le_of_ble_eq_true rfl) rfl hp_v0 dX11_image_3 rfl (b_alen (nx := 7) G (by decide) (by decide) (sh_11_1 _ hp_v0) dX11_image_6 rfl (z_iconst (nx := 8) (z := 1) G (R32c rfl) dX11_image_7 rfl (z_isub (nx := 9) G dX11_image_8 rfl ?_))))))
  refine b_callS5 (nx := 12) (zs := [v1, 0, w32 ((am_len (am_rfv v0 1)) - 1)]) (as := [(0, v1), (0, 0), (0, w32 ((am_len (am_rfv v0 1)) - 1))]) X hB SS_X11_within (am_ti (am_ti (am_ti am_tn))) (Nat.le_of_ble_eq_true rfl) (Nat.le_of_ble_eq_true rfl) ml_RX11_113 sw_X11_within (am_plainC 11 (by decide)) cw_X11_within nw_RX11 pp_X11_within (Nat.le_of_ble_eq_true rfl) dX11_image_9 rfl (NM_X11_within h) (fun r_1 m_2 h h01_3 hB => ?_)
  refine z_if_ne (nx := 15) (tgt := 21) G dX11_image_12 (by decide) rfl (fun c => ?_) (fun c => ?_)
  · have h := h.1 c
    refine z_aload_n (nx := 22) (a := 0) G rfl (Or.inl rfl) dX11_image_21 rfl (b_getA (nx := 25) (k0 := 1) G hB fl_RX11_16 (Nat.le_of_ble_eq_true rfl) (Nat.le_of_ble_eq_true rfl) rfl hp_v0 dX11_image_22 rfl (z_iload_n (nx := 26) (a := 1) G rfl dX11_image_25 rfl ?_))
    obtain ⟨hb_4, h⟩ := h
    refine b_aald (nx := 27) G hB (Or.inl rfl) (sh_11_1 _ hp_v0) hb_4.1 hb_4.2 dX11_image_26 rfl ?_
    refine z_aload_n (nx := 28) (a := 0) G rfl (Or.inl rfl) dX11_image_27 rfl (b_getA (nx := 31) (k0 := 0) G hB fl_RX11_10 (Nat.le_of_ble_eq_true rfl) (Nat.le_of_ble_eq_true rfl) rfl hp_v0 dX11_image_28 rfl ?_)
    refine b_callV9 (nx := 34) (zs := [am_rfv (am_rfv v0 1) v1, am_rfv v0 0]) (as := [(2, am_rfv v0 0)]) X hB (by decide) rfl (sh_el24 _ _ (sh_11_1 _ hp_v0) hb_4.1 hb_4.2) SS_X0_takeFrom (am_ta (am_ta am_tn)) (Nat.le_of_ble_eq_true rfl) (Nat.le_of_ble_eq_true rfl) ml_RX11_359 iw_X0_takeFrom vw_X0_takeFrom cw_X0_takeFrom nw_RX0 pp_X0_takeFrom (Nat.le_of_ble_eq_true rfl) dX11_image_31 rfl (NM_X0_takeFrom (sh_el24 _ _ (sh_11_1 _ hp_v0) hb_4.1 hb_4.2) (sh_11_0 _ hp_v0) h) (fun r_5 m_6 h hB => ?_)
    refine z_aload_n (nx := 35) (a := 0) G rfl (Or.inl rfl) dX11_image_34 rfl (b_getA (nx := 38) (k0 := 2) G hB fl_RX11_20 (Nat.le_of_ble_eq_true rfl) (Nat.le_of_ble_eq_true rfl) rfl hp_v0 dX11_image_35 rfl (z_iload_n (nx := 39) (a := 1) G rfl dX11_image_38 rfl (z_iconst (nx := 40) (z := 1) G (R32c rfl) dX11_image_39 rfl ?_)))
    obtain ⟨hb, h⟩ := h
    refine b_zast (nx := 41) G hB (Or.inr rfl) (sh_11_2 _ hp_v0) hb.1 hb.2 dX11_image_40 rfl (fun m_7 e_m_7 hB => ?_)
    have h := h m_7 e_m_7
    refine z_aload_n (nx := 42) (a := 0) G rfl (Or.inl rfl) dX11_image_41 rfl (z_iconst (nx := 43) (z := 0) G (R32c rfl) dX11_image_42 rfl ?_)
    refine b_callV0 (nx := 46) (zs := [v0, 0]) (as := [(0, 0)]) X hB (by decide) rfl hp_v0 SS_X11_fine (am_ta (am_ti am_tn)) (Nat.le_of_ble_eq_true rfl) (Nat.le_of_ble_eq_true rfl) ml_RX11_132 iw_X11_fine vw_X11_fine cw_X11_fine nw_RX11 pp_X11_fine (Nat.le_of_ble_eq_true rfl) dX11_image_43 rfl (NM_X11_fine hp_v0 h) (fun r_8 m_9 h hB => ?_)
    exact b_ireturn X hB dX11_image_46 h
  · have h := h.2 c
    refine z_aload_n (nx := 16) (a := 0) G rfl (Or.inl rfl) dX11_image_15 rfl (z_iconst (nx := 17) (z := (-1)) G (R32c rfl) dX11_image_16 rfl ?_)
    refine b_callV0 (nx := 20) (zs := [v0, (-1)]) (as := [(0, (-1))]) X hB (by decide) rfl hp_v0 SS_X11_refuse (am_ta (am_ti am_tn)) (Nat.le_of_ble_eq_true rfl) (Nat.le_of_ble_eq_true rfl) ml_RX11_117 iw_X11_refuse vw_X11_refuse cw_X11_refuse nw_RX11 pp_X11_refuse (Nat.le_of_ble_eq_true rfl) dX11_image_17 rfl (NM_X11_refuse hp_v0 h) (fun r_10 m_11 h hB => ?_)
    exact b_ireturn X hB dX11_image_20 h
theorem NM_X11_image {v0 : Int} {v1 : Int} {K : am_KK} {m : am_M} (hp_v0 : am_ob v0 11) (h : M_X11_image v0 v1 K m) : N_X11_image [v0, v1] K m := ⟨hp_v0, h⟩
theorem SS_X11_image : am_Snd yX11_image cX11_image 2 (some .int) 0 4 (am_L [2, 0] 0 N_X11_image) := by
  refine am_SB (by decide +kernel) (Nat.le_of_ble_eq_true rfl) (fun F zs as K m X ht hB hM => ?_)
  obtain ⟨v0, zs, as, rfl, rfl, hz0, ht⟩ := am_inv ht
  obtain ⟨v1, zs, as, rfl, rfl, hz1, ht⟩ := am_inv ht
  obtain ⟨rfl, rfl⟩ := am_inv0 ht
  obtain ⟨hp_v0, hM⟩ := hM
  exact S_X11_image X hp_v0 hB hM
set_option maxRecDepth 20000 in
set_option maxHeartbeats 4000000 in
theorem S_X11_back {F : am_F} {K : am_KK} {v0 : Int} {v1 : Int} {m : am_M} (X : am_Cx F cX11_back RX11 (some .int) 4 0 K) (hp_v0 : am_ob v0 11) (hB : am_Bt m) (h : M_X11_back v0 v1 K m) : am_Z F 0 [] [(2, v0), (0, v1)] m 200 := by
  have G := X.G
  unfold M_X11_back at h
  refine z_iload_n (nx := 1) (a := 1) G rfl dX11_back_0 rfl (z_iconst (nx := 2) (z := 0) G (R32c rfl) dX11_back_1 rfl (z_aload_n (nx := 3) (a := 0) G rfl (Or.inl rfl) dX11_back_2 rfl (b_getA (nx := 6) (k0 := 1) G hB fl_RX11_16 (Nat.le_of_ble_eq_true rfl) (Nat.le_of_ble_eq_true rfl) rfl hp_v0 dX11_back_3 rfl (b_alen (nx := 7) G (by decide) (by decide) (sh_11_1 _ hp_v0) dX11_back_6 rfl (z_iconst (nx := 8) (z := 1) G (R32c rfl) dX11_back_7 rfl (z_isub (nx := 9) G dX11_back_8 rfl ?_))))))
  refine b_callS5 (nx := 12) (zs := [v1, 0, w32 ((am_len (am_rfv v0 1)) - 1)]) (as := [(0, v1), (0, 0), (0, w32 ((am_len (am_rfv v0 1)) - 1))]) X hB SS_X11_within (am_ti (am_ti (am_ti am_tn))) (Nat.le_of_ble_eq_true rfl) (Nat.le_of_ble_eq_true rfl) ml_RX11_113 sw_X11_within (am_plainC 11 (by decide)) cw_X11_within nw_RX11 pp_X11_within (Nat.le_of_ble_eq_true rfl) dX11_back_9 rfl (NM_X11_within h) (fun r_1 m_2 h h01_3 hB => ?_)
  refine z_if_ne (nx := 15) (tgt := 21) G dX11_back_12 (by decide) rfl (fun c => ?_) (fun c => ?_)
  · have h := h.1 c
    refine z_aload_n (nx := 22) (a := 0) G rfl (Or.inl rfl) dX11_back_21 rfl (b_getA (nx := 25) (k0 := 2) G hB fl_RX11_20 (Nat.le_of_ble_eq_true rfl) (Nat.le_of_ble_eq_true rfl) rfl hp_v0 dX11_back_22 rfl (z_iload_n (nx := 26) (a := 1) G rfl dX11_back_25 rfl ?_))
    obtain ⟨hb, h⟩ := h
    refine z_zald (nx := 27) G (sh_11_2 _ hp_v0) hb.1 hb.2 dX11_back_26 rfl ?_
    refine z_if_ne (nx := 30) (tgt := 37) G dX11_back_27 (by decide) rfl (fun c => ?_) (fun c => ?_)
    · have h := h.1 c
      refine z_aload_n (nx := 38) (a := 0) G rfl (Or.inl rfl) dX11_back_37 rfl (b_getA (nx := 41) (k0 := 0) G hB fl_RX11_10 (Nat.le_of_ble_eq_true rfl) (Nat.le_of_ble_eq_true rfl) rfl hp_v0 dX11_back_38 rfl (z_aload_n (nx := 42) (a := 0) G rfl (Or.inl rfl) dX11_back_41 rfl (b_getA (nx := 45) (k0 := 1) G hB fl_RX11_16 (Nat.le_of_ble_eq_true rfl) (Nat.le_of_ble_eq_true rfl) rfl hp_v0 dX11_back_42 rfl (z_iload_n (nx := 46) (a := 1) G rfl dX11_back_45 rfl ?_))))
      obtain ⟨hb_4, h⟩ := h
      refine b_aald (nx := 47) G hB (Or.inl rfl) (sh_11_1 _ hp_v0) hb_4.1 hb_4.2 dX11_back_46 rfl ?_
      refine b_callV9 (nx := 50) (zs := [am_rfv v0 0, am_rfv (am_rfv v0 1) v1]) (as := [(2, am_rfv (am_rfv v0 1) v1)]) X hB (by decide) rfl (sh_11_0 _ hp_v0) SS_X0_takeFrom (am_ta (am_ta am_tn)) (Nat.le_of_ble_eq_true rfl) (Nat.le_of_ble_eq_true rfl) ml_RX11_359 iw_X0_takeFrom vw_X0_takeFrom cw_X0_takeFrom nw_RX0 pp_X0_takeFrom (Nat.le_of_ble_eq_true rfl) dX11_back_47 rfl (NM_X0_takeFrom (sh_11_0 _ hp_v0) (sh_el24 _ _ (sh_11_1 _ hp_v0) hb_4.1 hb_4.2) h) (fun r_5 m_6 h hB => ?_)
      refine z_aload_n (nx := 51) (a := 0) G rfl (Or.inl rfl) dX11_back_50 rfl (b_getA (nx := 54) (k0 := 10) G hB fl_RX11_75 (Nat.le_of_ble_eq_true rfl) (Nat.le_of_ble_eq_true rfl) rfl hp_v0 dX11_back_51 rfl (z_iconst (nx := 55) (z := 0) G (R32c rfl) dX11_back_54 rfl ?_))
      refine b_callV9 (nx := 58) (zs := [am_rfv v0 10, 0]) (as := [(0, 0)]) X hB (by decide) rfl (sh_11_10 _ hp_v0) SS_X7_cut (am_ta (am_ti am_tn)) (Nat.le_of_ble_eq_true rfl) (Nat.le_of_ble_eq_true rfl) ml_RX11_184 iw_X7_cut vw_X7_cut cw_X7_cut nw_RX7 pp_X7_cut (Nat.le_of_ble_eq_true rfl) dX11_back_55 rfl (NM_X7_cut (sh_11_10 _ hp_v0) h) (fun r_7 m_8 h hB => ?_)
      refine z_aload_n (nx := 59) (a := 0) G rfl (Or.inl rfl) dX11_back_58 rfl (z_iconst (nx := 60) (z := 0) G (R32c rfl) dX11_back_59 rfl ?_)
      refine b_callV0 (nx := 63) (zs := [v0, 0]) (as := [(0, 0)]) X hB (by decide) rfl hp_v0 SS_X11_fine (am_ta (am_ti am_tn)) (Nat.le_of_ble_eq_true rfl) (Nat.le_of_ble_eq_true rfl) ml_RX11_132 iw_X11_fine vw_X11_fine cw_X11_fine nw_RX11 pp_X11_fine (Nat.le_of_ble_eq_true rfl) dX11_back_60 rfl (NM_X11_fine hp_v0 h) (fun r_9 m_10 h hB => ?_)
      exact b_ireturn X hB dX11_back_63 h
    · have h := h.2 c
      refine z_aload_n (nx := 31) (a := 0) G rfl (Or.inl rfl) dX11_back_30 rfl (z_bipush (nx := 33) (z := (-2)) G (R32c rfl) rfl dX11_back_31 rfl ?_)
      refine b_callV0 (nx := 36) (zs := [v0, (-2)]) (as := [(0, (-2))]) X hB (by decide) rfl hp_v0 SS_X11_refuse (am_ta (am_ti am_tn)) (Nat.le_of_ble_eq_true rfl) (Nat.le_of_ble_eq_true rfl) ml_RX11_117 iw_X11_refuse vw_X11_refuse cw_X11_refuse nw_RX11 pp_X11_refuse (Nat.le_of_ble_eq_true rfl) dX11_back_33 rfl (NM_X11_refuse hp_v0 h) (fun r_11 m_12 h hB => ?_)
      exact b_ireturn X hB dX11_back_36 h
  · have h := h.2 c
    refine z_aload_n (nx := 16) (a := 0) G rfl (Or.inl rfl) dX11_back_15 rfl (z_iconst (nx := 17) (z := (-1)) G (R32c rfl) dX11_back_16 rfl ?_)
    refine b_callV0 (nx := 20) (zs := [v0, (-1)]) (as := [(0, (-1))]) X hB (by decide) rfl hp_v0 SS_X11_refuse (am_ta (am_ti am_tn)) (Nat.le_of_ble_eq_true rfl) (Nat.le_of_ble_eq_true rfl) ml_RX11_117 iw_X11_refuse vw_X11_refuse cw_X11_refuse nw_RX11 pp_X11_refuse (Nat.le_of_ble_eq_true rfl) dX11_back_17 rfl (NM_X11_refuse hp_v0 h) (fun r_13 m_14 h hB => ?_)
    exact b_ireturn X hB dX11_back_20 h
theorem NM_X11_back {v0 : Int} {v1 : Int} {K : am_KK} {m : am_M} (hp_v0 : am_ob v0 11) (h : M_X11_back v0 v1 K m) : N_X11_back [v0, v1] K m := ⟨hp_v0, h⟩
theorem SS_X11_back : am_Snd yX11_back cX11_back 2 (some .int) 0 4 (am_L [2, 0] 0 N_X11_back) := by
  refine am_SB (by decide +kernel) (Nat.le_of_ble_eq_true rfl) (fun F zs as K m X ht hB hM => ?_)
  obtain ⟨v0, zs, as, rfl, rfl, hz0, ht⟩ := am_inv ht
  obtain ⟨v1, zs, as, rfl, rfl, hz1, ht⟩ := am_inv ht
  obtain ⟨rfl, rfl⟩ := am_inv0 ht
  obtain ⟨hp_v0, hM⟩ := hM
  exact S_X11_back X hp_v0 hB hM
set_option maxRecDepth 20000 in
set_option maxHeartbeats 4000000 in
theorem S_X11_count {F : am_F} {K : am_KK} {v0 : Int} {v1 : Int} {m : am_M} (X : am_Cx F cX11_count RX11 (some .int) 4 0 K) (hp_v0 : am_ob v0 11) (hB : am_Bt m) (h : M_X11_count v0 v1 K m) : am_Z F 0 [] [(2, v0), (0, v1)] m 200 := by
  have G := X.G
  unfold M_X11_count at h
  refine z_iload_n (nx := 1) (a := 1) G rfl dX11_count_0 rfl ?_
  refine z_table G dX11_count_1 (fun i => match i with | 0 => 80 | 1 => 91 | 2 => 102 | 3 => 113 | 4 => 127 | 5 => 138 | 6 => 149 | 7 => 160 | 8 => 168 | 9 => 176 | 10 => 184 | 11 => 191 | 12 => 198 | 13 => 205 | 14 => 212 | _ => 220) 228 (fun i hi => ?_) (by decide) (fun i hi c => ?_) (fun c => ?_)
  · match i, hi with
    | 0, _ => exact ⟨_, rfl, by decide⟩
    | 1, _ => exact ⟨_, rfl, by decide⟩
    | 2, _ => exact ⟨_, rfl, by decide⟩
    | 3, _ => exact ⟨_, rfl, by decide⟩
    | 4, _ => exact ⟨_, rfl, by decide⟩
    | 5, _ => exact ⟨_, rfl, by decide⟩
    | 6, _ => exact ⟨_, rfl, by decide⟩
    | 7, _ => exact ⟨_, rfl, by decide⟩
    | 8, _ => exact ⟨_, rfl, by decide⟩
    | 9, _ => exact ⟨_, rfl, by decide⟩
    | 10, _ => exact ⟨_, rfl, by decide⟩
    | 11, _ => exact ⟨_, rfl, by decide⟩
    | 12, _ => exact ⟨_, rfl, by decide⟩
    | 13, _ => exact ⟨_, rfl, by decide⟩
    | 14, _ => exact ⟨_, rfl, by decide⟩
    | 15, _ => exact ⟨_, rfl, by decide⟩
    | i + 16, hi => exact absurd hi (by omega)
  · match i, hi, c with
    | 0, _, c =>
      have h := h.1 (c.trans (by decide))
      refine z_aload_n (nx := 81) (a := 0) G rfl (Or.inl rfl) dX11_count_80 rfl (b_getA (nx := 84) (k0 := 0) G hB fl_RX11_10 (Nat.le_of_ble_eq_true rfl) (Nat.le_of_ble_eq_true rfl) rfl hp_v0 dX11_count_81 rfl (b_getA (nx := 87) (k0 := 0) G hB fl_RX11_121 (Nat.le_of_ble_eq_true rfl) (Nat.le_of_ble_eq_true rfl) rfl (sh_11_0 _ hp_v0) dX11_count_84 rfl (b_getI (nx := 90) (k0 := 2) (t := 0) G fl_RX11_188 (Nat.le_of_ble_eq_true rfl) (Nat.le_of_ble_eq_true rfl) rfl (sh_0_0 _ (sh_11_0 _ hp_v0)) dX11_count_87 rfl ?_)))
      exact b_ireturn X hB dX11_count_90 h
    | 1, _, c =>
      have h := h.2.1 (c.trans (by decide))
      refine z_aload_n (nx := 92) (a := 0) G rfl (Or.inl rfl) dX11_count_91 rfl (b_getA (nx := 95) (k0 := 0) G hB fl_RX11_10 (Nat.le_of_ble_eq_true rfl) (Nat.le_of_ble_eq_true rfl) rfl hp_v0 dX11_count_92 rfl (b_getA (nx := 98) (k0 := 1) G hB fl_RX11_146 (Nat.le_of_ble_eq_true rfl) (Nat.le_of_ble_eq_true rfl) rfl (sh_11_0 _ hp_v0) dX11_count_95 rfl (b_getI (nx := 101) (k0 := 2) (t := 0) G fl_RX11_188 (Nat.le_of_ble_eq_true rfl) (Nat.le_of_ble_eq_true rfl) rfl (sh_0_1 _ (sh_11_0 _ hp_v0)) dX11_count_98 rfl ?_)))
      exact b_ireturn X hB dX11_count_101 h
    | 2, _, c =>
      have h := h.2.2.1 (c.trans (by decide))
      refine z_aload_n (nx := 103) (a := 0) G rfl (Or.inl rfl) dX11_count_102 rfl (b_getA (nx := 106) (k0 := 0) G hB fl_RX11_10 (Nat.le_of_ble_eq_true rfl) (Nat.le_of_ble_eq_true rfl) rfl hp_v0 dX11_count_103 rfl (b_getA (nx := 109) (k0 := 2) G hB fl_RX11_156 (Nat.le_of_ble_eq_true rfl) (Nat.le_of_ble_eq_true rfl) rfl (sh_11_0 _ hp_v0) dX11_count_106 rfl (b_getI (nx := 112) (k0 := 2) (t := 0) G fl_RX11_188 (Nat.le_of_ble_eq_true rfl) (Nat.le_of_ble_eq_true rfl) rfl (sh_0_2 _ (sh_11_0 _ hp_v0)) dX11_count_109 rfl ?_)))
      exact b_ireturn X hB dX11_count_112 h
    | 3, _, c =>
      have h := h.2.2.2.1 (c.trans (by decide))
      refine z_aload_n (nx := 114) (a := 0) G rfl (Or.inl rfl) dX11_count_113 rfl (b_getA (nx := 117) (k0 := 0) G hB fl_RX11_10 (Nat.le_of_ble_eq_true rfl) (Nat.le_of_ble_eq_true rfl) rfl hp_v0 dX11_count_114 rfl (b_getA (nx := 120) (k0 := 5) G hB fl_RX11_162 (Nat.le_of_ble_eq_true rfl) (Nat.le_of_ble_eq_true rfl) rfl (sh_11_0 _ hp_v0) dX11_count_117 rfl (b_getA (nx := 123) (k0 := 0) G hB fl_RX11_267 (Nat.le_of_ble_eq_true rfl) (Nat.le_of_ble_eq_true rfl) rfl (sh_0_5 _ (sh_11_0 _ hp_v0)) dX11_count_120 rfl (b_getI (nx := 126) (k0 := 2) (t := 0) G fl_RX11_188 (Nat.le_of_ble_eq_true rfl) (Nat.le_of_ble_eq_true rfl) rfl (sh_9_0 _ (sh_0_5 _ (sh_11_0 _ hp_v0))) dX11_count_123 rfl ?_))))
      exact b_ireturn X hB dX11_count_126 h
    | 4, _, c =>
      have h := h.2.2.2.2.1 (c.trans (by decide))
      refine z_aload_n (nx := 128) (a := 0) G rfl (Or.inl rfl) dX11_count_127 rfl (b_getA (nx := 131) (k0 := 0) G hB fl_RX11_10 (Nat.le_of_ble_eq_true rfl) (Nat.le_of_ble_eq_true rfl) rfl hp_v0 dX11_count_128 rfl (b_getA (nx := 134) (k0 := 5) G hB fl_RX11_162 (Nat.le_of_ble_eq_true rfl) (Nat.le_of_ble_eq_true rfl) rfl (sh_11_0 _ hp_v0) dX11_count_131 rfl ?_))
      refine b_callV0 (nx := 137) (zs := [am_rfv (am_rfv v0 0) 5]) (as := []) X hB (by decide) rfl (sh_0_5 _ (sh_11_0 _ hp_v0)) SS_X9_waiting (am_ta am_tn) (Nat.le_of_ble_eq_true rfl) (Nat.le_of_ble_eq_true rfl) ml_RX11_361 iw_X9_waiting vw_X9_waiting cw_X9_waiting nw_RX9 pp_X9_waiting (Nat.le_of_ble_eq_true rfl) dX11_count_134 rfl (NM_X9_waiting (sh_0_5 _ (sh_11_0 _ hp_v0)) h) (fun r_1 m_2 h hB => ?_)
      exact b_ireturn X hB dX11_count_137 h
    | 5, _, c =>
      have h := h.2.2.2.2.2.1 (c.trans (by decide))
      refine z_aload_n (nx := 139) (a := 0) G rfl (Or.inl rfl) dX11_count_138 rfl (b_getA (nx := 142) (k0 := 0) G hB fl_RX11_10 (Nat.le_of_ble_eq_true rfl) (Nat.le_of_ble_eq_true rfl) rfl hp_v0 dX11_count_139 rfl (b_getA (nx := 145) (k0 := 3) G hB fl_RX11_310 (Nat.le_of_ble_eq_true rfl) (Nat.le_of_ble_eq_true rfl) rfl (sh_11_0 _ hp_v0) dX11_count_142 rfl (b_getI (nx := 148) (k0 := 2) (t := 0) G fl_RX11_188 (Nat.le_of_ble_eq_true rfl) (Nat.le_of_ble_eq_true rfl) rfl (sh_0_3 _ (sh_11_0 _ hp_v0)) dX11_count_145 rfl ?_)))
      exact b_ireturn X hB dX11_count_148 h
    | 6, _, c =>
      have h := h.2.2.2.2.2.2.1 (c.trans (by decide))
      refine z_aload_n (nx := 150) (a := 0) G rfl (Or.inl rfl) dX11_count_149 rfl (b_getA (nx := 153) (k0 := 0) G hB fl_RX11_10 (Nat.le_of_ble_eq_true rfl) (Nat.le_of_ble_eq_true rfl) rfl hp_v0 dX11_count_150 rfl (b_getA (nx := 156) (k0 := 4) G hB fl_RX11_337 (Nat.le_of_ble_eq_true rfl) (Nat.le_of_ble_eq_true rfl) rfl (sh_11_0 _ hp_v0) dX11_count_153 rfl (b_getI (nx := 159) (k0 := 2) (t := 0) G fl_RX11_188 (Nat.le_of_ble_eq_true rfl) (Nat.le_of_ble_eq_true rfl) rfl (sh_0_4 _ (sh_11_0 _ hp_v0)) dX11_count_156 rfl ?_)))
      exact b_ireturn X hB dX11_count_159 h
    | 7, _, c =>
      have h := h.2.2.2.2.2.2.2.1 (c.trans (by decide))
      refine z_aload_n (nx := 161) (a := 0) G rfl (Or.inl rfl) dX11_count_160 rfl (b_getA (nx := 164) (k0 := 0) G hB fl_RX11_10 (Nat.le_of_ble_eq_true rfl) (Nat.le_of_ble_eq_true rfl) rfl hp_v0 dX11_count_161 rfl (b_getI (nx := 167) (k0 := 10) (t := 0) G fl_RX11_201 (Nat.le_of_ble_eq_true rfl) (Nat.le_of_ble_eq_true rfl) rfl (sh_11_0 _ hp_v0) dX11_count_164 rfl ?_))
      exact b_ireturn X hB dX11_count_167 h
    | 8, _, c =>
      have h := h.2.2.2.2.2.2.2.2.1 (c.trans (by decide))
      refine z_aload_n (nx := 169) (a := 0) G rfl (Or.inl rfl) dX11_count_168 rfl (b_getA (nx := 172) (k0 := 10) G hB fl_RX11_75 (Nat.le_of_ble_eq_true rfl) (Nat.le_of_ble_eq_true rfl) rfl hp_v0 dX11_count_169 rfl (b_getI (nx := 175) (k0 := 2) (t := 0) G fl_RX11_188 (Nat.le_of_ble_eq_true rfl) (Nat.le_of_ble_eq_true rfl) rfl (sh_11_10 _ hp_v0) dX11_count_172 rfl ?_))
      exact b_ireturn X hB dX11_count_175 h
    | 9, _, c =>
      have h := h.2.2.2.2.2.2.2.2.2.1 (c.trans (by decide))
      refine z_aload_n (nx := 177) (a := 0) G rfl (Or.inl rfl) dX11_count_176 rfl (b_getA (nx := 180) (k0 := 3) G hB fl_RX11_29 (Nat.le_of_ble_eq_true rfl) (Nat.le_of_ble_eq_true rfl) rfl hp_v0 dX11_count_177 rfl (b_getI (nx := 183) (k0 := 2) (t := 0) G fl_RX11_188 (Nat.le_of_ble_eq_true rfl) (Nat.le_of_ble_eq_true rfl) rfl (sh_11_3 _ hp_v0) dX11_count_180 rfl ?_))
      exact b_ireturn X hB dX11_count_183 h
    | 10, _, c =>
      have h := h.2.2.2.2.2.2.2.2.2.2.1 (c.trans (by decide))
      refine z_aload_n (nx := 185) (a := 0) G rfl (Or.inl rfl) dX11_count_184 rfl (b_getA (nx := 188) (k0 := 16) G hB fl_RX11_106 (Nat.le_of_ble_eq_true rfl) (Nat.le_of_ble_eq_true rfl) rfl hp_v0 dX11_count_185 rfl (z_iconst (nx := 189) (z := 1) G (R32c rfl) dX11_count_188 rfl ?_))
      obtain ⟨hb, h⟩ := h
      refine z_iald (nx := 190) G (sh_11_16 _ hp_v0) hb.1 hb.2 dX11_count_189 rfl ?_
      exact b_ireturn X hB dX11_count_190 h
    | 11, _, c =>
      have h := h.2.2.2.2.2.2.2.2.2.2.2.1 (c.trans (by decide))
      refine z_aload_n (nx := 192) (a := 0) G rfl (Or.inl rfl) dX11_count_191 rfl (b_getA (nx := 195) (k0 := 16) G hB fl_RX11_106 (Nat.le_of_ble_eq_true rfl) (Nat.le_of_ble_eq_true rfl) rfl hp_v0 dX11_count_192 rfl (z_iconst (nx := 196) (z := 2) G (R32c rfl) dX11_count_195 rfl ?_))
      obtain ⟨hb, h⟩ := h
      refine z_iald (nx := 197) G (sh_11_16 _ hp_v0) hb.1 hb.2 dX11_count_196 rfl ?_
      exact b_ireturn X hB dX11_count_197 h
    | 12, _, c =>
      have h := h.2.2.2.2.2.2.2.2.2.2.2.2.1 (c.trans (by decide))
      refine z_aload_n (nx := 199) (a := 0) G rfl (Or.inl rfl) dX11_count_198 rfl (b_getA (nx := 202) (k0 := 16) G hB fl_RX11_106 (Nat.le_of_ble_eq_true rfl) (Nat.le_of_ble_eq_true rfl) rfl hp_v0 dX11_count_199 rfl (z_iconst (nx := 203) (z := 3) G (R32c rfl) dX11_count_202 rfl ?_))
      obtain ⟨hb, h⟩ := h
      refine z_iald (nx := 204) G (sh_11_16 _ hp_v0) hb.1 hb.2 dX11_count_203 rfl ?_
      exact b_ireturn X hB dX11_count_204 h
    | 13, _, c =>
      have h := h.2.2.2.2.2.2.2.2.2.2.2.2.2.1 (c.trans (by decide))
      refine z_aload_n (nx := 206) (a := 0) G rfl (Or.inl rfl) dX11_count_205 rfl (b_getA (nx := 209) (k0 := 16) G hB fl_RX11_106 (Nat.le_of_ble_eq_true rfl) (Nat.le_of_ble_eq_true rfl) rfl hp_v0 dX11_count_206 rfl (z_iconst (nx := 210) (z := 5) G (R32c rfl) dX11_count_209 rfl ?_))
      obtain ⟨hb, h⟩ := h
      refine z_iald (nx := 211) G (sh_11_16 _ hp_v0) hb.1 hb.2 dX11_count_210 rfl ?_
      exact b_ireturn X hB dX11_count_211 h
    | 14, _, c =>
      have h := h.2.2.2.2.2.2.2.2.2.2.2.2.2.2.1 (c.trans (by decide))
      refine z_aload_n (nx := 213) (a := 0) G rfl (Or.inl rfl) dX11_count_212 rfl (b_getA (nx := 216) (k0 := 16) G hB fl_RX11_106 (Nat.le_of_ble_eq_true rfl) (Nat.le_of_ble_eq_true rfl) rfl hp_v0 dX11_count_213 rfl (z_bipush (nx := 218) (z := 6) G (R32c rfl) rfl dX11_count_216 rfl ?_))
      obtain ⟨hb, h⟩ := h
      refine z_iald (nx := 219) G (sh_11_16 _ hp_v0) hb.1 hb.2 dX11_count_218 rfl ?_
      exact b_ireturn X hB dX11_count_219 h
    | 15, _, c =>
      have h := h.2.2.2.2.2.2.2.2.2.2.2.2.2.2.2.1 (c.trans (by decide))
      refine z_aload_n (nx := 221) (a := 0) G rfl (Or.inl rfl) dX11_count_220 rfl (b_getA (nx := 224) (k0 := 0) G hB fl_RX11_10 (Nat.le_of_ble_eq_true rfl) (Nat.le_of_ble_eq_true rfl) rfl hp_v0 dX11_count_221 rfl (b_getI (nx := 227) (k0 := 11) (t := 0) G fl_RX11_249 (Nat.le_of_ble_eq_true rfl) (Nat.le_of_ble_eq_true rfl) rfl (sh_11_0 _ hp_v0) dX11_count_224 rfl ?_))
      exact b_ireturn X hB dX11_count_227 h
    | i + 16, hi, _ => exact absurd hi (by omega)
  · have h := h.2.2.2.2.2.2.2.2.2.2.2.2.2.2.2.2 c
    refine z_iload_n (nx := 229) (a := 1) G rfl dX11_count_228 rfl (z_bipush (nx := 231) (z := 16) G (R32c rfl) rfl dX11_count_229 rfl (z_bipush (nx := 233) (z := 19) G (R32c rfl) rfl dX11_count_231 rfl ?_))
    refine b_callS5 (nx := 236) (zs := [v1, 16, 19]) (as := [(0, v1), (0, 16), (0, 19)]) X hB SS_X11_within (am_ti (am_ti (am_ti am_tn))) (Nat.le_of_ble_eq_true rfl) (Nat.le_of_ble_eq_true rfl) ml_RX11_113 sw_X11_within (am_plainC 11 (by decide)) cw_X11_within nw_RX11 pp_X11_within (Nat.le_of_ble_eq_true rfl) dX11_count_233 rfl (NM_X11_within h) (fun r_3 m_4 h h01_5 hB => ?_)
    refine z_if_eq (nx := 239) (tgt := 253) G dX11_count_236 (by decide) rfl (fun c => ?_) (fun c => ?_)
    · have h := h.1 c
      refine z_iconst (nx := 254) (z := (-1)) G (R32c rfl) dX11_count_253 rfl ?_
      exact b_ireturn X hB dX11_count_254 h
    · have h := h.2 c
      refine z_aload_n (nx := 240) (a := 0) G rfl (Or.inl rfl) dX11_count_239 rfl (b_getA (nx := 243) (k0 := 0) G hB fl_RX11_10 (Nat.le_of_ble_eq_true rfl) (Nat.le_of_ble_eq_true rfl) rfl hp_v0 dX11_count_240 rfl (z_iload_n (nx := 244) (a := 1) G rfl dX11_count_243 rfl (z_bipush (nx := 246) (z := 16) G (R32c rfl) rfl dX11_count_244 rfl (z_isub (nx := 247) G dX11_count_246 rfl ?_))))
      refine b_callV0 (nx := 250) (zs := [am_rfv v0 0, w32 (v1 - 16)]) (as := [(0, w32 (v1 - 16))]) X hB (by decide) rfl (sh_11_0 _ hp_v0) SS_X0_term (am_ta (am_ti am_tn)) (Nat.le_of_ble_eq_true rfl) (Nat.le_of_ble_eq_true rfl) ml_RX11_178 iw_X0_term vw_X0_term cw_X0_term nw_RX0 pp_X0_term (Nat.le_of_ble_eq_true rfl) dX11_count_247 rfl (NM_X0_term (sh_11_0 _ hp_v0) h) (fun r_6 m_7 h hB => ?_)
      refine z_goto (tgt := 254) G dX11_count_250 (by decide) ?_
      exact b_ireturn X hB dX11_count_254 h
theorem NM_X11_count {v0 : Int} {v1 : Int} {K : am_KK} {m : am_M} (hp_v0 : am_ob v0 11) (h : M_X11_count v0 v1 K m) : N_X11_count [v0, v1] K m := ⟨hp_v0, h⟩
theorem SS_X11_count : am_Snd yX11_count cX11_count 2 (some .int) 0 4 (am_L [2, 0] 0 N_X11_count) := by
  refine am_SB (by decide +kernel) (Nat.le_of_ble_eq_true rfl) (fun F zs as K m X ht hB hM => ?_)
  obtain ⟨v0, zs, as, rfl, rfl, hz0, ht⟩ := am_inv ht
  obtain ⟨v1, zs, as, rfl, rfl, hz1, ht⟩ := am_inv ht
  obtain ⟨rfl, rfl⟩ := am_inv0 ht
  obtain ⟨hp_v0, hM⟩ := hM
  exact S_X11_count X hp_v0 hB hM
set_option maxRecDepth 20000 in
set_option maxHeartbeats 4000000 in
theorem S_X11_status {F : am_F} {K : am_KK} {v0 : Int} {m : am_M} (X : am_Cx F cX11_status RX11 (some .int) 1 0 K) (hp_v0 : am_ob v0 11) (hB : am_Bt m) (h : M_X11_status v0 K m) : am_Z F 0 [] [(2, v0)] m 200 := by
  have G := X.G
  unfold M_X11_status at h
  refine z_aload_n (nx := 1) (a := 0) G rfl (Or.inl rfl) dX11_status_0 rfl (b_getI (nx := 4) (k0 := 17) (t := 0) G fl_RX11_364 (Nat.le_of_ble_eq_true rfl) (Nat.le_of_ble_eq_true rfl) rfl hp_v0 dX11_status_1 rfl ?_)
  exact b_ireturn X hB dX11_status_4 h
theorem NM_X11_status {v0 : Int} {K : am_KK} {m : am_M} (hp_v0 : am_ob v0 11) (h : M_X11_status v0 K m) : N_X11_status [v0] K m := ⟨hp_v0, h⟩
theorem SS_X11_status : am_Snd yX11_status cX11_status 1 (some .int) 0 1 (am_L [2] 0 N_X11_status) := by
  refine am_SB (by decide +kernel) (Nat.le_of_ble_eq_true rfl) (fun F zs as K m X ht hB hM => ?_)
  obtain ⟨v0, zs, as, rfl, rfl, hz0, ht⟩ := am_inv ht
  obtain ⟨rfl, rfl⟩ := am_inv0 ht
  obtain ⟨hp_v0, hM⟩ := hM
  exact S_X11_status X hp_v0 hB hM
set_option maxRecDepth 20000 in
set_option maxHeartbeats 4000000 in
theorem S_X12_lies {F : am_F} {K : am_KK} {v0 : Int} {v1 : Int} {v2 : Int} {m : am_M} (X : am_Cx F cX12_lies RX12 (some .boolean) 1 5 K) (hB : am_Bt m) (h : M_X12_lies v0 v1 v2 K m) : am_Z F 0 [] [(0, v0), (0, v1), (0, v2)] m 200 := by
  have G := X.G
  unfold M_X12_lies at h
  refine z_iload_n (nx := 1) (a := 0) G rfl dX12_lies_0 rfl (z_iload_n (nx := 2) (a := 1) G rfl dX12_lies_1 rfl ?_)
  refine z_icmp_lt (nx := 5) (tgt := 14) G dX12_lies_2 (by decide) rfl (fun c => ?_) (fun c => ?_)
  · have h := h.1 c
    refine z_iconst (nx := 15) (z := 0) G (R32c rfl) dX12_lies_14 rfl ?_
    exact b_zreturn X hB (Or.inl rfl) dX12_lies_15 h
  · have h := h.2 c
    refine z_iload_n (nx := 6) (a := 0) G rfl dX12_lies_5 rfl (z_iload_n (nx := 7) (a := 2) G rfl dX12_lies_6 rfl ?_)
    refine z_icmp_gt (nx := 10) (tgt := 14) G dX12_lies_7 (by decide) rfl (fun c => ?_) (fun c => ?_)
    · have h := h.1 c
      refine z_iconst (nx := 15) (z := 0) G (R32c rfl) dX12_lies_14 rfl ?_
      exact b_zreturn X hB (Or.inl rfl) dX12_lies_15 h
    · have h := h.2 c
      refine z_iconst (nx := 11) (z := 1) G (R32c rfl) dX12_lies_10 rfl (z_goto (tgt := 15) G dX12_lies_11 (by decide) ?_)
      exact b_zreturn X hB (Or.inr rfl) dX12_lies_15 h
theorem NM_X12_lies {v0 : Int} {v1 : Int} {v2 : Int} {K : am_KK} {m : am_M} (h : M_X12_lies v0 v1 v2 K m) : N_X12_lies [v0, v1, v2] K m := h
theorem SS_X12_lies : am_Snd yX12_lies cX12_lies 3 (some .boolean) 0 1 (am_L [0, 0, 0] 5 N_X12_lies) := by
  refine am_SB (by decide +kernel) (Nat.le_of_ble_eq_true rfl) (fun F zs as K m X ht hB hM => ?_)
  obtain ⟨v0, zs, as, rfl, rfl, hz0, ht⟩ := am_inv ht
  obtain ⟨v1, zs, as, rfl, rfl, hz1, ht⟩ := am_inv ht
  obtain ⟨v2, zs, as, rfl, rfl, hz2, ht⟩ := am_inv ht
  obtain ⟨rfl, rfl⟩ := am_inv0 ht
  exact S_X12_lies X hB hM
set_option maxRecDepth 20000 in
set_option maxHeartbeats 4000000 in
theorem S_X12_refuses {F : am_F} {K : am_KK} {v0 : Int} {v1 : Int} {m : am_M} (X : am_Cx F cX12_refuses RX12 (some .int) 1 0 K) (hp_v0 : am_ob v0 12) (hB : am_Bt m) (h : M_X12_refuses v0 v1 K m) : am_Z F 0 [] [(2, v0), (0, v1)] m 200 := by
  have G := X.G
  unfold M_X12_refuses at h
  refine z_aload_n (nx := 1) (a := 0) G rfl (Or.inl rfl) dX12_refuses_0 rfl (z_iload_n (nx := 2) (a := 1) G rfl dX12_refuses_1 rfl ?_)
  refine b_put (nx := 5) (k0 := 0) (t := 0) G hB fl_RX12_3 (Nat.le_of_ble_eq_true rfl) (Nat.le_of_ble_eq_true rfl) rfl (fun h => nomatch h) rfl hp_v0 dX12_refuses_2 rfl (fun m_1 e_m_1 hB => ?_)
  have h := h m_1 e_m_1
  refine z_aload_n (nx := 6) (a := 0) G rfl (Or.inl rfl) dX12_refuses_5 rfl (b_getA (nx := 9) (k0 := 1) G hB fl_RX12_7 (Nat.le_of_ble_eq_true rfl) (Nat.le_of_ble_eq_true rfl) rfl hp_v0 dX12_refuses_6 rfl (z_iload_n (nx := 10) (a := 1) G rfl dX12_refuses_9 rfl (z_ineg (nx := 11) G dX12_refuses_10 rfl (z_dup2 (nx := 12) G (fun h => nomatch h) (fun h => nomatch h) dX12_refuses_11 rfl ?_))))
  obtain ⟨hb, h⟩ := h
  refine z_iald (nx := 13) G (sh_12_1 _ hp_v0) hb.1 hb.2 dX12_refuses_12 rfl ?_
  refine z_iconst (nx := 14) (z := 1) G (R32c rfl) dX12_refuses_13 rfl (z_iadd (nx := 15) G dX12_refuses_14 rfl ?_)
  obtain ⟨hb, h⟩ := h
  refine b_iast (nx := 16) G hB (sh_12_1 _ hp_v0) hb.1 hb.2 dX12_refuses_15 rfl (fun m_2 e_m_2 hB => ?_)
  have h := h m_2 e_m_2
  refine z_iload_n (nx := 17) (a := 1) G rfl dX12_refuses_16 rfl ?_
  exact b_ireturn X hB dX12_refuses_17 h
theorem NM_X12_refuses {v0 : Int} {v1 : Int} {K : am_KK} {m : am_M} (hp_v0 : am_ob v0 12) (h : M_X12_refuses v0 v1 K m) : N_X12_refuses [v0, v1] K m := ⟨hp_v0, h⟩
theorem SS_X12_refuses : am_Snd yX12_refuses cX12_refuses 2 (some .int) 0 1 (am_L [2, 0] 0 N_X12_refuses) := by
  refine am_SB (by decide +kernel) (Nat.le_of_ble_eq_true rfl) (fun F zs as K m X ht hB hM => ?_)
  obtain ⟨v0, zs, as, rfl, rfl, hz0, ht⟩ := am_inv ht
  obtain ⟨v1, zs, as, rfl, rfl, hz1, ht⟩ := am_inv ht
  obtain ⟨rfl, rfl⟩ := am_inv0 ht
  obtain ⟨hp_v0, hM⟩ := hM
  exact S_X12_refuses X hp_v0 hB hM
set_option maxRecDepth 20000 in
set_option maxHeartbeats 4000000 in
theorem S_X12_good {F : am_F} {K : am_KK} {v0 : Int} {v1 : Int} {m : am_M} (X : am_Cx F cX12_good RX12 (some .int) 1 0 K) (hp_v0 : am_ob v0 12) (hB : am_Bt m) (h : M_X12_good v0 v1 K m) : am_Z F 0 [] [(2, v0), (0, v1)] m 200 := by
  have G := X.G
  unfold M_X12_good at h
  refine z_aload_n (nx := 1) (a := 0) G rfl (Or.inl rfl) dX12_good_0 rfl (z_iconst (nx := 2) (z := 0) G (R32c rfl) dX12_good_1 rfl ?_)
  refine b_put (nx := 5) (k0 := 0) (t := 0) G hB fl_RX12_3 (Nat.le_of_ble_eq_true rfl) (Nat.le_of_ble_eq_true rfl) rfl (fun h => nomatch h) rfl hp_v0 dX12_good_2 rfl (fun m_1 e_m_1 hB => ?_)
  have h := h m_1 e_m_1
  refine z_iload_n (nx := 6) (a := 1) G rfl dX12_good_5 rfl ?_
  exact b_ireturn X hB dX12_good_6 h
theorem NM_X12_good {v0 : Int} {v1 : Int} {K : am_KK} {m : am_M} (hp_v0 : am_ob v0 12) (h : M_X12_good v0 v1 K m) : N_X12_good [v0, v1] K m := ⟨hp_v0, h⟩
theorem SS_X12_good : am_Snd yX12_good cX12_good 2 (some .int) 0 1 (am_L [2, 0] 0 N_X12_good) := by
  refine am_SB (by decide +kernel) (Nat.le_of_ble_eq_true rfl) (fun F zs as K m X ht hB hM => ?_)
  obtain ⟨v0, zs, as, rfl, rfl, hz0, ht⟩ := am_inv ht
  obtain ⟨v1, zs, as, rfl, rfl, hz1, ht⟩ := am_inv ht
  obtain ⟨rfl, rfl⟩ := am_inv0 ht
  obtain ⟨hp_v0, hM⟩ := hM
  exact S_X12_good X hp_v0 hB hM
set_option maxRecDepth 20000 in
set_option maxHeartbeats 4000000 in
theorem S_X12_settled {F : am_F} {K : am_KK} {v0 : Int} {v1 : Int} {m : am_M} (X : am_Cx F cX12_settled RX12 (some .int) 2 0 K) (hp_v0 : am_ob v0 12) (hB : am_Bt m) (h : M_X12_settled v0 v1 K m) : am_Z F 0 [] [(2, v0), (0, v1)] m 200 := by
  have G := X.G
  unfold M_X12_settled at h
  refine z_aload_n (nx := 1) (a := 0) G rfl (Or.inl rfl) dX12_settled_0 rfl (z_iconst (nx := 2) (z := 0) G (R32c rfl) dX12_settled_1 rfl ?_)
  refine b_put (nx := 5) (k0 := 38) (t := 0) G hB fl_RX12_11 (Nat.le_of_ble_eq_true rfl) (Nat.le_of_ble_eq_true rfl) rfl (fun h => nomatch h) rfl hp_v0 dX12_settled_2 rfl (fun m_1 e_m_1 hB => ?_)
  have h := h m_1 e_m_1
  refine z_aload_n (nx := 6) (a := 0) G rfl (Or.inl rfl) dX12_settled_5 rfl (z_iload_n (nx := 7) (a := 1) G rfl dX12_settled_6 rfl ?_)
  refine b_callV0 (nx := 10) (zs := [v0, v1]) (as := [(0, v1)]) X hB (by decide) rfl hp_v0 SS_X12_good (am_ta (am_ti am_tn)) (Nat.le_of_ble_eq_true rfl) (Nat.le_of_ble_eq_true rfl) ml_RX12_14 iw_X12_good vw_X12_good cw_X12_good nw_RX12 pp_X12_good (Nat.le_of_ble_eq_true rfl) dX12_settled_7 rfl (NM_X12_good hp_v0 h) (fun r_2 m_3 h hB => ?_)
  exact b_ireturn X hB dX12_settled_10 h
theorem NM_X12_settled {v0 : Int} {v1 : Int} {K : am_KK} {m : am_M} (hp_v0 : am_ob v0 12) (h : M_X12_settled v0 v1 K m) : N_X12_settled [v0, v1] K m := ⟨hp_v0, h⟩
theorem SS_X12_settled : am_Snd yX12_settled cX12_settled 2 (some .int) 0 2 (am_L [2, 0] 0 N_X12_settled) := by
  refine am_SB (by decide +kernel) (Nat.le_of_ble_eq_true rfl) (fun F zs as K m X ht hB hM => ?_)
  obtain ⟨v0, zs, as, rfl, rfl, hz0, ht⟩ := am_inv ht
  obtain ⟨v1, zs, as, rfl, rfl, hz1, ht⟩ := am_inv ht
  obtain ⟨rfl, rfl⟩ := am_inv0 ht
  obtain ⟨hp_v0, hM⟩ := hM
  exact S_X12_settled X hp_v0 hB hM
set_option maxRecDepth 20000 in
set_option maxHeartbeats 4000000 in
theorem S_X12_isIn {F : am_F} {K : am_KK} {v0 : Int} {v1 : Int} {m : am_M} (X : am_Cx F cX12_isIn RX12 (some .boolean) 1 5 K) (hB : am_Bt m) (h : M_X12_isIn v0 v1 K m) : am_Z F 0 [] [(0, v0), (0, v1)] m 200 := by
  have G := X.G
  unfold M_X12_isIn at h
  refine z_iload_n (nx := 1) (a := 0) G rfl dX12_isIn_0 rfl (z_iload_n (nx := 2) (a := 1) G rfl dX12_isIn_1 rfl (z_ishr (nx := 3) G dX12_isIn_2 rfl (z_iconst (nx := 4) (z := 1) G (R32c rfl) dX12_isIn_3 rfl (z_iand (nx := 5) G dX12_isIn_4 rfl (z_iconst (nx := 6) (z := 1) G (R32c rfl) dX12_isIn_5 rfl ?_)))))
  refine z_icmp_ne (nx := 9) (tgt := 13) G dX12_isIn_6 (by decide) rfl (fun c => ?_) (fun c => ?_)
  · have h := h.1 c
    refine z_iconst (nx := 14) (z := 0) G (R32c rfl) dX12_isIn_13 rfl ?_
    exact b_zreturn X hB (Or.inl rfl) dX12_isIn_14 h
  · have h := h.2 c
    refine z_iconst (nx := 10) (z := 1) G (R32c rfl) dX12_isIn_9 rfl (z_goto (tgt := 14) G dX12_isIn_10 (by decide) ?_)
    exact b_zreturn X hB (Or.inr rfl) dX12_isIn_14 h
theorem NM_X12_isIn {v0 : Int} {v1 : Int} {K : am_KK} {m : am_M} (h : M_X12_isIn v0 v1 K m) : N_X12_isIn [v0, v1] K m := h
theorem SS_X12_isIn : am_Snd yX12_isIn cX12_isIn 2 (some .boolean) 0 1 (am_L [0, 0] 5 N_X12_isIn) := by
  refine am_SB (by decide +kernel) (Nat.le_of_ble_eq_true rfl) (fun F zs as K m X ht hB hM => ?_)
  obtain ⟨v0, zs, as, rfl, rfl, hz0, ht⟩ := am_inv ht
  obtain ⟨v1, zs, as, rfl, rfl, hz1, ht⟩ := am_inv ht
  obtain ⟨rfl, rfl⟩ := am_inv0 ht
  exact S_X12_isIn X hB hM
set_option maxRecDepth 20000 in
set_option maxHeartbeats 4000000 in
theorem S_X12_ones_L1B {F : am_F} {K : am_KK} {v0 : Int} {v1 : Int} {v2 : Int} {C4 : Int → Int → am_M → Prop} {m : am_M} (X : am_Cx F cX12_ones RX12 (some .int) 1 0 K) (hC4 : ∀ w1 w2 m, C4 w1 w2 m → am_Bt m → am_Z F 4 [] [(0, v0), (0, w1), (0, w2)] m 200) (hB : am_Bt m) (h : M_X12_ones_L1B v0 v1 v2 C4 K m) : am_Z F 4 [] [(0, v0), (0, v1), (0, v2)] m 200 := by
  have G := X.G
  unfold M_X12_ones_L1B at h
  refine z_iload_n (nx := 5) (a := 2) G rfl dX12_ones_4 rfl (z_bipush (nx := 7) (z := 10) G (R32c rfl) rfl dX12_ones_5 rfl ?_)
  refine z_icmp_ge (nx := 10) (tgt := 24) G dX12_ones_7 (by decide) rfl (fun c => ?_) (fun c => ?_)
  · have h := h.1 c
    refine z_iload_n (nx := 25) (a := 1) G rfl dX12_ones_24 rfl ?_
    exact b_ireturn X hB dX12_ones_25 h
  · have h := h.2 c
    refine z_iload_n (nx := 11) (a := 1) G rfl dX12_ones_10 rfl (z_iload_n (nx := 12) (a := 0) G rfl dX12_ones_11 rfl (z_iload_n (nx := 13) (a := 2) G rfl dX12_ones_12 rfl (z_ishr (nx := 14) G dX12_ones_13 rfl (z_iconst (nx := 15) (z := 1) G (R32c rfl) dX12_ones_14 rfl (z_iand (nx := 16) G dX12_ones_15 rfl (z_iadd (nx := 17) G dX12_ones_16 rfl ?_))))))
    refine b_store_n (nx := 18) (a := 1) (loc2 := fun v1_1 => [(0, v0), (0, v1_1), (0, v2)]) G (fun _ => rfl) (Nat.le_of_ble_eq_true rfl) (am_pl1 rfl (fun h => nomatch h)) dX12_ones_17 rfl (fun v1_1 e_v1_1 => ?_)
    have h := h v1_1 e_v1_1
    refine b_iinc (nx := 21) (a := 2) (loc2 := fun v2_2 => [(0, v0), (0, v1_1), (0, v2_2)]) G (fun _ => rfl) rfl (am_pl1 rfl (fun h => nomatch h)) dX12_ones_18 rfl (fun v2_2 e_v2_2 => ?_)
    have h := h v2_2 e_v2_2
    refine z_goto (tgt := 4) G dX12_ones_21 (by decide) ?_
    exact b_fewer (loc2 := [(0, v0), (0, v1_1), (0, v2_2)]) (am_lk (am_lk (am_lk am_ln))) (hC4 _ _ _ h hB)
theorem S_X12_ones_L1 {F : am_F} {K : am_KK} {v0 : Int} {v1 : Int} {v2 : Int} {m : am_M} (X : am_Cx F cX12_ones RX12 (some .int) 1 0 K) (hB : am_Bt m) (h : M_X12_ones_L1 v0 v1 v2 K m) : am_Z F 4 [] [(0, v0), (0, v1), (0, v2)] m 200 := by
  obtain ⟨I, ⟨j, hj⟩, hI⟩ := h
  have key : ∀ j v1 v2 m, I j v1 v2 m → am_Bt m → am_Z F 4 [] [(0, v0), (0, v1), (0, v2)] m 200 := by
    intro j
    induction j using Nat.strongRecOn with
    | ind j ih =>
      intro v1 v2 m hj hB
      exact S_X12_ones_L1B X (fun v1' v2' m' hc hB' => by
        obtain ⟨j', g1, g2⟩ := hc
        exact ih j' g1 v1' v2' m' g2 hB') hB (hI j v1 v2 m hj)
  exact key j _ _ _ hj hB
set_option maxRecDepth 20000 in
set_option maxHeartbeats 4000000 in
theorem S_X12_ones {F : am_F} {K : am_KK} {v0 : Int} {m : am_M} (X : am_Cx F cX12_ones RX12 (some .int) 1 0 K) (hB : am_Bt m) (h : M_X12_ones v0 K m) : am_Z F 0 [] [(0, v0), (9, 0), (9, 0)] m 200 := by
  have G := X.G
  unfold M_X12_ones at h
  refine z_iconst (nx := 1) (z := 0) G (R32c rfl) dX12_ones_0 rfl (b_storeE_n (nx := 2) (a := 1) (loc2 := [(0, v0), (0, 0), (9, 0)]) G rfl (Nat.le_of_ble_eq_true rfl) (am_pl1 rfl (fun h => nomatch h)) dX12_ones_1 rfl (z_iconst (nx := 3) (z := 0) G (R32c rfl) dX12_ones_2 rfl (b_storeE_n (nx := 4) (a := 2) (loc2 := [(0, v0), (0, 0), (0, 0)]) G rfl (Nat.le_of_ble_eq_true rfl) (am_pl1 rfl (fun h => nomatch h)) dX12_ones_3 rfl ?_)))
  exact b_fewer (loc2 := [(0, v0), (0, 0), (0, 0)]) (am_lk (am_lk (am_lk am_ln))) (S_X12_ones_L1 X hB h)
theorem NM_X12_ones {v0 : Int} {K : am_KK} {m : am_M} (h : M_X12_ones v0 K m) : N_X12_ones [v0] K m := h
theorem SS_X12_ones : am_Snd yX12_ones cX12_ones 3 (some .int) 0 1 (am_L [0] 0 N_X12_ones) := by
  refine am_SB (by decide +kernel) (Nat.le_of_ble_eq_true rfl) (fun F zs as K m X ht hB hM => ?_)
  obtain ⟨v0, zs, as, rfl, rfl, hz0, ht⟩ := am_inv ht
  obtain ⟨rfl, rfl⟩ := am_inv0 ht
  exact S_X12_ones X hB hM
set_option maxRecDepth 20000 in
set_option maxHeartbeats 4000000 in
theorem S_X12_laysAside_L1B {F : am_F} {K : am_KK} {v0 : Int} {v1 : Int} {v2 : Int} {C2 : Int → am_M → Prop} {m : am_M} (X : am_Cx F cX12_laysAside RX12 none 1 9 K) (hp_v0 : am_ob v0 12) (hC2 : ∀ w2 m, C2 w2 m → am_Bt m → am_Z F 2 [] [(2, v0), (0, v1), (0, w2)] m 200) (hB : am_Bt m) (h : M_X12_laysAside_L1B v0 v1 v2 C2 K m) : am_Z F 2 [] [(2, v0), (0, v1), (0, v2)] m 200 := by
  have G := X.G
  unfold M_X12_laysAside_L1B at h
  refine z_iload_n (nx := 3) (a := 2) G rfl dX12_laysAside_2 rfl (z_sipush (nx := 6) (z := 170) G (R32c rfl) rfl dX12_laysAside_3 rfl ?_)
  refine z_icmp_ge (nx := 9) (tgt := 33) G dX12_laysAside_6 (by decide) rfl (fun c => ?_) (fun c => ?_)
  · have h := h.1 c
    exact b_return X hB dX12_laysAside_33 h
  · have h := h.2 c
    refine z_aload_n (nx := 10) (a := 0) G rfl (Or.inl rfl) dX12_laysAside_9 rfl (b_getA (nx := 13) (k0 := 5) G hB fl_RX12_34 (Nat.le_of_ble_eq_true rfl) (Nat.le_of_ble_eq_true rfl) rfl hp_v0 dX12_laysAside_10 rfl (z_sipush (nx := 16) (z := 170) G (R32c rfl) rfl dX12_laysAside_13 rfl (z_iload_n (nx := 17) (a := 1) G rfl dX12_laysAside_16 rfl (z_imul (nx := 18) G dX12_laysAside_17 rfl (z_iload_n (nx := 19) (a := 2) G rfl dX12_laysAside_18 rfl (z_iadd (nx := 20) G dX12_laysAside_19 rfl (z_aload_n (nx := 21) (a := 0) G rfl (Or.inl rfl) dX12_laysAside_20 rfl (b_getA (nx := 24) (k0 := 2) G hB fl_RX12_24 (Nat.le_of_ble_eq_true rfl) (Nat.le_of_ble_eq_true rfl) rfl hp_v0 dX12_laysAside_21 rfl (z_iload_n (nx := 25) (a := 2) G rfl dX12_laysAside_24 rfl ?_)))))))))
    obtain ⟨hb, h⟩ := h
    refine z_iald (nx := 26) G (sh_12_2 _ hp_v0) hb.1 hb.2 dX12_laysAside_25 rfl ?_
    obtain ⟨hb, h⟩ := h
    refine b_iast (nx := 27) G hB (sh_12_5 _ hp_v0) hb.1 hb.2 dX12_laysAside_26 rfl (fun m_1 e_m_1 hB => ?_)
    have h := h m_1 e_m_1
    refine b_iinc (nx := 30) (a := 2) (loc2 := fun v2_2 => [(2, v0), (0, v1), (0, v2_2)]) G (fun _ => rfl) rfl (am_pl1 rfl (fun h => nomatch h)) dX12_laysAside_27 rfl (fun v2_2 e_v2_2 => ?_)
    have h := h v2_2 e_v2_2
    refine z_goto (tgt := 2) G dX12_laysAside_30 (by decide) ?_
    exact b_fewer (loc2 := [(2, v0), (0, v1), (0, v2_2)]) (am_lk (am_lk (am_lk am_ln))) (hC2 _ _ h hB)
theorem S_X12_laysAside_L1 {F : am_F} {K : am_KK} {v0 : Int} {v1 : Int} {v2 : Int} {m : am_M} (X : am_Cx F cX12_laysAside RX12 none 1 9 K) (hp_v0 : am_ob v0 12) (hB : am_Bt m) (h : M_X12_laysAside_L1 v0 v1 v2 K m) : am_Z F 2 [] [(2, v0), (0, v1), (0, v2)] m 200 := by
  obtain ⟨I, ⟨j, hj⟩, hI⟩ := h
  have key : ∀ j v2 m, I j v2 m → am_Bt m → am_Z F 2 [] [(2, v0), (0, v1), (0, v2)] m 200 := by
    intro j
    induction j using Nat.strongRecOn with
    | ind j ih =>
      intro v2 m hj hB
      exact S_X12_laysAside_L1B X hp_v0 (fun v2' m' hc hB' => by
        obtain ⟨j', g1, g2⟩ := hc
        exact ih j' g1 v2' m' g2 hB') hB (hI j v2 m hj)
  exact key j _ _ hj hB
set_option maxRecDepth 20000 in
set_option maxHeartbeats 4000000 in
theorem S_X12_laysAside {F : am_F} {K : am_KK} {v0 : Int} {v1 : Int} {m : am_M} (X : am_Cx F cX12_laysAside RX12 none 1 9 K) (hp_v0 : am_ob v0 12) (hB : am_Bt m) (h : M_X12_laysAside v0 v1 K m) : am_Z F 0 [] [(2, v0), (0, v1), (9, 0)] m 200 := by
  have G := X.G
  unfold M_X12_laysAside at h
  refine z_iconst (nx := 1) (z := 0) G (R32c rfl) dX12_laysAside_0 rfl (b_storeE_n (nx := 2) (a := 2) (loc2 := [(2, v0), (0, v1), (0, 0)]) G rfl (Nat.le_of_ble_eq_true rfl) (am_pl1 rfl (fun h => nomatch h)) dX12_laysAside_1 rfl ?_)
  exact b_fewer (loc2 := [(2, v0), (0, v1), (0, 0)]) (am_lk (am_lk (am_lk am_ln))) (S_X12_laysAside_L1 X hp_v0 hB h)
theorem NM_X12_laysAside {v0 : Int} {v1 : Int} {K : am_KK} {m : am_M} (hp_v0 : am_ob v0 12) (h : M_X12_laysAside v0 v1 K m) : N_X12_laysAside [v0, v1] K m := ⟨hp_v0, h⟩
theorem SS_X12_laysAside : am_Snd yX12_laysAside cX12_laysAside 3 none 0 1 (am_L [2, 0] 9 N_X12_laysAside) := by
  refine am_SB (by decide +kernel) (Nat.le_of_ble_eq_true rfl) (fun F zs as K m X ht hB hM => ?_)
  obtain ⟨v0, zs, as, rfl, rfl, hz0, ht⟩ := am_inv ht
  obtain ⟨v1, zs, as, rfl, rfl, hz1, ht⟩ := am_inv ht
  obtain ⟨rfl, rfl⟩ := am_inv0 ht
  obtain ⟨hp_v0, hM⟩ := hM
  exact S_X12_laysAside X hp_v0 hB hM
set_option maxRecDepth 20000 in
set_option maxHeartbeats 4000000 in
theorem S_X12_takesBack_L1B {F : am_F} {K : am_KK} {v0 : Int} {v1 : Int} {v2 : Int} {C2 : Int → am_M → Prop} {m : am_M} (X : am_Cx F cX12_takesBack RX12 none 1 9 K) (hp_v0 : am_ob v0 12) (hC2 : ∀ w2 m, C2 w2 m → am_Bt m → am_Z F 2 [] [(2, v0), (0, v1), (0, w2)] m 200) (hB : am_Bt m) (h : M_X12_takesBack_L1B v0 v1 v2 C2 K m) : am_Z F 2 [] [(2, v0), (0, v1), (0, v2)] m 200 := by
  have G := X.G
  unfold M_X12_takesBack_L1B at h
  refine z_iload_n (nx := 3) (a := 2) G rfl dX12_takesBack_2 rfl (z_sipush (nx := 6) (z := 170) G (R32c rfl) rfl dX12_takesBack_3 rfl ?_)
  refine z_icmp_ge (nx := 9) (tgt := 33) G dX12_takesBack_6 (by decide) rfl (fun c => ?_) (fun c => ?_)
  · have h := h.1 c
    exact b_return X hB dX12_takesBack_33 h
  · have h := h.2 c
    refine z_aload_n (nx := 10) (a := 0) G rfl (Or.inl rfl) dX12_takesBack_9 rfl (b_getA (nx := 13) (k0 := 2) G hB fl_RX12_24 (Nat.le_of_ble_eq_true rfl) (Nat.le_of_ble_eq_true rfl) rfl hp_v0 dX12_takesBack_10 rfl (z_iload_n (nx := 14) (a := 2) G rfl dX12_takesBack_13 rfl (z_aload_n (nx := 15) (a := 0) G rfl (Or.inl rfl) dX12_takesBack_14 rfl (b_getA (nx := 18) (k0 := 5) G hB fl_RX12_34 (Nat.le_of_ble_eq_true rfl) (Nat.le_of_ble_eq_true rfl) rfl hp_v0 dX12_takesBack_15 rfl (z_sipush (nx := 21) (z := 170) G (R32c rfl) rfl dX12_takesBack_18 rfl (z_iload_n (nx := 22) (a := 1) G rfl dX12_takesBack_21 rfl (z_imul (nx := 23) G dX12_takesBack_22 rfl (z_iload_n (nx := 24) (a := 2) G rfl dX12_takesBack_23 rfl (z_iadd (nx := 25) G dX12_takesBack_24 rfl ?_)))))))))
    obtain ⟨hb, h⟩ := h
    refine z_iald (nx := 26) G (sh_12_5 _ hp_v0) hb.1 hb.2 dX12_takesBack_25 rfl ?_
    obtain ⟨hb, h⟩ := h
    refine b_iast (nx := 27) G hB (sh_12_2 _ hp_v0) hb.1 hb.2 dX12_takesBack_26 rfl (fun m_1 e_m_1 hB => ?_)
    have h := h m_1 e_m_1
    refine b_iinc (nx := 30) (a := 2) (loc2 := fun v2_2 => [(2, v0), (0, v1), (0, v2_2)]) G (fun _ => rfl) rfl (am_pl1 rfl (fun h => nomatch h)) dX12_takesBack_27 rfl (fun v2_2 e_v2_2 => ?_)
    have h := h v2_2 e_v2_2
    refine z_goto (tgt := 2) G dX12_takesBack_30 (by decide) ?_
    exact b_fewer (loc2 := [(2, v0), (0, v1), (0, v2_2)]) (am_lk (am_lk (am_lk am_ln))) (hC2 _ _ h hB)
theorem S_X12_takesBack_L1 {F : am_F} {K : am_KK} {v0 : Int} {v1 : Int} {v2 : Int} {m : am_M} (X : am_Cx F cX12_takesBack RX12 none 1 9 K) (hp_v0 : am_ob v0 12) (hB : am_Bt m) (h : M_X12_takesBack_L1 v0 v1 v2 K m) : am_Z F 2 [] [(2, v0), (0, v1), (0, v2)] m 200 := by
  obtain ⟨I, ⟨j, hj⟩, hI⟩ := h
  have key : ∀ j v2 m, I j v2 m → am_Bt m → am_Z F 2 [] [(2, v0), (0, v1), (0, v2)] m 200 := by
    intro j
    induction j using Nat.strongRecOn with
    | ind j ih =>
      intro v2 m hj hB
      exact S_X12_takesBack_L1B X hp_v0 (fun v2' m' hc hB' => by
        obtain ⟨j', g1, g2⟩ := hc
        exact ih j' g1 v2' m' g2 hB') hB (hI j v2 m hj)
  exact key j _ _ hj hB
set_option maxRecDepth 20000 in
set_option maxHeartbeats 4000000 in
theorem S_X12_takesBack {F : am_F} {K : am_KK} {v0 : Int} {v1 : Int} {m : am_M} (X : am_Cx F cX12_takesBack RX12 none 1 9 K) (hp_v0 : am_ob v0 12) (hB : am_Bt m) (h : M_X12_takesBack v0 v1 K m) : am_Z F 0 [] [(2, v0), (0, v1), (9, 0)] m 200 := by
  have G := X.G
  unfold M_X12_takesBack at h
  refine z_iconst (nx := 1) (z := 0) G (R32c rfl) dX12_takesBack_0 rfl (b_storeE_n (nx := 2) (a := 2) (loc2 := [(2, v0), (0, v1), (0, 0)]) G rfl (Nat.le_of_ble_eq_true rfl) (am_pl1 rfl (fun h => nomatch h)) dX12_takesBack_1 rfl ?_)
  exact b_fewer (loc2 := [(2, v0), (0, v1), (0, 0)]) (am_lk (am_lk (am_lk am_ln))) (S_X12_takesBack_L1 X hp_v0 hB h)
theorem NM_X12_takesBack {v0 : Int} {v1 : Int} {K : am_KK} {m : am_M} (hp_v0 : am_ob v0 12) (h : M_X12_takesBack v0 v1 K m) : N_X12_takesBack [v0, v1] K m := ⟨hp_v0, h⟩
theorem SS_X12_takesBack : am_Snd yX12_takesBack cX12_takesBack 3 none 0 1 (am_L [2, 0] 9 N_X12_takesBack) := by
  refine am_SB (by decide +kernel) (Nat.le_of_ble_eq_true rfl) (fun F zs as K m X ht hB hM => ?_)
  obtain ⟨v0, zs, as, rfl, rfl, hz0, ht⟩ := am_inv ht
  obtain ⟨v1, zs, as, rfl, rfl, hz1, ht⟩ := am_inv ht
  obtain ⟨rfl, rfl⟩ := am_inv0 ht
  obtain ⟨hp_v0, hM⟩ := hM
  exact S_X12_takesBack X hp_v0 hB hM
set_option maxRecDepth 20000 in
set_option maxHeartbeats 4000000 in
theorem S_X12_image_L1B {F : am_F} {K : am_KK} {v0 : Int} {v1 : Int} {v2 : Int} {C17 : Int → am_M → Prop} {m : am_M} (X : am_Cx F cX12_image RX12 (some .int) 2 0 K) (hp_v0 : am_ob v0 12) (hC17 : ∀ w2 m, C17 w2 m → am_Bt m → am_Z F 17 [] [(2, v0), (0, v1), (0, w2)] m 200) (hB : am_Bt m) (h : M_X12_image_L1B v0 v1 v2 C17 K m) : am_Z F 17 [] [(2, v0), (0, v1), (0, v2)] m 200 := by
  have G := X.G
  unfold M_X12_image_L1B at h
  refine z_iload_n (nx := 18) (a := 2) G rfl dX12_image_17 rfl (z_sipush (nx := 21) (z := 5977) G (R32c rfl) rfl dX12_image_18 rfl ?_)
  refine z_icmp_ge (nx := 24) (tgt := 48) G dX12_image_21 (by decide) rfl (fun c => ?_) (fun c => ?_)
  · have h := h.1 c
    refine z_aload_n (nx := 49) (a := 0) G rfl (Or.inl rfl) dX12_image_48 rfl (b_getA (nx := 52) (k0 := 4) G hB fl_RX12_30 (Nat.le_of_ble_eq_true rfl) (Nat.le_of_ble_eq_true rfl) rfl hp_v0 dX12_image_49 rfl (z_iload_n (nx := 53) (a := 1) G rfl dX12_image_52 rfl (z_iconst (nx := 54) (z := 1) G (R32c rfl) dX12_image_53 rfl ?_)))
    obtain ⟨hb, h⟩ := h
    refine b_zast (nx := 55) G hB (Or.inr rfl) (sh_12_4 _ hp_v0) hb.1 hb.2 dX12_image_54 rfl (fun m_1 e_m_1 hB => ?_)
    have h := h m_1 e_m_1
    refine z_aload_n (nx := 56) (a := 0) G rfl (Or.inl rfl) dX12_image_55 rfl (z_iconst (nx := 57) (z := 0) G (R32c rfl) dX12_image_56 rfl ?_)
    refine b_callV0 (nx := 60) (zs := [v0, 0]) (as := [(0, 0)]) X hB (by decide) rfl hp_v0 SS_X12_good (am_ta (am_ti am_tn)) (Nat.le_of_ble_eq_true rfl) (Nat.le_of_ble_eq_true rfl) ml_RX12_14 iw_X12_good vw_X12_good cw_X12_good nw_RX12 pp_X12_good (Nat.le_of_ble_eq_true rfl) dX12_image_57 rfl (NM_X12_good hp_v0 h) (fun r_2 m_3 h hB => ?_)
    exact b_ireturn X hB dX12_image_60 h
  · have h := h.2 c
    refine z_aload_n (nx := 25) (a := 0) G rfl (Or.inl rfl) dX12_image_24 rfl (b_getA (nx := 28) (k0 := 3) G hB fl_RX12_27 (Nat.le_of_ble_eq_true rfl) (Nat.le_of_ble_eq_true rfl) rfl hp_v0 dX12_image_25 rfl (z_sipush (nx := 31) (z := 5977) G (R32c rfl) rfl dX12_image_28 rfl (z_iload_n (nx := 32) (a := 1) G rfl dX12_image_31 rfl (z_imul (nx := 33) G dX12_image_32 rfl (z_iload_n (nx := 34) (a := 2) G rfl dX12_image_33 rfl (z_iadd (nx := 35) G dX12_image_34 rfl (z_aload_n (nx := 36) (a := 0) G rfl (Or.inl rfl) dX12_image_35 rfl (b_getA (nx := 39) (k0 := 2) G hB fl_RX12_24 (Nat.le_of_ble_eq_true rfl) (Nat.le_of_ble_eq_true rfl) rfl hp_v0 dX12_image_36 rfl (z_iload_n (nx := 40) (a := 2) G rfl dX12_image_39 rfl ?_)))))))))
    obtain ⟨hb, h⟩ := h
    refine z_iald (nx := 41) G (sh_12_2 _ hp_v0) hb.1 hb.2 dX12_image_40 rfl ?_
    obtain ⟨hb, h⟩ := h
    refine b_iast (nx := 42) G hB (sh_12_3 _ hp_v0) hb.1 hb.2 dX12_image_41 rfl (fun m_4 e_m_4 hB => ?_)
    have h := h m_4 e_m_4
    refine b_iinc (nx := 45) (a := 2) (loc2 := fun v2_5 => [(2, v0), (0, v1), (0, v2_5)]) G (fun _ => rfl) rfl (am_pl1 rfl (fun h => nomatch h)) dX12_image_42 rfl (fun v2_5 e_v2_5 => ?_)
    have h := h v2_5 e_v2_5
    refine z_goto (tgt := 17) G dX12_image_45 (by decide) ?_
    exact b_fewer (loc2 := [(2, v0), (0, v1), (0, v2_5)]) (am_lk (am_lk (am_lk am_ln))) (hC17 _ _ h hB)
theorem S_X12_image_L1 {F : am_F} {K : am_KK} {v0 : Int} {v1 : Int} {v2 : Int} {m : am_M} (X : am_Cx F cX12_image RX12 (some .int) 2 0 K) (hp_v0 : am_ob v0 12) (hB : am_Bt m) (h : M_X12_image_L1 v0 v1 v2 K m) : am_Z F 17 [] [(2, v0), (0, v1), (0, v2)] m 200 := by
  obtain ⟨I, ⟨j, hj⟩, hI⟩ := h
  have key : ∀ j v2 m, I j v2 m → am_Bt m → am_Z F 17 [] [(2, v0), (0, v1), (0, v2)] m 200 := by
    intro j
    induction j using Nat.strongRecOn with
    | ind j ih =>
      intro v2 m hj hB
      exact S_X12_image_L1B X hp_v0 (fun v2' m' hc hB' => by
        obtain ⟨j', g1, g2⟩ := hc
        exact ih j' g1 v2' m' g2 hB') hB (hI j v2 m hj)
  exact key j _ _ hj hB
set_option maxRecDepth 20000 in
set_option maxHeartbeats 4000000 in
theorem S_X12_image {F : am_F} {K : am_KK} {v0 : Int} {v1 : Int} {m : am_M} (X : am_Cx F cX12_image RX12 (some .int) 2 0 K) (hp_v0 : am_ob v0 12) (hB : am_Bt m) (h : M_X12_image v0 v1 K m) : am_Z F 0 [] [(2, v0), (0, v1), (9, 0)] m 200 := by
  have G := X.G
  unfold M_X12_image at h
  refine z_iload_n (nx := 1) (a := 1) G rfl dX12_image_0 rfl (z_iconst (nx := 2) (z := 0) G (R32c rfl) dX12_image_1 rfl (z_iconst (nx := 3) (z := 1) G (R32c rfl) dX12_image_2 rfl ?_))
  refine b_callS5 (nx := 6) (zs := [v1, 0, 1]) (as := [(0, v1), (0, 0), (0, 1)]) X hB SS_X12_lies (am_ti (am_ti (am_ti am_tn))) (Nat.le_of_ble_eq_true rfl) (Nat.le_of_ble_eq_true rfl) ml_RX12_123 sw_X12_lies (am_plainC 12 (by decide)) cw_X12_lies nw_RX12 pp_X12_lies (Nat.le_of_ble_eq_true rfl) dX12_image_3 rfl (NM_X12_lies h) (fun r_6 m_7 h h01_8 hB => ?_)
  refine z_if_ne (nx := 9) (tgt := 15) G dX12_image_6 (by decide) rfl (fun c => ?_) (fun c => ?_)
  · have h := h.1 c
    refine z_iconst (nx := 16) (z := 0) G (R32c rfl) dX12_image_15 rfl (b_storeE_n (nx := 17) (a := 2) (loc2 := [(2, v0), (0, v1), (0, 0)]) G rfl (Nat.le_of_ble_eq_true rfl) (am_pl1 rfl (fun h => nomatch h)) dX12_image_16 rfl ?_)
    exact b_fewer (loc2 := [(2, v0), (0, v1), (0, 0)]) (am_lk (am_lk (am_lk am_ln))) (S_X12_image_L1 X hp_v0 hB h)
  · have h := h.2 c
    refine z_aload_n (nx := 10) (a := 0) G rfl (Or.inl rfl) dX12_image_9 rfl (z_iconst (nx := 11) (z := (-1)) G (R32c rfl) dX12_image_10 rfl ?_)
    refine b_callV0 (nx := 14) (zs := [v0, (-1)]) (as := [(0, (-1))]) X hB (by decide) rfl hp_v0 SS_X12_refuses (am_ta (am_ti am_tn)) (Nat.le_of_ble_eq_true rfl) (Nat.le_of_ble_eq_true rfl) ml_RX12_127 iw_X12_refuses vw_X12_refuses cw_X12_refuses nw_RX12 pp_X12_refuses (Nat.le_of_ble_eq_true rfl) dX12_image_11 rfl (NM_X12_refuses hp_v0 h) (fun r_9 m_10 h hB => ?_)
    exact b_ireturn X hB dX12_image_14 h
theorem NM_X12_image {v0 : Int} {v1 : Int} {K : am_KK} {m : am_M} (hp_v0 : am_ob v0 12) (h : M_X12_image v0 v1 K m) : N_X12_image [v0, v1] K m := ⟨hp_v0, h⟩
theorem SS_X12_image : am_Snd yX12_image cX12_image 3 (some .int) 0 2 (am_L [2, 0] 0 N_X12_image) := by
  refine am_SB (by decide +kernel) (Nat.le_of_ble_eq_true rfl) (fun F zs as K m X ht hB hM => ?_)
  obtain ⟨v0, zs, as, rfl, rfl, hz0, ht⟩ := am_inv ht
  obtain ⟨v1, zs, as, rfl, rfl, hz1, ht⟩ := am_inv ht
  obtain ⟨rfl, rfl⟩ := am_inv0 ht
  obtain ⟨hp_v0, hM⟩ := hM
  exact S_X12_image X hp_v0 hB hM
set_option maxRecDepth 20000 in
set_option maxHeartbeats 4000000 in
theorem S_X12_back_L1B {F : am_F} {K : am_KK} {v0 : Int} {v1 : Int} {v2 : Int} {C33 : Int → am_M → Prop} {m : am_M} (X : am_Cx F cX12_back RX12 (some .int) 3 0 K) (hp_v0 : am_ob v0 12) (hC33 : ∀ w2 m, C33 w2 m → am_Bt m → am_Z F 33 [] [(2, v0), (0, v1), (0, w2)] m 200) (hB : am_Bt m) (h : M_X12_back_L1B v0 v1 v2 C33 K m) : am_Z F 33 [] [(2, v0), (0, v1), (0, v2)] m 200 := by
  have G := X.G
  unfold M_X12_back_L1B at h
  refine z_iload_n (nx := 34) (a := 2) G rfl dX12_back_33 rfl (z_sipush (nx := 37) (z := 5977) G (R32c rfl) rfl dX12_back_34 rfl ?_)
  refine z_icmp_ge (nx := 40) (tgt := 64) G dX12_back_37 (by decide) rfl (fun c => ?_) (fun c => ?_)
  · have h := h.1 c
    refine z_aload_n (nx := 65) (a := 0) G rfl (Or.inl rfl) dX12_back_64 rfl (z_iconst (nx := 66) (z := 0) G (R32c rfl) dX12_back_65 rfl ?_)
    refine b_callV0 (nx := 69) (zs := [v0, 0]) (as := [(0, 0)]) X hB (by decide) rfl hp_v0 SS_X12_settled (am_ta (am_ti am_tn)) (Nat.le_of_ble_eq_true rfl) (Nat.le_of_ble_eq_true rfl) ml_RX12_130 iw_X12_settled vw_X12_settled cw_X12_settled nw_RX12 pp_X12_settled (Nat.le_of_ble_eq_true rfl) dX12_back_66 rfl (NM_X12_settled hp_v0 h) (fun r_1 m_2 h hB => ?_)
    exact b_ireturn X hB dX12_back_69 h
  · have h := h.2 c
    refine z_aload_n (nx := 41) (a := 0) G rfl (Or.inl rfl) dX12_back_40 rfl (b_getA (nx := 44) (k0 := 2) G hB fl_RX12_24 (Nat.le_of_ble_eq_true rfl) (Nat.le_of_ble_eq_true rfl) rfl hp_v0 dX12_back_41 rfl (z_iload_n (nx := 45) (a := 2) G rfl dX12_back_44 rfl (z_aload_n (nx := 46) (a := 0) G rfl (Or.inl rfl) dX12_back_45 rfl (b_getA (nx := 49) (k0 := 3) G hB fl_RX12_27 (Nat.le_of_ble_eq_true rfl) (Nat.le_of_ble_eq_true rfl) rfl hp_v0 dX12_back_46 rfl (z_sipush (nx := 52) (z := 5977) G (R32c rfl) rfl dX12_back_49 rfl (z_iload_n (nx := 53) (a := 1) G rfl dX12_back_52 rfl (z_imul (nx := 54) G dX12_back_53 rfl (z_iload_n (nx := 55) (a := 2) G rfl dX12_back_54 rfl (z_iadd (nx := 56) G dX12_back_55 rfl ?_)))))))))
    obtain ⟨hb, h⟩ := h
    refine z_iald (nx := 57) G (sh_12_3 _ hp_v0) hb.1 hb.2 dX12_back_56 rfl ?_
    obtain ⟨hb, h⟩ := h
    refine b_iast (nx := 58) G hB (sh_12_2 _ hp_v0) hb.1 hb.2 dX12_back_57 rfl (fun m_3 e_m_3 hB => ?_)
    have h := h m_3 e_m_3
    refine b_iinc (nx := 61) (a := 2) (loc2 := fun v2_4 => [(2, v0), (0, v1), (0, v2_4)]) G (fun _ => rfl) rfl (am_pl1 rfl (fun h => nomatch h)) dX12_back_58 rfl (fun v2_4 e_v2_4 => ?_)
    have h := h v2_4 e_v2_4
    refine z_goto (tgt := 33) G dX12_back_61 (by decide) ?_
    exact b_fewer (loc2 := [(2, v0), (0, v1), (0, v2_4)]) (am_lk (am_lk (am_lk am_ln))) (hC33 _ _ h hB)
theorem S_X12_back_L1 {F : am_F} {K : am_KK} {v0 : Int} {v1 : Int} {v2 : Int} {m : am_M} (X : am_Cx F cX12_back RX12 (some .int) 3 0 K) (hp_v0 : am_ob v0 12) (hB : am_Bt m) (h : M_X12_back_L1 v0 v1 v2 K m) : am_Z F 33 [] [(2, v0), (0, v1), (0, v2)] m 200 := by
  obtain ⟨I, ⟨j, hj⟩, hI⟩ := h
  have key : ∀ j v2 m, I j v2 m → am_Bt m → am_Z F 33 [] [(2, v0), (0, v1), (0, v2)] m 200 := by
    intro j
    induction j using Nat.strongRecOn with
    | ind j ih =>
      intro v2 m hj hB
      exact S_X12_back_L1B X hp_v0 (fun v2' m' hc hB' => by
        obtain ⟨j', g1, g2⟩ := hc
        exact ih j' g1 v2' m' g2 hB') hB (hI j v2 m hj)
  exact key j _ _ hj hB
set_option maxRecDepth 20000 in
set_option maxHeartbeats 4000000 in
theorem S_X12_back {F : am_F} {K : am_KK} {v0 : Int} {v1 : Int} {m : am_M} (X : am_Cx F cX12_back RX12 (some .int) 3 0 K) (hp_v0 : am_ob v0 12) (hB : am_Bt m) (h : M_X12_back v0 v1 K m) : am_Z F 0 [] [(2, v0), (0, v1), (9, 0)] m 200 := by
  have G := X.G
  unfold M_X12_back at h
  refine z_iload_n (nx := 1) (a := 1) G rfl dX12_back_0 rfl (z_iconst (nx := 2) (z := 0) G (R32c rfl) dX12_back_1 rfl (z_iconst (nx := 3) (z := 1) G (R32c rfl) dX12_back_2 rfl ?_))
  refine b_callS5 (nx := 6) (zs := [v1, 0, 1]) (as := [(0, v1), (0, 0), (0, 1)]) X hB SS_X12_lies (am_ti (am_ti (am_ti am_tn))) (Nat.le_of_ble_eq_true rfl) (Nat.le_of_ble_eq_true rfl) ml_RX12_123 sw_X12_lies (am_plainC 12 (by decide)) cw_X12_lies nw_RX12 pp_X12_lies (Nat.le_of_ble_eq_true rfl) dX12_back_3 rfl (NM_X12_lies h) (fun r_5 m_6 h h01_7 hB => ?_)
  refine z_if_ne (nx := 9) (tgt := 15) G dX12_back_6 (by decide) rfl (fun c => ?_) (fun c => ?_)
  · have h := h.1 c
    refine z_aload_n (nx := 16) (a := 0) G rfl (Or.inl rfl) dX12_back_15 rfl (b_getA (nx := 19) (k0 := 4) G hB fl_RX12_30 (Nat.le_of_ble_eq_true rfl) (Nat.le_of_ble_eq_true rfl) rfl hp_v0 dX12_back_16 rfl (z_iload_n (nx := 20) (a := 1) G rfl dX12_back_19 rfl ?_))
    obtain ⟨hb, h⟩ := h
    refine z_zald (nx := 21) G (sh_12_4 _ hp_v0) hb.1 hb.2 dX12_back_20 rfl ?_
    refine z_if_ne (nx := 24) (tgt := 31) G dX12_back_21 (by decide) rfl (fun c => ?_) (fun c => ?_)
    · have h := h.1 c
      refine z_iconst (nx := 32) (z := 0) G (R32c rfl) dX12_back_31 rfl (b_storeE_n (nx := 33) (a := 2) (loc2 := [(2, v0), (0, v1), (0, 0)]) G rfl (Nat.le_of_ble_eq_true rfl) (am_pl1 rfl (fun h => nomatch h)) dX12_back_32 rfl ?_)
      exact b_fewer (loc2 := [(2, v0), (0, v1), (0, 0)]) (am_lk (am_lk (am_lk am_ln))) (S_X12_back_L1 X hp_v0 hB h)
    · have h := h.2 c
      refine z_aload_n (nx := 25) (a := 0) G rfl (Or.inl rfl) dX12_back_24 rfl (z_bipush (nx := 27) (z := (-2)) G (R32c rfl) rfl dX12_back_25 rfl ?_)
      refine b_callV0 (nx := 30) (zs := [v0, (-2)]) (as := [(0, (-2))]) X hB (by decide) rfl hp_v0 SS_X12_refuses (am_ta (am_ti am_tn)) (Nat.le_of_ble_eq_true rfl) (Nat.le_of_ble_eq_true rfl) ml_RX12_127 iw_X12_refuses vw_X12_refuses cw_X12_refuses nw_RX12 pp_X12_refuses (Nat.le_of_ble_eq_true rfl) dX12_back_27 rfl (NM_X12_refuses hp_v0 h) (fun r_8 m_9 h hB => ?_)
      exact b_ireturn X hB dX12_back_30 h
  · have h := h.2 c
    refine z_aload_n (nx := 10) (a := 0) G rfl (Or.inl rfl) dX12_back_9 rfl (z_iconst (nx := 11) (z := (-1)) G (R32c rfl) dX12_back_10 rfl ?_)
    refine b_callV0 (nx := 14) (zs := [v0, (-1)]) (as := [(0, (-1))]) X hB (by decide) rfl hp_v0 SS_X12_refuses (am_ta (am_ti am_tn)) (Nat.le_of_ble_eq_true rfl) (Nat.le_of_ble_eq_true rfl) ml_RX12_127 iw_X12_refuses vw_X12_refuses cw_X12_refuses nw_RX12 pp_X12_refuses (Nat.le_of_ble_eq_true rfl) dX12_back_11 rfl (NM_X12_refuses hp_v0 h) (fun r_10 m_11 h hB => ?_)
    exact b_ireturn X hB dX12_back_14 h
theorem NM_X12_back {v0 : Int} {v1 : Int} {K : am_KK} {m : am_M} (hp_v0 : am_ob v0 12) (h : M_X12_back v0 v1 K m) : N_X12_back [v0, v1] K m := ⟨hp_v0, h⟩
theorem SS_X12_back : am_Snd yX12_back cX12_back 3 (some .int) 0 3 (am_L [2, 0] 0 N_X12_back) := by
  refine am_SB (by decide +kernel) (Nat.le_of_ble_eq_true rfl) (fun F zs as K m X ht hB hM => ?_)
  obtain ⟨v0, zs, as, rfl, rfl, hz0, ht⟩ := am_inv ht
  obtain ⟨v1, zs, as, rfl, rfl, hz1, ht⟩ := am_inv ht
  obtain ⟨rfl, rfl⟩ := am_inv0 ht
  obtain ⟨hp_v0, hM⟩ := hM
  exact S_X12_back X hp_v0 hB hM
set_option maxRecDepth 20000 in
set_option maxHeartbeats 4000000 in
theorem S_X12_prayers {F : am_F} {K : am_KK} {v0 : Int} {m : am_M} (X : am_Cx F cX12_prayers RX12 (some .int) 1 0 K) (hp_v0 : am_ob v0 12) (hB : am_Bt m) (h : M_X12_prayers v0 K m) : am_Z F 0 [] [(2, v0)] m 200 := by
  have G := X.G
  unfold M_X12_prayers at h
  refine z_aload_n (nx := 1) (a := 0) G rfl (Or.inl rfl) dX12_prayers_0 rfl (b_getA (nx := 4) (k0 := 2) G hB fl_RX12_24 (Nat.le_of_ble_eq_true rfl) (Nat.le_of_ble_eq_true rfl) rfl hp_v0 dX12_prayers_1 rfl (z_sipush (nx := 7) (z := 168) G (R32c rfl) rfl dX12_prayers_4 rfl ?_))
  obtain ⟨hb, h⟩ := h
  refine z_iald (nx := 8) G (sh_12_2 _ hp_v0) hb.1 hb.2 dX12_prayers_7 rfl ?_
  exact b_ireturn X hB dX12_prayers_8 h
theorem NM_X12_prayers {v0 : Int} {K : am_KK} {m : am_M} (hp_v0 : am_ob v0 12) (h : M_X12_prayers v0 K m) : N_X12_prayers [v0] K m := ⟨hp_v0, h⟩
theorem SS_X12_prayers : am_Snd yX12_prayers cX12_prayers 1 (some .int) 0 1 (am_L [2] 0 N_X12_prayers) := by
  refine am_SB (by decide +kernel) (Nat.le_of_ble_eq_true rfl) (fun F zs as K m X ht hB hM => ?_)
  obtain ⟨v0, zs, as, rfl, rfl, hz0, ht⟩ := am_inv ht
  obtain ⟨rfl, rfl⟩ := am_inv0 ht
  obtain ⟨hp_v0, hM⟩ := hM
  exact S_X12_prayers X hp_v0 hB hM
set_option maxRecDepth 20000 in
set_option maxHeartbeats 4000000 in
theorem S_X12_isWord {F : am_F} {K : am_KK} {v0 : Int} {v1 : Int} {m : am_M} (X : am_Cx F cX12_isWord RX12 (some .boolean) 2 5 K) (hp_v0 : am_ob v0 12) (hB : am_Bt m) (h : M_X12_isWord v0 v1 K m) : am_Z F 0 [] [(2, v0), (0, v1)] m 200 := by
  have G := X.G
  unfold M_X12_isWord at h
  refine z_iload_n (nx := 1) (a := 1) G rfl dX12_isWord_0 rfl (z_iconst (nx := 2) (z := 0) G (R32c rfl) dX12_isWord_1 rfl (z_aload_n (nx := 3) (a := 0) G rfl (Or.inl rfl) dX12_isWord_2 rfl (b_getA (nx := 6) (k0 := 2) G hB fl_RX12_24 (Nat.le_of_ble_eq_true rfl) (Nat.le_of_ble_eq_true rfl) rfl hp_v0 dX12_isWord_3 rfl (z_sipush (nx := 9) (z := 363) G (R32c rfl) rfl dX12_isWord_6 rfl ?_))))
  obtain ⟨hb, h⟩ := h
  refine z_iald (nx := 10) G (sh_12_2 _ hp_v0) hb.1 hb.2 dX12_isWord_9 rfl ?_
  refine z_iconst (nx := 11) (z := 1) G (R32c rfl) dX12_isWord_10 rfl (z_isub (nx := 12) G dX12_isWord_11 rfl ?_)
  refine b_callS5 (nx := 15) (zs := [v1, 0, w32 ((m (am_rfv v0 2) 363) - 1)]) (as := [(0, v1), (0, 0), (0, w32 ((m (am_rfv v0 2) 363) - 1))]) X hB SS_X12_lies (am_ti (am_ti (am_ti am_tn))) (Nat.le_of_ble_eq_true rfl) (Nat.le_of_ble_eq_true rfl) ml_RX12_123 sw_X12_lies (am_plainC 12 (by decide)) cw_X12_lies nw_RX12 pp_X12_lies (Nat.le_of_ble_eq_true rfl) dX12_isWord_12 rfl (NM_X12_lies h) (fun r_1 m_2 h h01_3 hB => ?_)
  exact b_zreturn X hB h01_3 dX12_isWord_15 h
theorem NM_X12_isWord {v0 : Int} {v1 : Int} {K : am_KK} {m : am_M} (hp_v0 : am_ob v0 12) (h : M_X12_isWord v0 v1 K m) : N_X12_isWord [v0, v1] K m := ⟨hp_v0, h⟩
theorem SS_X12_isWord : am_Snd yX12_isWord cX12_isWord 2 (some .boolean) 0 2 (am_L [2, 0] 5 N_X12_isWord) := by
  refine am_SB (by decide +kernel) (Nat.le_of_ble_eq_true rfl) (fun F zs as K m X ht hB hM => ?_)
  obtain ⟨v0, zs, as, rfl, rfl, hz0, ht⟩ := am_inv ht
  obtain ⟨v1, zs, as, rfl, rfl, hz1, ht⟩ := am_inv ht
  obtain ⟨rfl, rfl⟩ := am_inv0 ht
  obtain ⟨hp_v0, hM⟩ := hM
  exact S_X12_isWord X hp_v0 hB hM
set_option maxRecDepth 20000 in
set_option maxHeartbeats 4000000 in
theorem S_X12_isThing {F : am_F} {K : am_KK} {v0 : Int} {m : am_M} (X : am_Cx F cX12_isThing RX12 (some .boolean) 2 5 K) (hB : am_Bt m) (h : M_X12_isThing v0 K m) : am_Z F 0 [] [(0, v0)] m 200 := by
  have G := X.G
  unfold M_X12_isThing at h
  refine z_iload_n (nx := 1) (a := 0) G rfl dX12_isThing_0 rfl (z_iconst (nx := 2) (z := 0) G (R32c rfl) dX12_isThing_1 rfl (z_bipush (nx := 4) (z := 7) G (R32c rfl) rfl dX12_isThing_2 rfl ?_))
  refine b_callS5 (nx := 7) (zs := [v0, 0, 7]) (as := [(0, v0), (0, 0), (0, 7)]) X hB SS_X12_lies (am_ti (am_ti (am_ti am_tn))) (Nat.le_of_ble_eq_true rfl) (Nat.le_of_ble_eq_true rfl) ml_RX12_123 sw_X12_lies (am_plainC 12 (by decide)) cw_X12_lies nw_RX12 pp_X12_lies (Nat.le_of_ble_eq_true rfl) dX12_isThing_4 rfl (NM_X12_lies h) (fun r_1 m_2 h h01_3 hB => ?_)
  exact b_zreturn X hB h01_3 dX12_isThing_7 h
theorem NM_X12_isThing {v0 : Int} {K : am_KK} {m : am_M} (h : M_X12_isThing v0 K m) : N_X12_isThing [v0] K m := h
theorem SS_X12_isThing : am_Snd yX12_isThing cX12_isThing 1 (some .boolean) 0 2 (am_L [0] 5 N_X12_isThing) := by
  refine am_SB (by decide +kernel) (Nat.le_of_ble_eq_true rfl) (fun F zs as K m X ht hB hM => ?_)
  obtain ⟨v0, zs, as, rfl, rfl, hz0, ht⟩ := am_inv ht
  obtain ⟨rfl, rfl⟩ := am_inv0 ht
  exact S_X12_isThing X hB hM
set_option maxRecDepth 20000 in
set_option maxHeartbeats 4000000 in
theorem S_X12_isPerson {F : am_F} {K : am_KK} {v0 : Int} {v1 : Int} {m : am_M} (X : am_Cx F cX12_isPerson RX12 (some .boolean) 2 5 K) (hp_v0 : am_ob v0 12) (hB : am_Bt m) (h : M_X12_isPerson v0 v1 K m) : am_Z F 0 [] [(2, v0), (0, v1)] m 200 := by
  have G := X.G
  unfold M_X12_isPerson at h
  refine z_iload_n (nx := 1) (a := 1) G rfl dX12_isPerson_0 rfl (z_iconst (nx := 2) (z := 0) G (R32c rfl) dX12_isPerson_1 rfl (z_aload_n (nx := 3) (a := 0) G rfl (Or.inl rfl) dX12_isPerson_2 rfl (b_getA (nx := 6) (k0 := 2) G hB fl_RX12_24 (Nat.le_of_ble_eq_true rfl) (Nat.le_of_ble_eq_true rfl) rfl hp_v0 dX12_isPerson_3 rfl (z_sipush (nx := 9) (z := 365) G (R32c rfl) rfl dX12_isPerson_6 rfl ?_))))
  obtain ⟨hb, h⟩ := h
  refine z_iald (nx := 10) G (sh_12_2 _ hp_v0) hb.1 hb.2 dX12_isPerson_9 rfl ?_
  refine z_iconst (nx := 11) (z := 1) G (R32c rfl) dX12_isPerson_10 rfl (z_isub (nx := 12) G dX12_isPerson_11 rfl ?_)
  refine b_callS5 (nx := 15) (zs := [v1, 0, w32 ((m (am_rfv v0 2) 365) - 1)]) (as := [(0, v1), (0, 0), (0, w32 ((m (am_rfv v0 2) 365) - 1))]) X hB SS_X12_lies (am_ti (am_ti (am_ti am_tn))) (Nat.le_of_ble_eq_true rfl) (Nat.le_of_ble_eq_true rfl) ml_RX12_123 sw_X12_lies (am_plainC 12 (by decide)) cw_X12_lies nw_RX12 pp_X12_lies (Nat.le_of_ble_eq_true rfl) dX12_isPerson_12 rfl (NM_X12_lies h) (fun r_1 m_2 h h01_3 hB => ?_)
  exact b_zreturn X hB h01_3 dX12_isPerson_15 h
theorem NM_X12_isPerson {v0 : Int} {v1 : Int} {K : am_KK} {m : am_M} (hp_v0 : am_ob v0 12) (h : M_X12_isPerson v0 v1 K m) : N_X12_isPerson [v0, v1] K m := ⟨hp_v0, h⟩
theorem SS_X12_isPerson : am_Snd yX12_isPerson cX12_isPerson 2 (some .boolean) 0 2 (am_L [2, 0] 5 N_X12_isPerson) := by
  refine am_SB (by decide +kernel) (Nat.le_of_ble_eq_true rfl) (fun F zs as K m X ht hB hM => ?_)
  obtain ⟨v0, zs, as, rfl, rfl, hz0, ht⟩ := am_inv ht
  obtain ⟨v1, zs, as, rfl, rfl, hz1, ht⟩ := am_inv ht
  obtain ⟨rfl, rfl⟩ := am_inv0 ht
  obtain ⟨hp_v0, hM⟩ := hM
  exact S_X12_isPerson X hp_v0 hB hM
set_option maxRecDepth 20000 in
set_option maxHeartbeats 4000000 in
theorem S_X12_isPrayer {F : am_F} {K : am_KK} {v0 : Int} {v1 : Int} {m : am_M} (X : am_Cx F cX12_isPrayer RX12 (some .boolean) 2 5 K) (hp_v0 : am_ob v0 12) (hB : am_Bt m) (h : M_X12_isPrayer v0 v1 K m) : am_Z F 0 [] [(2, v0), (0, v1)] m 200 := by
  have G := X.G
  unfold M_X12_isPrayer at h
  refine z_iload_n (nx := 1) (a := 1) G rfl dX12_isPrayer_0 rfl (z_iconst (nx := 2) (z := 0) G (R32c rfl) dX12_isPrayer_1 rfl (z_aload_n (nx := 3) (a := 0) G rfl (Or.inl rfl) dX12_isPrayer_2 rfl ?_))
  refine b_callV0 (nx := 6) (zs := [v0]) (as := []) X hB (by decide) rfl hp_v0 SS_X12_prayers (am_ta am_tn) (Nat.le_of_ble_eq_true rfl) (Nat.le_of_ble_eq_true rfl) ml_RX12_133 iw_X12_prayers vw_X12_prayers cw_X12_prayers nw_RX12 pp_X12_prayers (Nat.le_of_ble_eq_true rfl) dX12_isPrayer_3 rfl (NM_X12_prayers hp_v0 h) (fun r_1 m_2 h hB => ?_)
  refine z_iconst (nx := 7) (z := 1) G (R32c rfl) dX12_isPrayer_6 rfl (z_isub (nx := 8) G dX12_isPrayer_7 rfl ?_)
  refine b_callS5 (nx := 11) (zs := [v1, 0, w32 (r_1 - 1)]) (as := [(0, v1), (0, 0), (0, w32 (r_1 - 1))]) X hB SS_X12_lies (am_ti (am_ti (am_ti am_tn))) (Nat.le_of_ble_eq_true rfl) (Nat.le_of_ble_eq_true rfl) ml_RX12_123 sw_X12_lies (am_plainC 12 (by decide)) cw_X12_lies nw_RX12 pp_X12_lies (Nat.le_of_ble_eq_true rfl) dX12_isPrayer_8 rfl (NM_X12_lies h) (fun r_3 m_4 h h01_5 hB => ?_)
  exact b_zreturn X hB h01_5 dX12_isPrayer_11 h
theorem NM_X12_isPrayer {v0 : Int} {v1 : Int} {K : am_KK} {m : am_M} (hp_v0 : am_ob v0 12) (h : M_X12_isPrayer v0 v1 K m) : N_X12_isPrayer [v0, v1] K m := ⟨hp_v0, h⟩
theorem SS_X12_isPrayer : am_Snd yX12_isPrayer cX12_isPrayer 2 (some .boolean) 0 2 (am_L [2, 0] 5 N_X12_isPrayer) := by
  refine am_SB (by decide +kernel) (Nat.le_of_ble_eq_true rfl) (fun F zs as K m X ht hB hM => ?_)
  obtain ⟨v0, zs, as, rfl, rfl, hz0, ht⟩ := am_inv ht
  obtain ⟨v1, zs, as, rfl, rfl, hz1, ht⟩ := am_inv ht
  obtain ⟨rfl, rfl⟩ := am_inv0 ht
  obtain ⟨hp_v0, hM⟩ := hM
  exact S_X12_isPrayer X hp_v0 hB hM
set_option maxRecDepth 20000 in
set_option maxHeartbeats 4000000 in
theorem S_X12_fact {F : am_F} {K : am_KK} {v0 : Int} {v1 : Int} {v2 : Int} {m : am_M} (X : am_Cx F cX12_fact RX12 (some .int) 1 0 K) (hp_v0 : am_ob v0 12) (hB : am_Bt m) (h : M_X12_fact v0 v1 v2 K m) : am_Z F 0 [] [(2, v0), (0, v1), (0, v2)] m 200 := by
  have G := X.G
  unfold M_X12_fact at h
  refine z_aload_n (nx := 1) (a := 0) G rfl (Or.inl rfl) dX12_fact_0 rfl (b_getA (nx := 4) (k0 := 2) G hB fl_RX12_24 (Nat.le_of_ble_eq_true rfl) (Nat.le_of_ble_eq_true rfl) rfl hp_v0 dX12_fact_1 rfl (z_iconst (nx := 5) (z := 0) G (R32c rfl) dX12_fact_4 rfl (z_bipush (nx := 7) (z := 7) G (R32c rfl) rfl dX12_fact_5 rfl (z_iload_n (nx := 8) (a := 1) G rfl dX12_fact_7 rfl (z_imul (nx := 9) G dX12_fact_8 rfl (z_iadd (nx := 10) G dX12_fact_9 rfl (z_iload_n (nx := 11) (a := 2) G rfl dX12_fact_10 rfl (z_iadd (nx := 12) G dX12_fact_11 rfl ?_))))))))
  obtain ⟨hb, h⟩ := h
  refine z_iald (nx := 13) G (sh_12_2 _ hp_v0) hb.1 hb.2 dX12_fact_12 rfl ?_
  exact b_ireturn X hB dX12_fact_13 h
theorem NM_X12_fact {v0 : Int} {v1 : Int} {v2 : Int} {K : am_KK} {m : am_M} (hp_v0 : am_ob v0 12) (h : M_X12_fact v0 v1 v2 K m) : N_X12_fact [v0, v1, v2] K m := ⟨hp_v0, h⟩
theorem SS_X12_fact : am_Snd yX12_fact cX12_fact 3 (some .int) 0 1 (am_L [2, 0, 0] 0 N_X12_fact) := by
  refine am_SB (by decide +kernel) (Nat.le_of_ble_eq_true rfl) (fun F zs as K m X ht hB hM => ?_)
  obtain ⟨v0, zs, as, rfl, rfl, hz0, ht⟩ := am_inv ht
  obtain ⟨v1, zs, as, rfl, rfl, hz1, ht⟩ := am_inv ht
  obtain ⟨v2, zs, as, rfl, rfl, hz2, ht⟩ := am_inv ht
  obtain ⟨rfl, rfl⟩ := am_inv0 ht
  obtain ⟨hp_v0, hM⟩ := hM
  exact S_X12_fact X hp_v0 hB hM
set_option maxRecDepth 20000 in
set_option maxHeartbeats 4000000 in
theorem S_X12_isWaiting {F : am_F} {K : am_KK} {v0 : Int} {v1 : Int} {m : am_M} (X : am_Cx F cX12_isWaiting RX12 (some .boolean) 3 5 K) (hp_v0 : am_ob v0 12) (hB : am_Bt m) (h : M_X12_isWaiting v0 v1 K m) : am_Z F 0 [] [(2, v0), (0, v1)] m 200 := by
  have G := X.G
  unfold M_X12_isWaiting at h
  refine z_aload_n (nx := 1) (a := 0) G rfl (Or.inl rfl) dX12_isWaiting_0 rfl (z_iload_n (nx := 2) (a := 1) G rfl dX12_isWaiting_1 rfl ?_)
  refine b_callV5 (nx := 5) (zs := [v0, v1]) (as := [(0, v1)]) X hB (by decide) rfl hp_v0 SS_X12_isPrayer (am_ta (am_ti am_tn)) (Nat.le_of_ble_eq_true rfl) (Nat.le_of_ble_eq_true rfl) ml_RX12_137 iw_X12_isPrayer vw_X12_isPrayer cw_X12_isPrayer nw_RX12 pp_X12_isPrayer (Nat.le_of_ble_eq_true rfl) dX12_isWaiting_2 rfl (NM_X12_isPrayer hp_v0 h) (fun r_1 m_2 h h01_3 hB => ?_)
  refine z_if_eq (nx := 8) (tgt := 21) G dX12_isWaiting_5 (by decide) rfl (fun c => ?_) (fun c => ?_)
  · have h := h.1 c
    refine z_iconst (nx := 22) (z := 0) G (R32c rfl) dX12_isWaiting_21 rfl ?_
    exact b_zreturn X hB (Or.inl rfl) dX12_isWaiting_22 h
  · have h := h.2 c
    refine z_aload_n (nx := 9) (a := 0) G rfl (Or.inl rfl) dX12_isWaiting_8 rfl (z_iload_n (nx := 10) (a := 1) G rfl dX12_isWaiting_9 rfl (z_iconst (nx := 11) (z := 5) G (R32c rfl) dX12_isWaiting_10 rfl ?_))
    refine b_callV0 (nx := 14) (zs := [v0, v1, 5]) (as := [(0, v1), (0, 5)]) X hB (by decide) rfl hp_v0 SS_X12_fact (am_ta (am_ti (am_ti am_tn))) (Nat.le_of_ble_eq_true rfl) (Nat.le_of_ble_eq_true rfl) ml_RX12_141 iw_X12_fact vw_X12_fact cw_X12_fact nw_RX12 pp_X12_fact (Nat.le_of_ble_eq_true rfl) dX12_isWaiting_11 rfl (NM_X12_fact hp_v0 h) (fun r_4 m_5 h hB => ?_)
    refine z_if_ne (nx := 17) (tgt := 21) G dX12_isWaiting_14 (by decide) rfl (fun c => ?_) (fun c => ?_)
    · have h := h.1 c
      refine z_iconst (nx := 22) (z := 0) G (R32c rfl) dX12_isWaiting_21 rfl ?_
      exact b_zreturn X hB (Or.inl rfl) dX12_isWaiting_22 h
    · have h := h.2 c
      refine z_iconst (nx := 18) (z := 1) G (R32c rfl) dX12_isWaiting_17 rfl (z_goto (tgt := 22) G dX12_isWaiting_18 (by decide) ?_)
      exact b_zreturn X hB (Or.inr rfl) dX12_isWaiting_22 h
theorem NM_X12_isWaiting {v0 : Int} {v1 : Int} {K : am_KK} {m : am_M} (hp_v0 : am_ob v0 12) (h : M_X12_isWaiting v0 v1 K m) : N_X12_isWaiting [v0, v1] K m := ⟨hp_v0, h⟩
theorem SS_X12_isWaiting : am_Snd yX12_isWaiting cX12_isWaiting 2 (some .boolean) 0 3 (am_L [2, 0] 5 N_X12_isWaiting) := by
  refine am_SB (by decide +kernel) (Nat.le_of_ble_eq_true rfl) (fun F zs as K m X ht hB hM => ?_)
  obtain ⟨v0, zs, as, rfl, rfl, hz0, ht⟩ := am_inv ht
  obtain ⟨v1, zs, as, rfl, rfl, hz1, ht⟩ := am_inv ht
  obtain ⟨rfl, rfl⟩ := am_inv0 ht
  obtain ⟨hp_v0, hM⟩ := hM
  exact S_X12_isWaiting X hp_v0 hB hM
set_option maxRecDepth 20000 in
set_option maxHeartbeats 4000000 in
theorem S_X12_word {F : am_F} {K : am_KK} {v0 : Int} {v1 : Int} {m : am_M} (X : am_Cx F cX12_word RX12 (some .int) 2 0 K) (hp_v0 : am_ob v0 12) (hB : am_Bt m) (h : M_X12_word v0 v1 K m) : am_Z F 0 [] [(2, v0), (0, v1), (9, 0)] m 200 := by
  have G := X.G
  unfold M_X12_word at h
  refine z_iload_n (nx := 1) (a := 1) G rfl dX12_word_0 rfl (z_iconst (nx := 2) (z := 1) G (R32c rfl) dX12_word_1 rfl (z_bipush (nx := 4) (z := 9) G (R32c rfl) rfl dX12_word_2 rfl ?_))
  refine b_callS5 (nx := 7) (zs := [v1, 1, 9]) (as := [(0, v1), (0, 1), (0, 9)]) X hB SS_X12_lies (am_ti (am_ti (am_ti am_tn))) (Nat.le_of_ble_eq_true rfl) (Nat.le_of_ble_eq_true rfl) ml_RX12_123 sw_X12_lies (am_plainC 12 (by decide)) cw_X12_lies nw_RX12 pp_X12_lies (Nat.le_of_ble_eq_true rfl) dX12_word_4 rfl (NM_X12_lies h) (fun r_1 m_2 h h01_3 hB => ?_)
  refine z_if_ne (nx := 10) (tgt := 16) G dX12_word_7 (by decide) rfl (fun c => ?_) (fun c => ?_)
  · have h := h.1 c
    refine z_aload_n (nx := 17) (a := 0) G rfl (Or.inl rfl) dX12_word_16 rfl (b_getA (nx := 20) (k0 := 2) G hB fl_RX12_24 (Nat.le_of_ble_eq_true rfl) (Nat.le_of_ble_eq_true rfl) rfl hp_v0 dX12_word_17 rfl (z_sipush (nx := 23) (z := 363) G (R32c rfl) rfl dX12_word_20 rfl ?_))
    obtain ⟨hb, h⟩ := h
    refine z_iald (nx := 24) G (sh_12_2 _ hp_v0) hb.1 hb.2 dX12_word_23 rfl ?_
    refine b_store_n (nx := 25) (a := 2) (loc2 := fun v2_4 => [(2, v0), (0, v1), (0, v2_4)]) G (fun _ => rfl) (Nat.le_of_ble_eq_true rfl) (am_pl1 rfl (fun h => nomatch h)) dX12_word_24 rfl (fun v2_4 e_v2_4 => ?_)
    have h := h v2_4 e_v2_4
    refine z_iload_n (nx := 26) (a := 2) G rfl dX12_word_25 rfl (z_bipush (nx := 28) (z := 10) G (R32c rfl) rfl dX12_word_26 rfl ?_)
    refine z_icmp_ne (nx := 31) (tgt := 38) G dX12_word_28 (by decide) rfl (fun c => ?_) (fun c => ?_)
    · have h := h.1 c
      refine z_aload_n (nx := 39) (a := 0) G rfl (Or.inl rfl) dX12_word_38 rfl (b_getA (nx := 42) (k0 := 2) G hB fl_RX12_24 (Nat.le_of_ble_eq_true rfl) (Nat.le_of_ble_eq_true rfl) rfl hp_v0 dX12_word_39 rfl (z_sipush (nx := 45) (z := 170) G (R32c rfl) rfl dX12_word_42 rfl (z_iload_n (nx := 46) (a := 2) G rfl dX12_word_45 rfl (z_iadd (nx := 47) G dX12_word_46 rfl (z_iload_n (nx := 48) (a := 1) G rfl dX12_word_47 rfl ?_)))))
      obtain ⟨hb, h⟩ := h
      refine b_iast (nx := 49) G hB (sh_12_2 _ hp_v0) hb.1 hb.2 dX12_word_48 rfl (fun m_5 e_m_5 hB => ?_)
      have h := h m_5 e_m_5
      refine z_aload_n (nx := 50) (a := 0) G rfl (Or.inl rfl) dX12_word_49 rfl (b_getA (nx := 53) (k0 := 2) G hB fl_RX12_24 (Nat.le_of_ble_eq_true rfl) (Nat.le_of_ble_eq_true rfl) rfl hp_v0 dX12_word_50 rfl (z_sipush (nx := 56) (z := 363) G (R32c rfl) rfl dX12_word_53 rfl (z_dup2 (nx := 57) G (fun h => nomatch h) (fun h => nomatch h) dX12_word_56 rfl ?_)))
      obtain ⟨hb, h⟩ := h
      refine z_iald (nx := 58) G (sh_12_2 _ hp_v0) hb.1 hb.2 dX12_word_57 rfl ?_
      refine z_iconst (nx := 59) (z := 1) G (R32c rfl) dX12_word_58 rfl (z_iadd (nx := 60) G dX12_word_59 rfl ?_)
      obtain ⟨hb, h⟩ := h
      refine b_iast (nx := 61) G hB (sh_12_2 _ hp_v0) hb.1 hb.2 dX12_word_60 rfl (fun m_6 e_m_6 hB => ?_)
      have h := h m_6 e_m_6
      refine z_aload_n (nx := 62) (a := 0) G rfl (Or.inl rfl) dX12_word_61 rfl (z_iload_n (nx := 63) (a := 2) G rfl dX12_word_62 rfl ?_)
      refine b_callV0 (nx := 66) (zs := [v0, v2_4]) (as := [(0, v2_4)]) X hB (by decide) rfl hp_v0 SS_X12_good (am_ta (am_ti am_tn)) (Nat.le_of_ble_eq_true rfl) (Nat.le_of_ble_eq_true rfl) ml_RX12_14 iw_X12_good vw_X12_good cw_X12_good nw_RX12 pp_X12_good (Nat.le_of_ble_eq_true rfl) dX12_word_63 rfl (NM_X12_good hp_v0 h) (fun r_7 m_8 h hB => ?_)
      exact b_ireturn X hB dX12_word_66 h
    · have h := h.2 c
      refine z_aload_n (nx := 32) (a := 0) G rfl (Or.inl rfl) dX12_word_31 rfl (z_bipush (nx := 34) (z := (-5)) G (R32c rfl) rfl dX12_word_32 rfl ?_)
      refine b_callV0 (nx := 37) (zs := [v0, (-5)]) (as := [(0, (-5))]) X hB (by decide) rfl hp_v0 SS_X12_refuses (am_ta (am_ti am_tn)) (Nat.le_of_ble_eq_true rfl) (Nat.le_of_ble_eq_true rfl) ml_RX12_127 iw_X12_refuses vw_X12_refuses cw_X12_refuses nw_RX12 pp_X12_refuses (Nat.le_of_ble_eq_true rfl) dX12_word_34 rfl (NM_X12_refuses hp_v0 h) (fun r_9 m_10 h hB => ?_)
      exact b_ireturn X hB dX12_word_37 h
  · have h := h.2 c
    refine z_aload_n (nx := 11) (a := 0) G rfl (Or.inl rfl) dX12_word_10 rfl (z_iconst (nx := 12) (z := (-1)) G (R32c rfl) dX12_word_11 rfl ?_)
    refine b_callV0 (nx := 15) (zs := [v0, (-1)]) (as := [(0, (-1))]) X hB (by decide) rfl hp_v0 SS_X12_refuses (am_ta (am_ti am_tn)) (Nat.le_of_ble_eq_true rfl) (Nat.le_of_ble_eq_true rfl) ml_RX12_127 iw_X12_refuses vw_X12_refuses cw_X12_refuses nw_RX12 pp_X12_refuses (Nat.le_of_ble_eq_true rfl) dX12_word_12 rfl (NM_X12_refuses hp_v0 h) (fun r_11 m_12 h hB => ?_)
    exact b_ireturn X hB dX12_word_15 h
theorem NM_X12_word {v0 : Int} {v1 : Int} {K : am_KK} {m : am_M} (hp_v0 : am_ob v0 12) (h : M_X12_word v0 v1 K m) : N_X12_word [v0, v1] K m := ⟨hp_v0, h⟩
theorem SS_X12_word : am_Snd yX12_word cX12_word 3 (some .int) 0 2 (am_L [2, 0] 0 N_X12_word) := by
  refine am_SB (by decide +kernel) (Nat.le_of_ble_eq_true rfl) (fun F zs as K m X ht hB hM => ?_)
  obtain ⟨v0, zs, as, rfl, rfl, hz0, ht⟩ := am_inv ht
  obtain ⟨v1, zs, as, rfl, rfl, hz1, ht⟩ := am_inv ht
  obtain ⟨rfl, rfl⟩ := am_inv0 ht
  obtain ⟨hp_v0, hM⟩ := hM
  exact S_X12_word X hp_v0 hB hM
set_option maxRecDepth 20000 in
set_option maxHeartbeats 4000000 in
theorem S_X12_lengthOf {F : am_F} {K : am_KK} {v0 : Int} {v1 : Int} {m : am_M} (X : am_Cx F cX12_lengthOf RX12 (some .int) 3 0 K) (hp_v0 : am_ob v0 12) (hB : am_Bt m) (h : M_X12_lengthOf v0 v1 K m) : am_Z F 0 [] [(2, v0), (0, v1)] m 200 := by
  have G := X.G
  unfold M_X12_lengthOf at h
  refine z_aload_n (nx := 1) (a := 0) G rfl (Or.inl rfl) dX12_lengthOf_0 rfl (z_iload_n (nx := 2) (a := 1) G rfl dX12_lengthOf_1 rfl ?_)
  refine b_callV5 (nx := 5) (zs := [v0, v1]) (as := [(0, v1)]) X hB (by decide) rfl hp_v0 SS_X12_isWord (am_ta (am_ti am_tn)) (Nat.le_of_ble_eq_true rfl) (Nat.le_of_ble_eq_true rfl) ml_RX12_145 iw_X12_isWord vw_X12_isWord cw_X12_isWord nw_RX12 pp_X12_isWord (Nat.le_of_ble_eq_true rfl) dX12_lengthOf_2 rfl (NM_X12_isWord hp_v0 h) (fun r_1 m_2 h h01_3 hB => ?_)
  refine z_if_eq (nx := 8) (tgt := 21) G dX12_lengthOf_5 (by decide) rfl (fun c => ?_) (fun c => ?_)
  · have h := h.1 c
    refine z_iconst (nx := 22) (z := (-1)) G (R32c rfl) dX12_lengthOf_21 rfl ?_
    exact b_ireturn X hB dX12_lengthOf_22 h
  · have h := h.2 c
    refine z_aload_n (nx := 9) (a := 0) G rfl (Or.inl rfl) dX12_lengthOf_8 rfl (b_getA (nx := 12) (k0 := 2) G hB fl_RX12_24 (Nat.le_of_ble_eq_true rfl) (Nat.le_of_ble_eq_true rfl) rfl hp_v0 dX12_lengthOf_9 rfl (z_sipush (nx := 15) (z := 170) G (R32c rfl) rfl dX12_lengthOf_12 rfl (z_iload_n (nx := 16) (a := 1) G rfl dX12_lengthOf_15 rfl (z_iadd (nx := 17) G dX12_lengthOf_16 rfl ?_))))
    obtain ⟨hb, h⟩ := h
    refine z_iald (nx := 18) G (sh_12_2 _ hp_v0) hb.1 hb.2 dX12_lengthOf_17 rfl ?_
    refine z_goto (tgt := 22) G dX12_lengthOf_18 (by decide) ?_
    exact b_ireturn X hB dX12_lengthOf_22 h
theorem NM_X12_lengthOf {v0 : Int} {v1 : Int} {K : am_KK} {m : am_M} (hp_v0 : am_ob v0 12) (h : M_X12_lengthOf v0 v1 K m) : N_X12_lengthOf [v0, v1] K m := ⟨hp_v0, h⟩
theorem SS_X12_lengthOf : am_Snd yX12_lengthOf cX12_lengthOf 2 (some .int) 0 3 (am_L [2, 0] 0 N_X12_lengthOf) := by
  refine am_SB (by decide +kernel) (Nat.le_of_ble_eq_true rfl) (fun F zs as K m X ht hB hM => ?_)
  obtain ⟨v0, zs, as, rfl, rfl, hz0, ht⟩ := am_inv ht
  obtain ⟨v1, zs, as, rfl, rfl, hz1, ht⟩ := am_inv ht
  obtain ⟨rfl, rfl⟩ := am_inv0 ht
  obtain ⟨hp_v0, hM⟩ := hM
  exact S_X12_lengthOf X hp_v0 hB hM
set_option maxRecDepth 20000 in
set_option maxHeartbeats 4000000 in
theorem S_X12_isPart {F : am_F} {K : am_KK} {v0 : Int} {m : am_M} (X : am_Cx F cX12_isPart RX12 (some .boolean) 2 5 K) (hB : am_Bt m) (h : M_X12_isPart v0 K m) : am_Z F 0 [] [(0, v0)] m 200 := by
  have G := X.G
  unfold M_X12_isPart at h
  refine z_iload_n (nx := 1) (a := 0) G rfl dX12_isPart_0 rfl (z_iconst (nx := 2) (z := 0) G (R32c rfl) dX12_isPart_1 rfl (z_bipush (nx := 4) (z := 17) G (R32c rfl) rfl dX12_isPart_2 rfl ?_))
  refine b_callS5 (nx := 7) (zs := [v0, 0, 17]) (as := [(0, v0), (0, 0), (0, 17)]) X hB SS_X12_lies (am_ti (am_ti (am_ti am_tn))) (Nat.le_of_ble_eq_true rfl) (Nat.le_of_ble_eq_true rfl) ml_RX12_123 sw_X12_lies (am_plainC 12 (by decide)) cw_X12_lies nw_RX12 pp_X12_lies (Nat.le_of_ble_eq_true rfl) dX12_isPart_4 rfl (NM_X12_lies h) (fun r_1 m_2 h h01_3 hB => ?_)
  exact b_zreturn X hB h01_3 dX12_isPart_7 h
theorem NM_X12_isPart {v0 : Int} {K : am_KK} {m : am_M} (h : M_X12_isPart v0 K m) : N_X12_isPart [v0] K m := h
theorem SS_X12_isPart : am_Snd yX12_isPart cX12_isPart 1 (some .boolean) 0 2 (am_L [0] 5 N_X12_isPart) := by
  refine am_SB (by decide +kernel) (Nat.le_of_ble_eq_true rfl) (fun F zs as K m X ht hB hM => ?_)
  obtain ⟨v0, zs, as, rfl, rfl, hz0, ht⟩ := am_inv ht
  obtain ⟨rfl, rfl⟩ := am_inv0 ht
  exact S_X12_isPart X hB hM
set_option maxRecDepth 20000 in
set_option maxHeartbeats 4000000 in
theorem S_X12_isThere {F : am_F} {K : am_KK} {v0 : Int} {v1 : Int} {m : am_M} (X : am_Cx F cX12_isThere RX12 (some .boolean) 3 5 K) (hp_v0 : am_ob v0 12) (hB : am_Bt m) (h : M_X12_isThere v0 v1 K m) : am_Z F 0 [] [(2, v0), (0, v1)] m 200 := by
  have G := X.G
  unfold M_X12_isThere at h
  refine z_iload_n (nx := 1) (a := 1) G rfl dX12_isThere_0 rfl (z_iconst (nx := 2) (z := (-1)) G (R32c rfl) dX12_isThere_1 rfl ?_)
  refine z_icmp_eq (nx := 5) (tgt := 19) G dX12_isThere_2 (by decide) rfl (fun c => ?_) (fun c => ?_)
  · have h := h.1 c
    refine z_iconst (nx := 20) (z := 1) G (R32c rfl) dX12_isThere_19 rfl (z_goto (tgt := 24) G dX12_isThere_20 (by decide) ?_)
    exact b_zreturn X hB (Or.inr rfl) dX12_isThere_24 h
  · have h := h.2 c
    refine z_iload_n (nx := 6) (a := 1) G rfl dX12_isThere_5 rfl (z_bipush (nx := 8) (z := 9) G (R32c rfl) rfl dX12_isThere_6 rfl ?_)
    refine z_icmp_gt (nx := 11) (tgt := 19) G dX12_isThere_8 (by decide) rfl (fun c => ?_) (fun c => ?_)
    · have h := h.1 c
      refine z_iconst (nx := 20) (z := 1) G (R32c rfl) dX12_isThere_19 rfl (z_goto (tgt := 24) G dX12_isThere_20 (by decide) ?_)
      exact b_zreturn X hB (Or.inr rfl) dX12_isThere_24 h
    · have h := h.2 c
      refine z_aload_n (nx := 12) (a := 0) G rfl (Or.inl rfl) dX12_isThere_11 rfl (z_iload_n (nx := 13) (a := 1) G rfl dX12_isThere_12 rfl ?_)
      refine b_callV5 (nx := 16) (zs := [v0, v1]) (as := [(0, v1)]) X hB (by decide) rfl hp_v0 SS_X12_isWord (am_ta (am_ti am_tn)) (Nat.le_of_ble_eq_true rfl) (Nat.le_of_ble_eq_true rfl) ml_RX12_145 iw_X12_isWord vw_X12_isWord cw_X12_isWord nw_RX12 pp_X12_isWord (Nat.le_of_ble_eq_true rfl) dX12_isThere_13 rfl (NM_X12_isWord hp_v0 h) (fun r_1 m_2 h h01_3 hB => ?_)
      refine z_if_eq (nx := 19) (tgt := 23) G dX12_isThere_16 (by decide) rfl (fun c => ?_) (fun c => ?_)
      · have h := h.1 c
        refine z_iconst (nx := 24) (z := 0) G (R32c rfl) dX12_isThere_23 rfl ?_
        exact b_zreturn X hB (Or.inl rfl) dX12_isThere_24 h
      · have h := h.2 c
        refine z_iconst (nx := 20) (z := 1) G (R32c rfl) dX12_isThere_19 rfl (z_goto (tgt := 24) G dX12_isThere_20 (by decide) ?_)
        exact b_zreturn X hB (Or.inr rfl) dX12_isThere_24 h
theorem NM_X12_isThere {v0 : Int} {v1 : Int} {K : am_KK} {m : am_M} (hp_v0 : am_ob v0 12) (h : M_X12_isThere v0 v1 K m) : N_X12_isThere [v0, v1] K m := ⟨hp_v0, h⟩
theorem SS_X12_isThere : am_Snd yX12_isThere cX12_isThere 2 (some .boolean) 0 3 (am_L [2, 0] 5 N_X12_isThere) := by
  refine am_SB (by decide +kernel) (Nat.le_of_ble_eq_true rfl) (fun F zs as K m X ht hB hM => ?_)
  obtain ⟨v0, zs, as, rfl, rfl, hz0, ht⟩ := am_inv ht
  obtain ⟨v1, zs, as, rfl, rfl, hz1, ht⟩ := am_inv ht
  obtain ⟨rfl, rfl⟩ := am_inv0 ht
  obtain ⟨hp_v0, hM⟩ := hM
  exact S_X12_isThere X hp_v0 hB hM
set_option maxRecDepth 20000 in
set_option maxHeartbeats 4000000 in
theorem S_X12_rule_J4 {F : am_F} {K : am_KK} {v0 : Int} {m : am_M} (X : am_Cx F cX12_rule RX12 (some .int) 4 0 K) (hp_v0 : am_ob v0 12) (hB : am_Bt m) (h : M_X12_rule_J4 v0 K m) : am_Z F 76 [] [(2, v0), (9, 0), (9, 0), (9, 0), (9, 0), (9, 0)] m 200 := by
  have G := X.G
  unfold M_X12_rule_J4 at h
  refine z_aload_n (nx := 77) (a := 0) G rfl (Or.inl rfl) dX12_rule_76 rfl (z_bipush (nx := 79) (z := (-2)) G (R32c rfl) rfl dX12_rule_77 rfl ?_)
  refine b_callV0 (nx := 82) (zs := [v0, (-2)]) (as := [(0, (-2))]) X hB (by decide) rfl hp_v0 SS_X12_refuses (am_ta (am_ti am_tn)) (Nat.le_of_ble_eq_true rfl) (Nat.le_of_ble_eq_true rfl) ml_RX12_127 iw_X12_refuses vw_X12_refuses cw_X12_refuses nw_RX12 pp_X12_refuses (Nat.le_of_ble_eq_true rfl) dX12_rule_79 rfl (NM_X12_refuses hp_v0 h) (fun r_1 m_2 h hB => ?_)
  exact b_ireturn X hB dX12_rule_82 h
set_option maxRecDepth 20000 in
set_option maxHeartbeats 4000000 in
theorem S_X12_rule_J3 {F : am_F} {K : am_KK} {v0 : Int} {v1 : Int} {v2 : Int} {v3 : Int} {v4 : Int} {m : am_M} (X : am_Cx F cX12_rule RX12 (some .int) 4 0 K) (hp_v0 : am_ob v0 12) (hB : am_Bt m) (h : M_X12_rule_J3 v0 v1 v2 v3 v4 K m) : am_Z F 51 [] [(2, v0), (0, v1), (0, v2), (0, v3), (0, v4), (9, 0)] m 200 := by
  have G := X.G
  unfold M_X12_rule_J3 at h
  refine z_aload_n (nx := 52) (a := 0) G rfl (Or.inl rfl) dX12_rule_51 rfl (z_iload_n (nx := 53) (a := 2) G rfl dX12_rule_52 rfl ?_)
  refine b_callV5 (nx := 56) (zs := [v0, v2]) (as := [(0, v2)]) X hB (by decide) rfl hp_v0 SS_X12_isThere (am_ta (am_ti am_tn)) (Nat.le_of_ble_eq_true rfl) (Nat.le_of_ble_eq_true rfl) ml_RX12_154 iw_X12_isThere vw_X12_isThere cw_X12_isThere nw_RX12 pp_X12_isThere (Nat.le_of_ble_eq_true rfl) dX12_rule_53 rfl (NM_X12_isThere hp_v0 h) (fun r_3 m_4 h h01_5 hB => ?_)
  refine z_if_eq (nx := 59) (tgt := 76) G dX12_rule_56 (by decide) rfl (fun c => ?_) (fun c => ?_)
  · have h := h.1 c
    exact b_fewer (loc2 := [(2, v0), (9, 0), (9, 0), (9, 0), (9, 0), (9, 0)]) (am_lk (am_lf (am_lf (am_lf (am_lf (am_lk am_ln)))))) (S_X12_rule_J4 X hp_v0 hB h)
  · have h := h.2 c
    refine z_aload_n (nx := 60) (a := 0) G rfl (Or.inl rfl) dX12_rule_59 rfl (z_iload_n (nx := 61) (a := 3) G rfl dX12_rule_60 rfl ?_)
    refine b_callV5 (nx := 64) (zs := [v0, v3]) (as := [(0, v3)]) X hB (by decide) rfl hp_v0 SS_X12_isThere (am_ta (am_ti am_tn)) (Nat.le_of_ble_eq_true rfl) (Nat.le_of_ble_eq_true rfl) ml_RX12_154 iw_X12_isThere vw_X12_isThere cw_X12_isThere nw_RX12 pp_X12_isThere (Nat.le_of_ble_eq_true rfl) dX12_rule_61 rfl (NM_X12_isThere hp_v0 h) (fun r_6 m_7 h h01_8 hB => ?_)
    refine z_if_eq (nx := 67) (tgt := 76) G dX12_rule_64 (by decide) rfl (fun c => ?_) (fun c => ?_)
    · have h := h.1 c
      exact b_fewer (loc2 := [(2, v0), (9, 0), (9, 0), (9, 0), (9, 0), (9, 0)]) (am_lk (am_lf (am_lf (am_lf (am_lf (am_lk am_ln)))))) (S_X12_rule_J4 X hp_v0 hB h)
    · have h := h.2 c
      refine z_aload_n (nx := 68) (a := 0) G rfl (Or.inl rfl) dX12_rule_67 rfl (z_iload (nx := 70) (a := 4) G rfl dX12_rule_68 rfl ?_)
      refine b_callV5 (nx := 73) (zs := [v0, v4]) (as := [(0, v4)]) X hB (by decide) rfl hp_v0 SS_X12_isThere (am_ta (am_ti am_tn)) (Nat.le_of_ble_eq_true rfl) (Nat.le_of_ble_eq_true rfl) ml_RX12_154 iw_X12_isThere vw_X12_isThere cw_X12_isThere nw_RX12 pp_X12_isThere (Nat.le_of_ble_eq_true rfl) dX12_rule_70 rfl (NM_X12_isThere hp_v0 h) (fun r_9 m_10 h h01_11 hB => ?_)
      refine z_if_ne (nx := 76) (tgt := 83) G dX12_rule_73 (by decide) rfl (fun c => ?_) (fun c => ?_)
      · have h := h.1 c
        refine z_aload_n (nx := 84) (a := 0) G rfl (Or.inl rfl) dX12_rule_83 rfl (b_getA (nx := 87) (k0 := 2) G hB fl_RX12_24 (Nat.le_of_ble_eq_true rfl) (Nat.le_of_ble_eq_true rfl) rfl hp_v0 dX12_rule_84 rfl (z_sipush (nx := 90) (z := 364) G (R32c rfl) rfl dX12_rule_87 rfl ?_))
        obtain ⟨hb, h⟩ := h
        refine z_iald (nx := 91) G (sh_12_2 _ hp_v0) hb.1 hb.2 dX12_rule_90 rfl ?_
        refine b_store (nx := 93) (a := 5) (loc2 := fun v5_12 => [(2, v0), (0, v1), (0, v2), (0, v3), (0, v4), (0, v5_12)]) G (fun _ => rfl) (Nat.le_of_ble_eq_true rfl) (am_pl1 rfl (fun h => nomatch h)) dX12_rule_91 rfl (fun v5_12 e_v5_12 => ?_)
        have h := h v5_12 e_v5_12
        refine z_iload (nx := 95) (a := 5) G rfl dX12_rule_93 rfl (z_bipush (nx := 97) (z := 16) G (R32c rfl) rfl dX12_rule_95 rfl ?_)
        refine z_icmp_ne (nx := 100) (tgt := 107) G dX12_rule_97 (by decide) rfl (fun c => ?_) (fun c => ?_)
        · have h := h.1 c
          refine z_aload_n (nx := 108) (a := 0) G rfl (Or.inl rfl) dX12_rule_107 rfl (b_getA (nx := 111) (k0 := 2) G hB fl_RX12_24 (Nat.le_of_ble_eq_true rfl) (Nat.le_of_ble_eq_true rfl) rfl hp_v0 dX12_rule_108 rfl (z_sipush (nx := 114) (z := 180) G (R32c rfl) rfl dX12_rule_111 rfl (z_iconst (nx := 115) (z := 4) G (R32c rfl) dX12_rule_114 rfl (z_iload (nx := 117) (a := 5) G rfl dX12_rule_115 rfl (z_imul (nx := 118) G dX12_rule_117 rfl (z_iadd (nx := 119) G dX12_rule_118 rfl (z_iload_n (nx := 120) (a := 1) G rfl dX12_rule_119 rfl ?_)))))))
          obtain ⟨hb, h⟩ := h
          refine b_iast (nx := 121) G hB (sh_12_2 _ hp_v0) hb.1 hb.2 dX12_rule_120 rfl (fun m_13 e_m_13 hB => ?_)
          have h := h m_13 e_m_13
          refine z_aload_n (nx := 122) (a := 0) G rfl (Or.inl rfl) dX12_rule_121 rfl (b_getA (nx := 125) (k0 := 2) G hB fl_RX12_24 (Nat.le_of_ble_eq_true rfl) (Nat.le_of_ble_eq_true rfl) rfl hp_v0 dX12_rule_122 rfl (z_sipush (nx := 128) (z := 180) G (R32c rfl) rfl dX12_rule_125 rfl (z_iconst (nx := 129) (z := 4) G (R32c rfl) dX12_rule_128 rfl (z_iload (nx := 131) (a := 5) G rfl dX12_rule_129 rfl (z_imul (nx := 132) G dX12_rule_131 rfl (z_iadd (nx := 133) G dX12_rule_132 rfl (z_iconst (nx := 134) (z := 1) G (R32c rfl) dX12_rule_133 rfl (z_iadd (nx := 135) G dX12_rule_134 rfl (z_iload_n (nx := 136) (a := 2) G rfl dX12_rule_135 rfl ?_)))))))))
          obtain ⟨hb, h⟩ := h
          refine b_iast (nx := 137) G hB (sh_12_2 _ hp_v0) hb.1 hb.2 dX12_rule_136 rfl (fun m_14 e_m_14 hB => ?_)
          have h := h m_14 e_m_14
          refine z_aload_n (nx := 138) (a := 0) G rfl (Or.inl rfl) dX12_rule_137 rfl (b_getA (nx := 141) (k0 := 2) G hB fl_RX12_24 (Nat.le_of_ble_eq_true rfl) (Nat.le_of_ble_eq_true rfl) rfl hp_v0 dX12_rule_138 rfl (z_sipush (nx := 144) (z := 180) G (R32c rfl) rfl dX12_rule_141 rfl (z_iconst (nx := 145) (z := 4) G (R32c rfl) dX12_rule_144 rfl (z_iload (nx := 147) (a := 5) G rfl dX12_rule_145 rfl (z_imul (nx := 148) G dX12_rule_147 rfl (z_iadd (nx := 149) G dX12_rule_148 rfl (z_iconst (nx := 150) (z := 2) G (R32c rfl) dX12_rule_149 rfl (z_iadd (nx := 151) G dX12_rule_150 rfl (z_iload_n (nx := 152) (a := 3) G rfl dX12_rule_151 rfl ?_)))))))))
          obtain ⟨hb, h⟩ := h
          refine b_iast (nx := 153) G hB (sh_12_2 _ hp_v0) hb.1 hb.2 dX12_rule_152 rfl (fun m_15 e_m_15 hB => ?_)
          have h := h m_15 e_m_15
          refine z_aload_n (nx := 154) (a := 0) G rfl (Or.inl rfl) dX12_rule_153 rfl (b_getA (nx := 157) (k0 := 2) G hB fl_RX12_24 (Nat.le_of_ble_eq_true rfl) (Nat.le_of_ble_eq_true rfl) rfl hp_v0 dX12_rule_154 rfl (z_sipush (nx := 160) (z := 180) G (R32c rfl) rfl dX12_rule_157 rfl (z_iconst (nx := 161) (z := 4) G (R32c rfl) dX12_rule_160 rfl (z_iload (nx := 163) (a := 5) G rfl dX12_rule_161 rfl (z_imul (nx := 164) G dX12_rule_163 rfl (z_iadd (nx := 165) G dX12_rule_164 rfl (z_iconst (nx := 166) (z := 3) G (R32c rfl) dX12_rule_165 rfl (z_iadd (nx := 167) G dX12_rule_166 rfl (z_iload (nx := 169) (a := 4) G rfl dX12_rule_167 rfl ?_)))))))))
          obtain ⟨hb, h⟩ := h
          refine b_iast (nx := 170) G hB (sh_12_2 _ hp_v0) hb.1 hb.2 dX12_rule_169 rfl (fun m_16 e_m_16 hB => ?_)
          have h := h m_16 e_m_16
          refine z_aload_n (nx := 171) (a := 0) G rfl (Or.inl rfl) dX12_rule_170 rfl (b_getA (nx := 174) (k0 := 2) G hB fl_RX12_24 (Nat.le_of_ble_eq_true rfl) (Nat.le_of_ble_eq_true rfl) rfl hp_v0 dX12_rule_171 rfl (z_sipush (nx := 177) (z := 364) G (R32c rfl) rfl dX12_rule_174 rfl (z_dup2 (nx := 178) G (fun h => nomatch h) (fun h => nomatch h) dX12_rule_177 rfl ?_)))
          obtain ⟨hb, h⟩ := h
          refine z_iald (nx := 179) G (sh_12_2 _ hp_v0) hb.1 hb.2 dX12_rule_178 rfl ?_
          refine z_iconst (nx := 180) (z := 1) G (R32c rfl) dX12_rule_179 rfl (z_iadd (nx := 181) G dX12_rule_180 rfl ?_)
          obtain ⟨hb, h⟩ := h
          refine b_iast (nx := 182) G hB (sh_12_2 _ hp_v0) hb.1 hb.2 dX12_rule_181 rfl (fun m_17 e_m_17 hB => ?_)
          have h := h m_17 e_m_17
          refine z_aload_n (nx := 183) (a := 0) G rfl (Or.inl rfl) dX12_rule_182 rfl (z_iload (nx := 185) (a := 5) G rfl dX12_rule_183 rfl ?_)
          refine b_callV0 (nx := 188) (zs := [v0, v5_12]) (as := [(0, v5_12)]) X hB (by decide) rfl hp_v0 SS_X12_good (am_ta (am_ti am_tn)) (Nat.le_of_ble_eq_true rfl) (Nat.le_of_ble_eq_true rfl) ml_RX12_14 iw_X12_good vw_X12_good cw_X12_good nw_RX12 pp_X12_good (Nat.le_of_ble_eq_true rfl) dX12_rule_185 rfl (NM_X12_good hp_v0 h) (fun r_18 m_19 h hB => ?_)
          exact b_ireturn X hB dX12_rule_188 h
        · have h := h.2 c
          refine z_aload_n (nx := 101) (a := 0) G rfl (Or.inl rfl) dX12_rule_100 rfl (z_bipush (nx := 103) (z := (-5)) G (R32c rfl) rfl dX12_rule_101 rfl ?_)
          refine b_callV0 (nx := 106) (zs := [v0, (-5)]) (as := [(0, (-5))]) X hB (by decide) rfl hp_v0 SS_X12_refuses (am_ta (am_ti am_tn)) (Nat.le_of_ble_eq_true rfl) (Nat.le_of_ble_eq_true rfl) ml_RX12_127 iw_X12_refuses vw_X12_refuses cw_X12_refuses nw_RX12 pp_X12_refuses (Nat.le_of_ble_eq_true rfl) dX12_rule_103 rfl (NM_X12_refuses hp_v0 h) (fun r_20 m_21 h hB => ?_)
          exact b_ireturn X hB dX12_rule_106 h
      · have h := h.2 c
        exact b_fewer (loc2 := [(2, v0), (9, 0), (9, 0), (9, 0), (9, 0), (9, 0)]) (am_lk (am_lf (am_lf (am_lf (am_lf (am_lk am_ln)))))) (S_X12_rule_J4 X hp_v0 hB h)
set_option maxRecDepth 20000 in
set_option maxHeartbeats 4000000 in
theorem S_X12_rule_J2 {F : am_F} {K : am_KK} {v0 : Int} {m : am_M} (X : am_Cx F cX12_rule RX12 (some .int) 4 0 K) (hp_v0 : am_ob v0 12) (hB : am_Bt m) (h : M_X12_rule_J2 v0 K m) : am_Z F 45 [] [(2, v0), (9, 0), (9, 0), (9, 0), (9, 0), (9, 0)] m 200 := by
  have G := X.G
  unfold M_X12_rule_J2 at h
  refine z_aload_n (nx := 46) (a := 0) G rfl (Or.inl rfl) dX12_rule_45 rfl (z_iconst (nx := 47) (z := (-1)) G (R32c rfl) dX12_rule_46 rfl ?_)
  refine b_callV0 (nx := 50) (zs := [v0, (-1)]) (as := [(0, (-1))]) X hB (by decide) rfl hp_v0 SS_X12_refuses (am_ta (am_ti am_tn)) (Nat.le_of_ble_eq_true rfl) (Nat.le_of_ble_eq_true rfl) ml_RX12_127 iw_X12_refuses vw_X12_refuses cw_X12_refuses nw_RX12 pp_X12_refuses (Nat.le_of_ble_eq_true rfl) dX12_rule_47 rfl (NM_X12_refuses hp_v0 h) (fun r_22 m_23 h hB => ?_)
  exact b_ireturn X hB dX12_rule_50 h
set_option maxRecDepth 20000 in
set_option maxHeartbeats 4000000 in
theorem S_X12_rule_J1 {F : am_F} {K : am_KK} {v0 : Int} {v1 : Int} {v2 : Int} {v3 : Int} {v4 : Int} {m : am_M} (X : am_Cx F cX12_rule RX12 (some .int) 4 0 K) (hp_v0 : am_ob v0 12) (hB : am_Bt m) (h : M_X12_rule_J1 v0 v1 v2 v3 v4 K m) : am_Z F 26 [] [(2, v0), (0, v1), (0, v2), (0, v3), (0, v4), (9, 0)] m 200 := by
  have G := X.G
  unfold M_X12_rule_J1 at h
  refine z_iload (nx := 28) (a := 4) G rfl dX12_rule_26 rfl (z_iconst (nx := 29) (z := (-1)) G (R32c rfl) dX12_rule_28 rfl ?_)
  refine z_icmp_eq (nx := 32) (tgt := 51) G dX12_rule_29 (by decide) rfl (fun c => ?_) (fun c => ?_)
  · have h := h.1 c
    exact b_fewer (loc2 := [(2, v0), (0, v1), (0, v2), (0, v3), (0, v4), (9, 0)]) (am_lk (am_lk (am_lk (am_lk (am_lk (am_lk am_ln)))))) (S_X12_rule_J3 X hp_v0 hB h)
  · have h := h.2 c
    refine z_iload_n (nx := 33) (a := 3) G rfl dX12_rule_32 rfl (z_iconst (nx := 34) (z := (-1)) G (R32c rfl) dX12_rule_33 rfl ?_)
    refine z_icmp_eq (nx := 37) (tgt := 45) G dX12_rule_34 (by decide) rfl (fun c => ?_) (fun c => ?_)
    · have h := h.1 c
      exact b_fewer (loc2 := [(2, v0), (9, 0), (9, 0), (9, 0), (9, 0), (9, 0)]) (am_lk (am_lf (am_lf (am_lf (am_lf (am_lk am_ln)))))) (S_X12_rule_J2 X hp_v0 hB h)
    · have h := h.2 c
      refine z_iload (nx := 39) (a := 4) G rfl dX12_rule_37 rfl ?_
      refine b_callS5 (nx := 42) (zs := [v4]) (as := [(0, v4)]) X hB SS_X12_isPart (am_ti am_tn) (Nat.le_of_ble_eq_true rfl) (Nat.le_of_ble_eq_true rfl) ml_RX12_151 sw_X12_isPart (am_plainC 12 (by decide)) cw_X12_isPart nw_RX12 pp_X12_isPart (Nat.le_of_ble_eq_true rfl) dX12_rule_39 rfl (NM_X12_isPart h) (fun r_24 m_25 h h01_26 hB => ?_)
      refine z_if_ne (nx := 45) (tgt := 51) G dX12_rule_42 (by decide) rfl (fun c => ?_) (fun c => ?_)
      · have h := h.1 c
        exact b_fewer (loc2 := [(2, v0), (0, v1), (0, v2), (0, v3), (0, v4), (9, 0)]) (am_lk (am_lk (am_lk (am_lk (am_lk (am_lk am_ln)))))) (S_X12_rule_J3 X hp_v0 hB h)
      · have h := h.2 c
        exact b_fewer (loc2 := [(2, v0), (9, 0), (9, 0), (9, 0), (9, 0), (9, 0)]) (am_lk (am_lf (am_lf (am_lf (am_lf (am_lk am_ln)))))) (S_X12_rule_J2 X hp_v0 hB h)
set_option maxRecDepth 20000 in
set_option maxHeartbeats 4000000 in
theorem S_X12_rule {F : am_F} {K : am_KK} {v0 : Int} {v1 : Int} {v2 : Int} {v3 : Int} {v4 : Int} {m : am_M} (X : am_Cx F cX12_rule RX12 (some .int) 4 0 K) (hp_v0 : am_ob v0 12) (hB : am_Bt m) (h : M_X12_rule v0 v1 v2 v3 v4 K m) : am_Z F 0 [] [(2, v0), (0, v1), (0, v2), (0, v3), (0, v4), (9, 0)] m 200 := by
  have G := X.G
  unfold M_X12_rule at h
  refine z_iload_n (nx := 1) (a := 1) G rfl dX12_rule_0 rfl ?_
  refine b_callS5 (nx := 4) (zs := [v1]) (as := [(0, v1)]) X hB SS_X12_isThing (am_ti am_tn) (Nat.le_of_ble_eq_true rfl) (Nat.le_of_ble_eq_true rfl) ml_RX12_148 sw_X12_isThing (am_plainC 12 (by decide)) cw_X12_isThing nw_RX12 pp_X12_isThing (Nat.le_of_ble_eq_true rfl) dX12_rule_1 rfl (NM_X12_isThing h) (fun r_27 m_28 h h01_29 hB => ?_)
  refine z_if_eq (nx := 7) (tgt := 45) G dX12_rule_4 (by decide) rfl (fun c => ?_) (fun c => ?_)
  · have h := h.1 c
    exact b_fewer (loc2 := [(2, v0), (9, 0), (9, 0), (9, 0), (9, 0), (9, 0)]) (am_lk (am_lf (am_lf (am_lf (am_lf (am_lk am_ln)))))) (S_X12_rule_J2 X hp_v0 hB h)
  · have h := h.2 c
    refine z_iload_n (nx := 8) (a := 2) G rfl dX12_rule_7 rfl ?_
    refine b_callS5 (nx := 11) (zs := [v2]) (as := [(0, v2)]) X hB SS_X12_isPart (am_ti am_tn) (Nat.le_of_ble_eq_true rfl) (Nat.le_of_ble_eq_true rfl) ml_RX12_151 sw_X12_isPart (am_plainC 12 (by decide)) cw_X12_isPart nw_RX12 pp_X12_isPart (Nat.le_of_ble_eq_true rfl) dX12_rule_8 rfl (NM_X12_isPart h) (fun r_30 m_31 h h01_32 hB => ?_)
    refine z_if_eq (nx := 14) (tgt := 45) G dX12_rule_11 (by decide) rfl (fun c => ?_) (fun c => ?_)
    · have h := h.1 c
      exact b_fewer (loc2 := [(2, v0), (9, 0), (9, 0), (9, 0), (9, 0), (9, 0)]) (am_lk (am_lf (am_lf (am_lf (am_lf (am_lk am_ln)))))) (S_X12_rule_J2 X hp_v0 hB h)
    · have h := h.2 c
      refine z_iload_n (nx := 15) (a := 3) G rfl dX12_rule_14 rfl (z_iconst (nx := 16) (z := (-1)) G (R32c rfl) dX12_rule_15 rfl ?_)
      refine z_icmp_eq (nx := 19) (tgt := 26) G dX12_rule_16 (by decide) rfl (fun c => ?_) (fun c => ?_)
      · have h := h.1 c
        exact b_fewer (loc2 := [(2, v0), (0, v1), (0, v2), (0, v3), (0, v4), (9, 0)]) (am_lk (am_lk (am_lk (am_lk (am_lk (am_lk am_ln)))))) (S_X12_rule_J1 X hp_v0 hB h)
      · have h := h.2 c
        refine z_iload_n (nx := 20) (a := 3) G rfl dX12_rule_19 rfl ?_
        refine b_callS5 (nx := 23) (zs := [v3]) (as := [(0, v3)]) X hB SS_X12_isPart (am_ti am_tn) (Nat.le_of_ble_eq_true rfl) (Nat.le_of_ble_eq_true rfl) ml_RX12_151 sw_X12_isPart (am_plainC 12 (by decide)) cw_X12_isPart nw_RX12 pp_X12_isPart (Nat.le_of_ble_eq_true rfl) dX12_rule_20 rfl (NM_X12_isPart h) (fun r_33 m_34 h h01_35 hB => ?_)
        refine z_if_eq (nx := 26) (tgt := 45) G dX12_rule_23 (by decide) rfl (fun c => ?_) (fun c => ?_)
        · have h := h.1 c
          exact b_fewer (loc2 := [(2, v0), (9, 0), (9, 0), (9, 0), (9, 0), (9, 0)]) (am_lk (am_lf (am_lf (am_lf (am_lf (am_lk am_ln)))))) (S_X12_rule_J2 X hp_v0 hB h)
        · have h := h.2 c
          exact b_fewer (loc2 := [(2, v0), (0, v1), (0, v2), (0, v3), (0, v4), (9, 0)]) (am_lk (am_lk (am_lk (am_lk (am_lk (am_lk am_ln)))))) (S_X12_rule_J1 X hp_v0 hB h)
theorem NM_X12_rule {v0 : Int} {v1 : Int} {v2 : Int} {v3 : Int} {v4 : Int} {K : am_KK} {m : am_M} (hp_v0 : am_ob v0 12) (h : M_X12_rule v0 v1 v2 v3 v4 K m) : N_X12_rule [v0, v1, v2, v3, v4] K m := ⟨hp_v0, h⟩
theorem SS_X12_rule : am_Snd yX12_rule cX12_rule 6 (some .int) 0 4 (am_L [2, 0, 0, 0, 0] 0 N_X12_rule) := by
  refine am_SB (by decide +kernel) (Nat.le_of_ble_eq_true rfl) (fun F zs as K m X ht hB hM => ?_)
  obtain ⟨v0, zs, as, rfl, rfl, hz0, ht⟩ := am_inv ht
  obtain ⟨v1, zs, as, rfl, rfl, hz1, ht⟩ := am_inv ht
  obtain ⟨v2, zs, as, rfl, rfl, hz2, ht⟩ := am_inv ht
  obtain ⟨v3, zs, as, rfl, rfl, hz3, ht⟩ := am_inv ht
  obtain ⟨v4, zs, as, rfl, rfl, hz4, ht⟩ := am_inv ht
  obtain ⟨rfl, rfl⟩ := am_inv0 ht
  obtain ⟨hp_v0, hM⟩ := hM
  exact S_X12_rule X hp_v0 hB hM
set_option maxRecDepth 20000 in
set_option maxHeartbeats 4000000 in
theorem S_X12_of {F : am_F} {K : am_KK} {v0 : Int} {v1 : Int} {v2 : Int} {m : am_M} (X : am_Cx F cX12_of RX12 (some .int) 2 0 K) (hp_v0 : am_ob v0 12) (hB : am_Bt m) (h : M_X12_of v0 v1 v2 K m) : am_Z F 0 [] [(2, v0), (0, v1), (0, v2)] m 200 := by
  have G := X.G
  unfold M_X12_of at h
  refine z_iload_n (nx := 1) (a := 1) G rfl dX12_of_0 rfl (z_iconst (nx := 2) (z := 0) G (R32c rfl) dX12_of_1 rfl (z_aload_n (nx := 3) (a := 0) G rfl (Or.inl rfl) dX12_of_2 rfl (b_getA (nx := 6) (k0 := 2) G hB fl_RX12_24 (Nat.le_of_ble_eq_true rfl) (Nat.le_of_ble_eq_true rfl) rfl hp_v0 dX12_of_3 rfl (z_sipush (nx := 9) (z := 364) G (R32c rfl) rfl dX12_of_6 rfl ?_))))
  obtain ⟨hb, h⟩ := h
  refine z_iald (nx := 10) G (sh_12_2 _ hp_v0) hb.1 hb.2 dX12_of_9 rfl ?_
  refine z_iconst (nx := 11) (z := 1) G (R32c rfl) dX12_of_10 rfl (z_isub (nx := 12) G dX12_of_11 rfl ?_)
  refine b_callS5 (nx := 15) (zs := [v1, 0, w32 ((m (am_rfv v0 2) 364) - 1)]) (as := [(0, v1), (0, 0), (0, w32 ((m (am_rfv v0 2) 364) - 1))]) X hB SS_X12_lies (am_ti (am_ti (am_ti am_tn))) (Nat.le_of_ble_eq_true rfl) (Nat.le_of_ble_eq_true rfl) ml_RX12_123 sw_X12_lies (am_plainC 12 (by decide)) cw_X12_lies nw_RX12 pp_X12_lies (Nat.le_of_ble_eq_true rfl) dX12_of_12 rfl (NM_X12_lies h) (fun r_1 m_2 h h01_3 hB => ?_)
  refine z_if_eq (nx := 18) (tgt := 44) G dX12_of_15 (by decide) rfl (fun c => ?_) (fun c => ?_)
  · have h := h.1 c
    refine z_iconst (nx := 45) (z := (-1)) G (R32c rfl) dX12_of_44 rfl ?_
    exact b_ireturn X hB dX12_of_45 h
  · have h := h.2 c
    refine z_iload_n (nx := 19) (a := 2) G rfl dX12_of_18 rfl (z_iconst (nx := 20) (z := 0) G (R32c rfl) dX12_of_19 rfl (z_iconst (nx := 21) (z := 3) G (R32c rfl) dX12_of_20 rfl ?_))
    refine b_callS5 (nx := 24) (zs := [v2, 0, 3]) (as := [(0, v2), (0, 0), (0, 3)]) X hB SS_X12_lies (am_ti (am_ti (am_ti am_tn))) (Nat.le_of_ble_eq_true rfl) (Nat.le_of_ble_eq_true rfl) ml_RX12_123 sw_X12_lies (am_plainC 12 (by decide)) cw_X12_lies nw_RX12 pp_X12_lies (Nat.le_of_ble_eq_true rfl) dX12_of_21 rfl (NM_X12_lies h) (fun r_4 m_5 h h01_6 hB => ?_)
    refine z_if_eq (nx := 27) (tgt := 44) G dX12_of_24 (by decide) rfl (fun c => ?_) (fun c => ?_)
    · have h := h.1 c
      refine z_iconst (nx := 45) (z := (-1)) G (R32c rfl) dX12_of_44 rfl ?_
      exact b_ireturn X hB dX12_of_45 h
    · have h := h.2 c
      refine z_aload_n (nx := 28) (a := 0) G rfl (Or.inl rfl) dX12_of_27 rfl (b_getA (nx := 31) (k0 := 2) G hB fl_RX12_24 (Nat.le_of_ble_eq_true rfl) (Nat.le_of_ble_eq_true rfl) rfl hp_v0 dX12_of_28 rfl (z_sipush (nx := 34) (z := 180) G (R32c rfl) rfl dX12_of_31 rfl (z_iconst (nx := 35) (z := 4) G (R32c rfl) dX12_of_34 rfl (z_iload_n (nx := 36) (a := 1) G rfl dX12_of_35 rfl (z_imul (nx := 37) G dX12_of_36 rfl (z_iadd (nx := 38) G dX12_of_37 rfl (z_iload_n (nx := 39) (a := 2) G rfl dX12_of_38 rfl (z_iadd (nx := 40) G dX12_of_39 rfl ?_))))))))
      obtain ⟨hb, h⟩ := h
      refine z_iald (nx := 41) G (sh_12_2 _ hp_v0) hb.1 hb.2 dX12_of_40 rfl ?_
      refine z_goto (tgt := 45) G dX12_of_41 (by decide) ?_
      exact b_ireturn X hB dX12_of_45 h
theorem NM_X12_of {v0 : Int} {v1 : Int} {v2 : Int} {K : am_KK} {m : am_M} (hp_v0 : am_ob v0 12) (h : M_X12_of v0 v1 v2 K m) : N_X12_of [v0, v1, v2] K m := ⟨hp_v0, h⟩
theorem SS_X12_of : am_Snd yX12_of cX12_of 3 (some .int) 0 2 (am_L [2, 0, 0] 0 N_X12_of) := by
  refine am_SB (by decide +kernel) (Nat.le_of_ble_eq_true rfl) (fun F zs as K m X ht hB hM => ?_)
  obtain ⟨v0, zs, as, rfl, rfl, hz0, ht⟩ := am_inv ht
  obtain ⟨v1, zs, as, rfl, rfl, hz1, ht⟩ := am_inv ht
  obtain ⟨v2, zs, as, rfl, rfl, hz2, ht⟩ := am_inv ht
  obtain ⟨rfl, rfl⟩ := am_inv0 ht
  obtain ⟨hp_v0, hM⟩ := hM
  exact S_X12_of X hp_v0 hB hM
set_option maxRecDepth 20000 in
set_option maxHeartbeats 4000000 in
theorem S_X12_clash_J1 {F : am_F} {K : am_KK} {v0 : Int} {m : am_M} (X : am_Cx F cX12_clash RX12 (some .int) 3 0 K) (hp_v0 : am_ob v0 12) (hB : am_Bt m) (h : M_X12_clash_J1 v0 K m) : am_Z F 28 [] [(2, v0), (9, 0), (9, 0), (9, 0), (9, 0)] m 200 := by
  have G := X.G
  unfold M_X12_clash_J1 at h
  refine z_aload_n (nx := 29) (a := 0) G rfl (Or.inl rfl) dX12_clash_28 rfl (z_iconst (nx := 30) (z := (-1)) G (R32c rfl) dX12_clash_29 rfl ?_)
  refine b_callV0 (nx := 33) (zs := [v0, (-1)]) (as := [(0, (-1))]) X hB (by decide) rfl hp_v0 SS_X12_refuses (am_ta (am_ti am_tn)) (Nat.le_of_ble_eq_true rfl) (Nat.le_of_ble_eq_true rfl) ml_RX12_127 iw_X12_refuses vw_X12_refuses cw_X12_refuses nw_RX12 pp_X12_refuses (Nat.le_of_ble_eq_true rfl) dX12_clash_30 rfl (NM_X12_refuses hp_v0 h) (fun r_1 m_2 h hB => ?_)
  exact b_ireturn X hB dX12_clash_33 h
set_option maxRecDepth 20000 in
set_option maxHeartbeats 4000000 in
theorem S_X12_clash {F : am_F} {K : am_KK} {v0 : Int} {v1 : Int} {v2 : Int} {v3 : Int} {m : am_M} (X : am_Cx F cX12_clash RX12 (some .int) 3 0 K) (hp_v0 : am_ob v0 12) (hB : am_Bt m) (h : M_X12_clash v0 v1 v2 v3 K m) : am_Z F 0 [] [(2, v0), (0, v1), (0, v2), (0, v3), (9, 0)] m 200 := by
  have G := X.G
  unfold M_X12_clash at h
  refine z_iload_n (nx := 1) (a := 1) G rfl dX12_clash_0 rfl ?_
  refine b_callS5 (nx := 4) (zs := [v1]) (as := [(0, v1)]) X hB SS_X12_isThing (am_ti am_tn) (Nat.le_of_ble_eq_true rfl) (Nat.le_of_ble_eq_true rfl) ml_RX12_148 sw_X12_isThing (am_plainC 12 (by decide)) cw_X12_isThing nw_RX12 pp_X12_isThing (Nat.le_of_ble_eq_true rfl) dX12_clash_1 rfl (NM_X12_isThing h) (fun r_3 m_4 h h01_5 hB => ?_)
  refine z_if_eq (nx := 7) (tgt := 28) G dX12_clash_4 (by decide) rfl (fun c => ?_) (fun c => ?_)
  · have h := h.1 c
    exact b_fewer (loc2 := [(2, v0), (9, 0), (9, 0), (9, 0), (9, 0)]) (am_lk (am_lf (am_lf (am_lf (am_lk am_ln))))) (S_X12_clash_J1 X hp_v0 hB h)
  · have h := h.2 c
    refine z_iload_n (nx := 8) (a := 2) G rfl dX12_clash_7 rfl ?_
    refine b_callS5 (nx := 11) (zs := [v2]) (as := [(0, v2)]) X hB SS_X12_isThing (am_ti am_tn) (Nat.le_of_ble_eq_true rfl) (Nat.le_of_ble_eq_true rfl) ml_RX12_148 sw_X12_isThing (am_plainC 12 (by decide)) cw_X12_isThing nw_RX12 pp_X12_isThing (Nat.le_of_ble_eq_true rfl) dX12_clash_8 rfl (NM_X12_isThing h) (fun r_6 m_7 h h01_8 hB => ?_)
    refine z_if_eq (nx := 14) (tgt := 28) G dX12_clash_11 (by decide) rfl (fun c => ?_) (fun c => ?_)
    · have h := h.1 c
      exact b_fewer (loc2 := [(2, v0), (9, 0), (9, 0), (9, 0), (9, 0)]) (am_lk (am_lf (am_lf (am_lf (am_lk am_ln))))) (S_X12_clash_J1 X hp_v0 hB h)
    · have h := h.2 c
      refine z_iload_n (nx := 15) (a := 1) G rfl dX12_clash_14 rfl (z_iload_n (nx := 16) (a := 2) G rfl dX12_clash_15 rfl ?_)
      refine z_icmp_eq (nx := 19) (tgt := 28) G dX12_clash_16 (by decide) rfl (fun c => ?_) (fun c => ?_)
      · have h := h.1 c
        exact b_fewer (loc2 := [(2, v0), (9, 0), (9, 0), (9, 0), (9, 0)]) (am_lk (am_lf (am_lf (am_lf (am_lk am_ln))))) (S_X12_clash_J1 X hp_v0 hB h)
      · have h := h.2 c
        refine z_iload_n (nx := 20) (a := 3) G rfl dX12_clash_19 rfl (z_iconst (nx := 21) (z := 0) G (R32c rfl) dX12_clash_20 rfl (z_iconst (nx := 22) (z := 1) G (R32c rfl) dX12_clash_21 rfl ?_))
        refine b_callS5 (nx := 25) (zs := [v3, 0, 1]) (as := [(0, v3), (0, 0), (0, 1)]) X hB SS_X12_lies (am_ti (am_ti (am_ti am_tn))) (Nat.le_of_ble_eq_true rfl) (Nat.le_of_ble_eq_true rfl) ml_RX12_123 sw_X12_lies (am_plainC 12 (by decide)) cw_X12_lies nw_RX12 pp_X12_lies (Nat.le_of_ble_eq_true rfl) dX12_clash_22 rfl (NM_X12_lies h) (fun r_9 m_10 h h01_11 hB => ?_)
        refine z_if_ne (nx := 28) (tgt := 34) G dX12_clash_25 (by decide) rfl (fun c => ?_) (fun c => ?_)
        · have h := h.1 c
          refine z_aload_n (nx := 35) (a := 0) G rfl (Or.inl rfl) dX12_clash_34 rfl (b_getA (nx := 38) (k0 := 2) G hB fl_RX12_24 (Nat.le_of_ble_eq_true rfl) (Nat.le_of_ble_eq_true rfl) rfl hp_v0 dX12_clash_35 rfl (z_sipush (nx := 41) (z := 244) G (R32c rfl) rfl dX12_clash_38 rfl (z_bipush (nx := 43) (z := 8) G (R32c rfl) rfl dX12_clash_41 rfl (z_iload_n (nx := 44) (a := 1) G rfl dX12_clash_43 rfl (z_imul (nx := 45) G dX12_clash_44 rfl (z_iadd (nx := 46) G dX12_clash_45 rfl (z_iload_n (nx := 47) (a := 2) G rfl dX12_clash_46 rfl (z_iadd (nx := 48) G dX12_clash_47 rfl ?_))))))))
          obtain ⟨hb, h⟩ := h
          refine z_iald (nx := 49) G (sh_12_2 _ hp_v0) hb.1 hb.2 dX12_clash_48 rfl ?_
          refine b_store (nx := 51) (a := 4) (loc2 := fun v4_12 => [(2, v0), (0, v1), (0, v2), (0, v3), (0, v4_12)]) G (fun _ => rfl) (Nat.le_of_ble_eq_true rfl) (am_pl1 rfl (fun h => nomatch h)) dX12_clash_49 rfl (fun v4_12 e_v4_12 => ?_)
          have h := h v4_12 e_v4_12
          refine z_aload_n (nx := 52) (a := 0) G rfl (Or.inl rfl) dX12_clash_51 rfl (b_getA (nx := 55) (k0 := 2) G hB fl_RX12_24 (Nat.le_of_ble_eq_true rfl) (Nat.le_of_ble_eq_true rfl) rfl hp_v0 dX12_clash_52 rfl (z_sipush (nx := 58) (z := 244) G (R32c rfl) rfl dX12_clash_55 rfl (z_bipush (nx := 60) (z := 8) G (R32c rfl) rfl dX12_clash_58 rfl (z_iload_n (nx := 61) (a := 1) G rfl dX12_clash_60 rfl (z_imul (nx := 62) G dX12_clash_61 rfl (z_iadd (nx := 63) G dX12_clash_62 rfl (z_iload_n (nx := 64) (a := 2) G rfl dX12_clash_63 rfl (z_iadd (nx := 65) G dX12_clash_64 rfl (z_iload_n (nx := 66) (a := 3) G rfl dX12_clash_65 rfl ?_)))))))))
          obtain ⟨hb, h⟩ := h
          refine b_iast (nx := 67) G hB (sh_12_2 _ hp_v0) hb.1 hb.2 dX12_clash_66 rfl (fun m_13 e_m_13 hB => ?_)
          have h := h m_13 e_m_13
          refine z_aload_n (nx := 68) (a := 0) G rfl (Or.inl rfl) dX12_clash_67 rfl (b_getA (nx := 71) (k0 := 2) G hB fl_RX12_24 (Nat.le_of_ble_eq_true rfl) (Nat.le_of_ble_eq_true rfl) rfl hp_v0 dX12_clash_68 rfl (z_sipush (nx := 74) (z := 244) G (R32c rfl) rfl dX12_clash_71 rfl (z_bipush (nx := 76) (z := 8) G (R32c rfl) rfl dX12_clash_74 rfl (z_iload_n (nx := 77) (a := 2) G rfl dX12_clash_76 rfl (z_imul (nx := 78) G dX12_clash_77 rfl (z_iadd (nx := 79) G dX12_clash_78 rfl (z_iload_n (nx := 80) (a := 1) G rfl dX12_clash_79 rfl (z_iadd (nx := 81) G dX12_clash_80 rfl (z_iload_n (nx := 82) (a := 3) G rfl dX12_clash_81 rfl ?_)))))))))
          obtain ⟨hb, h⟩ := h
          refine b_iast (nx := 83) G hB (sh_12_2 _ hp_v0) hb.1 hb.2 dX12_clash_82 rfl (fun m_14 e_m_14 hB => ?_)
          have h := h m_14 e_m_14
          refine z_aload_n (nx := 84) (a := 0) G rfl (Or.inl rfl) dX12_clash_83 rfl (z_iload (nx := 86) (a := 4) G rfl dX12_clash_84 rfl ?_)
          refine b_callV0 (nx := 89) (zs := [v0, v4_12]) (as := [(0, v4_12)]) X hB (by decide) rfl hp_v0 SS_X12_good (am_ta (am_ti am_tn)) (Nat.le_of_ble_eq_true rfl) (Nat.le_of_ble_eq_true rfl) ml_RX12_14 iw_X12_good vw_X12_good cw_X12_good nw_RX12 pp_X12_good (Nat.le_of_ble_eq_true rfl) dX12_clash_86 rfl (NM_X12_good hp_v0 h) (fun r_15 m_16 h hB => ?_)
          exact b_ireturn X hB dX12_clash_89 h
        · have h := h.2 c
          exact b_fewer (loc2 := [(2, v0), (9, 0), (9, 0), (9, 0), (9, 0)]) (am_lk (am_lf (am_lf (am_lf (am_lk am_ln))))) (S_X12_clash_J1 X hp_v0 hB h)
theorem NM_X12_clash {v0 : Int} {v1 : Int} {v2 : Int} {v3 : Int} {K : am_KK} {m : am_M} (hp_v0 : am_ob v0 12) (h : M_X12_clash v0 v1 v2 v3 K m) : N_X12_clash [v0, v1, v2, v3] K m := ⟨hp_v0, h⟩
theorem SS_X12_clash : am_Snd yX12_clash cX12_clash 5 (some .int) 0 3 (am_L [2, 0, 0, 0] 0 N_X12_clash) := by
  refine am_SB (by decide +kernel) (Nat.le_of_ble_eq_true rfl) (fun F zs as K m X ht hB hM => ?_)
  obtain ⟨v0, zs, as, rfl, rfl, hz0, ht⟩ := am_inv ht
  obtain ⟨v1, zs, as, rfl, rfl, hz1, ht⟩ := am_inv ht
  obtain ⟨v2, zs, as, rfl, rfl, hz2, ht⟩ := am_inv ht
  obtain ⟨v3, zs, as, rfl, rfl, hz3, ht⟩ := am_inv ht
  obtain ⟨rfl, rfl⟩ := am_inv0 ht
  obtain ⟨hp_v0, hM⟩ := hM
  exact S_X12_clash X hp_v0 hB hM
set_option maxRecDepth 20000 in
set_option maxHeartbeats 4000000 in
theorem S_X12_often_J1 {F : am_F} {K : am_KK} {v0 : Int} {m : am_M} (X : am_Cx F cX12_often RX12 (some .int) 3 0 K) (hp_v0 : am_ob v0 12) (hB : am_Bt m) (h : M_X12_often_J1 v0 K m) : am_Z F 17 [] [(2, v0), (9, 0), (9, 0), (9, 0)] m 200 := by
  have G := X.G
  unfold M_X12_often_J1 at h
  refine z_aload_n (nx := 18) (a := 0) G rfl (Or.inl rfl) dX12_often_17 rfl (z_iconst (nx := 19) (z := (-1)) G (R32c rfl) dX12_often_18 rfl ?_)
  refine b_callV0 (nx := 22) (zs := [v0, (-1)]) (as := [(0, (-1))]) X hB (by decide) rfl hp_v0 SS_X12_refuses (am_ta (am_ti am_tn)) (Nat.le_of_ble_eq_true rfl) (Nat.le_of_ble_eq_true rfl) ml_RX12_127 iw_X12_refuses vw_X12_refuses cw_X12_refuses nw_RX12 pp_X12_refuses (Nat.le_of_ble_eq_true rfl) dX12_often_19 rfl (NM_X12_refuses hp_v0 h) (fun r_1 m_2 h hB => ?_)
  exact b_ireturn X hB dX12_often_22 h
set_option maxRecDepth 20000 in
set_option maxHeartbeats 4000000 in
theorem S_X12_often {F : am_F} {K : am_KK} {v0 : Int} {v1 : Int} {v2 : Int} {m : am_M} (X : am_Cx F cX12_often RX12 (some .int) 3 0 K) (hp_v0 : am_ob v0 12) (hB : am_Bt m) (h : M_X12_often v0 v1 v2 K m) : am_Z F 0 [] [(2, v0), (0, v1), (0, v2), (9, 0)] m 200 := by
  have G := X.G
  unfold M_X12_often at h
  refine z_iload_n (nx := 1) (a := 1) G rfl dX12_often_0 rfl ?_
  refine b_callS5 (nx := 4) (zs := [v1]) (as := [(0, v1)]) X hB SS_X12_isThing (am_ti am_tn) (Nat.le_of_ble_eq_true rfl) (Nat.le_of_ble_eq_true rfl) ml_RX12_148 sw_X12_isThing (am_plainC 12 (by decide)) cw_X12_isThing nw_RX12 pp_X12_isThing (Nat.le_of_ble_eq_true rfl) dX12_often_1 rfl (NM_X12_isThing h) (fun r_3 m_4 h h01_5 hB => ?_)
  refine z_if_eq (nx := 7) (tgt := 17) G dX12_often_4 (by decide) rfl (fun c => ?_) (fun c => ?_)
  · have h := h.1 c
    exact b_fewer (loc2 := [(2, v0), (9, 0), (9, 0), (9, 0)]) (am_lk (am_lf (am_lf (am_lk am_ln)))) (S_X12_often_J1 X hp_v0 hB h)
  · have h := h.2 c
    refine z_iload_n (nx := 8) (a := 2) G rfl dX12_often_7 rfl (z_iconst (nx := 9) (z := 0) G (R32c rfl) dX12_often_8 rfl (z_bipush (nx := 11) (z := 99) G (R32c rfl) rfl dX12_often_9 rfl ?_))
    refine b_callS5 (nx := 14) (zs := [v2, 0, 99]) (as := [(0, v2), (0, 0), (0, 99)]) X hB SS_X12_lies (am_ti (am_ti (am_ti am_tn))) (Nat.le_of_ble_eq_true rfl) (Nat.le_of_ble_eq_true rfl) ml_RX12_123 sw_X12_lies (am_plainC 12 (by decide)) cw_X12_lies nw_RX12 pp_X12_lies (Nat.le_of_ble_eq_true rfl) dX12_often_11 rfl (NM_X12_lies h) (fun r_6 m_7 h h01_8 hB => ?_)
    refine z_if_ne (nx := 17) (tgt := 23) G dX12_often_14 (by decide) rfl (fun c => ?_) (fun c => ?_)
    · have h := h.1 c
      refine z_aload_n (nx := 24) (a := 0) G rfl (Or.inl rfl) dX12_often_23 rfl (b_getA (nx := 27) (k0 := 2) G hB fl_RX12_24 (Nat.le_of_ble_eq_true rfl) (Nat.le_of_ble_eq_true rfl) rfl hp_v0 dX12_often_24 rfl (z_sipush (nx := 30) (z := 308) G (R32c rfl) rfl dX12_often_27 rfl (z_iload_n (nx := 31) (a := 1) G rfl dX12_often_30 rfl (z_iadd (nx := 32) G dX12_often_31 rfl ?_))))
      obtain ⟨hb, h⟩ := h
      refine z_iald (nx := 33) G (sh_12_2 _ hp_v0) hb.1 hb.2 dX12_often_32 rfl ?_
      refine b_store_n (nx := 34) (a := 3) (loc2 := fun v3_9 => [(2, v0), (0, v1), (0, v2), (0, v3_9)]) G (fun _ => rfl) (Nat.le_of_ble_eq_true rfl) (am_pl1 rfl (fun h => nomatch h)) dX12_often_33 rfl (fun v3_9 e_v3_9 => ?_)
      have h := h v3_9 e_v3_9
      refine z_aload_n (nx := 35) (a := 0) G rfl (Or.inl rfl) dX12_often_34 rfl (b_getA (nx := 38) (k0 := 2) G hB fl_RX12_24 (Nat.le_of_ble_eq_true rfl) (Nat.le_of_ble_eq_true rfl) rfl hp_v0 dX12_often_35 rfl (z_sipush (nx := 41) (z := 308) G (R32c rfl) rfl dX12_often_38 rfl (z_iload_n (nx := 42) (a := 1) G rfl dX12_often_41 rfl (z_iadd (nx := 43) G dX12_often_42 rfl (z_iload_n (nx := 44) (a := 2) G rfl dX12_often_43 rfl ?_)))))
      obtain ⟨hb, h⟩ := h
      refine b_iast (nx := 45) G hB (sh_12_2 _ hp_v0) hb.1 hb.2 dX12_often_44 rfl (fun m_10 e_m_10 hB => ?_)
      have h := h m_10 e_m_10
      refine z_aload_n (nx := 46) (a := 0) G rfl (Or.inl rfl) dX12_often_45 rfl (z_iload_n (nx := 47) (a := 3) G rfl dX12_often_46 rfl ?_)
      refine b_callV0 (nx := 50) (zs := [v0, v3_9]) (as := [(0, v3_9)]) X hB (by decide) rfl hp_v0 SS_X12_good (am_ta (am_ti am_tn)) (Nat.le_of_ble_eq_true rfl) (Nat.le_of_ble_eq_true rfl) ml_RX12_14 iw_X12_good vw_X12_good cw_X12_good nw_RX12 pp_X12_good (Nat.le_of_ble_eq_true rfl) dX12_often_47 rfl (NM_X12_good hp_v0 h) (fun r_11 m_12 h hB => ?_)
      exact b_ireturn X hB dX12_often_50 h
    · have h := h.2 c
      exact b_fewer (loc2 := [(2, v0), (9, 0), (9, 0), (9, 0)]) (am_lk (am_lf (am_lf (am_lk am_ln)))) (S_X12_often_J1 X hp_v0 hB h)
theorem NM_X12_often {v0 : Int} {v1 : Int} {v2 : Int} {K : am_KK} {m : am_M} (hp_v0 : am_ob v0 12) (h : M_X12_often v0 v1 v2 K m) : N_X12_often [v0, v1, v2] K m := ⟨hp_v0, h⟩
theorem SS_X12_often : am_Snd yX12_often cX12_often 4 (some .int) 0 3 (am_L [2, 0, 0] 0 N_X12_often) := by
  refine am_SB (by decide +kernel) (Nat.le_of_ble_eq_true rfl) (fun F zs as K m X ht hB hM => ?_)
  obtain ⟨v0, zs, as, rfl, rfl, hz0, ht⟩ := am_inv ht
  obtain ⟨v1, zs, as, rfl, rfl, hz1, ht⟩ := am_inv ht
  obtain ⟨v2, zs, as, rfl, rfl, hz2, ht⟩ := am_inv ht
  obtain ⟨rfl, rfl⟩ := am_inv0 ht
  obtain ⟨hp_v0, hM⟩ := hM
  exact S_X12_often X hp_v0 hB hM
set_option maxRecDepth 20000 in
set_option maxHeartbeats 4000000 in
theorem S_X12_person {F : am_F} {K : am_KK} {v0 : Int} {v1 : Int} {m : am_M} (X : am_Cx F cX12_person RX12 (some .int) 2 0 K) (hp_v0 : am_ob v0 12) (hB : am_Bt m) (h : M_X12_person v0 v1 K m) : am_Z F 0 [] [(2, v0), (0, v1), (9, 0)] m 200 := by
  have G := X.G
  unfold M_X12_person at h
  refine z_iload_n (nx := 1) (a := 1) G rfl dX12_person_0 rfl (z_iconst (nx := 2) (z := 0) G (R32c rfl) dX12_person_1 rfl (z_bipush (nx := 4) (z := 99) G (R32c rfl) rfl dX12_person_2 rfl ?_))
  refine b_callS5 (nx := 7) (zs := [v1, 0, 99]) (as := [(0, v1), (0, 0), (0, 99)]) X hB SS_X12_lies (am_ti (am_ti (am_ti am_tn))) (Nat.le_of_ble_eq_true rfl) (Nat.le_of_ble_eq_true rfl) ml_RX12_123 sw_X12_lies (am_plainC 12 (by decide)) cw_X12_lies nw_RX12 pp_X12_lies (Nat.le_of_ble_eq_true rfl) dX12_person_4 rfl (NM_X12_lies h) (fun r_1 m_2 h h01_3 hB => ?_)
  refine z_if_ne (nx := 10) (tgt := 16) G dX12_person_7 (by decide) rfl (fun c => ?_) (fun c => ?_)
  · have h := h.1 c
    refine z_aload_n (nx := 17) (a := 0) G rfl (Or.inl rfl) dX12_person_16 rfl (b_getA (nx := 20) (k0 := 2) G hB fl_RX12_24 (Nat.le_of_ble_eq_true rfl) (Nat.le_of_ble_eq_true rfl) rfl hp_v0 dX12_person_17 rfl (z_sipush (nx := 23) (z := 365) G (R32c rfl) rfl dX12_person_20 rfl ?_))
    obtain ⟨hb, h⟩ := h
    refine z_iald (nx := 24) G (sh_12_2 _ hp_v0) hb.1 hb.2 dX12_person_23 rfl ?_
    refine b_store_n (nx := 25) (a := 2) (loc2 := fun v2_4 => [(2, v0), (0, v1), (0, v2_4)]) G (fun _ => rfl) (Nat.le_of_ble_eq_true rfl) (am_pl1 rfl (fun h => nomatch h)) dX12_person_24 rfl (fun v2_4 e_v2_4 => ?_)
    have h := h v2_4 e_v2_4
    refine z_iload_n (nx := 26) (a := 2) G rfl dX12_person_25 rfl (z_bipush (nx := 28) (z := 6) G (R32c rfl) rfl dX12_person_26 rfl ?_)
    refine z_icmp_ne (nx := 31) (tgt := 38) G dX12_person_28 (by decide) rfl (fun c => ?_) (fun c => ?_)
    · have h := h.1 c
      refine z_aload_n (nx := 39) (a := 0) G rfl (Or.inl rfl) dX12_person_38 rfl (b_getA (nx := 42) (k0 := 2) G hB fl_RX12_24 (Nat.le_of_ble_eq_true rfl) (Nat.le_of_ble_eq_true rfl) rfl hp_v0 dX12_person_39 rfl (z_sipush (nx := 45) (z := 316) G (R32c rfl) rfl dX12_person_42 rfl (z_iload_n (nx := 46) (a := 2) G rfl dX12_person_45 rfl (z_iadd (nx := 47) G dX12_person_46 rfl (z_iload_n (nx := 48) (a := 1) G rfl dX12_person_47 rfl ?_)))))
      obtain ⟨hb, h⟩ := h
      refine b_iast (nx := 49) G hB (sh_12_2 _ hp_v0) hb.1 hb.2 dX12_person_48 rfl (fun m_5 e_m_5 hB => ?_)
      have h := h m_5 e_m_5
      refine z_aload_n (nx := 50) (a := 0) G rfl (Or.inl rfl) dX12_person_49 rfl (b_getA (nx := 53) (k0 := 2) G hB fl_RX12_24 (Nat.le_of_ble_eq_true rfl) (Nat.le_of_ble_eq_true rfl) rfl hp_v0 dX12_person_50 rfl (z_sipush (nx := 56) (z := 365) G (R32c rfl) rfl dX12_person_53 rfl (z_dup2 (nx := 57) G (fun h => nomatch h) (fun h => nomatch h) dX12_person_56 rfl ?_)))
      obtain ⟨hb, h⟩ := h
      refine z_iald (nx := 58) G (sh_12_2 _ hp_v0) hb.1 hb.2 dX12_person_57 rfl ?_
      refine z_iconst (nx := 59) (z := 1) G (R32c rfl) dX12_person_58 rfl (z_iadd (nx := 60) G dX12_person_59 rfl ?_)
      obtain ⟨hb, h⟩ := h
      refine b_iast (nx := 61) G hB (sh_12_2 _ hp_v0) hb.1 hb.2 dX12_person_60 rfl (fun m_6 e_m_6 hB => ?_)
      have h := h m_6 e_m_6
      refine z_aload_n (nx := 62) (a := 0) G rfl (Or.inl rfl) dX12_person_61 rfl (z_iload_n (nx := 63) (a := 2) G rfl dX12_person_62 rfl ?_)
      refine b_callV0 (nx := 66) (zs := [v0, v2_4]) (as := [(0, v2_4)]) X hB (by decide) rfl hp_v0 SS_X12_good (am_ta (am_ti am_tn)) (Nat.le_of_ble_eq_true rfl) (Nat.le_of_ble_eq_true rfl) ml_RX12_14 iw_X12_good vw_X12_good cw_X12_good nw_RX12 pp_X12_good (Nat.le_of_ble_eq_true rfl) dX12_person_63 rfl (NM_X12_good hp_v0 h) (fun r_7 m_8 h hB => ?_)
      exact b_ireturn X hB dX12_person_66 h
    · have h := h.2 c
      refine z_aload_n (nx := 32) (a := 0) G rfl (Or.inl rfl) dX12_person_31 rfl (z_bipush (nx := 34) (z := (-5)) G (R32c rfl) rfl dX12_person_32 rfl ?_)
      refine b_callV0 (nx := 37) (zs := [v0, (-5)]) (as := [(0, (-5))]) X hB (by decide) rfl hp_v0 SS_X12_refuses (am_ta (am_ti am_tn)) (Nat.le_of_ble_eq_true rfl) (Nat.le_of_ble_eq_true rfl) ml_RX12_127 iw_X12_refuses vw_X12_refuses cw_X12_refuses nw_RX12 pp_X12_refuses (Nat.le_of_ble_eq_true rfl) dX12_person_34 rfl (NM_X12_refuses hp_v0 h) (fun r_9 m_10 h hB => ?_)
      exact b_ireturn X hB dX12_person_37 h
  · have h := h.2 c
    refine z_aload_n (nx := 11) (a := 0) G rfl (Or.inl rfl) dX12_person_10 rfl (z_iconst (nx := 12) (z := (-1)) G (R32c rfl) dX12_person_11 rfl ?_)
    refine b_callV0 (nx := 15) (zs := [v0, (-1)]) (as := [(0, (-1))]) X hB (by decide) rfl hp_v0 SS_X12_refuses (am_ta (am_ti am_tn)) (Nat.le_of_ble_eq_true rfl) (Nat.le_of_ble_eq_true rfl) ml_RX12_127 iw_X12_refuses vw_X12_refuses cw_X12_refuses nw_RX12 pp_X12_refuses (Nat.le_of_ble_eq_true rfl) dX12_person_12 rfl (NM_X12_refuses hp_v0 h) (fun r_11 m_12 h hB => ?_)
    exact b_ireturn X hB dX12_person_15 h
theorem NM_X12_person {v0 : Int} {v1 : Int} {K : am_KK} {m : am_M} (hp_v0 : am_ob v0 12) (h : M_X12_person v0 v1 K m) : N_X12_person [v0, v1] K m := ⟨hp_v0, h⟩
theorem SS_X12_person : am_Snd yX12_person cX12_person 3 (some .int) 0 2 (am_L [2, 0] 0 N_X12_person) := by
  refine am_SB (by decide +kernel) (Nat.le_of_ble_eq_true rfl) (fun F zs as K m X ht hB hM => ?_)
  obtain ⟨v0, zs, as, rfl, rfl, hz0, ht⟩ := am_inv ht
  obtain ⟨v1, zs, as, rfl, rfl, hz1, ht⟩ := am_inv ht
  obtain ⟨rfl, rfl⟩ := am_inv0 ht
  obtain ⟨hp_v0, hM⟩ := hM
  exact S_X12_person X hp_v0 hB hM
set_option maxRecDepth 20000 in
set_option maxHeartbeats 4000000 in
theorem S_X12_isTerm {F : am_F} {K : am_KK} {v0 : Int} {v1 : Int} {m : am_M} (X : am_Cx F cX12_isTerm RX12 (some .boolean) 2 5 K) (hB : am_Bt m) (h : M_X12_isTerm v0 v1 K m) : am_Z F 0 [] [(0, v0), (0, v1)] m 200 := by
  have G := X.G
  unfold M_X12_isTerm at h
  refine z_iload_n (nx := 1) (a := 0) G rfl dX12_isTerm_0 rfl ?_
  refine z_table G dX12_isTerm_1 (fun i => match i with | 0 => 32 | 1 => 41 | 2 => 48 | _ => 56) 64 (fun i hi => ?_) (by decide) (fun i hi c => ?_) (fun c => ?_)
  · match i, hi with
    | 0, _ => exact ⟨_, rfl, by decide⟩
    | 1, _ => exact ⟨_, rfl, by decide⟩
    | 2, _ => exact ⟨_, rfl, by decide⟩
    | 3, _ => exact ⟨_, rfl, by decide⟩
    | i + 4, hi => exact absurd hi (by omega)
  · match i, hi, c with
    | 0, _, c =>
      have h := h.1 (c.trans (by decide))
      refine z_iload_n (nx := 33) (a := 1) G rfl dX12_isTerm_32 rfl (z_iconst (nx := 34) (z := 0) G (R32c rfl) dX12_isTerm_33 rfl (z_sipush (nx := 37) (z := 999) G (R32c rfl) rfl dX12_isTerm_34 rfl ?_))
      refine b_callS5 (nx := 40) (zs := [v1, 0, 999]) (as := [(0, v1), (0, 0), (0, 999)]) X hB SS_X12_lies (am_ti (am_ti (am_ti am_tn))) (Nat.le_of_ble_eq_true rfl) (Nat.le_of_ble_eq_true rfl) ml_RX12_123 sw_X12_lies (am_plainC 12 (by decide)) cw_X12_lies nw_RX12 pp_X12_lies (Nat.le_of_ble_eq_true rfl) dX12_isTerm_37 rfl (NM_X12_lies h) (fun r_1 m_2 h h01_3 hB => ?_)
      exact b_zreturn X hB h01_3 dX12_isTerm_40 h
    | 1, _, c =>
      have h := h.2.1 (c.trans (by decide))
      refine z_iload_n (nx := 42) (a := 1) G rfl dX12_isTerm_41 rfl (z_iconst (nx := 43) (z := 1) G (R32c rfl) dX12_isTerm_42 rfl (z_iconst (nx := 44) (z := 4) G (R32c rfl) dX12_isTerm_43 rfl ?_))
      refine b_callS5 (nx := 47) (zs := [v1, 1, 4]) (as := [(0, v1), (0, 1), (0, 4)]) X hB SS_X12_lies (am_ti (am_ti (am_ti am_tn))) (Nat.le_of_ble_eq_true rfl) (Nat.le_of_ble_eq_true rfl) ml_RX12_123 sw_X12_lies (am_plainC 12 (by decide)) cw_X12_lies nw_RX12 pp_X12_lies (Nat.le_of_ble_eq_true rfl) dX12_isTerm_44 rfl (NM_X12_lies h) (fun r_4 m_5 h h01_6 hB => ?_)
      exact b_zreturn X hB h01_6 dX12_isTerm_47 h
    | 2, _, c =>
      have h := h.2.2.1 (c.trans (by decide))
      refine z_iload_n (nx := 49) (a := 1) G rfl dX12_isTerm_48 rfl (z_iconst (nx := 50) (z := 0) G (R32c rfl) dX12_isTerm_49 rfl (z_bipush (nx := 52) (z := 30) G (R32c rfl) rfl dX12_isTerm_50 rfl ?_))
      refine b_callS5 (nx := 55) (zs := [v1, 0, 30]) (as := [(0, v1), (0, 0), (0, 30)]) X hB SS_X12_lies (am_ti (am_ti (am_ti am_tn))) (Nat.le_of_ble_eq_true rfl) (Nat.le_of_ble_eq_true rfl) ml_RX12_123 sw_X12_lies (am_plainC 12 (by decide)) cw_X12_lies nw_RX12 pp_X12_lies (Nat.le_of_ble_eq_true rfl) dX12_isTerm_52 rfl (NM_X12_lies h) (fun r_7 m_8 h h01_9 hB => ?_)
      exact b_zreturn X hB h01_9 dX12_isTerm_55 h
    | 3, _, c =>
      have h := h.2.2.2.1 (c.trans (by decide))
      refine z_iload_n (nx := 57) (a := 1) G rfl dX12_isTerm_56 rfl (z_iconst (nx := 58) (z := 0) G (R32c rfl) dX12_isTerm_57 rfl (z_bipush (nx := 60) (z := 9) G (R32c rfl) rfl dX12_isTerm_58 rfl ?_))
      refine b_callS5 (nx := 63) (zs := [v1, 0, 9]) (as := [(0, v1), (0, 0), (0, 9)]) X hB SS_X12_lies (am_ti (am_ti (am_ti am_tn))) (Nat.le_of_ble_eq_true rfl) (Nat.le_of_ble_eq_true rfl) ml_RX12_123 sw_X12_lies (am_plainC 12 (by decide)) cw_X12_lies nw_RX12 pp_X12_lies (Nat.le_of_ble_eq_true rfl) dX12_isTerm_60 rfl (NM_X12_lies h) (fun r_10 m_11 h h01_12 hB => ?_)
      exact b_zreturn X hB h01_12 dX12_isTerm_63 h
    | i + 4, hi, _ => exact absurd hi (by omega)
  · have h := h.2.2.2.2 c
    refine z_iconst (nx := 65) (z := 0) G (R32c rfl) dX12_isTerm_64 rfl ?_
    exact b_zreturn X hB (Or.inl rfl) dX12_isTerm_65 h
theorem NM_X12_isTerm {v0 : Int} {v1 : Int} {K : am_KK} {m : am_M} (h : M_X12_isTerm v0 v1 K m) : N_X12_isTerm [v0, v1] K m := h
theorem SS_X12_isTerm : am_Snd yX12_isTerm cX12_isTerm 2 (some .boolean) 0 2 (am_L [0, 0] 5 N_X12_isTerm) := by
  refine am_SB (by decide +kernel) (Nat.le_of_ble_eq_true rfl) (fun F zs as K m X ht hB hM => ?_)
  obtain ⟨v0, zs, as, rfl, rfl, hz0, ht⟩ := am_inv ht
  obtain ⟨v1, zs, as, rfl, rfl, hz1, ht⟩ := am_inv ht
  obtain ⟨rfl, rfl⟩ := am_inv0 ht
  exact S_X12_isTerm X hB hM
set_option maxRecDepth 20000 in
set_option maxHeartbeats 4000000 in
theorem S_X12_terms_J1 {F : am_F} {K : am_KK} {v0 : Int} {v2 : Int} {s0 : Int} {m : am_M} (X : am_Cx F cX12_terms RX12 (some .int) 3 0 K) (hp_v0 : am_ob v0 12) (hB : am_Bt m) (h : M_X12_terms_J1 v0 v2 s0 K m) : am_Z F 31 [(0, s0)] [(2, v0), (9, 0), (0, v2), (9, 0), (9, 0)] m 200 := by
  have G := X.G
  unfold M_X12_terms_J1 at h
  refine b_storeE_n (nx := 32) (a := 3) (loc2 := [(2, v0), (9, 0), (0, v2), (0, s0), (9, 0)]) G rfl (Nat.le_of_ble_eq_true rfl) (am_pl1 rfl (fun h => nomatch h)) dX12_terms_31 rfl (z_aload_n (nx := 33) (a := 0) G rfl (Or.inl rfl) dX12_terms_32 rfl (b_getA (nx := 36) (k0 := 2) G hB fl_RX12_24 (Nat.le_of_ble_eq_true rfl) (Nat.le_of_ble_eq_true rfl) rfl hp_v0 dX12_terms_33 rfl (z_iload_n (nx := 37) (a := 3) G rfl dX12_terms_36 rfl ?_)))
  obtain ⟨hb, h⟩ := h
  refine z_iald (nx := 38) G (sh_12_2 _ hp_v0) hb.1 hb.2 dX12_terms_37 rfl ?_
  refine b_store (nx := 40) (a := 4) (loc2 := fun v4_1 => [(2, v0), (9, 0), (0, v2), (0, s0), (0, v4_1)]) G (fun _ => rfl) (Nat.le_of_ble_eq_true rfl) (am_pl1 rfl (fun h => nomatch h)) dX12_terms_38 rfl (fun v4_1 e_v4_1 => ?_)
  have h := h v4_1 e_v4_1
  refine z_aload_n (nx := 41) (a := 0) G rfl (Or.inl rfl) dX12_terms_40 rfl (b_getA (nx := 44) (k0 := 2) G hB fl_RX12_24 (Nat.le_of_ble_eq_true rfl) (Nat.le_of_ble_eq_true rfl) rfl hp_v0 dX12_terms_41 rfl (z_iload_n (nx := 45) (a := 3) G rfl dX12_terms_44 rfl (z_iload_n (nx := 46) (a := 2) G rfl dX12_terms_45 rfl ?_)))
  obtain ⟨hb, h⟩ := h
  refine b_iast (nx := 47) G hB (sh_12_2 _ hp_v0) hb.1 hb.2 dX12_terms_46 rfl (fun m_2 e_m_2 hB => ?_)
  have h := h m_2 e_m_2
  refine z_aload_n (nx := 48) (a := 0) G rfl (Or.inl rfl) dX12_terms_47 rfl (z_iload (nx := 50) (a := 4) G rfl dX12_terms_48 rfl ?_)
  refine b_callV0 (nx := 53) (zs := [v0, v4_1]) (as := [(0, v4_1)]) X hB (by decide) rfl hp_v0 SS_X12_settled (am_ta (am_ti am_tn)) (Nat.le_of_ble_eq_true rfl) (Nat.le_of_ble_eq_true rfl) ml_RX12_130 iw_X12_settled vw_X12_settled cw_X12_settled nw_RX12 pp_X12_settled (Nat.le_of_ble_eq_true rfl) dX12_terms_50 rfl (NM_X12_settled hp_v0 h) (fun r_3 m_4 h hB => ?_)
  exact b_ireturn X hB dX12_terms_53 h
set_option maxRecDepth 20000 in
set_option maxHeartbeats 4000000 in
theorem S_X12_terms {F : am_F} {K : am_KK} {v0 : Int} {v1 : Int} {v2 : Int} {m : am_M} (X : am_Cx F cX12_terms RX12 (some .int) 3 0 K) (hp_v0 : am_ob v0 12) (hB : am_Bt m) (h : M_X12_terms v0 v1 v2 K m) : am_Z F 0 [] [(2, v0), (0, v1), (0, v2), (9, 0), (9, 0)] m 200 := by
  have G := X.G
  unfold M_X12_terms at h
  refine z_iload_n (nx := 1) (a := 1) G rfl dX12_terms_0 rfl (z_iload_n (nx := 2) (a := 2) G rfl dX12_terms_1 rfl ?_)
  refine b_callS5 (nx := 5) (zs := [v1, v2]) (as := [(0, v1), (0, v2)]) X hB SS_X12_isTerm (am_ti (am_ti am_tn)) (Nat.le_of_ble_eq_true rfl) (Nat.le_of_ble_eq_true rfl) ml_RX12_157 sw_X12_isTerm (am_plainC 12 (by decide)) cw_X12_isTerm nw_RX12 pp_X12_isTerm (Nat.le_of_ble_eq_true rfl) dX12_terms_2 rfl (NM_X12_isTerm h) (fun r_5 m_6 h h01_7 hB => ?_)
  refine z_if_ne (nx := 8) (tgt := 14) G dX12_terms_5 (by decide) rfl (fun c => ?_) (fun c => ?_)
  · have h := h.1 c
    refine z_iload_n (nx := 15) (a := 1) G rfl dX12_terms_14 rfl ?_
    refine z_if_ne (nx := 18) (tgt := 24) G dX12_terms_15 (by decide) rfl (fun c => ?_) (fun c => ?_)
    · have h := h.1 c
      refine z_sipush (nx := 27) (z := 360) G (R32c rfl) rfl dX12_terms_24 rfl (z_iload_n (nx := 28) (a := 1) G rfl dX12_terms_27 rfl (z_iadd (nx := 29) G dX12_terms_28 rfl (z_iconst (nx := 30) (z := 1) G (R32c rfl) dX12_terms_29 rfl (z_isub (nx := 31) G dX12_terms_30 rfl ?_))))
      exact b_fewer (loc2 := [(2, v0), (9, 0), (0, v2), (9, 0), (9, 0)]) (am_lk (am_lf (am_lk (am_lk (am_lk am_ln))))) (S_X12_terms_J1 X hp_v0 hB h)
    · have h := h.2 c
      refine z_sipush (nx := 21) (z := 169) G (R32c rfl) rfl dX12_terms_18 rfl (z_goto (tgt := 31) G dX12_terms_21 (by decide) ?_)
      exact b_fewer (loc2 := [(2, v0), (9, 0), (0, v2), (9, 0), (9, 0)]) (am_lk (am_lf (am_lk (am_lk (am_lk am_ln))))) (S_X12_terms_J1 X hp_v0 hB h)
  · have h := h.2 c
    refine z_aload_n (nx := 9) (a := 0) G rfl (Or.inl rfl) dX12_terms_8 rfl (z_iconst (nx := 10) (z := (-1)) G (R32c rfl) dX12_terms_9 rfl ?_)
    refine b_callV0 (nx := 13) (zs := [v0, (-1)]) (as := [(0, (-1))]) X hB (by decide) rfl hp_v0 SS_X12_refuses (am_ta (am_ti am_tn)) (Nat.le_of_ble_eq_true rfl) (Nat.le_of_ble_eq_true rfl) ml_RX12_127 iw_X12_refuses vw_X12_refuses cw_X12_refuses nw_RX12 pp_X12_refuses (Nat.le_of_ble_eq_true rfl) dX12_terms_10 rfl (NM_X12_refuses hp_v0 h) (fun r_8 m_9 h hB => ?_)
    exact b_ireturn X hB dX12_terms_13 h
theorem NM_X12_terms {v0 : Int} {v1 : Int} {v2 : Int} {K : am_KK} {m : am_M} (hp_v0 : am_ob v0 12) (h : M_X12_terms v0 v1 v2 K m) : N_X12_terms [v0, v1, v2] K m := ⟨hp_v0, h⟩
theorem SS_X12_terms : am_Snd yX12_terms cX12_terms 5 (some .int) 0 3 (am_L [2, 0, 0] 0 N_X12_terms) := by
  refine am_SB (by decide +kernel) (Nat.le_of_ble_eq_true rfl) (fun F zs as K m X ht hB hM => ?_)
  obtain ⟨v0, zs, as, rfl, rfl, hz0, ht⟩ := am_inv ht
  obtain ⟨v1, zs, as, rfl, rfl, hz1, ht⟩ := am_inv ht
  obtain ⟨v2, zs, as, rfl, rfl, hz2, ht⟩ := am_inv ht
  obtain ⟨rfl, rfl⟩ := am_inv0 ht
  obtain ⟨hp_v0, hM⟩ := hM
  exact S_X12_terms X hp_v0 hB hM
set_option maxRecDepth 20000 in
set_option maxHeartbeats 4000000 in
theorem S_X12_says {F : am_F} {K : am_KK} {v0 : Int} {v1 : Int} {v2 : Int} {v3 : Int} {v4 : Int} {m : am_M} (X : am_Cx F cX12_says RX12 none 2 9 K) (hp_v0 : am_ob v0 12) (hB : am_Bt m) (h : M_X12_says v0 v1 v2 v3 v4 K m) : am_Z F 0 [] [(2, v0), (0, v1), (0, v2), (0, v3), (0, v4), (9, 0)] m 200 := by
  have G := X.G
  unfold M_X12_says at h
  refine z_iconst (nx := 1) (z := 0) G (R32c rfl) dX12_says_0 rfl (z_bipush (nx := 3) (z := 7) G (R32c rfl) rfl dX12_says_1 rfl (z_aload_n (nx := 4) (a := 0) G rfl (Or.inl rfl) dX12_says_3 rfl ?_))
  refine b_callV0 (nx := 7) (zs := [v0]) (as := []) X hB (by decide) rfl hp_v0 SS_X12_prayers (am_ta am_tn) (Nat.le_of_ble_eq_true rfl) (Nat.le_of_ble_eq_true rfl) ml_RX12_133 iw_X12_prayers vw_X12_prayers cw_X12_prayers nw_RX12 pp_X12_prayers (Nat.le_of_ble_eq_true rfl) dX12_says_4 rfl (NM_X12_prayers hp_v0 h) (fun r_1 m_2 h hB => ?_)
  refine z_imul (nx := 8) G dX12_says_7 rfl (z_iadd (nx := 9) G dX12_says_8 rfl ?_)
  refine b_store (nx := 11) (a := 5) (loc2 := fun v5_3 => [(2, v0), (0, v1), (0, v2), (0, v3), (0, v4), (0, v5_3)]) G (fun _ => rfl) (Nat.le_of_ble_eq_true rfl) (am_pl1 rfl (fun h => nomatch h)) dX12_says_9 rfl (fun v5_3 e_v5_3 => ?_)
  have h := h v5_3 e_v5_3
  refine z_aload_n (nx := 12) (a := 0) G rfl (Or.inl rfl) dX12_says_11 rfl (b_getA (nx := 15) (k0 := 2) G hB fl_RX12_24 (Nat.le_of_ble_eq_true rfl) (Nat.le_of_ble_eq_true rfl) rfl hp_v0 dX12_says_12 rfl (z_iload (nx := 17) (a := 5) G rfl dX12_says_15 rfl (z_iconst (nx := 18) (z := 0) G (R32c rfl) dX12_says_17 rfl (z_iadd (nx := 19) G dX12_says_18 rfl (z_iload_n (nx := 20) (a := 1) G rfl dX12_says_19 rfl ?_)))))
  obtain ⟨hb, h⟩ := h
  refine b_iast (nx := 21) G hB (sh_12_2 _ hp_v0) hb.1 hb.2 dX12_says_20 rfl (fun m_4 e_m_4 hB => ?_)
  have h := h m_4 e_m_4
  refine z_aload_n (nx := 22) (a := 0) G rfl (Or.inl rfl) dX12_says_21 rfl (b_getA (nx := 25) (k0 := 2) G hB fl_RX12_24 (Nat.le_of_ble_eq_true rfl) (Nat.le_of_ble_eq_true rfl) rfl hp_v0 dX12_says_22 rfl (z_iload (nx := 27) (a := 5) G rfl dX12_says_25 rfl (z_iconst (nx := 28) (z := 1) G (R32c rfl) dX12_says_27 rfl (z_iadd (nx := 29) G dX12_says_28 rfl (z_iload_n (nx := 30) (a := 2) G rfl dX12_says_29 rfl ?_)))))
  obtain ⟨hb, h⟩ := h
  refine b_iast (nx := 31) G hB (sh_12_2 _ hp_v0) hb.1 hb.2 dX12_says_30 rfl (fun m_5 e_m_5 hB => ?_)
  have h := h m_5 e_m_5
  refine z_aload_n (nx := 32) (a := 0) G rfl (Or.inl rfl) dX12_says_31 rfl (b_getA (nx := 35) (k0 := 2) G hB fl_RX12_24 (Nat.le_of_ble_eq_true rfl) (Nat.le_of_ble_eq_true rfl) rfl hp_v0 dX12_says_32 rfl (z_iload (nx := 37) (a := 5) G rfl dX12_says_35 rfl (z_iconst (nx := 38) (z := 2) G (R32c rfl) dX12_says_37 rfl (z_iadd (nx := 39) G dX12_says_38 rfl (z_iload_n (nx := 40) (a := 3) G rfl dX12_says_39 rfl ?_)))))
  obtain ⟨hb, h⟩ := h
  refine b_iast (nx := 41) G hB (sh_12_2 _ hp_v0) hb.1 hb.2 dX12_says_40 rfl (fun m_6 e_m_6 hB => ?_)
  have h := h m_6 e_m_6
  refine z_aload_n (nx := 42) (a := 0) G rfl (Or.inl rfl) dX12_says_41 rfl (b_getA (nx := 45) (k0 := 2) G hB fl_RX12_24 (Nat.le_of_ble_eq_true rfl) (Nat.le_of_ble_eq_true rfl) rfl hp_v0 dX12_says_42 rfl (z_iload (nx := 47) (a := 5) G rfl dX12_says_45 rfl (z_iconst (nx := 48) (z := 3) G (R32c rfl) dX12_says_47 rfl (z_iadd (nx := 49) G dX12_says_48 rfl (z_iload (nx := 51) (a := 4) G rfl dX12_says_49 rfl ?_)))))
  obtain ⟨hb, h⟩ := h
  refine b_iast (nx := 52) G hB (sh_12_2 _ hp_v0) hb.1 hb.2 dX12_says_51 rfl (fun m_7 e_m_7 hB => ?_)
  have h := h m_7 e_m_7
  refine z_aload_n (nx := 53) (a := 0) G rfl (Or.inl rfl) dX12_says_52 rfl (b_getA (nx := 56) (k0 := 2) G hB fl_RX12_24 (Nat.le_of_ble_eq_true rfl) (Nat.le_of_ble_eq_true rfl) rfl hp_v0 dX12_says_53 rfl (z_iload (nx := 58) (a := 5) G rfl dX12_says_56 rfl (z_iconst (nx := 59) (z := 4) G (R32c rfl) dX12_says_58 rfl (z_iadd (nx := 60) G dX12_says_59 rfl (z_aload_n (nx := 61) (a := 0) G rfl (Or.inl rfl) dX12_says_60 rfl (b_getA (nx := 64) (k0 := 2) G hB fl_RX12_24 (Nat.le_of_ble_eq_true rfl) (Nat.le_of_ble_eq_true rfl) rfl hp_v0 dX12_says_61 rfl (z_sipush (nx := 67) (z := 169) G (R32c rfl) rfl dX12_says_64 rfl ?_)))))))
  obtain ⟨hb, h⟩ := h
  refine z_iald (nx := 68) G (sh_12_2 _ hp_v0) hb.1 hb.2 dX12_says_67 rfl ?_
  obtain ⟨hb, h⟩ := h
  refine b_iast (nx := 69) G hB (sh_12_2 _ hp_v0) hb.1 hb.2 dX12_says_68 rfl (fun m_8 e_m_8 hB => ?_)
  have h := h m_8 e_m_8
  refine z_aload_n (nx := 70) (a := 0) G rfl (Or.inl rfl) dX12_says_69 rfl (b_getA (nx := 73) (k0 := 2) G hB fl_RX12_24 (Nat.le_of_ble_eq_true rfl) (Nat.le_of_ble_eq_true rfl) rfl hp_v0 dX12_says_70 rfl (z_iload (nx := 75) (a := 5) G rfl dX12_says_73 rfl (z_iconst (nx := 76) (z := 5) G (R32c rfl) dX12_says_75 rfl (z_iadd (nx := 77) G dX12_says_76 rfl (z_iconst (nx := 78) (z := 0) G (R32c rfl) dX12_says_77 rfl ?_)))))
  obtain ⟨hb, h⟩ := h
  refine b_iast (nx := 79) G hB (sh_12_2 _ hp_v0) hb.1 hb.2 dX12_says_78 rfl (fun m_9 e_m_9 hB => ?_)
  have h := h m_9 e_m_9
  refine z_aload_n (nx := 80) (a := 0) G rfl (Or.inl rfl) dX12_says_79 rfl (b_getA (nx := 83) (k0 := 2) G hB fl_RX12_24 (Nat.le_of_ble_eq_true rfl) (Nat.le_of_ble_eq_true rfl) rfl hp_v0 dX12_says_80 rfl (z_iload (nx := 85) (a := 5) G rfl dX12_says_83 rfl (z_bipush (nx := 87) (z := 6) G (R32c rfl) rfl dX12_says_85 rfl (z_iadd (nx := 88) G dX12_says_87 rfl (z_iconst (nx := 89) (z := (-1)) G (R32c rfl) dX12_says_88 rfl ?_)))))
  obtain ⟨hb, h⟩ := h
  refine b_iast (nx := 90) G hB (sh_12_2 _ hp_v0) hb.1 hb.2 dX12_says_89 rfl (fun m_10 e_m_10 hB => ?_)
  have h := h m_10 e_m_10
  refine z_aload_n (nx := 91) (a := 0) G rfl (Or.inl rfl) dX12_says_90 rfl (b_getA (nx := 94) (k0 := 2) G hB fl_RX12_24 (Nat.le_of_ble_eq_true rfl) (Nat.le_of_ble_eq_true rfl) rfl hp_v0 dX12_says_91 rfl (z_sipush (nx := 97) (z := 168) G (R32c rfl) rfl dX12_says_94 rfl (z_dup2 (nx := 98) G (fun h => nomatch h) (fun h => nomatch h) dX12_says_97 rfl ?_)))
  obtain ⟨hb, h⟩ := h
  refine z_iald (nx := 99) G (sh_12_2 _ hp_v0) hb.1 hb.2 dX12_says_98 rfl ?_
  refine z_iconst (nx := 100) (z := 1) G (R32c rfl) dX12_says_99 rfl (z_iadd (nx := 101) G dX12_says_100 rfl ?_)
  obtain ⟨hb, h⟩ := h
  refine b_iast (nx := 102) G hB (sh_12_2 _ hp_v0) hb.1 hb.2 dX12_says_101 rfl (fun m_11 e_m_11 hB => ?_)
  have h := h m_11 e_m_11
  exact b_return X hB dX12_says_102 h
theorem NM_X12_says {v0 : Int} {v1 : Int} {v2 : Int} {v3 : Int} {v4 : Int} {K : am_KK} {m : am_M} (hp_v0 : am_ob v0 12) (h : M_X12_says v0 v1 v2 v3 v4 K m) : N_X12_says [v0, v1, v2, v3, v4] K m := ⟨hp_v0, h⟩
theorem SS_X12_says : am_Snd yX12_says cX12_says 6 none 0 2 (am_L [2, 0, 0, 0, 0] 9 N_X12_says) := by
  refine am_SB (by decide +kernel) (Nat.le_of_ble_eq_true rfl) (fun F zs as K m X ht hB hM => ?_)
  obtain ⟨v0, zs, as, rfl, rfl, hz0, ht⟩ := am_inv ht
  obtain ⟨v1, zs, as, rfl, rfl, hz1, ht⟩ := am_inv ht
  obtain ⟨v2, zs, as, rfl, rfl, hz2, ht⟩ := am_inv ht
  obtain ⟨v3, zs, as, rfl, rfl, hz3, ht⟩ := am_inv ht
  obtain ⟨v4, zs, as, rfl, rfl, hz4, ht⟩ := am_inv ht
  obtain ⟨rfl, rfl⟩ := am_inv0 ht
  obtain ⟨hp_v0, hM⟩ := hM
  exact S_X12_says X hp_v0 hB hM
set_option maxRecDepth 20000 in
set_option maxHeartbeats 4000000 in
theorem S_X12_codeAt {F : am_F} {K : am_KK} {v0 : Int} {v1 : Int} {m : am_M} (X : am_Cx F cX12_codeAt RX12 (some .int) 1 0 K) (hp_v0 : am_ob v0 12) (hB : am_Bt m) (h : M_X12_codeAt v0 v1 K m) : am_Z F 0 [] [(2, v0), (0, v1)] m 200 := by
  have G := X.G
  unfold M_X12_codeAt at h
  refine z_iload_n (nx := 1) (a := 1) G rfl dX12_codeAt_0 rfl (z_aload_n (nx := 2) (a := 0) G rfl (Or.inl rfl) dX12_codeAt_1 rfl (b_getI (nx := 5) (k0 := 23) (t := 0) G fl_RX12_278 (Nat.le_of_ble_eq_true rfl) (Nat.le_of_ble_eq_true rfl) rfl hp_v0 dX12_codeAt_2 rfl ?_))
  refine z_icmp_ge (nx := 8) (tgt := 21) G dX12_codeAt_5 (by decide) rfl (fun c => ?_) (fun c => ?_)
  · have h := h.1 c
    refine z_iconst (nx := 22) (z := 0) G (R32c rfl) dX12_codeAt_21 rfl ?_
    exact b_ireturn X hB dX12_codeAt_22 h
  · have h := h.2 c
    refine z_aload_n (nx := 9) (a := 0) G rfl (Or.inl rfl) dX12_codeAt_8 rfl (b_getA (nx := 12) (k0 := 2) G hB fl_RX12_24 (Nat.le_of_ble_eq_true rfl) (Nat.le_of_ble_eq_true rfl) rfl hp_v0 dX12_codeAt_9 rfl (z_sipush (nx := 15) (z := 377) G (R32c rfl) rfl dX12_codeAt_12 rfl (z_iload_n (nx := 16) (a := 1) G rfl dX12_codeAt_15 rfl (z_iadd (nx := 17) G dX12_codeAt_16 rfl ?_))))
    obtain ⟨hb, h⟩ := h
    refine z_iald (nx := 18) G (sh_12_2 _ hp_v0) hb.1 hb.2 dX12_codeAt_17 rfl ?_
    refine z_goto (tgt := 22) G dX12_codeAt_18 (by decide) ?_
    exact b_ireturn X hB dX12_codeAt_22 h
theorem NM_X12_codeAt {v0 : Int} {v1 : Int} {K : am_KK} {m : am_M} (hp_v0 : am_ob v0 12) (h : M_X12_codeAt v0 v1 K m) : N_X12_codeAt [v0, v1] K m := ⟨hp_v0, h⟩
theorem SS_X12_codeAt : am_Snd yX12_codeAt cX12_codeAt 2 (some .int) 0 1 (am_L [2, 0] 0 N_X12_codeAt) := by
  refine am_SB (by decide +kernel) (Nat.le_of_ble_eq_true rfl) (fun F zs as K m X ht hB hM => ?_)
  obtain ⟨v0, zs, as, rfl, rfl, hz0, ht⟩ := am_inv ht
  obtain ⟨v1, zs, as, rfl, rfl, hz1, ht⟩ := am_inv ht
  obtain ⟨rfl, rfl⟩ := am_inv0 ht
  obtain ⟨hp_v0, hM⟩ := hM
  exact S_X12_codeAt X hp_v0 hB hM
set_option maxRecDepth 20000 in
set_option maxHeartbeats 4000000 in
theorem S_X12_sign {F : am_F} {K : am_KK} {v0 : Int} {m : am_M} (X : am_Cx F cX12_sign RX12 (some .int) 1 0 K) (hB : am_Bt m) (h : M_X12_sign v0 K m) : am_Z F 0 [] [(0, v0)] m 200 := by
  have G := X.G
  unfold M_X12_sign at h
  refine z_bipush (nx := 2) (z := 100) G (R32c rfl) rfl dX12_sign_0 rfl (z_iload_n (nx := 3) (a := 0) G rfl dX12_sign_2 rfl (z_iadd (nx := 4) G dX12_sign_3 rfl ?_))
  exact b_ireturn X hB dX12_sign_4 h
theorem NM_X12_sign {v0 : Int} {K : am_KK} {m : am_M} (h : M_X12_sign v0 K m) : N_X12_sign [v0] K m := h
theorem SS_X12_sign : am_Snd yX12_sign cX12_sign 1 (some .int) 0 1 (am_L [0] 0 N_X12_sign) := by
  refine am_SB (by decide +kernel) (Nat.le_of_ble_eq_true rfl) (fun F zs as K m X ht hB hM => ?_)
  obtain ⟨v0, zs, as, rfl, rfl, hz0, ht⟩ := am_inv ht
  obtain ⟨rfl, rfl⟩ := am_inv0 ht
  exact S_X12_sign X hB hM
set_option maxRecDepth 20000 in
set_option maxHeartbeats 4000000 in
theorem S_X12_passes0_J1 {F : am_F} {K : am_KK} {v0 : Int} {s0 : Int} {m : am_M} (X : am_Cx F cX12_passes0 RX12 (some .boolean) 2 5 K) (hp_v0 : am_ob v0 12) (hp_s0 : s0 = 0 ∨ s0 = 1) (hB : am_Bt m) (h : M_X12_passes0_J1 v0 s0 K m) : am_Z F 17 [(0, s0)] [(2, v0), (9, 0), (9, 0)] m 200 := by
  have G := X.G
  unfold M_X12_passes0_J1 at h
  refine b_storeE_n (nx := 18) (a := 2) (loc2 := [(2, v0), (9, 0), (0, s0)]) G rfl (Nat.le_of_ble_eq_true rfl) (am_pl1 rfl (fun h => nomatch h)) dX12_passes0_17 rfl (z_iload_n (nx := 19) (a := 2) G rfl dX12_passes0_18 rfl ?_)
  refine z_if_eq (nx := 22) (tgt := 32) G dX12_passes0_19 (by decide) rfl (fun c => ?_) (fun c => ?_)
  · have h := h.1 c
    refine z_iload_n (nx := 33) (a := 2) G rfl dX12_passes0_32 rfl ?_
    exact b_zreturn X hB hp_s0 dX12_passes0_33 h
  · have h := h.2 c
    refine z_aload_n (nx := 23) (a := 0) G rfl (Or.inl rfl) dX12_passes0_22 rfl (z_dup (nx := 24) G (fun h => nomatch h) dX12_passes0_23 rfl (b_getI (nx := 27) (k0 := 22) (t := 0) G fl_RX12_281 (Nat.le_of_ble_eq_true rfl) (Nat.le_of_ble_eq_true rfl) rfl hp_v0 dX12_passes0_24 rfl (z_iconst (nx := 28) (z := 1) G (R32c rfl) dX12_passes0_27 rfl (z_iadd (nx := 29) G dX12_passes0_28 rfl ?_))))
    refine b_put (nx := 32) (k0 := 22) (t := 0) G hB fl_RX12_281 (Nat.le_of_ble_eq_true rfl) (Nat.le_of_ble_eq_true rfl) rfl (fun h => nomatch h) rfl hp_v0 dX12_passes0_29 rfl (fun m_1 e_m_1 hB => ?_)
    have h := h m_1 e_m_1
    refine z_iload_n (nx := 33) (a := 2) G rfl dX12_passes0_32 rfl ?_
    exact b_zreturn X hB hp_s0 dX12_passes0_33 h
set_option maxRecDepth 20000 in
set_option maxHeartbeats 4000000 in
theorem S_X12_passes0 {F : am_F} {K : am_KK} {v0 : Int} {v1 : Int} {m : am_M} (X : am_Cx F cX12_passes0 RX12 (some .boolean) 2 5 K) (hp_v0 : am_ob v0 12) (hB : am_Bt m) (h : M_X12_passes0 v0 v1 K m) : am_Z F 0 [] [(2, v0), (0, v1), (9, 0)] m 200 := by
  have G := X.G
  unfold M_X12_passes0 at h
  refine z_aload_n (nx := 1) (a := 0) G rfl (Or.inl rfl) dX12_passes0_0 rfl (z_aload_n (nx := 2) (a := 0) G rfl (Or.inl rfl) dX12_passes0_1 rfl (b_getI (nx := 5) (k0 := 22) (t := 0) G fl_RX12_281 (Nat.le_of_ble_eq_true rfl) (Nat.le_of_ble_eq_true rfl) rfl hp_v0 dX12_passes0_2 rfl ?_))
  refine b_callV0 (nx := 8) (zs := [v0, m v0 22]) (as := [(0, m v0 22)]) X hB (by decide) rfl hp_v0 SS_X12_codeAt (am_ta (am_ti am_tn)) (Nat.le_of_ble_eq_true rfl) (Nat.le_of_ble_eq_true rfl) ml_RX12_284 iw_X12_codeAt vw_X12_codeAt cw_X12_codeAt nw_RX12 pp_X12_codeAt (Nat.le_of_ble_eq_true rfl) dX12_passes0_5 rfl (NM_X12_codeAt hp_v0 h) (fun r_2 m_3 h hB => ?_)
  refine z_iload_n (nx := 9) (a := 1) G rfl dX12_passes0_8 rfl ?_
  refine z_icmp_ne (nx := 12) (tgt := 16) G dX12_passes0_9 (by decide) rfl (fun c => ?_) (fun c => ?_)
  · have h := h.1 c
    refine z_iconst (nx := 17) (z := 0) G (R32c rfl) dX12_passes0_16 rfl ?_
    exact b_fewer (loc2 := [(2, v0), (9, 0), (9, 0)]) (am_lk (am_lf (am_lk am_ln))) (S_X12_passes0_J1 X hp_v0 (Or.inl rfl) hB h)
  · have h := h.2 c
    refine z_iconst (nx := 13) (z := 1) G (R32c rfl) dX12_passes0_12 rfl (z_goto (tgt := 17) G dX12_passes0_13 (by decide) ?_)
    exact b_fewer (loc2 := [(2, v0), (9, 0), (9, 0)]) (am_lk (am_lf (am_lk am_ln))) (S_X12_passes0_J1 X hp_v0 (Or.inr rfl) hB h)
theorem NM_X12_passes0 {v0 : Int} {v1 : Int} {K : am_KK} {m : am_M} (hp_v0 : am_ob v0 12) (h : M_X12_passes0 v0 v1 K m) : N_X12_passes0 [v0, v1] K m := ⟨hp_v0, h⟩
theorem SS_X12_passes0 : am_Snd yX12_passes0 cX12_passes0 3 (some .boolean) 0 2 (am_L [2, 0] 5 N_X12_passes0) := by
  refine am_SB (by decide +kernel) (Nat.le_of_ble_eq_true rfl) (fun F zs as K m X ht hB hM => ?_)
  obtain ⟨v0, zs, as, rfl, rfl, hz0, ht⟩ := am_inv ht
  obtain ⟨v1, zs, as, rfl, rfl, hz1, ht⟩ := am_inv ht
  obtain ⟨rfl, rfl⟩ := am_inv0 ht
  obtain ⟨hp_v0, hM⟩ := hM
  exact S_X12_passes0 X hp_v0 hB hM
set_option maxRecDepth 20000 in
set_option maxHeartbeats 4000000 in
theorem S_X12_bounded_J2 {F : am_F} {K : am_KK} {v0 : Int} {v1 : Int} {m : am_M} (X : am_Cx F cX12_bounded RX12 (some .long) 1 1 K) (hp_v0 : am_ob v0 12) (hB : am_Bt m) (h : M_X12_bounded_J2 v0 v1 K m) : am_Z F 25 [] [(2, v0), (1, v1), (9, 0), (9, 0)] m 200 := by
  have G := X.G
  unfold M_X12_bounded_J2 at h
  refine z_aload_n (nx := 26) (a := 0) G rfl (Or.inl rfl) dX12_bounded_25 rfl (b_getI (nx := 29) (k0 := 24) (t := 0) G fl_RX12_291 (Nat.le_of_ble_eq_true rfl) (Nat.le_of_ble_eq_true rfl) rfl hp_v0 dX12_bounded_26 rfl ?_)
  refine z_if_eq (nx := 32) (tgt := 36) G dX12_bounded_29 (by decide) rfl (fun c => ?_) (fun c => ?_)
  · have h := h.1 c
    refine z_lload_n (nx := 37) (a := 1) G rfl dX12_bounded_36 rfl ?_
    exact b_lreturn X hB dX12_bounded_37 h
  · have h := h.2 c
    refine z_lconst (nx := 33) (z := 0) G (R64c rfl) rfl dX12_bounded_32 rfl (z_goto (tgt := 37) G dX12_bounded_33 (by decide) ?_)
    exact b_lreturn X hB dX12_bounded_37 h
set_option maxRecDepth 20000 in
set_option maxHeartbeats 4000000 in
theorem S_X12_bounded_J1 {F : am_F} {K : am_KK} {v0 : Int} {v1 : Int} {m : am_M} (X : am_Cx F cX12_bounded RX12 (some .long) 1 1 K) (hp_v0 : am_ob v0 12) (hB : am_Bt m) (h : M_X12_bounded_J1 v0 v1 K m) : am_Z F 20 [] [(2, v0), (1, v1), (9, 0), (9, 0)] m 200 := by
  have G := X.G
  unfold M_X12_bounded_J1 at h
  refine z_aload_n (nx := 21) (a := 0) G rfl (Or.inl rfl) dX12_bounded_20 rfl (z_iconst (nx := 22) (z := 1) G (R32c rfl) dX12_bounded_21 rfl ?_)
  refine b_put (nx := 25) (k0 := 24) (t := 0) G hB fl_RX12_291 (Nat.le_of_ble_eq_true rfl) (Nat.le_of_ble_eq_true rfl) rfl (fun h => nomatch h) ⟨rfl, (Or.inr rfl)⟩ hp_v0 dX12_bounded_22 rfl (fun m_1 e_m_1 hB => ?_)
  have h := h m_1 e_m_1
  exact b_fewer (loc2 := [(2, v0), (1, v1), (9, 0), (9, 0)]) (am_lk (am_lk (am_lk (am_lk am_ln)))) (S_X12_bounded_J2 X hp_v0 hB h)
set_option maxRecDepth 20000 in
set_option maxHeartbeats 4000000 in
theorem S_X12_bounded {F : am_F} {K : am_KK} {v0 : Int} {v1 : Int} {v3 : Int} {m : am_M} (X : am_Cx F cX12_bounded RX12 (some .long) 1 1 K) (hp_v0 : am_ob v0 12) (hp_v3 : (v3 = 0 ∨ v3 = 1)) (hB : am_Bt m) (h : M_X12_bounded v0 v1 v3 K m) : am_Z F 0 [] [(2, v0), (1, v1), (9, 0), (0, v3)] m 200 := by
  have G := X.G
  unfold M_X12_bounded at h
  refine z_iload_n (nx := 1) (a := 3) G rfl dX12_bounded_0 rfl ?_
  refine z_if_eq (nx := 4) (tgt := 25) G dX12_bounded_1 (by decide) rfl (fun c => ?_) (fun c => ?_)
  · have h := h.1 c
    exact b_fewer (loc2 := [(2, v0), (1, v1), (9, 0), (9, 0)]) (am_lk (am_lk (am_lk (am_lf am_ln)))) (S_X12_bounded_J2 X hp_v0 hB h)
  · have h := h.2 c
    refine z_lload_n (nx := 5) (a := 1) G rfl dX12_bounded_4 rfl (z_ldc2 (nx := 8) (z := 1000000000) G (R64c rfl) rfl kl_RX12_287 dX12_bounded_5 rfl (z_lcmp (nx := 9) G dX12_bounded_8 rfl ?_))
    refine z_if_gt (nx := 12) (tgt := 20) G dX12_bounded_9 (by decide) rfl (fun c => ?_) (fun c => ?_)
    · have h := h.1 c
      exact b_fewer (loc2 := [(2, v0), (1, v1), (9, 0), (9, 0)]) (am_lk (am_lk (am_lk (am_lf am_ln)))) (S_X12_bounded_J1 X hp_v0 hB h)
    · have h := h.2 c
      refine z_lload_n (nx := 13) (a := 1) G rfl dX12_bounded_12 rfl (z_ldc2 (nx := 16) (z := (-1000000000)) G (R64c rfl) rfl kl_RX12_289 dX12_bounded_13 rfl (z_lcmp (nx := 17) G dX12_bounded_16 rfl ?_))
      refine z_if_ge (nx := 20) (tgt := 25) G dX12_bounded_17 (by decide) rfl (fun c => ?_) (fun c => ?_)
      · have h := h.1 c
        exact b_fewer (loc2 := [(2, v0), (1, v1), (9, 0), (9, 0)]) (am_lk (am_lk (am_lk (am_lf am_ln)))) (S_X12_bounded_J2 X hp_v0 hB h)
      · have h := h.2 c
        exact b_fewer (loc2 := [(2, v0), (1, v1), (9, 0), (9, 0)]) (am_lk (am_lk (am_lk (am_lf am_ln)))) (S_X12_bounded_J1 X hp_v0 hB h)
theorem NM_X12_bounded {v0 : Int} {v1 : Int} {v3 : Int} {K : am_KK} {m : am_M} (hp_v0 : am_ob v0 12) (hp_v3 : (v3 = 0 ∨ v3 = 1)) (h : M_X12_bounded v0 v1 v3 K m) : N_X12_bounded [v0, v1, v3] K m := ⟨hp_v0, hp_v3, h⟩
theorem SS_X12_bounded : am_Snd yX12_bounded cX12_bounded 4 (some .long) 0 1 (am_L [2, 1, 5] 1 N_X12_bounded) := by
  refine am_SB (by decide +kernel) (Nat.le_of_ble_eq_true rfl) (fun F zs as K m X ht hB hM => ?_)
  obtain ⟨v0, zs, as, rfl, rfl, hz0, ht⟩ := am_inv ht
  obtain ⟨v1, zs, as, rfl, rfl, hz1, ht⟩ := am_inv ht
  obtain ⟨v3, zs, as, rfl, rfl, hz3, ht⟩ := am_inv ht
  obtain ⟨rfl, rfl⟩ := am_inv0 ht
  obtain ⟨hp_v0, hp_v3, hM⟩ := hM
  exact S_X12_bounded X hp_v0 hp_v3 hB hM
