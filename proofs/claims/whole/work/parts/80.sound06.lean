/-! the machine does what the forms say, 6 -/
def H_X12_parts (k : Nat) (R : Nat → am_PT) : Prop := am_Snd yX12_parts cX12_parts 8 none 0 (1 + k) (am_L [2, 0, 0] 9 (R 0))
set_option maxRecDepth 20000 in
set_option maxHeartbeats 4000000 in
theorem S_X12_parts_J1 {F : am_F} {K : am_KK} {k : Nat} {R : Nat → am_PT} {v0 : Int} {v1 : Int} {v2 : Int} {v3 : Int} {C16 : Int → am_M → Prop} {m : am_M} (X : am_Cx F cX12_parts RX12 none (1 + (k + 1)) 9 K) (HR : H_X12_parts k R) (hp_v0 : am_ob v0 12) (hC16 : ∀ w3 m, C16 w3 m → am_Bt m → am_Z F 16 [] [(2, v0), (0, v1), (0, v2), (0, w3), (9, 0), (9, 0), (9, 0), (9, 0)] m 200) (hB : am_Bt m) (h : M_X12_parts_J1 R v0 v1 v2 v3 C16 K m) : am_Z F 181 [] [(2, v0), (0, v1), (0, v2), (0, v3), (9, 0), (9, 0), (9, 0), (9, 0)] m 200 := by
  have G := X.G
  have HR_X12_parts := HR
  unfold M_X12_parts_J1 at h
  refine b_iinc (nx := 184) (a := 3) (loc2 := fun v3_1 => [(2, v0), (0, v1), (0, v2), (0, v3_1), (9, 0), (9, 0), (9, 0), (9, 0)]) G (fun _ => rfl) rfl (am_pl1 rfl (fun h => nomatch h)) dX12_parts_181 rfl (fun v3_1 e_v3_1 => ?_)
  have h := h v3_1 e_v3_1
  refine z_goto (tgt := 16) G dX12_parts_184 (by decide) ?_
  exact b_fewer (loc2 := [(2, v0), (0, v1), (0, v2), (0, v3_1), (9, 0), (9, 0), (9, 0), (9, 0)]) (am_lk (am_lk (am_lk (am_lk (am_lk (am_lk (am_lk (am_lk am_ln)))))))) (hC16 _ _ h hB)
set_option maxRecDepth 20000 in
set_option maxHeartbeats 4000000 in
theorem S_X12_parts_L4B {F : am_F} {K : am_KK} {k : Nat} {R : Nat → am_PT} {v0 : Int} {v1 : Int} {v2 : Int} {v3 : Int} {v4 : Int} {v5 : Int} {v6 : Int} {v7 : Int} {C125 : Int → am_M → Prop} {C24 : Int → am_M → Prop} {C16 : Int → am_M → Prop} {m : am_M} (X : am_Cx F cX12_parts RX12 none (1 + (k + 1)) 9 K) (HR : H_X12_parts k R) (hp_v0 : am_ob v0 12) (hC125 : ∀ w7 m, C125 w7 m → am_Bt m → am_Z F 125 [] [(2, v0), (0, v1), (0, v2), (0, v3), (0, v4), (0, v5), (0, v6), (0, w7)] m 200) (hC24 : ∀ w4 m, C24 w4 m → am_Bt m → am_Z F 24 [] [(2, v0), (0, v1), (0, v2), (0, v3), (0, w4), (9, 0), (9, 0), (9, 0)] m 200) (hC16 : ∀ w3 m, C16 w3 m → am_Bt m → am_Z F 16 [] [(2, v0), (0, v1), (0, v2), (0, w3), (9, 0), (9, 0), (9, 0), (9, 0)] m 200) (hB : am_Bt m) (h : M_X12_parts_L4B R v0 v1 v2 v3 v4 v5 v6 v7 C125 C24 C16 K m) : am_Z F 125 [] [(2, v0), (0, v1), (0, v2), (0, v3), (0, v4), (0, v5), (0, v6), (0, v7)] m 200 := by
  have G := X.G
  have HR_X12_parts := HR
  unfold M_X12_parts_L4B at h
  refine z_iload (nx := 127) (a := 7) G rfl dX12_parts_125 rfl (z_iload (nx := 129) (a := 4) G rfl dX12_parts_127 rfl ?_)
  refine z_icmp_ge (nx := 132) (tgt := 162) G dX12_parts_129 (by decide) rfl (fun c => ?_) (fun c => ?_)
  · have h := h.1 c
    refine z_aload_n (nx := 163) (a := 0) G rfl (Or.inl rfl) dX12_parts_162 rfl (z_iload_n (nx := 164) (a := 1) G rfl dX12_parts_163 rfl (z_iconst (nx := 165) (z := 1) G (R32c rfl) dX12_parts_164 rfl (z_iadd (nx := 166) G dX12_parts_165 rfl (z_iload_n (nx := 167) (a := 2) G rfl dX12_parts_166 rfl (z_iconst (nx := 168) (z := 1) G (R32c rfl) dX12_parts_167 rfl (z_isub (nx := 169) G dX12_parts_168 rfl (z_iload (nx := 171) (a := 4) G rfl dX12_parts_169 rfl (z_iadd (nx := 172) G dX12_parts_171 rfl ?_))))))))
    refine b_callV9 (nx := 175) (zs := [v0, w32 (v1 + 1), w32 ((w32 (v2 - 1)) + v4)]) (as := [(0, w32 (v1 + 1)), (0, w32 ((w32 (v2 - 1)) + v4))]) X hB (by decide) rfl hp_v0 (HR_X12_parts) (am_ta (am_ti (am_ti am_tn))) (Nat.le_refl _) (Nat.le_of_ble_eq_true rfl) ml_RX12_400 iw_X12_parts vw_X12_parts cw_X12_parts nw_RX12 pp_X12_parts (Nat.le_of_ble_eq_true rfl) dX12_parts_172 rfl h (fun r_2 m_3 h hB => ?_)
    refine b_iinc (nx := 178) (a := 4) (loc2 := fun v4_4 => [(2, v0), (0, v1), (0, v2), (0, v3), (0, v4_4), (0, v5), (0, v6), (0, v7)]) G (fun _ => rfl) rfl (am_pl1 rfl (fun h => nomatch h)) dX12_parts_175 rfl (fun v4_4 e_v4_4 => ?_)
    have h := h v4_4 e_v4_4
    refine z_goto (tgt := 24) G dX12_parts_178 (by decide) ?_
    exact b_fewer (loc2 := [(2, v0), (0, v1), (0, v2), (0, v3), (0, v4_4), (9, 0), (9, 0), (9, 0)]) (am_lk (am_lk (am_lk (am_lk (am_lk (am_lf (am_lf (am_lf am_ln)))))))) (hC24 _ _ h hB)
  · have h := h.2 c
    refine z_aload_n (nx := 133) (a := 0) G rfl (Or.inl rfl) dX12_parts_132 rfl (b_getA (nx := 136) (k0 := 41) G hB fl_RX12_98 (Nat.le_of_ble_eq_true rfl) (Nat.le_of_ble_eq_true rfl) rfl hp_v0 dX12_parts_133 rfl (z_iload (nx := 138) (a := 5) G rfl dX12_parts_136 rfl (z_iload_n (nx := 139) (a := 2) G rfl dX12_parts_138 rfl (z_iadd (nx := 140) G dX12_parts_139 rfl (z_iconst (nx := 141) (z := 1) G (R32c rfl) dX12_parts_140 rfl (z_isub (nx := 142) G dX12_parts_141 rfl (z_iload (nx := 144) (a := 7) G rfl dX12_parts_142 rfl (z_iadd (nx := 145) G dX12_parts_144 rfl (z_iload (nx := 147) (a := 6) G rfl dX12_parts_145 rfl (z_aload_n (nx := 148) (a := 0) G rfl (Or.inl rfl) dX12_parts_147 rfl (b_getA (nx := 151) (k0 := 39) G hB fl_RX12_92 (Nat.le_of_ble_eq_true rfl) (Nat.le_of_ble_eq_true rfl) rfl hp_v0 dX12_parts_148 rfl (z_iload (nx := 153) (a := 7) G rfl dX12_parts_151 rfl ?_))))))))))))
    obtain ⟨hb, h⟩ := h
    refine z_iald (nx := 154) G (sh_12_39 _ hp_v0) hb.1 hb.2 dX12_parts_153 rfl ?_
    refine z_iadd (nx := 155) G dX12_parts_154 rfl ?_
    obtain ⟨hb, h⟩ := h
    refine b_iast (nx := 156) G hB (sh_12_41 _ hp_v0) hb.1 hb.2 dX12_parts_155 rfl (fun m_5 e_m_5 hB => ?_)
    have h := h m_5 e_m_5
    refine b_iinc (nx := 159) (a := 7) (loc2 := fun v7_6 => [(2, v0), (0, v1), (0, v2), (0, v3), (0, v4), (0, v5), (0, v6), (0, v7_6)]) G (fun _ => rfl) rfl (am_pl1 rfl (fun h => nomatch h)) dX12_parts_156 rfl (fun v7_6 e_v7_6 => ?_)
    have h := h v7_6 e_v7_6
    refine z_goto (tgt := 125) G dX12_parts_159 (by decide) ?_
    exact b_fewer (loc2 := [(2, v0), (0, v1), (0, v2), (0, v3), (0, v4), (0, v5), (0, v6), (0, v7_6)]) (am_lk (am_lk (am_lk (am_lk (am_lk (am_lk (am_lk (am_lk am_ln)))))))) (hC125 _ _ h hB)
theorem S_X12_parts_L4 {F : am_F} {K : am_KK} {k : Nat} {R : Nat → am_PT} {v0 : Int} {v1 : Int} {v2 : Int} {v3 : Int} {v4 : Int} {v5 : Int} {v6 : Int} {v7 : Int} {C24 : Int → am_M → Prop} {C16 : Int → am_M → Prop} {m : am_M} (X : am_Cx F cX12_parts RX12 none (1 + (k + 1)) 9 K) (HR : H_X12_parts k R) (hp_v0 : am_ob v0 12) (hC24 : ∀ w4 m, C24 w4 m → am_Bt m → am_Z F 24 [] [(2, v0), (0, v1), (0, v2), (0, v3), (0, w4), (9, 0), (9, 0), (9, 0)] m 200) (hC16 : ∀ w3 m, C16 w3 m → am_Bt m → am_Z F 16 [] [(2, v0), (0, v1), (0, v2), (0, w3), (9, 0), (9, 0), (9, 0), (9, 0)] m 200) (hB : am_Bt m) (h : M_X12_parts_L4 R v0 v1 v2 v3 v4 v5 v6 v7 C24 C16 K m) : am_Z F 125 [] [(2, v0), (0, v1), (0, v2), (0, v3), (0, v4), (0, v5), (0, v6), (0, v7)] m 200 := by
  obtain ⟨I, ⟨j, hj⟩, hI⟩ := h
  have key : ∀ j v7 m, I j v7 m → am_Bt m → am_Z F 125 [] [(2, v0), (0, v1), (0, v2), (0, v3), (0, v4), (0, v5), (0, v6), (0, v7)] m 200 := by
    intro j
    induction j using Nat.strongRecOn with
    | ind j ih =>
      intro v7 m hj hB
      exact S_X12_parts_L4B X HR hp_v0 (fun v7' m' hc hB' => by
        obtain ⟨j', g1, g2⟩ := hc
        exact ih j' g1 v7' m' g2 hB') hC24 hC16 hB (hI j v7 m hj)
  exact key j _ _ hj hB
set_option maxRecDepth 20000 in
set_option maxHeartbeats 4000000 in
theorem S_X12_parts_L3B {F : am_F} {K : am_KK} {k : Nat} {R : Nat → am_PT} {v0 : Int} {v1 : Int} {v2 : Int} {v3 : Int} {v4 : Int} {v5 : Int} {v6 : Int} {C57 : Int → am_M → Prop} {C24 : Int → am_M → Prop} {C16 : Int → am_M → Prop} {m : am_M} (X : am_Cx F cX12_parts RX12 none (1 + (k + 1)) 9 K) (HR : H_X12_parts k R) (hp_v0 : am_ob v0 12) (hC57 : ∀ w6 m, C57 w6 m → am_Bt m → am_Z F 57 [] [(2, v0), (0, v1), (0, v2), (0, v3), (0, v4), (0, v5), (0, w6), (9, 0)] m 200) (hC24 : ∀ w4 m, C24 w4 m → am_Bt m → am_Z F 24 [] [(2, v0), (0, v1), (0, v2), (0, v3), (0, w4), (9, 0), (9, 0), (9, 0)] m 200) (hC16 : ∀ w3 m, C16 w3 m → am_Bt m → am_Z F 16 [] [(2, v0), (0, v1), (0, v2), (0, w3), (9, 0), (9, 0), (9, 0), (9, 0)] m 200) (hB : am_Bt m) (h : M_X12_parts_L3B R v0 v1 v2 v3 v4 v5 v6 C57 C24 C16 K m) : am_Z F 57 [] [(2, v0), (0, v1), (0, v2), (0, v3), (0, v4), (0, v5), (0, v6), (9, 0)] m 200 := by
  have G := X.G
  have HR_X12_parts := HR
  unfold M_X12_parts_L3B at h
  refine z_iload (nx := 59) (a := 6) G rfl dX12_parts_57 rfl (z_iload_n (nx := 60) (a := 2) G rfl dX12_parts_59 rfl ?_)
  refine z_icmp_ge (nx := 63) (tgt := 91) G dX12_parts_60 (by decide) rfl (fun c => ?_) (fun c => ?_)
  · have h := h.1 c
    refine z_aload_n (nx := 92) (a := 0) G rfl (Or.inl rfl) dX12_parts_91 rfl (b_getA (nx := 95) (k0 := 41) G hB fl_RX12_98 (Nat.le_of_ble_eq_true rfl) (Nat.le_of_ble_eq_true rfl) rfl hp_v0 dX12_parts_92 rfl (z_bipush (nx := 97) (z := 6) G (R32c rfl) rfl dX12_parts_95 rfl (z_iload_n (nx := 98) (a := 1) G rfl dX12_parts_97 rfl (z_imul (nx := 99) G dX12_parts_98 rfl (z_iload_n (nx := 100) (a := 3) G rfl dX12_parts_99 rfl (z_iadd (nx := 101) G dX12_parts_100 rfl ?_))))))
    obtain ⟨hb, h⟩ := h
    refine z_iald (nx := 102) G (sh_12_41 _ hp_v0) hb.1 hb.2 dX12_parts_101 rfl ?_
    refine b_store (nx := 104) (a := 6) (loc2 := fun v6_7 => [(2, v0), (0, v1), (0, v2), (0, v3), (0, v4), (0, v5), (0, v6_7), (9, 0)]) G (fun _ => rfl) (Nat.le_of_ble_eq_true rfl) (am_pl1 rfl (fun h => nomatch h)) dX12_parts_102 rfl (fun v6_7 e_v6_7 => ?_)
    have h := h v6_7 e_v6_7
    refine z_aload_n (nx := 105) (a := 0) G rfl (Or.inl rfl) dX12_parts_104 rfl (b_getA (nx := 108) (k0 := 41) G hB fl_RX12_98 (Nat.le_of_ble_eq_true rfl) (Nat.le_of_ble_eq_true rfl) rfl hp_v0 dX12_parts_105 rfl (z_iload (nx := 110) (a := 5) G rfl dX12_parts_108 rfl (z_iload_n (nx := 111) (a := 3) G rfl dX12_parts_110 rfl (z_iadd (nx := 112) G dX12_parts_111 rfl (z_iload (nx := 114) (a := 6) G rfl dX12_parts_112 rfl (z_aload_n (nx := 115) (a := 0) G rfl (Or.inl rfl) dX12_parts_114 rfl (b_getA (nx := 118) (k0 := 39) G hB fl_RX12_92 (Nat.le_of_ble_eq_true rfl) (Nat.le_of_ble_eq_true rfl) rfl hp_v0 dX12_parts_115 rfl (z_iconst (nx := 119) (z := 0) G (R32c rfl) dX12_parts_118 rfl ?_))))))))
    obtain ⟨hb, h⟩ := h
    refine z_iald (nx := 120) G (sh_12_39 _ hp_v0) hb.1 hb.2 dX12_parts_119 rfl ?_
    refine z_iadd (nx := 121) G dX12_parts_120 rfl ?_
    obtain ⟨hb, h⟩ := h
    refine b_iast (nx := 122) G hB (sh_12_41 _ hp_v0) hb.1 hb.2 dX12_parts_121 rfl (fun m_8 e_m_8 hB => ?_)
    have h := h m_8 e_m_8
    refine z_iconst (nx := 123) (z := 1) G (R32c rfl) dX12_parts_122 rfl (b_storeE (nx := 125) (a := 7) (loc2 := [(2, v0), (0, v1), (0, v2), (0, v3), (0, v4), (0, v5), (0, v6_7), (0, 1)]) G rfl (Nat.le_of_ble_eq_true rfl) (am_pl1 rfl (fun h => nomatch h)) dX12_parts_123 rfl ?_)
    exact b_fewer (loc2 := [(2, v0), (0, v1), (0, v2), (0, v3), (0, v4), (0, v5), (0, v6_7), (0, 1)]) (am_lk (am_lk (am_lk (am_lk (am_lk (am_lk (am_lk (am_lk am_ln)))))))) (S_X12_parts_L4 X HR hp_v0 hC24 hC16 hB h)
  · have h := h.2 c
    refine z_aload_n (nx := 64) (a := 0) G rfl (Or.inl rfl) dX12_parts_63 rfl (b_getA (nx := 67) (k0 := 41) G hB fl_RX12_98 (Nat.le_of_ble_eq_true rfl) (Nat.le_of_ble_eq_true rfl) rfl hp_v0 dX12_parts_64 rfl (z_iload (nx := 69) (a := 5) G rfl dX12_parts_67 rfl (z_iload (nx := 71) (a := 6) G rfl dX12_parts_69 rfl (z_iadd (nx := 72) G dX12_parts_71 rfl (z_aload_n (nx := 73) (a := 0) G rfl (Or.inl rfl) dX12_parts_72 rfl (b_getA (nx := 76) (k0 := 41) G hB fl_RX12_98 (Nat.le_of_ble_eq_true rfl) (Nat.le_of_ble_eq_true rfl) rfl hp_v0 dX12_parts_73 rfl (z_bipush (nx := 78) (z := 6) G (R32c rfl) rfl dX12_parts_76 rfl (z_iload_n (nx := 79) (a := 1) G rfl dX12_parts_78 rfl (z_imul (nx := 80) G dX12_parts_79 rfl (z_iload (nx := 82) (a := 6) G rfl dX12_parts_80 rfl (z_iadd (nx := 83) G dX12_parts_82 rfl ?_)))))))))))
    obtain ⟨hb, h⟩ := h
    refine z_iald (nx := 84) G (sh_12_41 _ hp_v0) hb.1 hb.2 dX12_parts_83 rfl ?_
    obtain ⟨hb, h⟩ := h
    refine b_iast (nx := 85) G hB (sh_12_41 _ hp_v0) hb.1 hb.2 dX12_parts_84 rfl (fun m_9 e_m_9 hB => ?_)
    have h := h m_9 e_m_9
    refine b_iinc (nx := 88) (a := 6) (loc2 := fun v6_10 => [(2, v0), (0, v1), (0, v2), (0, v3), (0, v4), (0, v5), (0, v6_10), (9, 0)]) G (fun _ => rfl) rfl (am_pl1 rfl (fun h => nomatch h)) dX12_parts_85 rfl (fun v6_10 e_v6_10 => ?_)
    have h := h v6_10 e_v6_10
    refine z_goto (tgt := 57) G dX12_parts_88 (by decide) ?_
    exact b_fewer (loc2 := [(2, v0), (0, v1), (0, v2), (0, v3), (0, v4), (0, v5), (0, v6_10), (9, 0)]) (am_lk (am_lk (am_lk (am_lk (am_lk (am_lk (am_lk (am_lk am_ln)))))))) (hC57 _ _ h hB)
theorem S_X12_parts_L3 {F : am_F} {K : am_KK} {k : Nat} {R : Nat → am_PT} {v0 : Int} {v1 : Int} {v2 : Int} {v3 : Int} {v4 : Int} {v5 : Int} {v6 : Int} {C24 : Int → am_M → Prop} {C16 : Int → am_M → Prop} {m : am_M} (X : am_Cx F cX12_parts RX12 none (1 + (k + 1)) 9 K) (HR : H_X12_parts k R) (hp_v0 : am_ob v0 12) (hC24 : ∀ w4 m, C24 w4 m → am_Bt m → am_Z F 24 [] [(2, v0), (0, v1), (0, v2), (0, v3), (0, w4), (9, 0), (9, 0), (9, 0)] m 200) (hC16 : ∀ w3 m, C16 w3 m → am_Bt m → am_Z F 16 [] [(2, v0), (0, v1), (0, v2), (0, w3), (9, 0), (9, 0), (9, 0), (9, 0)] m 200) (hB : am_Bt m) (h : M_X12_parts_L3 R v0 v1 v2 v3 v4 v5 v6 C24 C16 K m) : am_Z F 57 [] [(2, v0), (0, v1), (0, v2), (0, v3), (0, v4), (0, v5), (0, v6), (9, 0)] m 200 := by
  obtain ⟨I, ⟨j, hj⟩, hI⟩ := h
  have key : ∀ j v6 m, I j v6 m → am_Bt m → am_Z F 57 [] [(2, v0), (0, v1), (0, v2), (0, v3), (0, v4), (0, v5), (0, v6), (9, 0)] m 200 := by
    intro j
    induction j using Nat.strongRecOn with
    | ind j ih =>
      intro v6 m hj hB
      exact S_X12_parts_L3B X HR hp_v0 (fun v6' m' hc hB' => by
        obtain ⟨j', g1, g2⟩ := hc
        exact ih j' g1 v6' m' g2 hB') hC24 hC16 hB (hI j v6 m hj)
  exact key j _ _ hj hB
set_option maxRecDepth 20000 in
set_option maxHeartbeats 4000000 in
theorem S_X12_parts_L2B {F : am_F} {K : am_KK} {k : Nat} {R : Nat → am_PT} {v0 : Int} {v1 : Int} {v2 : Int} {v3 : Int} {v4 : Int} {C24 : Int → am_M → Prop} {C16 : Int → am_M → Prop} {m : am_M} (X : am_Cx F cX12_parts RX12 none (1 + (k + 1)) 9 K) (HR : H_X12_parts k R) (hp_v0 : am_ob v0 12) (hC24 : ∀ w4 m, C24 w4 m → am_Bt m → am_Z F 24 [] [(2, v0), (0, v1), (0, v2), (0, v3), (0, w4), (9, 0), (9, 0), (9, 0)] m 200) (hC16 : ∀ w3 m, C16 w3 m → am_Bt m → am_Z F 16 [] [(2, v0), (0, v1), (0, v2), (0, w3), (9, 0), (9, 0), (9, 0), (9, 0)] m 200) (hB : am_Bt m) (h : M_X12_parts_L2B R v0 v1 v2 v3 v4 C24 C16 K m) : am_Z F 24 [] [(2, v0), (0, v1), (0, v2), (0, v3), (0, v4), (9, 0), (9, 0), (9, 0)] m 200 := by
  have G := X.G
  have HR_X12_parts := HR
  unfold M_X12_parts_L2B at h
  refine z_iload (nx := 26) (a := 4) G rfl dX12_parts_24 rfl (z_aload_n (nx := 27) (a := 0) G rfl (Or.inl rfl) dX12_parts_26 rfl (b_getI (nx := 30) (k0 := 45) (t := 0) G fl_RX12_397 (Nat.le_of_ble_eq_true rfl) (Nat.le_of_ble_eq_true rfl) rfl hp_v0 dX12_parts_27 rfl ?_))
  refine z_icmp_gt (nx := 33) (tgt := 181) G dX12_parts_30 (by decide) rfl (fun c => ?_) (fun c => ?_)
  · have h := h.1 c
    exact b_fewer (loc2 := [(2, v0), (0, v1), (0, v2), (0, v3), (9, 0), (9, 0), (9, 0), (9, 0)]) (am_lk (am_lk (am_lk (am_lk (am_lf (am_lk (am_lk (am_lk am_ln)))))))) (S_X12_parts_J1 X HR hp_v0 hC16 hB h)
  · have h := h.2 c
    refine z_iload_n (nx := 34) (a := 2) G rfl dX12_parts_33 rfl (z_iconst (nx := 35) (z := 1) G (R32c rfl) dX12_parts_34 rfl (z_isub (nx := 36) G dX12_parts_35 rfl (z_iload (nx := 38) (a := 4) G rfl dX12_parts_36 rfl (z_iadd (nx := 39) G dX12_parts_38 rfl (z_aload_n (nx := 40) (a := 0) G rfl (Or.inl rfl) dX12_parts_39 rfl (b_getI (nx := 43) (k0 := 46) (t := 0) G fl_RX12_391 (Nat.le_of_ble_eq_true rfl) (Nat.le_of_ble_eq_true rfl) rfl hp_v0 dX12_parts_40 rfl ?_))))))
    refine z_icmp_gt (nx := 46) (tgt := 181) G dX12_parts_43 (by decide) rfl (fun c => ?_) (fun c => ?_)
    · have h := h.1 c
      exact b_fewer (loc2 := [(2, v0), (0, v1), (0, v2), (0, v3), (9, 0), (9, 0), (9, 0), (9, 0)]) (am_lk (am_lk (am_lk (am_lk (am_lf (am_lk (am_lk (am_lk am_ln)))))))) (S_X12_parts_J1 X HR hp_v0 hC16 hB h)
    · have h := h.2 c
      refine z_bipush (nx := 48) (z := 6) G (R32c rfl) rfl dX12_parts_46 rfl (z_iload_n (nx := 49) (a := 1) G rfl dX12_parts_48 rfl (z_iconst (nx := 50) (z := 1) G (R32c rfl) dX12_parts_49 rfl (z_iadd (nx := 51) G dX12_parts_50 rfl (z_imul (nx := 52) G dX12_parts_51 rfl ?_))))
      refine b_store (nx := 54) (a := 5) (loc2 := fun v5_11 => [(2, v0), (0, v1), (0, v2), (0, v3), (0, v4), (0, v5_11), (9, 0), (9, 0)]) G (fun _ => rfl) (Nat.le_of_ble_eq_true rfl) (am_pl1 rfl (fun h => nomatch h)) dX12_parts_52 rfl (fun v5_11 e_v5_11 => ?_)
      have h := h v5_11 e_v5_11
      refine z_iconst (nx := 55) (z := 0) G (R32c rfl) dX12_parts_54 rfl (b_storeE (nx := 57) (a := 6) (loc2 := [(2, v0), (0, v1), (0, v2), (0, v3), (0, v4), (0, v5_11), (0, 0), (9, 0)]) G rfl (Nat.le_of_ble_eq_true rfl) (am_pl1 rfl (fun h => nomatch h)) dX12_parts_55 rfl ?_)
      exact b_fewer (loc2 := [(2, v0), (0, v1), (0, v2), (0, v3), (0, v4), (0, v5_11), (0, 0), (9, 0)]) (am_lk (am_lk (am_lk (am_lk (am_lk (am_lk (am_lk (am_lk am_ln)))))))) (S_X12_parts_L3 X HR hp_v0 hC24 hC16 hB h)
theorem S_X12_parts_L2 {F : am_F} {K : am_KK} {k : Nat} {R : Nat → am_PT} {v0 : Int} {v1 : Int} {v2 : Int} {v3 : Int} {v4 : Int} {C16 : Int → am_M → Prop} {m : am_M} (X : am_Cx F cX12_parts RX12 none (1 + (k + 1)) 9 K) (HR : H_X12_parts k R) (hp_v0 : am_ob v0 12) (hC16 : ∀ w3 m, C16 w3 m → am_Bt m → am_Z F 16 [] [(2, v0), (0, v1), (0, v2), (0, w3), (9, 0), (9, 0), (9, 0), (9, 0)] m 200) (hB : am_Bt m) (h : M_X12_parts_L2 R v0 v1 v2 v3 v4 C16 K m) : am_Z F 24 [] [(2, v0), (0, v1), (0, v2), (0, v3), (0, v4), (9, 0), (9, 0), (9, 0)] m 200 := by
  obtain ⟨I, ⟨j, hj⟩, hI⟩ := h
  have key : ∀ j v4 m, I j v4 m → am_Bt m → am_Z F 24 [] [(2, v0), (0, v1), (0, v2), (0, v3), (0, v4), (9, 0), (9, 0), (9, 0)] m 200 := by
    intro j
    induction j using Nat.strongRecOn with
    | ind j ih =>
      intro v4 m hj hB
      exact S_X12_parts_L2B X HR hp_v0 (fun v4' m' hc hB' => by
        obtain ⟨j', g1, g2⟩ := hc
        exact ih j' g1 v4' m' g2 hB') hC16 hB (hI j v4 m hj)
  exact key j _ _ hj hB
set_option maxRecDepth 20000 in
set_option maxHeartbeats 4000000 in
theorem S_X12_parts_L1B {F : am_F} {K : am_KK} {k : Nat} {R : Nat → am_PT} {v0 : Int} {v1 : Int} {v2 : Int} {v3 : Int} {C16 : Int → am_M → Prop} {m : am_M} (X : am_Cx F cX12_parts RX12 none (1 + (k + 1)) 9 K) (HR : H_X12_parts k R) (hp_v0 : am_ob v0 12) (hC16 : ∀ w3 m, C16 w3 m → am_Bt m → am_Z F 16 [] [(2, v0), (0, v1), (0, v2), (0, w3), (9, 0), (9, 0), (9, 0), (9, 0)] m 200) (hB : am_Bt m) (h : M_X12_parts_L1B R v0 v1 v2 v3 C16 K m) : am_Z F 16 [] [(2, v0), (0, v1), (0, v2), (0, v3), (9, 0), (9, 0), (9, 0), (9, 0)] m 200 := by
  have G := X.G
  have HR_X12_parts := HR
  unfold M_X12_parts_L1B at h
  refine z_iload_n (nx := 17) (a := 3) G rfl dX12_parts_16 rfl (z_iload_n (nx := 18) (a := 2) G rfl dX12_parts_17 rfl ?_)
  refine z_icmp_ge (nx := 21) (tgt := 187) G dX12_parts_18 (by decide) rfl (fun c => ?_) (fun c => ?_)
  · have h := h.1 c
    exact b_return X hB dX12_parts_187 h
  · have h := h.2 c
    refine z_iconst (nx := 22) (z := 2) G (R32c rfl) dX12_parts_21 rfl (b_storeE (nx := 24) (a := 4) (loc2 := [(2, v0), (0, v1), (0, v2), (0, v3), (0, 2), (9, 0), (9, 0), (9, 0)]) G rfl (Nat.le_of_ble_eq_true rfl) (am_pl1 rfl (fun h => nomatch h)) dX12_parts_22 rfl ?_)
    exact b_fewer (loc2 := [(2, v0), (0, v1), (0, v2), (0, v3), (0, 2), (9, 0), (9, 0), (9, 0)]) (am_lk (am_lk (am_lk (am_lk (am_lk (am_lk (am_lk (am_lk am_ln)))))))) (S_X12_parts_L2 X HR hp_v0 hC16 hB h)
theorem S_X12_parts_L1 {F : am_F} {K : am_KK} {k : Nat} {R : Nat → am_PT} {v0 : Int} {v1 : Int} {v2 : Int} {v3 : Int} {m : am_M} (X : am_Cx F cX12_parts RX12 none (1 + (k + 1)) 9 K) (HR : H_X12_parts k R) (hp_v0 : am_ob v0 12) (hB : am_Bt m) (h : M_X12_parts_L1 R v0 v1 v2 v3 K m) : am_Z F 16 [] [(2, v0), (0, v1), (0, v2), (0, v3), (9, 0), (9, 0), (9, 0), (9, 0)] m 200 := by
  obtain ⟨I, ⟨j, hj⟩, hI⟩ := h
  have key : ∀ j v3 m, I j v3 m → am_Bt m → am_Z F 16 [] [(2, v0), (0, v1), (0, v2), (0, v3), (9, 0), (9, 0), (9, 0), (9, 0)] m 200 := by
    intro j
    induction j using Nat.strongRecOn with
    | ind j ih =>
      intro v3 m hj hB
      exact S_X12_parts_L1B X HR hp_v0 (fun v3' m' hc hB' => by
        obtain ⟨j', g1, g2⟩ := hc
        exact ih j' g1 v3' m' g2 hB') hB (hI j v3 m hj)
  exact key j _ _ hj hB
set_option maxRecDepth 20000 in
set_option maxHeartbeats 4000000 in
theorem S_X12_parts {F : am_F} {K : am_KK} {k : Nat} {R : Nat → am_PT} {v0 : Int} {v1 : Int} {v2 : Int} {m : am_M} (X : am_Cx F cX12_parts RX12 none (1 + (k + 1)) 9 K) (HR : H_X12_parts k R) (hp_v0 : am_ob v0 12) (hB : am_Bt m) (h : M_X12_parts R v0 v1 v2 K m) : am_Z F 0 [] [(2, v0), (0, v1), (0, v2), (9, 0), (9, 0), (9, 0), (9, 0), (9, 0)] m 200 := by
  have G := X.G
  have HR_X12_parts := HR
  unfold M_X12_parts at h
  refine z_iload_n (nx := 1) (a := 2) G rfl dX12_parts_0 rfl (z_aload_n (nx := 2) (a := 0) G rfl (Or.inl rfl) dX12_parts_1 rfl (b_getI (nx := 5) (k0 := 46) (t := 0) G fl_RX12_391 (Nat.le_of_ble_eq_true rfl) (Nat.le_of_ble_eq_true rfl) rfl hp_v0 dX12_parts_2 rfl ?_))
  refine z_icmp_ne (nx := 8) (tgt := 14) G dX12_parts_5 (by decide) rfl (fun c => ?_) (fun c => ?_)
  · have h := h.1 c
    refine z_iconst (nx := 15) (z := 0) G (R32c rfl) dX12_parts_14 rfl (b_storeE_n (nx := 16) (a := 3) (loc2 := [(2, v0), (0, v1), (0, v2), (0, 0), (9, 0), (9, 0), (9, 0), (9, 0)]) G rfl (Nat.le_of_ble_eq_true rfl) (am_pl1 rfl (fun h => nomatch h)) dX12_parts_15 rfl ?_)
    exact b_fewer (loc2 := [(2, v0), (0, v1), (0, v2), (0, 0), (9, 0), (9, 0), (9, 0), (9, 0)]) (am_lk (am_lk (am_lk (am_lk (am_lk (am_lk (am_lk (am_lk am_ln)))))))) (S_X12_parts_L1 X HR hp_v0 hB h)
  · have h := h.2 c
    refine z_aload_n (nx := 9) (a := 0) G rfl (Or.inl rfl) dX12_parts_8 rfl (z_iload_n (nx := 10) (a := 1) G rfl dX12_parts_9 rfl ?_)
    refine b_callV9 (nx := 13) (zs := [v0, v1]) (as := [(0, v1)]) X hB (by decide) rfl hp_v0 SS_X12_looksAt (am_ta (am_ti am_tn)) (by omega) (Nat.le_of_ble_eq_true rfl) ml_RX12_394 iw_X12_looksAt vw_X12_looksAt cw_X12_looksAt nw_RX12 pp_X12_looksAt (Nat.le_of_ble_eq_true rfl) dX12_parts_10 rfl (NM_X12_looksAt hp_v0 h) (fun r_12 m_13 h hB => ?_)
    exact b_return X hB dX12_parts_13 h
theorem SR_X12_parts {k : Nat} {R : Nat → am_PT} (HR : H_X12_parts k R) : am_Snd yX12_parts cX12_parts 8 none 0 (1 + (k + 1)) (am_L [2, 0, 0] 9 (N_X12_parts R)) := by
  refine am_SB (by decide +kernel) (Nat.le_of_ble_eq_true rfl) (fun F zs as K m X ht hB hM => ?_)
  obtain ⟨v0, zs, as, rfl, rfl, hz0, ht⟩ := am_inv ht
  obtain ⟨v1, zs, as, rfl, rfl, hz1, ht⟩ := am_inv ht
  obtain ⟨v2, zs, as, rfl, rfl, hz2, ht⟩ := am_inv ht
  obtain ⟨rfl, rfl⟩ := am_inv0 ht
  obtain ⟨hp_v0, hM⟩ := hM
  exact S_X12_parts X HR hp_v0 hB hM
theorem HH_X12_parts : ∀ k, H_X12_parts k (R_X12_parts k) := by
  intro k
  induction k with
  | zero => exact am_Snd_false
  | succ k ih => exact SR_X12_parts ih
theorem SS_X12_parts : am_Snd yX12_parts cX12_parts 8 none 0 302 (am_L [2, 0, 0] 9 (R_X12_parts 301 0)) := (HH_X12_parts 301)
set_option maxRecDepth 20000 in
set_option maxHeartbeats 4000000 in
theorem S_X12_listsLetters_J2 {F : am_F} {K : am_KK} {v0 : Int} {v1 : Int} {v2 : Int} {C29 : Int → am_M → Prop} {m : am_M} (X : am_Cx F cX12_listsLetters RX12 (some .boolean) 2 5 K) (hp_v0 : am_ob v0 12) (hC29 : ∀ w2 m, C29 w2 m → am_Bt m → am_Z F 29 [] [(2, v0), (0, v1), (0, w2), (9, 0)] m 200) (hB : am_Bt m) (h : M_X12_listsLetters_J2 v0 v1 v2 C29 K m) : am_Z F 138 [] [(2, v0), (0, v1), (0, v2), (9, 0)] m 200 := by
  have G := X.G
  unfold M_X12_listsLetters_J2 at h
  refine b_iinc (nx := 141) (a := 2) (loc2 := fun v2_1 => [(2, v0), (0, v1), (0, v2_1), (9, 0)]) G (fun _ => rfl) rfl (am_pl1 rfl (fun h => nomatch h)) dX12_listsLetters_138 rfl (fun v2_1 e_v2_1 => ?_)
  have h := h v2_1 e_v2_1
  refine z_goto (tgt := 29) G dX12_listsLetters_141 (by decide) ?_
  exact b_fewer (loc2 := [(2, v0), (0, v1), (0, v2_1), (9, 0)]) (am_lk (am_lk (am_lk (am_lk am_ln)))) (hC29 _ _ h hB)
set_option maxRecDepth 20000 in
set_option maxHeartbeats 4000000 in
theorem S_X12_listsLetters_J1 {F : am_F} {K : am_KK} {v0 : Int} {v1 : Int} {v2 : Int} {v3 : Int} {C29 : Int → am_M → Prop} {m : am_M} (X : am_Cx F cX12_listsLetters RX12 (some .boolean) 2 5 K) (hp_v0 : am_ob v0 12) (hC29 : ∀ w2 m, C29 w2 m → am_Bt m → am_Z F 29 [] [(2, v0), (0, v1), (0, w2), (9, 0)] m 200) (hB : am_Bt m) (h : M_X12_listsLetters_J1 v0 v1 v2 v3 C29 K m) : am_Z F 112 [] [(2, v0), (0, v1), (0, v2), (0, v3)] m 200 := by
  have G := X.G
  unfold M_X12_listsLetters_J1 at h
  refine z_aload_n (nx := 113) (a := 0) G rfl (Or.inl rfl) dX12_listsLetters_112 rfl (b_getA (nx := 116) (k0 := 39) G hB fl_RX12_92 (Nat.le_of_ble_eq_true rfl) (Nat.le_of_ble_eq_true rfl) rfl hp_v0 dX12_listsLetters_113 rfl (z_iload_n (nx := 117) (a := 3) G rfl dX12_listsLetters_116 rfl (z_aload_n (nx := 118) (a := 0) G rfl (Or.inl rfl) dX12_listsLetters_117 rfl (b_getA (nx := 121) (k0 := 2) G hB fl_RX12_24 (Nat.le_of_ble_eq_true rfl) (Nat.le_of_ble_eq_true rfl) rfl hp_v0 dX12_listsLetters_118 rfl (z_sipush (nx := 124) (z := 170) G (R32c rfl) rfl dX12_listsLetters_121 rfl (z_iload_n (nx := 125) (a := 2) G rfl dX12_listsLetters_124 rfl (z_iadd (nx := 126) G dX12_listsLetters_125 rfl ?_)))))))
  obtain ⟨hb, h⟩ := h
  refine z_iald (nx := 127) G (sh_12_2 _ hp_v0) hb.1 hb.2 dX12_listsLetters_126 rfl ?_
  obtain ⟨hb, h⟩ := h
  refine b_iast (nx := 128) G hB (sh_12_39 _ hp_v0) hb.1 hb.2 dX12_listsLetters_127 rfl (fun m_2 e_m_2 hB => ?_)
  have h := h m_2 e_m_2
  refine z_aload_n (nx := 129) (a := 0) G rfl (Or.inl rfl) dX12_listsLetters_128 rfl (z_dup (nx := 130) G (fun h => nomatch h) dX12_listsLetters_129 rfl (b_getI (nx := 133) (k0 := 45) (t := 0) G fl_RX12_397 (Nat.le_of_ble_eq_true rfl) (Nat.le_of_ble_eq_true rfl) rfl hp_v0 dX12_listsLetters_130 rfl (z_iconst (nx := 134) (z := 1) G (R32c rfl) dX12_listsLetters_133 rfl (z_iadd (nx := 135) G dX12_listsLetters_134 rfl ?_))))
  refine b_put (nx := 138) (k0 := 45) (t := 0) G hB fl_RX12_397 (Nat.le_of_ble_eq_true rfl) (Nat.le_of_ble_eq_true rfl) rfl (fun h => nomatch h) rfl hp_v0 dX12_listsLetters_135 rfl (fun m_3 e_m_3 hB => ?_)
  have h := h m_3 e_m_3
  exact b_fewer (loc2 := [(2, v0), (0, v1), (0, v2), (9, 0)]) (am_lk (am_lk (am_lk (am_lf am_ln)))) (S_X12_listsLetters_J2 X hp_v0 hC29 hB h)
set_option maxRecDepth 20000 in
set_option maxHeartbeats 4000000 in
theorem S_X12_listsLetters_L2B {F : am_F} {K : am_KK} {v0 : Int} {v1 : Int} {v2 : Int} {v3 : Int} {C67 : Int → am_M → Prop} {C29 : Int → am_M → Prop} {m : am_M} (X : am_Cx F cX12_listsLetters RX12 (some .boolean) 2 5 K) (hp_v0 : am_ob v0 12) (hC67 : ∀ w3 m, C67 w3 m → am_Bt m → am_Z F 67 [] [(2, v0), (0, v1), (0, v2), (0, w3)] m 200) (hC29 : ∀ w2 m, C29 w2 m → am_Bt m → am_Z F 29 [] [(2, v0), (0, v1), (0, w2), (9, 0)] m 200) (hB : am_Bt m) (h : M_X12_listsLetters_L2B v0 v1 v2 v3 C67 C29 K m) : am_Z F 67 [] [(2, v0), (0, v1), (0, v2), (0, v3)] m 200 := by
  have G := X.G
  unfold M_X12_listsLetters_L2B at h
  refine z_iload_n (nx := 68) (a := 3) G rfl dX12_listsLetters_67 rfl ?_
  refine z_if_le (nx := 71) (tgt := 112) G dX12_listsLetters_68 (by decide) rfl (fun c => ?_) (fun c => ?_)
  · have h := h.1 c
    exact b_fewer (loc2 := [(2, v0), (0, v1), (0, v2), (0, v3)]) (am_lk (am_lk (am_lk (am_lk am_ln)))) (S_X12_listsLetters_J1 X hp_v0 hC29 hB h)
  · have h := h.2 c
    refine z_aload_n (nx := 72) (a := 0) G rfl (Or.inl rfl) dX12_listsLetters_71 rfl (b_getA (nx := 75) (k0 := 39) G hB fl_RX12_92 (Nat.le_of_ble_eq_true rfl) (Nat.le_of_ble_eq_true rfl) rfl hp_v0 dX12_listsLetters_72 rfl (z_iload_n (nx := 76) (a := 3) G rfl dX12_listsLetters_75 rfl (z_iconst (nx := 77) (z := 1) G (R32c rfl) dX12_listsLetters_76 rfl (z_isub (nx := 78) G dX12_listsLetters_77 rfl ?_))))
    obtain ⟨hb, h⟩ := h
    refine z_iald (nx := 79) G (sh_12_39 _ hp_v0) hb.1 hb.2 dX12_listsLetters_78 rfl ?_
    refine z_aload_n (nx := 80) (a := 0) G rfl (Or.inl rfl) dX12_listsLetters_79 rfl (b_getA (nx := 83) (k0 := 2) G hB fl_RX12_24 (Nat.le_of_ble_eq_true rfl) (Nat.le_of_ble_eq_true rfl) rfl hp_v0 dX12_listsLetters_80 rfl (z_sipush (nx := 86) (z := 170) G (R32c rfl) rfl dX12_listsLetters_83 rfl (z_iload_n (nx := 87) (a := 2) G rfl dX12_listsLetters_86 rfl (z_iadd (nx := 88) G dX12_listsLetters_87 rfl ?_))))
    obtain ⟨hb, h⟩ := h
    refine z_iald (nx := 89) G (sh_12_2 _ hp_v0) hb.1 hb.2 dX12_listsLetters_88 rfl ?_
    refine z_icmp_le (nx := 92) (tgt := 112) G dX12_listsLetters_89 (by decide) rfl (fun c => ?_) (fun c => ?_)
    · have h := h.1 c
      exact b_fewer (loc2 := [(2, v0), (0, v1), (0, v2), (0, v3)]) (am_lk (am_lk (am_lk (am_lk am_ln)))) (S_X12_listsLetters_J1 X hp_v0 hC29 hB h)
    · have h := h.2 c
      refine z_aload_n (nx := 93) (a := 0) G rfl (Or.inl rfl) dX12_listsLetters_92 rfl (b_getA (nx := 96) (k0 := 39) G hB fl_RX12_92 (Nat.le_of_ble_eq_true rfl) (Nat.le_of_ble_eq_true rfl) rfl hp_v0 dX12_listsLetters_93 rfl (z_iload_n (nx := 97) (a := 3) G rfl dX12_listsLetters_96 rfl (z_aload_n (nx := 98) (a := 0) G rfl (Or.inl rfl) dX12_listsLetters_97 rfl (b_getA (nx := 101) (k0 := 39) G hB fl_RX12_92 (Nat.le_of_ble_eq_true rfl) (Nat.le_of_ble_eq_true rfl) rfl hp_v0 dX12_listsLetters_98 rfl (z_iload_n (nx := 102) (a := 3) G rfl dX12_listsLetters_101 rfl (z_iconst (nx := 103) (z := 1) G (R32c rfl) dX12_listsLetters_102 rfl (z_isub (nx := 104) G dX12_listsLetters_103 rfl ?_)))))))
      obtain ⟨hb, h⟩ := h
      refine z_iald (nx := 105) G (sh_12_39 _ hp_v0) hb.1 hb.2 dX12_listsLetters_104 rfl ?_
      obtain ⟨hb, h⟩ := h
      refine b_iast (nx := 106) G hB (sh_12_39 _ hp_v0) hb.1 hb.2 dX12_listsLetters_105 rfl (fun m_4 e_m_4 hB => ?_)
      have h := h m_4 e_m_4
      refine b_iinc (nx := 109) (a := 3) (loc2 := fun v3_5 => [(2, v0), (0, v1), (0, v2), (0, v3_5)]) G (fun _ => rfl) rfl (am_pl1 rfl (fun h => nomatch h)) dX12_listsLetters_106 rfl (fun v3_5 e_v3_5 => ?_)
      have h := h v3_5 e_v3_5
      refine z_goto (tgt := 67) G dX12_listsLetters_109 (by decide) ?_
      exact b_fewer (loc2 := [(2, v0), (0, v1), (0, v2), (0, v3_5)]) (am_lk (am_lk (am_lk (am_lk am_ln)))) (hC67 _ _ h hB)
theorem S_X12_listsLetters_L2 {F : am_F} {K : am_KK} {v0 : Int} {v1 : Int} {v2 : Int} {v3 : Int} {C29 : Int → am_M → Prop} {m : am_M} (X : am_Cx F cX12_listsLetters RX12 (some .boolean) 2 5 K) (hp_v0 : am_ob v0 12) (hC29 : ∀ w2 m, C29 w2 m → am_Bt m → am_Z F 29 [] [(2, v0), (0, v1), (0, w2), (9, 0)] m 200) (hB : am_Bt m) (h : M_X12_listsLetters_L2 v0 v1 v2 v3 C29 K m) : am_Z F 67 [] [(2, v0), (0, v1), (0, v2), (0, v3)] m 200 := by
  obtain ⟨I, ⟨j, hj⟩, hI⟩ := h
  have key : ∀ j v3 m, I j v3 m → am_Bt m → am_Z F 67 [] [(2, v0), (0, v1), (0, v2), (0, v3)] m 200 := by
    intro j
    induction j using Nat.strongRecOn with
    | ind j ih =>
      intro v3 m hj hB
      exact S_X12_listsLetters_L2B X hp_v0 (fun v3' m' hc hB' => by
        obtain ⟨j', g1, g2⟩ := hc
        exact ih j' g1 v3' m' g2 hB') hC29 hB (hI j v3 m hj)
  exact key j _ _ hj hB
set_option maxRecDepth 20000 in
set_option maxHeartbeats 4000000 in
theorem S_X12_listsLetters_L1B {F : am_F} {K : am_KK} {v0 : Int} {v1 : Int} {v2 : Int} {C29 : Int → am_M → Prop} {m : am_M} (X : am_Cx F cX12_listsLetters RX12 (some .boolean) 2 5 K) (hp_v0 : am_ob v0 12) (hC29 : ∀ w2 m, C29 w2 m → am_Bt m → am_Z F 29 [] [(2, v0), (0, v1), (0, w2), (9, 0)] m 200) (hB : am_Bt m) (h : M_X12_listsLetters_L1B v0 v1 v2 C29 K m) : am_Z F 29 [] [(2, v0), (0, v1), (0, v2), (9, 0)] m 200 := by
  have G := X.G
  unfold M_X12_listsLetters_L1B at h
  refine z_iload_n (nx := 30) (a := 2) G rfl dX12_listsLetters_29 rfl (z_aload_n (nx := 31) (a := 0) G rfl (Or.inl rfl) dX12_listsLetters_30 rfl (b_getA (nx := 34) (k0 := 2) G hB fl_RX12_24 (Nat.le_of_ble_eq_true rfl) (Nat.le_of_ble_eq_true rfl) rfl hp_v0 dX12_listsLetters_31 rfl (z_sipush (nx := 37) (z := 363) G (R32c rfl) rfl dX12_listsLetters_34 rfl ?_)))
  obtain ⟨hb, h⟩ := h
  refine z_iald (nx := 38) G (sh_12_2 _ hp_v0) hb.1 hb.2 dX12_listsLetters_37 rfl ?_
  refine z_icmp_ge (nx := 41) (tgt := 144) G dX12_listsLetters_38 (by decide) rfl (fun c => ?_) (fun c => ?_)
  · have h := h.1 c
    refine z_aload_n (nx := 145) (a := 0) G rfl (Or.inl rfl) dX12_listsLetters_144 rfl (b_getI (nx := 148) (k0 := 45) (t := 0) G fl_RX12_397 (Nat.le_of_ble_eq_true rfl) (Nat.le_of_ble_eq_true rfl) rfl hp_v0 dX12_listsLetters_145 rfl (z_iconst (nx := 149) (z := 1) G (R32c rfl) dX12_listsLetters_148 rfl ?_))
    refine z_icmp_le (nx := 152) (tgt := 156) G dX12_listsLetters_149 (by decide) rfl (fun c => ?_) (fun c => ?_)
    · have h := h.1 c
      refine z_iconst (nx := 157) (z := 0) G (R32c rfl) dX12_listsLetters_156 rfl ?_
      exact b_zreturn X hB (Or.inl rfl) dX12_listsLetters_157 h
    · have h := h.2 c
      refine z_iconst (nx := 153) (z := 1) G (R32c rfl) dX12_listsLetters_152 rfl (z_goto (tgt := 157) G dX12_listsLetters_153 (by decide) ?_)
      exact b_zreturn X hB (Or.inr rfl) dX12_listsLetters_157 h
  · have h := h.2 c
    refine z_iload_n (nx := 42) (a := 1) G rfl dX12_listsLetters_41 rfl (z_iload_n (nx := 43) (a := 2) G rfl dX12_listsLetters_42 rfl ?_)
    refine b_callS5 (nx := 46) (zs := [v1, v2]) (as := [(0, v1), (0, v2)]) X hB SS_X12_isIn (am_ti (am_ti am_tn)) (Nat.le_of_ble_eq_true rfl) (Nat.le_of_ble_eq_true rfl) ml_RX12_406 sw_X12_isIn (am_plainC 12 (by decide)) cw_X12_isIn nw_RX12 pp_X12_isIn (Nat.le_of_ble_eq_true rfl) dX12_listsLetters_43 rfl (NM_X12_isIn h) (fun r_6 m_7 h h01_8 hB => ?_)
    refine z_if_ne (nx := 49) (tgt := 52) G dX12_listsLetters_46 (by decide) rfl (fun c => ?_) (fun c => ?_)
    · have h := h.1 c
      refine z_aload_n (nx := 53) (a := 0) G rfl (Or.inl rfl) dX12_listsLetters_52 rfl (b_getI (nx := 56) (k0 := 45) (t := 0) G fl_RX12_397 (Nat.le_of_ble_eq_true rfl) (Nat.le_of_ble_eq_true rfl) rfl hp_v0 dX12_listsLetters_53 rfl (z_iconst (nx := 57) (z := 3) G (R32c rfl) dX12_listsLetters_56 rfl ?_))
      refine z_icmp_ne (nx := 60) (tgt := 62) G dX12_listsLetters_57 (by decide) rfl (fun c => ?_) (fun c => ?_)
      · have h := h.1 c
        refine z_aload_n (nx := 63) (a := 0) G rfl (Or.inl rfl) dX12_listsLetters_62 rfl (b_getI (nx := 66) (k0 := 45) (t := 0) G fl_RX12_397 (Nat.le_of_ble_eq_true rfl) (Nat.le_of_ble_eq_true rfl) rfl hp_v0 dX12_listsLetters_63 rfl ?_)
        refine b_store_n (nx := 67) (a := 3) (loc2 := fun v3_9 => [(2, v0), (0, v1), (0, v2), (0, v3_9)]) G (fun _ => rfl) (Nat.le_of_ble_eq_true rfl) (am_pl1 rfl (fun h => nomatch h)) dX12_listsLetters_66 rfl (fun v3_9 e_v3_9 => ?_)
        have h := h v3_9 e_v3_9
        exact b_fewer (loc2 := [(2, v0), (0, v1), (0, v2), (0, v3_9)]) (am_lk (am_lk (am_lk (am_lk am_ln)))) (S_X12_listsLetters_L2 X hp_v0 hC29 hB h)
      · have h := h.2 c
        refine z_iconst (nx := 61) (z := 0) G (R32c rfl) dX12_listsLetters_60 rfl ?_
        exact b_zreturn X hB (Or.inl rfl) dX12_listsLetters_61 h
    · have h := h.2 c
      refine z_goto (tgt := 138) G dX12_listsLetters_49 (by decide) ?_
      exact b_fewer (loc2 := [(2, v0), (0, v1), (0, v2), (9, 0)]) (am_lk (am_lk (am_lk (am_lk am_ln)))) (S_X12_listsLetters_J2 X hp_v0 hC29 hB h)
theorem S_X12_listsLetters_L1 {F : am_F} {K : am_KK} {v0 : Int} {v1 : Int} {v2 : Int} {m : am_M} (X : am_Cx F cX12_listsLetters RX12 (some .boolean) 2 5 K) (hp_v0 : am_ob v0 12) (hB : am_Bt m) (h : M_X12_listsLetters_L1 v0 v1 v2 K m) : am_Z F 29 [] [(2, v0), (0, v1), (0, v2), (9, 0)] m 200 := by
  obtain ⟨I, ⟨j, hj⟩, hI⟩ := h
  have key : ∀ j v2 m, I j v2 m → am_Bt m → am_Z F 29 [] [(2, v0), (0, v1), (0, v2), (9, 0)] m 200 := by
    intro j
    induction j using Nat.strongRecOn with
    | ind j ih =>
      intro v2 m hj hB
      exact S_X12_listsLetters_L1B X hp_v0 (fun v2' m' hc hB' => by
        obtain ⟨j', g1, g2⟩ := hc
        exact ih j' g1 v2' m' g2 hB') hB (hI j v2 m hj)
  exact key j _ _ hj hB
set_option maxRecDepth 20000 in
set_option maxHeartbeats 4000000 in
theorem S_X12_listsLetters {F : am_F} {K : am_KK} {v0 : Int} {v1 : Int} {m : am_M} (X : am_Cx F cX12_listsLetters RX12 (some .boolean) 2 5 K) (hp_v0 : am_ob v0 12) (hB : am_Bt m) (h : M_X12_listsLetters v0 v1 K m) : am_Z F 0 [] [(2, v0), (0, v1), (9, 0), (9, 0)] m 200 := by
  have G := X.G
  unfold M_X12_listsLetters at h
  refine z_aload_n (nx := 1) (a := 0) G rfl (Or.inl rfl) dX12_listsLetters_0 rfl (z_iconst (nx := 2) (z := 0) G (R32c rfl) dX12_listsLetters_1 rfl ?_)
  refine b_put (nx := 5) (k0 := 45) (t := 0) G hB fl_RX12_397 (Nat.le_of_ble_eq_true rfl) (Nat.le_of_ble_eq_true rfl) rfl (fun h => nomatch h) rfl hp_v0 dX12_listsLetters_2 rfl (fun m_10 e_m_10 hB => ?_)
  have h := h m_10 e_m_10
  refine z_iload_n (nx := 6) (a := 1) G rfl dX12_listsLetters_5 rfl (z_iconst (nx := 7) (z := 1) G (R32c rfl) dX12_listsLetters_6 rfl (z_iconst (nx := 8) (z := 1) G (R32c rfl) dX12_listsLetters_7 rfl (z_aload_n (nx := 9) (a := 0) G rfl (Or.inl rfl) dX12_listsLetters_8 rfl (b_getA (nx := 12) (k0 := 2) G hB fl_RX12_24 (Nat.le_of_ble_eq_true rfl) (Nat.le_of_ble_eq_true rfl) rfl hp_v0 dX12_listsLetters_9 rfl (z_sipush (nx := 15) (z := 363) G (R32c rfl) rfl dX12_listsLetters_12 rfl ?_)))))
  obtain ⟨hb, h⟩ := h
  refine z_iald (nx := 16) G (sh_12_2 _ hp_v0) hb.1 hb.2 dX12_listsLetters_15 rfl ?_
  refine z_ishl (nx := 17) G dX12_listsLetters_16 rfl (z_iconst (nx := 18) (z := 1) G (R32c rfl) dX12_listsLetters_17 rfl (z_isub (nx := 19) G dX12_listsLetters_18 rfl ?_))
  refine b_callS5 (nx := 22) (zs := [v1, 1, w32 ((am_shl 1 (m_10 (am_rfv v0 2) 363)) - 1)]) (as := [(0, v1), (0, 1), (0, w32 ((am_shl 1 (m_10 (am_rfv v0 2) 363)) - 1))]) X hB SS_X12_lies (am_ti (am_ti (am_ti am_tn))) (Nat.le_of_ble_eq_true rfl) (Nat.le_of_ble_eq_true rfl) ml_RX12_123 sw_X12_lies (am_plainC 12 (by decide)) cw_X12_lies nw_RX12 pp_X12_lies (Nat.le_of_ble_eq_true rfl) dX12_listsLetters_19 rfl (NM_X12_lies h) (fun r_11 m_12 h h01_13 hB => ?_)
  refine z_if_ne (nx := 25) (tgt := 27) G dX12_listsLetters_22 (by decide) rfl (fun c => ?_) (fun c => ?_)
  · have h := h.1 c
    refine z_iconst (nx := 28) (z := 0) G (R32c rfl) dX12_listsLetters_27 rfl (b_storeE_n (nx := 29) (a := 2) (loc2 := [(2, v0), (0, v1), (0, 0), (9, 0)]) G rfl (Nat.le_of_ble_eq_true rfl) (am_pl1 rfl (fun h => nomatch h)) dX12_listsLetters_28 rfl ?_)
    exact b_fewer (loc2 := [(2, v0), (0, v1), (0, 0), (9, 0)]) (am_lk (am_lk (am_lk (am_lk am_ln)))) (S_X12_listsLetters_L1 X hp_v0 hB h)
  · have h := h.2 c
    refine z_iconst (nx := 26) (z := 0) G (R32c rfl) dX12_listsLetters_25 rfl ?_
    exact b_zreturn X hB (Or.inl rfl) dX12_listsLetters_26 h
theorem NM_X12_listsLetters {v0 : Int} {v1 : Int} {K : am_KK} {m : am_M} (hp_v0 : am_ob v0 12) (h : M_X12_listsLetters v0 v1 K m) : N_X12_listsLetters [v0, v1] K m := ⟨hp_v0, h⟩
theorem SS_X12_listsLetters : am_Snd yX12_listsLetters cX12_listsLetters 4 (some .boolean) 0 2 (am_L [2, 0] 5 N_X12_listsLetters) := by
  refine am_SB (by decide +kernel) (Nat.le_of_ble_eq_true rfl) (fun F zs as K m X ht hB hM => ?_)
  obtain ⟨v0, zs, as, rfl, rfl, hz0, ht⟩ := am_inv ht
  obtain ⟨v1, zs, as, rfl, rfl, hz1, ht⟩ := am_inv ht
  obtain ⟨rfl, rfl⟩ := am_inv0 ht
  obtain ⟨hp_v0, hM⟩ := hM
  exact S_X12_listsLetters X hp_v0 hB hM
set_option maxRecDepth 20000 in
set_option maxHeartbeats 4000000 in
theorem S_X12_code_L2B {F : am_F} {K : am_KK} {v0 : Int} {v2 : Int} {v3 : Int} {C183 : Int → am_M → Prop} {m : am_M} (X : am_Cx F cX12_code RX12 (some .int) 303 0 K) (hp_v0 : am_ob v0 12) (hC183 : ∀ w3 m, C183 w3 m → am_Bt m → am_Z F 183 [] [(2, v0), (9, 0), (0, v2), (0, w3)] m 200) (hB : am_Bt m) (h : M_X12_code_L2B v0 v2 v3 C183 K m) : am_Z F 183 [] [(2, v0), (9, 0), (0, v2), (0, v3)] m 200 := by
  have G := X.G
  unfold M_X12_code_L2B at h
  refine z_iload_n (nx := 184) (a := 3) G rfl dX12_code_183 rfl (z_aload_n (nx := 185) (a := 0) G rfl (Or.inl rfl) dX12_code_184 rfl (b_getI (nx := 188) (k0 := 46) (t := 0) G fl_RX12_391 (Nat.le_of_ble_eq_true rfl) (Nat.le_of_ble_eq_true rfl) rfl hp_v0 dX12_code_185 rfl ?_))
  refine z_icmp_ge (nx := 191) (tgt := 216) G dX12_code_188 (by decide) rfl (fun c => ?_) (fun c => ?_)
  · have h := h.1 c
    refine z_iconst (nx := 217) (z := (-1)) G (R32c rfl) dX12_code_216 rfl ?_
    exact b_ireturn X hB dX12_code_217 h
  · have h := h.2 c
    refine z_aload_n (nx := 192) (a := 0) G rfl (Or.inl rfl) dX12_code_191 rfl (b_getA (nx := 195) (k0 := 40) G hB fl_RX12_95 (Nat.le_of_ble_eq_true rfl) (Nat.le_of_ble_eq_true rfl) rfl hp_v0 dX12_code_192 rfl (z_iload_n (nx := 196) (a := 3) G rfl dX12_code_195 rfl ?_))
    obtain ⟨hb, h⟩ := h
    refine z_iald (nx := 197) G (sh_12_40 _ hp_v0) hb.1 hb.2 dX12_code_196 rfl ?_
    refine z_iload_n (nx := 198) (a := 2) G rfl dX12_code_197 rfl (z_iconst (nx := 199) (z := 1) G (R32c rfl) dX12_code_198 rfl (z_isub (nx := 200) G dX12_code_199 rfl ?_))
    refine z_icmp_ne (nx := 203) (tgt := 210) G dX12_code_200 (by decide) rfl (fun c => ?_) (fun c => ?_)
    · have h := h.1 c
      refine b_iinc (nx := 213) (a := 3) (loc2 := fun v3_1 => [(2, v0), (9, 0), (0, v2), (0, v3_1)]) G (fun _ => rfl) rfl (am_pl1 rfl (fun h => nomatch h)) dX12_code_210 rfl (fun v3_1 e_v3_1 => ?_)
      have h := h v3_1 e_v3_1
      refine z_goto (tgt := 183) G dX12_code_213 (by decide) ?_
      exact b_fewer (loc2 := [(2, v0), (9, 0), (0, v2), (0, v3_1)]) (am_lk (am_lk (am_lk (am_lk am_ln)))) (hC183 _ _ h hB)
    · have h := h.2 c
      refine z_aload_n (nx := 204) (a := 0) G rfl (Or.inl rfl) dX12_code_203 rfl (b_getA (nx := 207) (k0 := 44) G hB fl_RX12_107 (Nat.le_of_ble_eq_true rfl) (Nat.le_of_ble_eq_true rfl) rfl hp_v0 dX12_code_204 rfl (z_iload_n (nx := 208) (a := 3) G rfl dX12_code_207 rfl ?_))
      obtain ⟨hb, h⟩ := h
      refine z_iald (nx := 209) G (sh_12_44 _ hp_v0) hb.1 hb.2 dX12_code_208 rfl ?_
      exact b_ireturn X hB dX12_code_209 h
theorem S_X12_code_L2 {F : am_F} {K : am_KK} {v0 : Int} {v2 : Int} {v3 : Int} {m : am_M} (X : am_Cx F cX12_code RX12 (some .int) 303 0 K) (hp_v0 : am_ob v0 12) (hB : am_Bt m) (h : M_X12_code_L2 v0 v2 v3 K m) : am_Z F 183 [] [(2, v0), (9, 0), (0, v2), (0, v3)] m 200 := by
  obtain ⟨I, ⟨j, hj⟩, hI⟩ := h
  have key : ∀ j v3 m, I j v3 m → am_Bt m → am_Z F 183 [] [(2, v0), (9, 0), (0, v2), (0, v3)] m 200 := by
    intro j
    induction j using Nat.strongRecOn with
    | ind j ih =>
      intro v3 m hj hB
      exact S_X12_code_L2B X hp_v0 (fun v3' m' hc hB' => by
        obtain ⟨j', g1, g2⟩ := hc
        exact ih j' g1 v3' m' g2 hB') hB (hI j v3 m hj)
  exact key j _ _ hj hB
set_option maxRecDepth 20000 in
set_option maxHeartbeats 4000000 in
theorem S_X12_code_J4 {F : am_F} {K : am_KK} {v0 : Int} {v2 : Int} {m : am_M} (X : am_Cx F cX12_code RX12 (some .int) 303 0 K) (hp_v0 : am_ob v0 12) (hB : am_Bt m) (h : M_X12_code_J4 v0 v2 K m) : am_Z F 172 [] [(2, v0), (9, 0), (0, v2), (9, 0)] m 200 := by
  have G := X.G
  unfold M_X12_code_J4 at h
  refine z_iload_n (nx := 173) (a := 2) G rfl dX12_code_172 rfl ?_
  refine z_if_ne (nx := 176) (tgt := 181) G dX12_code_173 (by decide) rfl (fun c => ?_) (fun c => ?_)
  · have h := h.1 c
    refine z_iconst (nx := 182) (z := 0) G (R32c rfl) dX12_code_181 rfl (b_storeE_n (nx := 183) (a := 3) (loc2 := [(2, v0), (9, 0), (0, v2), (0, 0)]) G rfl (Nat.le_of_ble_eq_true rfl) (am_pl1 rfl (fun h => nomatch h)) dX12_code_182 rfl ?_)
    exact b_fewer (loc2 := [(2, v0), (9, 0), (0, v2), (0, 0)]) (am_lk (am_lk (am_lk (am_lk am_ln)))) (S_X12_code_L2 X hp_v0 hB h)
  · have h := h.2 c
    refine z_aload_n (nx := 177) (a := 0) G rfl (Or.inl rfl) dX12_code_176 rfl (b_getI (nx := 180) (k0 := 47) (t := 0) G fl_RX12_403 (Nat.le_of_ble_eq_true rfl) (Nat.le_of_ble_eq_true rfl) rfl hp_v0 dX12_code_177 rfl ?_)
    exact b_ireturn X hB dX12_code_180 h
set_option maxRecDepth 20000 in
set_option maxHeartbeats 4000000 in
theorem S_X12_code_J3 {F : am_F} {K : am_KK} {v0 : Int} {v2 : Int} {m : am_M} (X : am_Cx F cX12_code RX12 (some .int) 303 0 K) (hp_v0 : am_ob v0 12) (hB : am_Bt m) (h : M_X12_code_J3 v0 v2 K m) : am_Z F 151 [] [(2, v0), (9, 0), (0, v2), (9, 0)] m 200 := by
  have G := X.G
  unfold M_X12_code_J3 at h
  refine z_aload_n (nx := 152) (a := 0) G rfl (Or.inl rfl) dX12_code_151 rfl (b_getA (nx := 155) (k0 := 41) G hB fl_RX12_98 (Nat.le_of_ble_eq_true rfl) (Nat.le_of_ble_eq_true rfl) rfl hp_v0 dX12_code_152 rfl (z_iconst (nx := 156) (z := 0) G (R32c rfl) dX12_code_155 rfl (z_iconst (nx := 157) (z := 0) G (R32c rfl) dX12_code_156 rfl ?_)))
  obtain ⟨hb, h⟩ := h
  refine b_iast (nx := 158) G hB (sh_12_41 _ hp_v0) hb.1 hb.2 dX12_code_157 rfl (fun m_2 e_m_2 hB => ?_)
  have h := h m_2 e_m_2
  refine z_aload_n (nx := 159) (a := 0) G rfl (Or.inl rfl) dX12_code_158 rfl (b_getI (nx := 162) (k0 := 46) (t := 0) G fl_RX12_391 (Nat.le_of_ble_eq_true rfl) (Nat.le_of_ble_eq_true rfl) rfl hp_v0 dX12_code_159 rfl (z_iconst (nx := 163) (z := 1) G (R32c rfl) dX12_code_162 rfl ?_))
  refine z_icmp_le (nx := 166) (tgt := 172) G dX12_code_163 (by decide) rfl (fun c => ?_) (fun c => ?_)
  · have h := h.1 c
    exact b_fewer (loc2 := [(2, v0), (9, 0), (0, v2), (9, 0)]) (am_lk (am_lk (am_lk (am_lk am_ln)))) (S_X12_code_J4 X hp_v0 hB h)
  · have h := h.2 c
    refine z_aload_n (nx := 167) (a := 0) G rfl (Or.inl rfl) dX12_code_166 rfl (z_iconst (nx := 168) (z := 0) G (R32c rfl) dX12_code_167 rfl (z_iconst (nx := 169) (z := 1) G (R32c rfl) dX12_code_168 rfl ?_))
    refine b_callV9 (nx := 172) (zs := [v0, 0, 1]) (as := [(0, 0), (0, 1)]) X hB (by decide) rfl hp_v0 SS_X12_parts (am_ta (am_ti (am_ti am_tn))) (Nat.le_of_ble_eq_true rfl) (Nat.le_of_ble_eq_true rfl) ml_RX12_400 iw_X12_parts vw_X12_parts cw_X12_parts nw_RX12 pp_X12_parts (Nat.le_of_ble_eq_true rfl) dX12_code_169 rfl h (fun r_3 m_4 h hB => ?_)
    exact b_fewer (loc2 := [(2, v0), (9, 0), (0, v2), (9, 0)]) (am_lk (am_lk (am_lk (am_lk am_ln)))) (S_X12_code_J4 X hp_v0 hB h)
set_option maxRecDepth 20000 in
set_option maxHeartbeats 4000000 in
theorem S_X12_code_J2 {F : am_F} {K : am_KK} {v0 : Int} {v2 : Int} {m : am_M} (X : am_Cx F cX12_code RX12 (some .int) 303 0 K) (hp_v0 : am_ob v0 12) (hB : am_Bt m) (h : M_X12_code_J2 v0 v2 K m) : am_Z F 105 [] [(2, v0), (9, 0), (0, v2), (9, 0)] m 200 := by
  have G := X.G
  unfold M_X12_code_J2 at h
  refine z_aload_n (nx := 106) (a := 0) G rfl (Or.inl rfl) dX12_code_105 rfl (b_getI (nx := 109) (k0 := 46) (t := 0) G fl_RX12_391 (Nat.le_of_ble_eq_true rfl) (Nat.le_of_ble_eq_true rfl) rfl hp_v0 dX12_code_106 rfl (z_iconst (nx := 110) (z := 1) G (R32c rfl) dX12_code_109 rfl ?_))
  refine z_icmp_ne (nx := 113) (tgt := 151) G dX12_code_110 (by decide) rfl (fun c => ?_) (fun c => ?_)
  · have h := h.1 c
    exact b_fewer (loc2 := [(2, v0), (9, 0), (0, v2), (9, 0)]) (am_lk (am_lk (am_lk (am_lk am_ln)))) (S_X12_code_J3 X hp_v0 hB h)
  · have h := h.2 c
    refine z_aload_n (nx := 114) (a := 0) G rfl (Or.inl rfl) dX12_code_113 rfl (b_getA (nx := 117) (k0 := 44) G hB fl_RX12_107 (Nat.le_of_ble_eq_true rfl) (Nat.le_of_ble_eq_true rfl) rfl hp_v0 dX12_code_114 rfl (z_iconst (nx := 118) (z := 0) G (R32c rfl) dX12_code_117 rfl (z_aload_n (nx := 119) (a := 0) G rfl (Or.inl rfl) dX12_code_118 rfl (b_getA (nx := 122) (k0 := 39) G hB fl_RX12_92 (Nat.le_of_ble_eq_true rfl) (Nat.le_of_ble_eq_true rfl) rfl hp_v0 dX12_code_119 rfl (z_iconst (nx := 123) (z := 0) G (R32c rfl) dX12_code_122 rfl ?_)))))
    obtain ⟨hb, h⟩ := h
    refine z_iald (nx := 124) G (sh_12_39 _ hp_v0) hb.1 hb.2 dX12_code_123 rfl ?_
    obtain ⟨hb, h⟩ := h
    refine b_iast (nx := 125) G hB (sh_12_44 _ hp_v0) hb.1 hb.2 dX12_code_124 rfl (fun m_5 e_m_5 hB => ?_)
    have h := h m_5 e_m_5
    refine z_aload_n (nx := 126) (a := 0) G rfl (Or.inl rfl) dX12_code_125 rfl (z_aload_n (nx := 127) (a := 0) G rfl (Or.inl rfl) dX12_code_126 rfl (b_getA (nx := 130) (k0 := 39) G hB fl_RX12_92 (Nat.le_of_ble_eq_true rfl) (Nat.le_of_ble_eq_true rfl) rfl hp_v0 dX12_code_127 rfl (z_iconst (nx := 131) (z := 0) G (R32c rfl) dX12_code_130 rfl ?_)))
    obtain ⟨hb, h⟩ := h
    refine z_iald (nx := 132) G (sh_12_39 _ hp_v0) hb.1 hb.2 dX12_code_131 rfl ?_
    refine z_aload_n (nx := 133) (a := 0) G rfl (Or.inl rfl) dX12_code_132 rfl (b_getA (nx := 136) (k0 := 2) G hB fl_RX12_24 (Nat.le_of_ble_eq_true rfl) (Nat.le_of_ble_eq_true rfl) rfl hp_v0 dX12_code_133 rfl (z_sipush (nx := 139) (z := 308) G (R32c rfl) rfl dX12_code_136 rfl (z_aload_n (nx := 140) (a := 0) G rfl (Or.inl rfl) dX12_code_139 rfl (b_getA (nx := 143) (k0 := 40) G hB fl_RX12_95 (Nat.le_of_ble_eq_true rfl) (Nat.le_of_ble_eq_true rfl) rfl hp_v0 dX12_code_140 rfl (z_iconst (nx := 144) (z := 0) G (R32c rfl) dX12_code_143 rfl ?_)))))
    obtain ⟨hb, h⟩ := h
    refine z_iald (nx := 145) G (sh_12_40 _ hp_v0) hb.1 hb.2 dX12_code_144 rfl ?_
    refine z_iadd (nx := 146) G dX12_code_145 rfl ?_
    obtain ⟨hb, h⟩ := h
    refine z_iald (nx := 147) G (sh_12_2 _ hp_v0) hb.1 hb.2 dX12_code_146 rfl ?_
    refine z_imul (nx := 148) G dX12_code_147 rfl ?_
    refine b_put (nx := 151) (k0 := 47) (t := 0) G hB fl_RX12_403 (Nat.le_of_ble_eq_true rfl) (Nat.le_of_ble_eq_true rfl) rfl (fun h => nomatch h) rfl hp_v0 dX12_code_148 rfl (fun m_6 e_m_6 hB => ?_)
    have h := h m_6 e_m_6
    exact b_fewer (loc2 := [(2, v0), (9, 0), (0, v2), (9, 0)]) (am_lk (am_lk (am_lk (am_lk am_ln)))) (S_X12_code_J3 X hp_v0 hB h)
set_option maxRecDepth 20000 in
set_option maxHeartbeats 4000000 in
theorem S_X12_code_J1 {F : am_F} {K : am_KK} {v0 : Int} {v2 : Int} {v3 : Int} {C27 : Int → am_M → Prop} {m : am_M} (X : am_Cx F cX12_code RX12 (some .int) 303 0 K) (hp_v0 : am_ob v0 12) (hC27 : ∀ w3 m, C27 w3 m → am_Bt m → am_Z F 27 [] [(2, v0), (9, 0), (0, v2), (0, w3)] m 200) (hB : am_Bt m) (h : M_X12_code_J1 v0 v2 v3 C27 K m) : am_Z F 80 [] [(2, v0), (9, 0), (0, v2), (0, v3)] m 200 := by
  have G := X.G
  unfold M_X12_code_J1 at h
  refine b_iinc (nx := 83) (a := 3) (loc2 := fun v3_7 => [(2, v0), (9, 0), (0, v2), (0, v3_7)]) G (fun _ => rfl) rfl (am_pl1 rfl (fun h => nomatch h)) dX12_code_80 rfl (fun v3_7 e_v3_7 => ?_)
  have h := h v3_7 e_v3_7
  refine z_goto (tgt := 27) G dX12_code_83 (by decide) ?_
  exact b_fewer (loc2 := [(2, v0), (9, 0), (0, v2), (0, v3_7)]) (am_lk (am_lk (am_lk (am_lk am_ln)))) (hC27 _ _ h hB)
set_option maxRecDepth 20000 in
set_option maxHeartbeats 4000000 in
theorem S_X12_code_L1B {F : am_F} {K : am_KK} {v0 : Int} {v2 : Int} {v3 : Int} {C27 : Int → am_M → Prop} {m : am_M} (X : am_Cx F cX12_code RX12 (some .int) 303 0 K) (hp_v0 : am_ob v0 12) (hC27 : ∀ w3 m, C27 w3 m → am_Bt m → am_Z F 27 [] [(2, v0), (9, 0), (0, v2), (0, w3)] m 200) (hB : am_Bt m) (h : M_X12_code_L1B v0 v2 v3 C27 K m) : am_Z F 27 [] [(2, v0), (9, 0), (0, v2), (0, v3)] m 200 := by
  have G := X.G
  unfold M_X12_code_L1B at h
  refine z_iload_n (nx := 28) (a := 3) G rfl dX12_code_27 rfl (z_bipush (nx := 30) (z := 8) G (R32c rfl) rfl dX12_code_28 rfl ?_)
  refine z_icmp_ge (nx := 33) (tgt := 86) G dX12_code_30 (by decide) rfl (fun c => ?_) (fun c => ?_)
  · have h := h.1 c
    refine z_aload_n (nx := 87) (a := 0) G rfl (Or.inl rfl) dX12_code_86 rfl (z_ldcw (nx := 90) (z := 1000000000) G (R32c rfl) rfl kw_RX12_329 dX12_code_87 rfl ?_)
    refine b_put (nx := 93) (k0 := 47) (t := 0) G hB fl_RX12_403 (Nat.le_of_ble_eq_true rfl) (Nat.le_of_ble_eq_true rfl) rfl (fun h => nomatch h) rfl hp_v0 dX12_code_90 rfl (fun m_8 e_m_8 hB => ?_)
    have h := h m_8 e_m_8
    refine z_aload_n (nx := 94) (a := 0) G rfl (Or.inl rfl) dX12_code_93 rfl (b_getI (nx := 97) (k0 := 46) (t := 0) G fl_RX12_391 (Nat.le_of_ble_eq_true rfl) (Nat.le_of_ble_eq_true rfl) rfl hp_v0 dX12_code_94 rfl ?_)
    refine z_if_ne (nx := 100) (tgt := 105) G dX12_code_97 (by decide) rfl (fun c => ?_) (fun c => ?_)
    · have h := h.1 c
      exact b_fewer (loc2 := [(2, v0), (9, 0), (0, v2), (9, 0)]) (am_lk (am_lk (am_lk (am_lf am_ln)))) (S_X12_code_J2 X hp_v0 hB h)
    · have h := h.2 c
      refine z_aload_n (nx := 101) (a := 0) G rfl (Or.inl rfl) dX12_code_100 rfl (z_iconst (nx := 102) (z := 0) G (R32c rfl) dX12_code_101 rfl ?_)
      refine b_put (nx := 105) (k0 := 47) (t := 0) G hB fl_RX12_403 (Nat.le_of_ble_eq_true rfl) (Nat.le_of_ble_eq_true rfl) rfl (fun h => nomatch h) rfl hp_v0 dX12_code_102 rfl (fun m_9 e_m_9 hB => ?_)
      have h := h m_9 e_m_9
      exact b_fewer (loc2 := [(2, v0), (9, 0), (0, v2), (9, 0)]) (am_lk (am_lk (am_lk (am_lf am_ln)))) (S_X12_code_J2 X hp_v0 hB h)
  · have h := h.2 c
    refine z_aload_n (nx := 34) (a := 0) G rfl (Or.inl rfl) dX12_code_33 rfl (b_getA (nx := 37) (k0 := 2) G hB fl_RX12_24 (Nat.le_of_ble_eq_true rfl) (Nat.le_of_ble_eq_true rfl) rfl hp_v0 dX12_code_34 rfl (z_sipush (nx := 40) (z := 308) G (R32c rfl) rfl dX12_code_37 rfl (z_iload_n (nx := 41) (a := 3) G rfl dX12_code_40 rfl (z_iadd (nx := 42) G dX12_code_41 rfl ?_))))
    obtain ⟨hb, h⟩ := h
    refine z_iald (nx := 43) G (sh_12_2 _ hp_v0) hb.1 hb.2 dX12_code_42 rfl ?_
    refine z_if_ne (nx := 46) (tgt := 49) G dX12_code_43 (by decide) rfl (fun c => ?_) (fun c => ?_)
    · have h := h.1 c
      refine z_aload_n (nx := 50) (a := 0) G rfl (Or.inl rfl) dX12_code_49 rfl (b_getI (nx := 53) (k0 := 46) (t := 0) G fl_RX12_391 (Nat.le_of_ble_eq_true rfl) (Nat.le_of_ble_eq_true rfl) rfl hp_v0 dX12_code_50 rfl (z_bipush (nx := 55) (z := 6) G (R32c rfl) rfl dX12_code_53 rfl ?_))
      refine z_icmp_ne (nx := 58) (tgt := 60) G dX12_code_55 (by decide) rfl (fun c => ?_) (fun c => ?_)
      · have h := h.1 c
        refine z_aload_n (nx := 61) (a := 0) G rfl (Or.inl rfl) dX12_code_60 rfl (b_getA (nx := 64) (k0 := 40) G hB fl_RX12_95 (Nat.le_of_ble_eq_true rfl) (Nat.le_of_ble_eq_true rfl) rfl hp_v0 dX12_code_61 rfl (z_aload_n (nx := 65) (a := 0) G rfl (Or.inl rfl) dX12_code_64 rfl (b_getI (nx := 68) (k0 := 46) (t := 0) G fl_RX12_391 (Nat.le_of_ble_eq_true rfl) (Nat.le_of_ble_eq_true rfl) rfl hp_v0 dX12_code_65 rfl (z_iload_n (nx := 69) (a := 3) G rfl dX12_code_68 rfl ?_))))
        obtain ⟨hb, h⟩ := h
        refine b_iast (nx := 70) G hB (sh_12_40 _ hp_v0) hb.1 hb.2 dX12_code_69 rfl (fun m_10 e_m_10 hB => ?_)
        have h := h m_10 e_m_10
        refine z_aload_n (nx := 71) (a := 0) G rfl (Or.inl rfl) dX12_code_70 rfl (z_dup (nx := 72) G (fun h => nomatch h) dX12_code_71 rfl (b_getI (nx := 75) (k0 := 46) (t := 0) G fl_RX12_391 (Nat.le_of_ble_eq_true rfl) (Nat.le_of_ble_eq_true rfl) rfl hp_v0 dX12_code_72 rfl (z_iconst (nx := 76) (z := 1) G (R32c rfl) dX12_code_75 rfl (z_iadd (nx := 77) G dX12_code_76 rfl ?_))))
        refine b_put (nx := 80) (k0 := 46) (t := 0) G hB fl_RX12_391 (Nat.le_of_ble_eq_true rfl) (Nat.le_of_ble_eq_true rfl) rfl (fun h => nomatch h) rfl hp_v0 dX12_code_77 rfl (fun m_11 e_m_11 hB => ?_)
        have h := h m_11 e_m_11
        exact b_fewer (loc2 := [(2, v0), (9, 0), (0, v2), (0, v3)]) (am_lk (am_lk (am_lk (am_lk am_ln)))) (S_X12_code_J1 X hp_v0 hC27 hB h)
      · have h := h.2 c
        refine z_iconst (nx := 59) (z := (-1)) G (R32c rfl) dX12_code_58 rfl ?_
        exact b_ireturn X hB dX12_code_59 h
    · have h := h.2 c
      refine z_goto (tgt := 80) G dX12_code_46 (by decide) ?_
      exact b_fewer (loc2 := [(2, v0), (9, 0), (0, v2), (0, v3)]) (am_lk (am_lk (am_lk (am_lk am_ln)))) (S_X12_code_J1 X hp_v0 hC27 hB h)
theorem S_X12_code_L1 {F : am_F} {K : am_KK} {v0 : Int} {v2 : Int} {v3 : Int} {m : am_M} (X : am_Cx F cX12_code RX12 (some .int) 303 0 K) (hp_v0 : am_ob v0 12) (hB : am_Bt m) (h : M_X12_code_L1 v0 v2 v3 K m) : am_Z F 27 [] [(2, v0), (9, 0), (0, v2), (0, v3)] m 200 := by
  obtain ⟨I, ⟨j, hj⟩, hI⟩ := h
  have key : ∀ j v3 m, I j v3 m → am_Bt m → am_Z F 27 [] [(2, v0), (9, 0), (0, v2), (0, v3)] m 200 := by
    intro j
    induction j using Nat.strongRecOn with
    | ind j ih =>
      intro v3 m hj hB
      exact S_X12_code_L1B X hp_v0 (fun v3' m' hc hB' => by
        obtain ⟨j', g1, g2⟩ := hc
        exact ih j' g1 v3' m' g2 hB') hB (hI j v3 m hj)
  exact key j _ _ hj hB
set_option maxRecDepth 20000 in
set_option maxHeartbeats 4000000 in
theorem S_X12_code {F : am_F} {K : am_KK} {v0 : Int} {v1 : Int} {v2 : Int} {m : am_M} (X : am_Cx F cX12_code RX12 (some .int) 303 0 K) (hp_v0 : am_ob v0 12) (hB : am_Bt m) (h : M_X12_code v0 v1 v2 K m) : am_Z F 0 [] [(2, v0), (0, v1), (0, v2), (9, 0)] m 200 := by
  have G := X.G
  unfold M_X12_code at h
  refine z_aload_n (nx := 1) (a := 0) G rfl (Or.inl rfl) dX12_code_0 rfl (z_iload_n (nx := 2) (a := 1) G rfl dX12_code_1 rfl ?_)
  refine b_callV5 (nx := 5) (zs := [v0, v1]) (as := [(0, v1)]) X hB (by decide) rfl hp_v0 SS_X12_listsLetters (am_ta (am_ti am_tn)) (Nat.le_of_ble_eq_true rfl) (Nat.le_of_ble_eq_true rfl) ml_RX12_409 iw_X12_listsLetters vw_X12_listsLetters cw_X12_listsLetters nw_RX12 pp_X12_listsLetters (Nat.le_of_ble_eq_true rfl) dX12_code_2 rfl (NM_X12_listsLetters hp_v0 h) (fun r_12 m_13 h h01_14 hB => ?_)
  refine z_if_eq (nx := 8) (tgt := 18) G dX12_code_5 (by decide) rfl (fun c => ?_) (fun c => ?_)
  · have h := h.1 c
    refine z_iconst (nx := 19) (z := (-1)) G (R32c rfl) dX12_code_18 rfl ?_
    exact b_ireturn X hB dX12_code_19 h
  · have h := h.2 c
    refine z_iload_n (nx := 9) (a := 2) G rfl dX12_code_8 rfl (z_iconst (nx := 10) (z := 0) G (R32c rfl) dX12_code_9 rfl (z_bipush (nx := 12) (z := 8) G (R32c rfl) rfl dX12_code_10 rfl ?_))
    refine b_callS5 (nx := 15) (zs := [v2, 0, 8]) (as := [(0, v2), (0, 0), (0, 8)]) X hB SS_X12_lies (am_ti (am_ti (am_ti am_tn))) (Nat.le_of_ble_eq_true rfl) (Nat.le_of_ble_eq_true rfl) ml_RX12_123 sw_X12_lies (am_plainC 12 (by decide)) cw_X12_lies nw_RX12 pp_X12_lies (Nat.le_of_ble_eq_true rfl) dX12_code_12 rfl (NM_X12_lies h) (fun r_15 m_16 h h01_17 hB => ?_)
    refine z_if_ne (nx := 18) (tgt := 20) G dX12_code_15 (by decide) rfl (fun c => ?_) (fun c => ?_)
    · have h := h.1 c
      refine z_aload_n (nx := 21) (a := 0) G rfl (Or.inl rfl) dX12_code_20 rfl (z_iconst (nx := 22) (z := 0) G (R32c rfl) dX12_code_21 rfl ?_)
      refine b_put (nx := 25) (k0 := 46) (t := 0) G hB fl_RX12_391 (Nat.le_of_ble_eq_true rfl) (Nat.le_of_ble_eq_true rfl) rfl (fun h => nomatch h) rfl hp_v0 dX12_code_22 rfl (fun m_18 e_m_18 hB => ?_)
      have h := h m_18 e_m_18
      refine z_iconst (nx := 26) (z := 0) G (R32c rfl) dX12_code_25 rfl (b_storeE_n (nx := 27) (a := 3) (loc2 := [(2, v0), (0, v1), (0, v2), (0, 0)]) G rfl (Nat.le_of_ble_eq_true rfl) (am_pl1 rfl (fun h => nomatch h)) dX12_code_26 rfl ?_)
      exact b_fewer (loc2 := [(2, v0), (9, 0), (0, v2), (0, 0)]) (am_lk (am_lf (am_lk (am_lk am_ln)))) (S_X12_code_L1 X hp_v0 hB h)
    · have h := h.2 c
      refine z_iconst (nx := 19) (z := (-1)) G (R32c rfl) dX12_code_18 rfl ?_
      exact b_ireturn X hB dX12_code_19 h
theorem NM_X12_code {v0 : Int} {v1 : Int} {v2 : Int} {K : am_KK} {m : am_M} (hp_v0 : am_ob v0 12) (h : M_X12_code v0 v1 v2 K m) : N_X12_code [v0, v1, v2] K m := ⟨hp_v0, h⟩
theorem SS_X12_code : am_Snd yX12_code cX12_code 4 (some .int) 0 303 (am_L [2, 0, 0] 0 N_X12_code) := by
  refine am_SB (by decide +kernel) (Nat.le_of_ble_eq_true rfl) (fun F zs as K m X ht hB hM => ?_)
  obtain ⟨v0, zs, as, rfl, rfl, hz0, ht⟩ := am_inv ht
  obtain ⟨v1, zs, as, rfl, rfl, hz1, ht⟩ := am_inv ht
  obtain ⟨v2, zs, as, rfl, rfl, hz2, ht⟩ := am_inv ht
  obtain ⟨rfl, rfl⟩ := am_inv0 ht
  obtain ⟨hp_v0, hM⟩ := hM
  exact S_X12_code X hp_v0 hB hM
set_option maxRecDepth 20000 in
set_option maxHeartbeats 4000000 in
theorem S_X12_bundle_J1 {F : am_F} {K : am_KK} {v0 : Int} {m : am_M} (X : am_Cx F cX12_bundle RX12 (some .int) 2 0 K) (hp_v0 : am_ob v0 12) (hB : am_Bt m) (h : M_X12_bundle_J1 v0 K m) : am_Z F 21 [] [(2, v0), (9, 0), (9, 0), (9, 0)] m 200 := by
  have G := X.G
  unfold M_X12_bundle_J1 at h
  refine z_aload_n (nx := 22) (a := 0) G rfl (Or.inl rfl) dX12_bundle_21 rfl (z_iconst (nx := 23) (z := (-1)) G (R32c rfl) dX12_bundle_22 rfl ?_)
  refine b_callV0 (nx := 26) (zs := [v0, (-1)]) (as := [(0, (-1))]) X hB (by decide) rfl hp_v0 SS_X12_refuses (am_ta (am_ti am_tn)) (Nat.le_of_ble_eq_true rfl) (Nat.le_of_ble_eq_true rfl) ml_RX12_127 iw_X12_refuses vw_X12_refuses cw_X12_refuses nw_RX12 pp_X12_refuses (Nat.le_of_ble_eq_true rfl) dX12_bundle_23 rfl (NM_X12_refuses hp_v0 h) (fun r_1 m_2 h hB => ?_)
  exact b_ireturn X hB dX12_bundle_26 h
set_option maxRecDepth 20000 in
set_option maxHeartbeats 4000000 in
theorem S_X12_bundle {F : am_F} {K : am_KK} {v0 : Int} {v1 : Int} {v2 : Int} {m : am_M} (X : am_Cx F cX12_bundle RX12 (some .int) 2 0 K) (hp_v0 : am_ob v0 12) (hB : am_Bt m) (h : M_X12_bundle v0 v1 v2 K m) : am_Z F 0 [] [(2, v0), (0, v1), (0, v2), (9, 0)] m 200 := by
  have G := X.G
  unfold M_X12_bundle at h
  refine z_iload_n (nx := 1) (a := 1) G rfl dX12_bundle_0 rfl (z_iconst (nx := 2) (z := 1) G (R32c rfl) dX12_bundle_1 rfl (z_sipush (nx := 5) (z := 255) G (R32c rfl) rfl dX12_bundle_2 rfl ?_))
  refine b_callS5 (nx := 8) (zs := [v1, 1, 255]) (as := [(0, v1), (0, 1), (0, 255)]) X hB SS_X12_lies (am_ti (am_ti (am_ti am_tn))) (Nat.le_of_ble_eq_true rfl) (Nat.le_of_ble_eq_true rfl) ml_RX12_123 sw_X12_lies (am_plainC 12 (by decide)) cw_X12_lies nw_RX12 pp_X12_lies (Nat.le_of_ble_eq_true rfl) dX12_bundle_5 rfl (NM_X12_lies h) (fun r_3 m_4 h h01_5 hB => ?_)
  refine z_if_eq (nx := 11) (tgt := 21) G dX12_bundle_8 (by decide) rfl (fun c => ?_) (fun c => ?_)
  · have h := h.1 c
    exact b_fewer (loc2 := [(2, v0), (9, 0), (9, 0), (9, 0)]) (am_lk (am_lf (am_lf (am_lk am_ln)))) (S_X12_bundle_J1 X hp_v0 hB h)
  · have h := h.2 c
    refine z_iload_n (nx := 12) (a := 2) G rfl dX12_bundle_11 rfl (z_iconst (nx := 13) (z := 1) G (R32c rfl) dX12_bundle_12 rfl (z_bipush (nx := 15) (z := 99) G (R32c rfl) rfl dX12_bundle_13 rfl ?_))
    refine b_callS5 (nx := 18) (zs := [v2, 1, 99]) (as := [(0, v2), (0, 1), (0, 99)]) X hB SS_X12_lies (am_ti (am_ti (am_ti am_tn))) (Nat.le_of_ble_eq_true rfl) (Nat.le_of_ble_eq_true rfl) ml_RX12_123 sw_X12_lies (am_plainC 12 (by decide)) cw_X12_lies nw_RX12 pp_X12_lies (Nat.le_of_ble_eq_true rfl) dX12_bundle_15 rfl (NM_X12_lies h) (fun r_6 m_7 h h01_8 hB => ?_)
    refine z_if_ne (nx := 21) (tgt := 27) G dX12_bundle_18 (by decide) rfl (fun c => ?_) (fun c => ?_)
    · have h := h.1 c
      refine z_aload_n (nx := 28) (a := 0) G rfl (Or.inl rfl) dX12_bundle_27 rfl (b_getA (nx := 31) (k0 := 2) G hB fl_RX12_24 (Nat.le_of_ble_eq_true rfl) (Nat.le_of_ble_eq_true rfl) rfl hp_v0 dX12_bundle_28 rfl (z_sipush (nx := 34) (z := 366) G (R32c rfl) rfl dX12_bundle_31 rfl ?_))
      obtain ⟨hb, h⟩ := h
      refine z_iald (nx := 35) G (sh_12_2 _ hp_v0) hb.1 hb.2 dX12_bundle_34 rfl ?_
      refine b_store_n (nx := 36) (a := 3) (loc2 := fun v3_9 => [(2, v0), (0, v1), (0, v2), (0, v3_9)]) G (fun _ => rfl) (Nat.le_of_ble_eq_true rfl) (am_pl1 rfl (fun h => nomatch h)) dX12_bundle_35 rfl (fun v3_9 e_v3_9 => ?_)
      have h := h v3_9 e_v3_9
      refine z_iload_n (nx := 37) (a := 3) G rfl dX12_bundle_36 rfl (z_bipush (nx := 39) (z := 10) G (R32c rfl) rfl dX12_bundle_37 rfl ?_)
      refine z_icmp_ne (nx := 42) (tgt := 49) G dX12_bundle_39 (by decide) rfl (fun c => ?_) (fun c => ?_)
      · have h := h.1 c
        refine z_aload_n (nx := 50) (a := 0) G rfl (Or.inl rfl) dX12_bundle_49 rfl (b_getA (nx := 53) (k0 := 2) G hB fl_RX12_24 (Nat.le_of_ble_eq_true rfl) (Nat.le_of_ble_eq_true rfl) rfl hp_v0 dX12_bundle_50 rfl (z_sipush (nx := 56) (z := 322) G (R32c rfl) rfl dX12_bundle_53 rfl (z_iconst (nx := 57) (z := 2) G (R32c rfl) dX12_bundle_56 rfl (z_iload_n (nx := 58) (a := 3) G rfl dX12_bundle_57 rfl (z_imul (nx := 59) G dX12_bundle_58 rfl (z_iadd (nx := 60) G dX12_bundle_59 rfl (z_iload_n (nx := 61) (a := 1) G rfl dX12_bundle_60 rfl ?_)))))))
        obtain ⟨hb, h⟩ := h
        refine b_iast (nx := 62) G hB (sh_12_2 _ hp_v0) hb.1 hb.2 dX12_bundle_61 rfl (fun m_10 e_m_10 hB => ?_)
        have h := h m_10 e_m_10
        refine z_aload_n (nx := 63) (a := 0) G rfl (Or.inl rfl) dX12_bundle_62 rfl (b_getA (nx := 66) (k0 := 2) G hB fl_RX12_24 (Nat.le_of_ble_eq_true rfl) (Nat.le_of_ble_eq_true rfl) rfl hp_v0 dX12_bundle_63 rfl (z_sipush (nx := 69) (z := 322) G (R32c rfl) rfl dX12_bundle_66 rfl (z_iconst (nx := 70) (z := 2) G (R32c rfl) dX12_bundle_69 rfl (z_iload_n (nx := 71) (a := 3) G rfl dX12_bundle_70 rfl (z_imul (nx := 72) G dX12_bundle_71 rfl (z_iadd (nx := 73) G dX12_bundle_72 rfl (z_iconst (nx := 74) (z := 1) G (R32c rfl) dX12_bundle_73 rfl (z_iadd (nx := 75) G dX12_bundle_74 rfl (z_iload_n (nx := 76) (a := 2) G rfl dX12_bundle_75 rfl ?_)))))))))
        obtain ⟨hb, h⟩ := h
        refine b_iast (nx := 77) G hB (sh_12_2 _ hp_v0) hb.1 hb.2 dX12_bundle_76 rfl (fun m_11 e_m_11 hB => ?_)
        have h := h m_11 e_m_11
        refine z_aload_n (nx := 78) (a := 0) G rfl (Or.inl rfl) dX12_bundle_77 rfl (b_getA (nx := 81) (k0 := 2) G hB fl_RX12_24 (Nat.le_of_ble_eq_true rfl) (Nat.le_of_ble_eq_true rfl) rfl hp_v0 dX12_bundle_78 rfl (z_sipush (nx := 84) (z := 366) G (R32c rfl) rfl dX12_bundle_81 rfl (z_dup2 (nx := 85) G (fun h => nomatch h) (fun h => nomatch h) dX12_bundle_84 rfl ?_)))
        obtain ⟨hb, h⟩ := h
        refine z_iald (nx := 86) G (sh_12_2 _ hp_v0) hb.1 hb.2 dX12_bundle_85 rfl ?_
        refine z_iconst (nx := 87) (z := 1) G (R32c rfl) dX12_bundle_86 rfl (z_iadd (nx := 88) G dX12_bundle_87 rfl ?_)
        obtain ⟨hb, h⟩ := h
        refine b_iast (nx := 89) G hB (sh_12_2 _ hp_v0) hb.1 hb.2 dX12_bundle_88 rfl (fun m_12 e_m_12 hB => ?_)
        have h := h m_12 e_m_12
        refine z_aload_n (nx := 90) (a := 0) G rfl (Or.inl rfl) dX12_bundle_89 rfl (z_iload_n (nx := 91) (a := 3) G rfl dX12_bundle_90 rfl ?_)
        refine b_callV0 (nx := 94) (zs := [v0, v3_9]) (as := [(0, v3_9)]) X hB (by decide) rfl hp_v0 SS_X12_good (am_ta (am_ti am_tn)) (Nat.le_of_ble_eq_true rfl) (Nat.le_of_ble_eq_true rfl) ml_RX12_14 iw_X12_good vw_X12_good cw_X12_good nw_RX12 pp_X12_good (Nat.le_of_ble_eq_true rfl) dX12_bundle_91 rfl (NM_X12_good hp_v0 h) (fun r_13 m_14 h hB => ?_)
        exact b_ireturn X hB dX12_bundle_94 h
      · have h := h.2 c
        refine z_aload_n (nx := 43) (a := 0) G rfl (Or.inl rfl) dX12_bundle_42 rfl (z_bipush (nx := 45) (z := (-5)) G (R32c rfl) rfl dX12_bundle_43 rfl ?_)
        refine b_callV0 (nx := 48) (zs := [v0, (-5)]) (as := [(0, (-5))]) X hB (by decide) rfl hp_v0 SS_X12_refuses (am_ta (am_ti am_tn)) (Nat.le_of_ble_eq_true rfl) (Nat.le_of_ble_eq_true rfl) ml_RX12_127 iw_X12_refuses vw_X12_refuses cw_X12_refuses nw_RX12 pp_X12_refuses (Nat.le_of_ble_eq_true rfl) dX12_bundle_45 rfl (NM_X12_refuses hp_v0 h) (fun r_15 m_16 h hB => ?_)
        exact b_ireturn X hB dX12_bundle_48 h
    · have h := h.2 c
      exact b_fewer (loc2 := [(2, v0), (9, 0), (9, 0), (9, 0)]) (am_lk (am_lf (am_lf (am_lk am_ln)))) (S_X12_bundle_J1 X hp_v0 hB h)
theorem NM_X12_bundle {v0 : Int} {v1 : Int} {v2 : Int} {K : am_KK} {m : am_M} (hp_v0 : am_ob v0 12) (h : M_X12_bundle v0 v1 v2 K m) : N_X12_bundle [v0, v1, v2] K m := ⟨hp_v0, h⟩
theorem SS_X12_bundle : am_Snd yX12_bundle cX12_bundle 4 (some .int) 0 2 (am_L [2, 0, 0] 0 N_X12_bundle) := by
  refine am_SB (by decide +kernel) (Nat.le_of_ble_eq_true rfl) (fun F zs as K m X ht hB hM => ?_)
  obtain ⟨v0, zs, as, rfl, rfl, hz0, ht⟩ := am_inv ht
  obtain ⟨v1, zs, as, rfl, rfl, hz1, ht⟩ := am_inv ht
  obtain ⟨v2, zs, as, rfl, rfl, hz2, ht⟩ := am_inv ht
  obtain ⟨rfl, rfl⟩ := am_inv0 ht
  obtain ⟨hp_v0, hM⟩ := hM
  exact S_X12_bundle X hp_v0 hB hM
set_option maxRecDepth 20000 in
set_option maxHeartbeats 4000000 in
theorem S_X12_cover_J4 {F : am_F} {K : am_KK} {v0 : Int} {v1 : Int} {v2 : Int} {v3 : Int} {v4 : Int} {v5 : Int} {C30 : Int → Int → Int → am_M → Prop} {m : am_M} (X : am_Cx F cX12_cover RX12 (some .int) 2 0 K) (hp_v0 : am_ob v0 12) (hC30 : ∀ w3 w4 w5 m, C30 w3 w4 w5 m → am_Bt m → am_Z F 30 [] [(2, v0), (0, v1), (0, v2), (0, w3), (0, w4), (0, w5), (9, 0), (9, 0), (9, 0)] m 200) (hB : am_Bt m) (h : M_X12_cover_J4 v0 v1 v2 v3 v4 v5 C30 K m) : am_Z F 189 [] [(2, v0), (0, v1), (0, v2), (0, v3), (0, v4), (0, v5), (9, 0), (9, 0), (9, 0)] m 200 := by
  have G := X.G
  unfold M_X12_cover_J4 at h
  refine b_iinc (nx := 192) (a := 5) (loc2 := fun v5_1 => [(2, v0), (0, v1), (0, v2), (0, v3), (0, v4), (0, v5_1), (9, 0), (9, 0), (9, 0)]) G (fun _ => rfl) rfl (am_pl1 rfl (fun h => nomatch h)) dX12_cover_189 rfl (fun v5_1 e_v5_1 => ?_)
  have h := h v5_1 e_v5_1
  refine z_goto (tgt := 30) G dX12_cover_192 (by decide) ?_
  exact b_fewer (loc2 := [(2, v0), (0, v1), (0, v2), (0, v3), (0, v4), (0, v5_1), (9, 0), (9, 0), (9, 0)]) (am_lk (am_lk (am_lk (am_lk (am_lk (am_lk (am_lk (am_lk (am_lk am_ln))))))))) (hC30 _ _ _ _ h hB)
set_option maxRecDepth 20000 in
set_option maxHeartbeats 4000000 in
theorem S_X12_cover_J3 {F : am_F} {K : am_KK} {v0 : Int} {v1 : Int} {v2 : Int} {v5 : Int} {v7 : Int} {C30 : Int → Int → Int → am_M → Prop} {m : am_M} (X : am_Cx F cX12_cover RX12 (some .int) 2 0 K) (hp_v0 : am_ob v0 12) (hC30 : ∀ w3 w4 w5 m, C30 w3 w4 w5 m → am_Bt m → am_Z F 30 [] [(2, v0), (0, v1), (0, v2), (0, w3), (0, w4), (0, w5), (9, 0), (9, 0), (9, 0)] m 200) (hB : am_Bt m) (h : M_X12_cover_J3 v0 v1 v2 v5 v7 C30 K m) : am_Z F 182 [] [(2, v0), (0, v1), (0, v2), (9, 0), (9, 0), (0, v5), (9, 0), (0, v7), (9, 0)] m 200 := by
  have G := X.G
  unfold M_X12_cover_J3 at h
  refine z_iload (nx := 184) (a := 5) G rfl dX12_cover_182 rfl (b_storeE_n (nx := 185) (a := 3) (loc2 := [(2, v0), (0, v1), (0, v2), (0, v5), (9, 0), (0, v5), (9, 0), (0, v7), (9, 0)]) G rfl (Nat.le_of_ble_eq_true rfl) (am_pl1 rfl (fun h => nomatch h)) dX12_cover_184 rfl (z_iload (nx := 187) (a := 7) G rfl dX12_cover_185 rfl (b_storeE (nx := 189) (a := 4) (loc2 := [(2, v0), (0, v1), (0, v2), (0, v5), (0, v7), (0, v5), (9, 0), (0, v7), (9, 0)]) G rfl (Nat.le_of_ble_eq_true rfl) (am_pl1 rfl (fun h => nomatch h)) dX12_cover_187 rfl ?_)))
  exact b_fewer (loc2 := [(2, v0), (0, v1), (0, v2), (0, v5), (0, v7), (0, v5), (9, 0), (9, 0), (9, 0)]) (am_lk (am_lk (am_lk (am_lk (am_lk (am_lk (am_lk (am_lf (am_lk am_ln))))))))) (S_X12_cover_J4 X hp_v0 hC30 hB h)
set_option maxRecDepth 20000 in
set_option maxHeartbeats 4000000 in
theorem S_X12_cover_J2 {F : am_F} {K : am_KK} {v0 : Int} {v1 : Int} {v2 : Int} {v3 : Int} {v4 : Int} {v5 : Int} {v6 : Int} {v8 : Int} {s0 : Int} {s1 : Int} {C54 : Int → Int → Int → am_M → Prop} {C30 : Int → Int → Int → am_M → Prop} {m : am_M} (X : am_Cx F cX12_cover RX12 (some .int) 2 0 K) (hp_v0 : am_ob v0 12) (hC54 : ∀ w6 w7 w8 m, C54 w6 w7 w8 m → am_Bt m → am_Z F 54 [] [(2, v0), (0, v1), (0, v2), (0, v3), (0, v4), (0, v5), (0, w6), (0, w7), (0, w8)] m 200) (hC30 : ∀ w3 w4 w5 m, C30 w3 w4 w5 m → am_Bt m → am_Z F 30 [] [(2, v0), (0, v1), (0, v2), (0, w3), (0, w4), (0, w5), (9, 0), (9, 0), (9, 0)] m 200) (hB : am_Bt m) (h : M_X12_cover_J2 v0 v1 v2 v3 v4 v5 v6 v8 s0 s1 C54 C30 K m) : am_Z F 130 [(0, s1), (0, s0)] [(2, v0), (0, v1), (0, v2), (0, v3), (0, v4), (0, v5), (0, v6), (9, 0), (0, v8)] m 200 := by
  have G := X.G
  unfold M_X12_cover_J2 at h
  refine z_iadd (nx := 131) G dX12_cover_130 rfl ?_
  refine b_store (nx := 133) (a := 7) (loc2 := fun v7_2 => [(2, v0), (0, v1), (0, v2), (0, v3), (0, v4), (0, v5), (0, v6), (0, v7_2), (0, v8)]) G (fun _ => rfl) (Nat.le_of_ble_eq_true rfl) (am_pl1 rfl (fun h => nomatch h)) dX12_cover_131 rfl (fun v7_2 e_v7_2 => ?_)
  have h := h v7_2 e_v7_2
  refine b_iinc (nx := 136) (a := 8) (loc2 := fun v8_3 => [(2, v0), (0, v1), (0, v2), (0, v3), (0, v4), (0, v5), (0, v6), (0, v7_2), (0, v8_3)]) G (fun _ => rfl) rfl (am_pl1 rfl (fun h => nomatch h)) dX12_cover_133 rfl (fun v8_3 e_v8_3 => ?_)
  have h := h v8_3 e_v8_3
  refine z_goto (tgt := 54) G dX12_cover_136 (by decide) ?_
  exact b_fewer (loc2 := [(2, v0), (0, v1), (0, v2), (0, v3), (0, v4), (0, v5), (0, v6), (0, v7_2), (0, v8_3)]) (am_lk (am_lk (am_lk (am_lk (am_lk (am_lk (am_lk (am_lk (am_lk am_ln))))))))) (hC54 _ _ _ _ h hB)
set_option maxRecDepth 20000 in
set_option maxHeartbeats 4000000 in
theorem S_X12_cover_J1 {F : am_F} {K : am_KK} {v0 : Int} {v1 : Int} {v2 : Int} {v3 : Int} {v4 : Int} {v5 : Int} {v7 : Int} {v8 : Int} {s0 : Int} {s1 : Int} {C54 : Int → Int → Int → am_M → Prop} {C30 : Int → Int → Int → am_M → Prop} {m : am_M} (X : am_Cx F cX12_cover RX12 (some .int) 2 0 K) (hp_v0 : am_ob v0 12) (hC54 : ∀ w6 w7 w8 m, C54 w6 w7 w8 m → am_Bt m → am_Z F 54 [] [(2, v0), (0, v1), (0, v2), (0, v3), (0, v4), (0, v5), (0, w6), (0, w7), (0, w8)] m 200) (hC30 : ∀ w3 w4 w5 m, C30 w3 w4 w5 m → am_Bt m → am_Z F 30 [] [(2, v0), (0, v1), (0, v2), (0, w3), (0, w4), (0, w5), (9, 0), (9, 0), (9, 0)] m 200) (hB : am_Bt m) (h : M_X12_cover_J1 v0 v1 v2 v3 v4 v5 v7 v8 s0 s1 C54 C30 K m) : am_Z F 96 [(0, s1), (0, s0)] [(2, v0), (0, v1), (0, v2), (0, v3), (0, v4), (0, v5), (9, 0), (0, v7), (0, v8)] m 200 := by
  have G := X.G
  unfold M_X12_cover_J1 at h
  refine z_ior (nx := 97) G dX12_cover_96 rfl ?_
  refine b_store (nx := 99) (a := 6) (loc2 := fun v6_4 => [(2, v0), (0, v1), (0, v2), (0, v3), (0, v4), (0, v5), (0, v6_4), (0, v7), (0, v8)]) G (fun _ => rfl) (Nat.le_of_ble_eq_true rfl) (am_pl1 rfl (fun h => nomatch h)) dX12_cover_97 rfl (fun v6_4 e_v6_4 => ?_)
  have h := h v6_4 e_v6_4
  refine z_iload (nx := 101) (a := 7) G rfl dX12_cover_99 rfl (z_iload (nx := 103) (a := 5) G rfl dX12_cover_101 rfl (z_iload (nx := 105) (a := 8) G rfl dX12_cover_103 rfl ?_))
  refine b_callS5 (nx := 108) (zs := [v5, v8]) (as := [(0, v5), (0, v8)]) X hB SS_X12_isIn (am_ti (am_ti am_tn)) (Nat.le_of_ble_eq_true rfl) (Nat.le_of_ble_eq_true rfl) ml_RX12_406 sw_X12_isIn (am_plainC 12 (by decide)) cw_X12_isIn nw_RX12 pp_X12_isIn (Nat.le_of_ble_eq_true rfl) dX12_cover_105 rfl (NM_X12_isIn h) (fun r_5 m_6 h h01_7 hB => ?_)
  refine z_if_eq (nx := 111) (tgt := 129) G dX12_cover_108 (by decide) rfl (fun c => ?_) (fun c => ?_)
  · have h := h.1 c
    refine z_iconst (nx := 130) (z := 0) G (R32c rfl) dX12_cover_129 rfl ?_
    exact b_fewer (loc2 := [(2, v0), (0, v1), (0, v2), (0, v3), (0, v4), (0, v5), (0, v6_4), (9, 0), (0, v8)]) (am_lk (am_lk (am_lk (am_lk (am_lk (am_lk (am_lk (am_lf (am_lk am_ln))))))))) (S_X12_cover_J2 X hp_v0 hC54 hC30 hB h)
  · have h := h.2 c
    refine z_aload_n (nx := 112) (a := 0) G rfl (Or.inl rfl) dX12_cover_111 rfl (b_getA (nx := 115) (k0 := 2) G hB fl_RX12_24 (Nat.le_of_ble_eq_true rfl) (Nat.le_of_ble_eq_true rfl) rfl hp_v0 dX12_cover_112 rfl (z_sipush (nx := 118) (z := 322) G (R32c rfl) rfl dX12_cover_115 rfl (z_iconst (nx := 119) (z := 2) G (R32c rfl) dX12_cover_118 rfl (z_iload (nx := 121) (a := 8) G rfl dX12_cover_119 rfl (z_imul (nx := 122) G dX12_cover_121 rfl (z_iadd (nx := 123) G dX12_cover_122 rfl (z_iconst (nx := 124) (z := 1) G (R32c rfl) dX12_cover_123 rfl (z_iadd (nx := 125) G dX12_cover_124 rfl ?_))))))))
    obtain ⟨hb, h⟩ := h
    refine z_iald (nx := 126) G (sh_12_2 _ hp_v0) hb.1 hb.2 dX12_cover_125 rfl ?_
    refine z_goto (tgt := 130) G dX12_cover_126 (by decide) ?_
    exact b_fewer (loc2 := [(2, v0), (0, v1), (0, v2), (0, v3), (0, v4), (0, v5), (0, v6_4), (9, 0), (0, v8)]) (am_lk (am_lk (am_lk (am_lk (am_lk (am_lk (am_lk (am_lf (am_lk am_ln))))))))) (S_X12_cover_J2 X hp_v0 hC54 hC30 hB h)
set_option maxRecDepth 20000 in
set_option maxHeartbeats 4000000 in
theorem S_X12_cover_L2B {F : am_F} {K : am_KK} {v0 : Int} {v1 : Int} {v2 : Int} {v3 : Int} {v4 : Int} {v5 : Int} {v6 : Int} {v7 : Int} {v8 : Int} {C54 : Int → Int → Int → am_M → Prop} {C30 : Int → Int → Int → am_M → Prop} {m : am_M} (X : am_Cx F cX12_cover RX12 (some .int) 2 0 K) (hp_v0 : am_ob v0 12) (hC54 : ∀ w6 w7 w8 m, C54 w6 w7 w8 m → am_Bt m → am_Z F 54 [] [(2, v0), (0, v1), (0, v2), (0, v3), (0, v4), (0, v5), (0, w6), (0, w7), (0, w8)] m 200) (hC30 : ∀ w3 w4 w5 m, C30 w3 w4 w5 m → am_Bt m → am_Z F 30 [] [(2, v0), (0, v1), (0, v2), (0, w3), (0, w4), (0, w5), (9, 0), (9, 0), (9, 0)] m 200) (hB : am_Bt m) (h : M_X12_cover_L2B v0 v1 v2 v3 v4 v5 v6 v7 v8 C54 C30 K m) : am_Z F 54 [] [(2, v0), (0, v1), (0, v2), (0, v3), (0, v4), (0, v5), (0, v6), (0, v7), (0, v8)] m 200 := by
  have G := X.G
  unfold M_X12_cover_L2B at h
  refine z_iload (nx := 56) (a := 8) G rfl dX12_cover_54 rfl (z_aload_n (nx := 57) (a := 0) G rfl (Or.inl rfl) dX12_cover_56 rfl (b_getA (nx := 60) (k0 := 2) G hB fl_RX12_24 (Nat.le_of_ble_eq_true rfl) (Nat.le_of_ble_eq_true rfl) rfl hp_v0 dX12_cover_57 rfl (z_sipush (nx := 63) (z := 366) G (R32c rfl) rfl dX12_cover_60 rfl ?_)))
  obtain ⟨hb, h⟩ := h
  refine z_iald (nx := 64) G (sh_12_2 _ hp_v0) hb.1 hb.2 dX12_cover_63 rfl ?_
  refine z_icmp_ge (nx := 67) (tgt := 139) G dX12_cover_64 (by decide) rfl (fun c => ?_) (fun c => ?_)
  · have h := h.1 c
    refine z_iload_n (nx := 140) (a := 1) G rfl dX12_cover_139 rfl (z_iload (nx := 142) (a := 6) G rfl dX12_cover_140 rfl (z_iconst (nx := 143) (z := (-1)) G (R32c rfl) dX12_cover_142 rfl (z_ixor (nx := 144) G dX12_cover_143 rfl (z_iand (nx := 145) G dX12_cover_144 rfl ?_))))
    refine z_if_ne (nx := 148) (tgt := 189) G dX12_cover_145 (by decide) rfl (fun c => ?_) (fun c => ?_)
    · have h := h.1 c
      exact b_fewer (loc2 := [(2, v0), (0, v1), (0, v2), (0, v3), (0, v4), (0, v5), (9, 0), (9, 0), (9, 0)]) (am_lk (am_lk (am_lk (am_lk (am_lk (am_lk (am_lf (am_lf (am_lf am_ln))))))))) (S_X12_cover_J4 X hp_v0 hC30 hB h)
    · have h := h.2 c
      refine z_iload_n (nx := 149) (a := 3) G rfl dX12_cover_148 rfl (z_iconst (nx := 150) (z := (-1)) G (R32c rfl) dX12_cover_149 rfl ?_)
      refine z_icmp_eq (nx := 153) (tgt := 182) G dX12_cover_150 (by decide) rfl (fun c => ?_) (fun c => ?_)
      · have h := h.1 c
        exact b_fewer (loc2 := [(2, v0), (0, v1), (0, v2), (9, 0), (9, 0), (0, v5), (9, 0), (0, v7), (9, 0)]) (am_lk (am_lk (am_lk (am_lf (am_lf (am_lk (am_lf (am_lk (am_lf am_ln))))))))) (S_X12_cover_J3 X hp_v0 hC30 hB h)
      · have h := h.2 c
        refine z_iload (nx := 155) (a := 7) G rfl dX12_cover_153 rfl (z_iload (nx := 157) (a := 4) G rfl dX12_cover_155 rfl ?_)
        refine z_icmp_gt (nx := 160) (tgt := 189) G dX12_cover_157 (by decide) rfl (fun c => ?_) (fun c => ?_)
        · have h := h.1 c
          exact b_fewer (loc2 := [(2, v0), (0, v1), (0, v2), (0, v3), (0, v4), (0, v5), (9, 0), (9, 0), (9, 0)]) (am_lk (am_lk (am_lk (am_lk (am_lk (am_lk (am_lf (am_lf (am_lf am_ln))))))))) (S_X12_cover_J4 X hp_v0 hC30 hB h)
        · have h := h.2 c
          refine z_iload (nx := 162) (a := 7) G rfl dX12_cover_160 rfl (z_iload (nx := 164) (a := 4) G rfl dX12_cover_162 rfl ?_)
          refine z_icmp_ne (nx := 167) (tgt := 182) G dX12_cover_164 (by decide) rfl (fun c => ?_) (fun c => ?_)
          · have h := h.1 c
            exact b_fewer (loc2 := [(2, v0), (0, v1), (0, v2), (9, 0), (9, 0), (0, v5), (9, 0), (0, v7), (9, 0)]) (am_lk (am_lk (am_lk (am_lf (am_lf (am_lk (am_lf (am_lk (am_lf am_ln))))))))) (S_X12_cover_J3 X hp_v0 hC30 hB h)
          · have h := h.2 c
            refine z_iload (nx := 169) (a := 5) G rfl dX12_cover_167 rfl ?_
            refine b_callS0 (nx := 172) (zs := [v5]) (as := [(0, v5)]) X hB SS_X12_ones (am_ti am_tn) (Nat.le_of_ble_eq_true rfl) (Nat.le_of_ble_eq_true rfl) ml_RX12_412 sw_X12_ones (am_plainC 12 (by decide)) cw_X12_ones nw_RX12 pp_X12_ones (Nat.le_of_ble_eq_true rfl) dX12_cover_169 rfl (NM_X12_ones h) (fun r_8 m_9 h hB => ?_)
            refine z_iload_n (nx := 173) (a := 3) G rfl dX12_cover_172 rfl ?_
            refine b_callS0 (nx := 176) (zs := [v3]) (as := [(0, v3)]) X hB SS_X12_ones (am_ti am_tn) (Nat.le_of_ble_eq_true rfl) (Nat.le_of_ble_eq_true rfl) ml_RX12_412 sw_X12_ones (am_plainC 12 (by decide)) cw_X12_ones nw_RX12 pp_X12_ones (Nat.le_of_ble_eq_true rfl) dX12_cover_173 rfl (NM_X12_ones h) (fun r_10 m_11 h hB => ?_)
            refine z_icmp_lt (nx := 179) (tgt := 182) G dX12_cover_176 (by decide) rfl (fun c => ?_) (fun c => ?_)
            · have h := h.1 c
              exact b_fewer (loc2 := [(2, v0), (0, v1), (0, v2), (9, 0), (9, 0), (0, v5), (9, 0), (0, v7), (9, 0)]) (am_lk (am_lk (am_lk (am_lf (am_lf (am_lk (am_lf (am_lk (am_lf am_ln))))))))) (S_X12_cover_J3 X hp_v0 hC30 hB h)
            · have h := h.2 c
              refine z_goto (tgt := 189) G dX12_cover_179 (by decide) ?_
              exact b_fewer (loc2 := [(2, v0), (0, v1), (0, v2), (0, v3), (0, v4), (0, v5), (9, 0), (9, 0), (9, 0)]) (am_lk (am_lk (am_lk (am_lk (am_lk (am_lk (am_lf (am_lf (am_lf am_ln))))))))) (S_X12_cover_J4 X hp_v0 hC30 hB h)
  · have h := h.2 c
    refine z_iload (nx := 69) (a := 6) G rfl dX12_cover_67 rfl (z_iload (nx := 71) (a := 5) G rfl dX12_cover_69 rfl (z_iload (nx := 73) (a := 8) G rfl dX12_cover_71 rfl ?_))
    refine b_callS5 (nx := 76) (zs := [v5, v8]) (as := [(0, v5), (0, v8)]) X hB SS_X12_isIn (am_ti (am_ti am_tn)) (Nat.le_of_ble_eq_true rfl) (Nat.le_of_ble_eq_true rfl) ml_RX12_406 sw_X12_isIn (am_plainC 12 (by decide)) cw_X12_isIn nw_RX12 pp_X12_isIn (Nat.le_of_ble_eq_true rfl) dX12_cover_73 rfl (NM_X12_isIn h) (fun r_12 m_13 h h01_14 hB => ?_)
    refine z_if_eq (nx := 79) (tgt := 95) G dX12_cover_76 (by decide) rfl (fun c => ?_) (fun c => ?_)
    · have h := h.1 c
      refine z_iconst (nx := 96) (z := 0) G (R32c rfl) dX12_cover_95 rfl ?_
      exact b_fewer (loc2 := [(2, v0), (0, v1), (0, v2), (0, v3), (0, v4), (0, v5), (9, 0), (0, v7), (0, v8)]) (am_lk (am_lk (am_lk (am_lk (am_lk (am_lk (am_lf (am_lk (am_lk am_ln))))))))) (S_X12_cover_J1 X hp_v0 hC54 hC30 hB h)
    · have h := h.2 c
      refine z_aload_n (nx := 80) (a := 0) G rfl (Or.inl rfl) dX12_cover_79 rfl (b_getA (nx := 83) (k0 := 2) G hB fl_RX12_24 (Nat.le_of_ble_eq_true rfl) (Nat.le_of_ble_eq_true rfl) rfl hp_v0 dX12_cover_80 rfl (z_sipush (nx := 86) (z := 322) G (R32c rfl) rfl dX12_cover_83 rfl (z_iconst (nx := 87) (z := 2) G (R32c rfl) dX12_cover_86 rfl (z_iload (nx := 89) (a := 8) G rfl dX12_cover_87 rfl (z_imul (nx := 90) G dX12_cover_89 rfl (z_iadd (nx := 91) G dX12_cover_90 rfl ?_))))))
      obtain ⟨hb, h⟩ := h
      refine z_iald (nx := 92) G (sh_12_2 _ hp_v0) hb.1 hb.2 dX12_cover_91 rfl ?_
      refine z_goto (tgt := 96) G dX12_cover_92 (by decide) ?_
      exact b_fewer (loc2 := [(2, v0), (0, v1), (0, v2), (0, v3), (0, v4), (0, v5), (9, 0), (0, v7), (0, v8)]) (am_lk (am_lk (am_lk (am_lk (am_lk (am_lk (am_lf (am_lk (am_lk am_ln))))))))) (S_X12_cover_J1 X hp_v0 hC54 hC30 hB h)
theorem S_X12_cover_L2 {F : am_F} {K : am_KK} {v0 : Int} {v1 : Int} {v2 : Int} {v3 : Int} {v4 : Int} {v5 : Int} {v6 : Int} {v7 : Int} {v8 : Int} {C30 : Int → Int → Int → am_M → Prop} {m : am_M} (X : am_Cx F cX12_cover RX12 (some .int) 2 0 K) (hp_v0 : am_ob v0 12) (hC30 : ∀ w3 w4 w5 m, C30 w3 w4 w5 m → am_Bt m → am_Z F 30 [] [(2, v0), (0, v1), (0, v2), (0, w3), (0, w4), (0, w5), (9, 0), (9, 0), (9, 0)] m 200) (hB : am_Bt m) (h : M_X12_cover_L2 v0 v1 v2 v3 v4 v5 v6 v7 v8 C30 K m) : am_Z F 54 [] [(2, v0), (0, v1), (0, v2), (0, v3), (0, v4), (0, v5), (0, v6), (0, v7), (0, v8)] m 200 := by
  obtain ⟨I, ⟨j, hj⟩, hI⟩ := h
  have key : ∀ j v6 v7 v8 m, I j v6 v7 v8 m → am_Bt m → am_Z F 54 [] [(2, v0), (0, v1), (0, v2), (0, v3), (0, v4), (0, v5), (0, v6), (0, v7), (0, v8)] m 200 := by
    intro j
    induction j using Nat.strongRecOn with
    | ind j ih =>
      intro v6 v7 v8 m hj hB
      exact S_X12_cover_L2B X hp_v0 (fun v6' v7' v8' m' hc hB' => by
        obtain ⟨j', g1, g2⟩ := hc
        exact ih j' g1 v6' v7' v8' m' g2 hB') hC30 hB (hI j v6 v7 v8 m hj)
  exact key j _ _ _ _ hj hB
set_option maxRecDepth 20000 in
set_option maxHeartbeats 4000000 in
theorem S_X12_cover_L1B {F : am_F} {K : am_KK} {v0 : Int} {v1 : Int} {v2 : Int} {v3 : Int} {v4 : Int} {v5 : Int} {C30 : Int → Int → Int → am_M → Prop} {m : am_M} (X : am_Cx F cX12_cover RX12 (some .int) 2 0 K) (hp_v0 : am_ob v0 12) (hC30 : ∀ w3 w4 w5 m, C30 w3 w4 w5 m → am_Bt m → am_Z F 30 [] [(2, v0), (0, v1), (0, v2), (0, w3), (0, w4), (0, w5), (9, 0), (9, 0), (9, 0)] m 200) (hB : am_Bt m) (h : M_X12_cover_L1B v0 v1 v2 v3 v4 v5 C30 K m) : am_Z F 30 [] [(2, v0), (0, v1), (0, v2), (0, v3), (0, v4), (0, v5), (9, 0), (9, 0), (9, 0)] m 200 := by
  have G := X.G
  unfold M_X12_cover_L1B at h
  refine z_iload (nx := 32) (a := 5) G rfl dX12_cover_30 rfl (z_iconst (nx := 33) (z := 1) G (R32c rfl) dX12_cover_32 rfl (z_aload_n (nx := 34) (a := 0) G rfl (Or.inl rfl) dX12_cover_33 rfl (b_getA (nx := 37) (k0 := 2) G hB fl_RX12_24 (Nat.le_of_ble_eq_true rfl) (Nat.le_of_ble_eq_true rfl) rfl hp_v0 dX12_cover_34 rfl (z_sipush (nx := 40) (z := 366) G (R32c rfl) rfl dX12_cover_37 rfl ?_))))
  obtain ⟨hb, h⟩ := h
  refine z_iald (nx := 41) G (sh_12_2 _ hp_v0) hb.1 hb.2 dX12_cover_40 rfl ?_
  refine z_ishl (nx := 42) G dX12_cover_41 rfl ?_
  refine z_icmp_ge (nx := 45) (tgt := 195) G dX12_cover_42 (by decide) rfl (fun c => ?_) (fun c => ?_)
  · have h := h.1 c
    refine z_iload_n (nx := 196) (a := 3) G rfl dX12_cover_195 rfl (z_iconst (nx := 197) (z := (-1)) G (R32c rfl) dX12_cover_196 rfl ?_)
    refine z_icmp_ne (nx := 200) (tgt := 204) G dX12_cover_197 (by decide) rfl (fun c => ?_) (fun c => ?_)
    · have h := h.1 c
      refine z_iload_n (nx := 205) (a := 2) G rfl dX12_cover_204 rfl ?_
      refine z_if_ne (nx := 208) (tgt := 213) G dX12_cover_205 (by decide) rfl (fun c => ?_) (fun c => ?_)
      · have h := h.1 c
        refine z_iload_n (nx := 214) (a := 3) G rfl dX12_cover_213 rfl ?_
        exact b_ireturn X hB dX12_cover_214 h
      · have h := h.2 c
        refine z_iload (nx := 210) (a := 4) G rfl dX12_cover_208 rfl (z_goto (tgt := 214) G dX12_cover_210 (by decide) ?_)
        exact b_ireturn X hB dX12_cover_214 h
    · have h := h.2 c
      refine z_iconst (nx := 201) (z := (-1)) G (R32c rfl) dX12_cover_200 rfl (z_goto (tgt := 214) G dX12_cover_201 (by decide) ?_)
      exact b_ireturn X hB dX12_cover_214 h
  · have h := h.2 c
    refine z_iconst (nx := 46) (z := 0) G (R32c rfl) dX12_cover_45 rfl (b_storeE (nx := 48) (a := 6) (loc2 := [(2, v0), (0, v1), (0, v2), (0, v3), (0, v4), (0, v5), (0, 0), (9, 0), (9, 0)]) G rfl (Nat.le_of_ble_eq_true rfl) (am_pl1 rfl (fun h => nomatch h)) dX12_cover_46 rfl (z_iconst (nx := 49) (z := 0) G (R32c rfl) dX12_cover_48 rfl (b_storeE (nx := 51) (a := 7) (loc2 := [(2, v0), (0, v1), (0, v2), (0, v3), (0, v4), (0, v5), (0, 0), (0, 0), (9, 0)]) G rfl (Nat.le_of_ble_eq_true rfl) (am_pl1 rfl (fun h => nomatch h)) dX12_cover_49 rfl (z_iconst (nx := 52) (z := 0) G (R32c rfl) dX12_cover_51 rfl (b_storeE (nx := 54) (a := 8) (loc2 := [(2, v0), (0, v1), (0, v2), (0, v3), (0, v4), (0, v5), (0, 0), (0, 0), (0, 0)]) G rfl (Nat.le_of_ble_eq_true rfl) (am_pl1 rfl (fun h => nomatch h)) dX12_cover_52 rfl ?_)))))
    exact b_fewer (loc2 := [(2, v0), (0, v1), (0, v2), (0, v3), (0, v4), (0, v5), (0, 0), (0, 0), (0, 0)]) (am_lk (am_lk (am_lk (am_lk (am_lk (am_lk (am_lk (am_lk (am_lk am_ln))))))))) (S_X12_cover_L2 X hp_v0 hC30 hB h)
theorem S_X12_cover_L1 {F : am_F} {K : am_KK} {v0 : Int} {v1 : Int} {v2 : Int} {v3 : Int} {v4 : Int} {v5 : Int} {m : am_M} (X : am_Cx F cX12_cover RX12 (some .int) 2 0 K) (hp_v0 : am_ob v0 12) (hB : am_Bt m) (h : M_X12_cover_L1 v0 v1 v2 v3 v4 v5 K m) : am_Z F 30 [] [(2, v0), (0, v1), (0, v2), (0, v3), (0, v4), (0, v5), (9, 0), (9, 0), (9, 0)] m 200 := by
  obtain ⟨I, ⟨j, hj⟩, hI⟩ := h
  have key : ∀ j v3 v4 v5 m, I j v3 v4 v5 m → am_Bt m → am_Z F 30 [] [(2, v0), (0, v1), (0, v2), (0, v3), (0, v4), (0, v5), (9, 0), (9, 0), (9, 0)] m 200 := by
    intro j
    induction j using Nat.strongRecOn with
    | ind j ih =>
      intro v3 v4 v5 m hj hB
      exact S_X12_cover_L1B X hp_v0 (fun v3' v4' v5' m' hc hB' => by
        obtain ⟨j', g1, g2⟩ := hc
        exact ih j' g1 v3' v4' v5' m' g2 hB') hB (hI j v3 v4 v5 m hj)
  exact key j _ _ _ _ hj hB
set_option maxRecDepth 20000 in
set_option maxHeartbeats 4000000 in
theorem S_X12_cover {F : am_F} {K : am_KK} {v0 : Int} {v1 : Int} {v2 : Int} {m : am_M} (X : am_Cx F cX12_cover RX12 (some .int) 2 0 K) (hp_v0 : am_ob v0 12) (hB : am_Bt m) (h : M_X12_cover v0 v1 v2 K m) : am_Z F 0 [] [(2, v0), (0, v1), (0, v2), (9, 0), (9, 0), (9, 0), (9, 0), (9, 0), (9, 0)] m 200 := by
  have G := X.G
  unfold M_X12_cover at h
  refine z_iload_n (nx := 1) (a := 1) G rfl dX12_cover_0 rfl (z_iconst (nx := 2) (z := 1) G (R32c rfl) dX12_cover_1 rfl (z_sipush (nx := 5) (z := 255) G (R32c rfl) rfl dX12_cover_2 rfl ?_))
  refine b_callS5 (nx := 8) (zs := [v1, 1, 255]) (as := [(0, v1), (0, 1), (0, 255)]) X hB SS_X12_lies (am_ti (am_ti (am_ti am_tn))) (Nat.le_of_ble_eq_true rfl) (Nat.le_of_ble_eq_true rfl) ml_RX12_123 sw_X12_lies (am_plainC 12 (by decide)) cw_X12_lies nw_RX12 pp_X12_lies (Nat.le_of_ble_eq_true rfl) dX12_cover_5 rfl (NM_X12_lies h) (fun r_15 m_16 h h01_17 hB => ?_)
  refine z_if_eq (nx := 11) (tgt := 20) G dX12_cover_8 (by decide) rfl (fun c => ?_) (fun c => ?_)
  · have h := h.1 c
    refine z_iconst (nx := 21) (z := (-1)) G (R32c rfl) dX12_cover_20 rfl ?_
    exact b_ireturn X hB dX12_cover_21 h
  · have h := h.2 c
    refine z_iload_n (nx := 12) (a := 2) G rfl dX12_cover_11 rfl (z_iconst (nx := 13) (z := 0) G (R32c rfl) dX12_cover_12 rfl (z_iconst (nx := 14) (z := 1) G (R32c rfl) dX12_cover_13 rfl ?_))
    refine b_callS5 (nx := 17) (zs := [v2, 0, 1]) (as := [(0, v2), (0, 0), (0, 1)]) X hB SS_X12_lies (am_ti (am_ti (am_ti am_tn))) (Nat.le_of_ble_eq_true rfl) (Nat.le_of_ble_eq_true rfl) ml_RX12_123 sw_X12_lies (am_plainC 12 (by decide)) cw_X12_lies nw_RX12 pp_X12_lies (Nat.le_of_ble_eq_true rfl) dX12_cover_14 rfl (NM_X12_lies h) (fun r_18 m_19 h h01_20 hB => ?_)
    refine z_if_ne (nx := 20) (tgt := 22) G dX12_cover_17 (by decide) rfl (fun c => ?_) (fun c => ?_)
    · have h := h.1 c
      refine z_iconst (nx := 23) (z := (-1)) G (R32c rfl) dX12_cover_22 rfl (b_storeE_n (nx := 24) (a := 3) (loc2 := [(2, v0), (0, v1), (0, v2), (0, (-1)), (9, 0), (9, 0), (9, 0), (9, 0), (9, 0)]) G rfl (Nat.le_of_ble_eq_true rfl) (am_pl1 rfl (fun h => nomatch h)) dX12_cover_23 rfl (z_iconst (nx := 25) (z := 0) G (R32c rfl) dX12_cover_24 rfl (b_storeE (nx := 27) (a := 4) (loc2 := [(2, v0), (0, v1), (0, v2), (0, (-1)), (0, 0), (9, 0), (9, 0), (9, 0), (9, 0)]) G rfl (Nat.le_of_ble_eq_true rfl) (am_pl1 rfl (fun h => nomatch h)) dX12_cover_25 rfl (z_iconst (nx := 28) (z := 0) G (R32c rfl) dX12_cover_27 rfl (b_storeE (nx := 30) (a := 5) (loc2 := [(2, v0), (0, v1), (0, v2), (0, (-1)), (0, 0), (0, 0), (9, 0), (9, 0), (9, 0)]) G rfl (Nat.le_of_ble_eq_true rfl) (am_pl1 rfl (fun h => nomatch h)) dX12_cover_28 rfl ?_)))))
      exact b_fewer (loc2 := [(2, v0), (0, v1), (0, v2), (0, (-1)), (0, 0), (0, 0), (9, 0), (9, 0), (9, 0)]) (am_lk (am_lk (am_lk (am_lk (am_lk (am_lk (am_lk (am_lk (am_lk am_ln))))))))) (S_X12_cover_L1 X hp_v0 hB h)
    · have h := h.2 c
      refine z_iconst (nx := 21) (z := (-1)) G (R32c rfl) dX12_cover_20 rfl ?_
      exact b_ireturn X hB dX12_cover_21 h
theorem NM_X12_cover {v0 : Int} {v1 : Int} {v2 : Int} {K : am_KK} {m : am_M} (hp_v0 : am_ob v0 12) (h : M_X12_cover v0 v1 v2 K m) : N_X12_cover [v0, v1, v2] K m := ⟨hp_v0, h⟩
theorem SS_X12_cover : am_Snd yX12_cover cX12_cover 9 (some .int) 0 2 (am_L [2, 0, 0] 0 N_X12_cover) := by
  refine am_SB (by decide +kernel) (Nat.le_of_ble_eq_true rfl) (fun F zs as K m X ht hB hM => ?_)
  obtain ⟨v0, zs, as, rfl, rfl, hz0, ht⟩ := am_inv ht
  obtain ⟨v1, zs, as, rfl, rfl, hz1, ht⟩ := am_inv ht
  obtain ⟨v2, zs, as, rfl, rfl, hz2, ht⟩ := am_inv ht
  obtain ⟨rfl, rfl⟩ := am_inv0 ht
  obtain ⟨hp_v0, hM⟩ := hM
  exact S_X12_cover X hp_v0 hB hM
set_option maxRecDepth 20000 in
set_option maxHeartbeats 4000000 in
theorem S_X12_when_J2 {F : am_F} {K : am_KK} {v0 : Int} {s0 : Int} {m : am_M} (X : am_Cx F cX12_when RX12 (some .int) 609 0 K) (hp_v0 : am_ob v0 12) (hB : am_Bt m) (h : M_X12_when_J2 v0 s0 K m) : am_Z F 119 [(0, s0)] [(2, v0), (9, 0), (9, 0), (9, 0), (9, 0)] m 200 := by
  have G := X.G
  unfold M_X12_when_J2 at h
  refine b_storeE (nx := 121) (a := 4) (loc2 := [(2, v0), (9, 0), (9, 0), (9, 0), (0, s0)]) G rfl (Nat.le_of_ble_eq_true rfl) (am_pl1 rfl (fun h => nomatch h)) dX12_when_119 rfl (z_aload_n (nx := 122) (a := 0) G rfl (Or.inl rfl) dX12_when_121 rfl (z_iconst (nx := 123) (z := 0) G (R32c rfl) dX12_when_122 rfl ?_))
  refine b_callV9 (nx := 126) (zs := [v0, 0]) (as := [(0, 0)]) X hB (by decide) rfl hp_v0 SS_X12_takesBack (am_ta (am_ti am_tn)) (Nat.le_of_ble_eq_true rfl) (Nat.le_of_ble_eq_true rfl) ml_RX12_418 iw_X12_takesBack vw_X12_takesBack cw_X12_takesBack nw_RX12 pp_X12_takesBack (Nat.le_of_ble_eq_true rfl) dX12_when_123 rfl (NM_X12_takesBack hp_v0 h) (fun r_1 m_2 h hB => ?_)
  refine z_iload (nx := 128) (a := 4) G rfl dX12_when_126 rfl ?_
  exact b_ireturn X hB dX12_when_128 h
set_option maxRecDepth 20000 in
set_option maxHeartbeats 4000000 in
theorem S_X12_when_J1 {F : am_F} {K : am_KK} {v0 : Int} {v1 : Int} {v3 : Int} {m : am_M} (X : am_Cx F cX12_when RX12 (some .int) 609 0 K) (hp_v0 : am_ob v0 12) (hB : am_Bt m) (h : M_X12_when_J1 v0 v1 v3 K m) : am_Z F 77 [] [(2, v0), (0, v1), (9, 0), (0, v3), (9, 0)] m 200 := by
  have G := X.G
  unfold M_X12_when_J1 at h
  refine z_aload_n (nx := 78) (a := 0) G rfl (Or.inl rfl) dX12_when_77 rfl (z_iload_n (nx := 79) (a := 1) G rfl dX12_when_78 rfl (z_iconst (nx := 80) (z := 5) G (R32c rfl) dX12_when_79 rfl ?_))
  refine b_callV0 (nx := 83) (zs := [v0, v1, 5]) (as := [(0, v1), (0, 5)]) X hB (by decide) rfl hp_v0 SS_X12_fact (am_ta (am_ti (am_ti am_tn))) (Nat.le_of_ble_eq_true rfl) (Nat.le_of_ble_eq_true rfl) ml_RX12_141 iw_X12_fact vw_X12_fact cw_X12_fact nw_RX12 pp_X12_fact (Nat.le_of_ble_eq_true rfl) dX12_when_80 rfl (NM_X12_fact hp_v0 h) (fun r_3 m_4 h hB => ?_)
  refine z_if_ne (nx := 86) (tgt := 90) G dX12_when_83 (by decide) rfl (fun c => ?_) (fun c => ?_)
  · have h := h.1 c
    refine z_iload_n (nx := 91) (a := 3) G rfl dX12_when_90 rfl ?_
    refine z_if_ne (nx := 94) (tgt := 104) G dX12_when_91 (by decide) rfl (fun c => ?_) (fun c => ?_)
    · have h := h.1 c
      refine z_aload_n (nx := 105) (a := 0) G rfl (Or.inl rfl) dX12_when_104 rfl (z_iload_n (nx := 106) (a := 1) G rfl dX12_when_105 rfl (z_iconst (nx := 107) (z := 5) G (R32c rfl) dX12_when_106 rfl ?_))
      refine b_callV0 (nx := 110) (zs := [v0, v1, 5]) (as := [(0, v1), (0, 5)]) X hB (by decide) rfl hp_v0 SS_X12_fact (am_ta (am_ti (am_ti am_tn))) (Nat.le_of_ble_eq_true rfl) (Nat.le_of_ble_eq_true rfl) ml_RX12_141 iw_X12_fact vw_X12_fact cw_X12_fact nw_RX12 pp_X12_fact (Nat.le_of_ble_eq_true rfl) dX12_when_107 rfl (NM_X12_fact hp_v0 h) (fun r_5 m_6 h hB => ?_)
      refine z_iconst (nx := 111) (z := 1) G (R32c rfl) dX12_when_110 rfl ?_
      refine z_icmp_ne (nx := 114) (tgt := 118) G dX12_when_111 (by decide) rfl (fun c => ?_) (fun c => ?_)
      · have h := h.1 c
        refine z_iconst (nx := 119) (z := 0) G (R32c rfl) dX12_when_118 rfl ?_
        exact b_fewer (loc2 := [(2, v0), (9, 0), (9, 0), (9, 0), (9, 0)]) (am_lk (am_lf (am_lk (am_lf (am_lk am_ln))))) (S_X12_when_J2 X hp_v0 hB h)
      · have h := h.2 c
        refine z_iconst (nx := 115) (z := 1) G (R32c rfl) dX12_when_114 rfl (z_goto (tgt := 119) G dX12_when_115 (by decide) ?_)
        exact b_fewer (loc2 := [(2, v0), (9, 0), (9, 0), (9, 0), (9, 0)]) (am_lk (am_lf (am_lk (am_lf (am_lk am_ln))))) (S_X12_when_J2 X hp_v0 hB h)
    · have h := h.2 c
      refine z_aload_n (nx := 95) (a := 0) G rfl (Or.inl rfl) dX12_when_94 rfl (z_iload_n (nx := 96) (a := 1) G rfl dX12_when_95 rfl (z_bipush (nx := 98) (z := 6) G (R32c rfl) rfl dX12_when_96 rfl ?_))
      refine b_callV0 (nx := 101) (zs := [v0, v1, 6]) (as := [(0, v1), (0, 6)]) X hB (by decide) rfl hp_v0 SS_X12_fact (am_ta (am_ti (am_ti am_tn))) (Nat.le_of_ble_eq_true rfl) (Nat.le_of_ble_eq_true rfl) ml_RX12_141 iw_X12_fact vw_X12_fact cw_X12_fact nw_RX12 pp_X12_fact (Nat.le_of_ble_eq_true rfl) dX12_when_98 rfl (NM_X12_fact hp_v0 h) (fun r_7 m_8 h hB => ?_)
      refine z_goto (tgt := 119) G dX12_when_101 (by decide) ?_
      exact b_fewer (loc2 := [(2, v0), (9, 0), (9, 0), (9, 0), (9, 0)]) (am_lk (am_lf (am_lk (am_lf (am_lk am_ln))))) (S_X12_when_J2 X hp_v0 hB h)
  · have h := h.2 c
    refine z_iconst (nx := 87) (z := (-1)) G (R32c rfl) dX12_when_86 rfl (z_goto (tgt := 119) G dX12_when_87 (by decide) ?_)
    exact b_fewer (loc2 := [(2, v0), (9, 0), (9, 0), (9, 0), (9, 0)]) (am_lk (am_lf (am_lk (am_lf (am_lk am_ln))))) (S_X12_when_J2 X hp_v0 hB h)
set_option maxRecDepth 20000 in
set_option maxHeartbeats 4000000 in
theorem S_X12_when_L1B {F : am_F} {K : am_KK} {v0 : Int} {v1 : Int} {v2 : Int} {v3 : Int} {v4 : Int} {C37 : Int → am_M → Prop} {m : am_M} (X : am_Cx F cX12_when RX12 (some .int) 609 0 K) (hp_v0 : am_ob v0 12) (hC37 : ∀ w4 m, C37 w4 m → am_Bt m → am_Z F 37 [] [(2, v0), (0, v1), (0, v2), (0, v3), (0, w4)] m 200) (hB : am_Bt m) (h : M_X12_when_L1B v0 v1 v2 v3 v4 C37 K m) : am_Z F 37 [] [(2, v0), (0, v1), (0, v2), (0, v3), (0, v4)] m 200 := by
  have G := X.G
  unfold M_X12_when_L1B at h
  refine z_iload (nx := 39) (a := 4) G rfl dX12_when_37 rfl (z_iload_n (nx := 40) (a := 2) G rfl dX12_when_39 rfl ?_)
  refine z_icmp_ge (nx := 43) (tgt := 77) G dX12_when_40 (by decide) rfl (fun c => ?_) (fun c => ?_)
  · have h := h.1 c
    exact b_fewer (loc2 := [(2, v0), (0, v1), (9, 0), (0, v3), (9, 0)]) (am_lk (am_lk (am_lf (am_lk (am_lf am_ln))))) (S_X12_when_J1 X hp_v0 hB h)
  · have h := h.2 c
    refine z_aload_n (nx := 44) (a := 0) G rfl (Or.inl rfl) dX12_when_43 rfl (z_iload_n (nx := 45) (a := 1) G rfl dX12_when_44 rfl (z_iconst (nx := 46) (z := 5) G (R32c rfl) dX12_when_45 rfl ?_))
    refine b_callV0 (nx := 49) (zs := [v0, v1, 5]) (as := [(0, v1), (0, 5)]) X hB (by decide) rfl hp_v0 SS_X12_fact (am_ta (am_ti (am_ti am_tn))) (Nat.le_of_ble_eq_true rfl) (Nat.le_of_ble_eq_true rfl) ml_RX12_141 iw_X12_fact vw_X12_fact cw_X12_fact nw_RX12 pp_X12_fact (Nat.le_of_ble_eq_true rfl) dX12_when_46 rfl (NM_X12_fact hp_v0 h) (fun r_9 m_10 h hB => ?_)
    refine z_if_ne (nx := 52) (tgt := 77) G dX12_when_49 (by decide) rfl (fun c => ?_) (fun c => ?_)
    · have h := h.1 c
      exact b_fewer (loc2 := [(2, v0), (0, v1), (9, 0), (0, v3), (9, 0)]) (am_lk (am_lk (am_lf (am_lk (am_lf am_ln))))) (S_X12_when_J1 X hp_v0 hB h)
    · have h := h.2 c
      refine z_aload_n (nx := 53) (a := 0) G rfl (Or.inl rfl) dX12_when_52 rfl (b_getA (nx := 56) (k0 := 2) G hB fl_RX12_24 (Nat.le_of_ble_eq_true rfl) (Nat.le_of_ble_eq_true rfl) rfl hp_v0 dX12_when_53 rfl (z_sipush (nx := 59) (z := 169) G (R32c rfl) rfl dX12_when_56 rfl ?_))
      obtain ⟨hb, h⟩ := h
      refine z_iald (nx := 60) G (sh_12_2 _ hp_v0) hb.1 hb.2 dX12_when_59 rfl ?_
      refine z_sipush (nx := 63) (z := 999) G (R32c rfl) rfl dX12_when_60 rfl ?_
      refine z_icmp_ge (nx := 66) (tgt := 77) G dX12_when_63 (by decide) rfl (fun c => ?_) (fun c => ?_)
      · have h := h.1 c
        exact b_fewer (loc2 := [(2, v0), (0, v1), (9, 0), (0, v3), (9, 0)]) (am_lk (am_lk (am_lf (am_lk (am_lf am_ln))))) (S_X12_when_J1 X hp_v0 hB h)
      · have h := h.2 c
        refine z_aload_n (nx := 67) (a := 0) G rfl (Or.inl rfl) dX12_when_66 rfl ?_
        refine b_callV0 (nx := 70) (zs := [v0]) (as := []) X hB (by decide) rfl hp_v0 SS_X12_dawns (am_ta am_tn) (Nat.le_of_ble_eq_true rfl) (Nat.le_of_ble_eq_true rfl) ml_RX12_379 iw_X12_dawns vw_X12_dawns cw_X12_dawns nw_RX12 pp_X12_dawns (Nat.le_of_ble_eq_true rfl) dX12_when_67 rfl (NM_X12_dawns hp_v0 h) (fun r_11 m_12 h hB => ?_)
        refine z_pop (nx := 71) G (fun h => nomatch h) dX12_when_70 rfl ?_
        refine b_iinc (nx := 74) (a := 4) (loc2 := fun v4_13 => [(2, v0), (0, v1), (0, v2), (0, v3), (0, v4_13)]) G (fun _ => rfl) rfl (am_pl1 rfl (fun h => nomatch h)) dX12_when_71 rfl (fun v4_13 e_v4_13 => ?_)
        have h := h v4_13 e_v4_13
        refine z_goto (tgt := 37) G dX12_when_74 (by decide) ?_
        exact b_fewer (loc2 := [(2, v0), (0, v1), (0, v2), (0, v3), (0, v4_13)]) (am_lk (am_lk (am_lk (am_lk (am_lk am_ln))))) (hC37 _ _ h hB)
theorem S_X12_when_L1 {F : am_F} {K : am_KK} {v0 : Int} {v1 : Int} {v2 : Int} {v3 : Int} {v4 : Int} {m : am_M} (X : am_Cx F cX12_when RX12 (some .int) 609 0 K) (hp_v0 : am_ob v0 12) (hB : am_Bt m) (h : M_X12_when_L1 v0 v1 v2 v3 v4 K m) : am_Z F 37 [] [(2, v0), (0, v1), (0, v2), (0, v3), (0, v4)] m 200 := by
  obtain ⟨I, ⟨j, hj⟩, hI⟩ := h
  have key : ∀ j v4 m, I j v4 m → am_Bt m → am_Z F 37 [] [(2, v0), (0, v1), (0, v2), (0, v3), (0, v4)] m 200 := by
    intro j
    induction j using Nat.strongRecOn with
    | ind j ih =>
      intro v4 m hj hB
      exact S_X12_when_L1B X hp_v0 (fun v4' m' hc hB' => by
        obtain ⟨j', g1, g2⟩ := hc
        exact ih j' g1 v4' m' g2 hB') hB (hI j v4 m hj)
  exact key j _ _ hj hB
set_option maxRecDepth 20000 in
set_option maxHeartbeats 4000000 in
theorem S_X12_when {F : am_F} {K : am_KK} {v0 : Int} {v1 : Int} {v2 : Int} {v3 : Int} {m : am_M} (X : am_Cx F cX12_when RX12 (some .int) 609 0 K) (hp_v0 : am_ob v0 12) (hB : am_Bt m) (h : M_X12_when v0 v1 v2 v3 K m) : am_Z F 0 [] [(2, v0), (0, v1), (0, v2), (0, v3), (9, 0)] m 200 := by
  have G := X.G
  unfold M_X12_when at h
  refine z_aload_n (nx := 1) (a := 0) G rfl (Or.inl rfl) dX12_when_0 rfl (z_iload_n (nx := 2) (a := 1) G rfl dX12_when_1 rfl ?_)
  refine b_callV5 (nx := 5) (zs := [v0, v1]) (as := [(0, v1)]) X hB (by decide) rfl hp_v0 SS_X12_isWaiting (am_ta (am_ti am_tn)) (Nat.le_of_ble_eq_true rfl) (Nat.le_of_ble_eq_true rfl) ml_RX12_372 iw_X12_isWaiting vw_X12_isWaiting cw_X12_isWaiting nw_RX12 pp_X12_isWaiting (Nat.le_of_ble_eq_true rfl) dX12_when_2 rfl (NM_X12_isWaiting hp_v0 h) (fun r_14 m_15 h h01_16 hB => ?_)
  refine z_if_eq (nx := 8) (tgt := 27) G dX12_when_5 (by decide) rfl (fun c => ?_) (fun c => ?_)
  · have h := h.1 c
    refine z_iconst (nx := 28) (z := (-1)) G (R32c rfl) dX12_when_27 rfl ?_
    exact b_ireturn X hB dX12_when_28 h
  · have h := h.2 c
    refine z_iload_n (nx := 9) (a := 2) G rfl dX12_when_8 rfl (z_iconst (nx := 10) (z := 1) G (R32c rfl) dX12_when_9 rfl (z_bipush (nx := 12) (z := 50) G (R32c rfl) rfl dX12_when_10 rfl ?_))
    refine b_callS5 (nx := 15) (zs := [v2, 1, 50]) (as := [(0, v2), (0, 1), (0, 50)]) X hB SS_X12_lies (am_ti (am_ti (am_ti am_tn))) (Nat.le_of_ble_eq_true rfl) (Nat.le_of_ble_eq_true rfl) ml_RX12_123 sw_X12_lies (am_plainC 12 (by decide)) cw_X12_lies nw_RX12 pp_X12_lies (Nat.le_of_ble_eq_true rfl) dX12_when_12 rfl (NM_X12_lies h) (fun r_17 m_18 h h01_19 hB => ?_)
    refine z_if_eq (nx := 18) (tgt := 27) G dX12_when_15 (by decide) rfl (fun c => ?_) (fun c => ?_)
    · have h := h.1 c
      refine z_iconst (nx := 28) (z := (-1)) G (R32c rfl) dX12_when_27 rfl ?_
      exact b_ireturn X hB dX12_when_28 h
    · have h := h.2 c
      refine z_iload_n (nx := 19) (a := 3) G rfl dX12_when_18 rfl (z_iconst (nx := 20) (z := 0) G (R32c rfl) dX12_when_19 rfl (z_iconst (nx := 21) (z := 1) G (R32c rfl) dX12_when_20 rfl ?_))
      refine b_callS5 (nx := 24) (zs := [v3, 0, 1]) (as := [(0, v3), (0, 0), (0, 1)]) X hB SS_X12_lies (am_ti (am_ti (am_ti am_tn))) (Nat.le_of_ble_eq_true rfl) (Nat.le_of_ble_eq_true rfl) ml_RX12_123 sw_X12_lies (am_plainC 12 (by decide)) cw_X12_lies nw_RX12 pp_X12_lies (Nat.le_of_ble_eq_true rfl) dX12_when_21 rfl (NM_X12_lies h) (fun r_20 m_21 h h01_22 hB => ?_)
      refine z_if_ne (nx := 27) (tgt := 29) G dX12_when_24 (by decide) rfl (fun c => ?_) (fun c => ?_)
      · have h := h.1 c
        refine z_aload_n (nx := 30) (a := 0) G rfl (Or.inl rfl) dX12_when_29 rfl (z_iconst (nx := 31) (z := 0) G (R32c rfl) dX12_when_30 rfl ?_)
        refine b_callV9 (nx := 34) (zs := [v0, 0]) (as := [(0, 0)]) X hB (by decide) rfl hp_v0 SS_X12_laysAside (am_ta (am_ti am_tn)) (Nat.le_of_ble_eq_true rfl) (Nat.le_of_ble_eq_true rfl) ml_RX12_415 iw_X12_laysAside vw_X12_laysAside cw_X12_laysAside nw_RX12 pp_X12_laysAside (Nat.le_of_ble_eq_true rfl) dX12_when_31 rfl (NM_X12_laysAside hp_v0 h) (fun r_23 m_24 h hB => ?_)
        refine z_iconst (nx := 35) (z := 0) G (R32c rfl) dX12_when_34 rfl (b_storeE (nx := 37) (a := 4) (loc2 := [(2, v0), (0, v1), (0, v2), (0, v3), (0, 0)]) G rfl (Nat.le_of_ble_eq_true rfl) (am_pl1 rfl (fun h => nomatch h)) dX12_when_35 rfl ?_)
        exact b_fewer (loc2 := [(2, v0), (0, v1), (0, v2), (0, v3), (0, 0)]) (am_lk (am_lk (am_lk (am_lk (am_lk am_ln))))) (S_X12_when_L1 X hp_v0 hB h)
      · have h := h.2 c
        refine z_iconst (nx := 28) (z := (-1)) G (R32c rfl) dX12_when_27 rfl ?_
        exact b_ireturn X hB dX12_when_28 h
theorem NM_X12_when {v0 : Int} {v1 : Int} {v2 : Int} {v3 : Int} {K : am_KK} {m : am_M} (hp_v0 : am_ob v0 12) (h : M_X12_when v0 v1 v2 v3 K m) : N_X12_when [v0, v1, v2, v3] K m := ⟨hp_v0, h⟩
theorem SS_X12_when : am_Snd yX12_when cX12_when 5 (some .int) 0 609 (am_L [2, 0, 0, 0] 0 N_X12_when) := by
  refine am_SB (by decide +kernel) (Nat.le_of_ble_eq_true rfl) (fun F zs as K m X ht hB hM => ?_)
  obtain ⟨v0, zs, as, rfl, rfl, hz0, ht⟩ := am_inv ht
  obtain ⟨v1, zs, as, rfl, rfl, hz1, ht⟩ := am_inv ht
  obtain ⟨v2, zs, as, rfl, rfl, hz2, ht⟩ := am_inv ht
  obtain ⟨v3, zs, as, rfl, rfl, hz3, ht⟩ := am_inv ht
  obtain ⟨rfl, rfl⟩ := am_inv0 ht
  obtain ⟨hp_v0, hM⟩ := hM
  exact S_X12_when X hp_v0 hB hM
set_option maxRecDepth 20000 in
set_option maxHeartbeats 4000000 in
theorem S_X12_longest_J1 {F : am_F} {K : am_KK} {v0 : Int} {v1 : Int} {v2 : Int} {v3 : Int} {v5 : Int} {s0 : Int} {C56 : Int → Int → am_M → Prop} {m : am_M} (X : am_Cx F cX12_longest RX12 (some .int) 609 0 K) (hp_v0 : am_ob v0 12) (hC56 : ∀ w4 w5 m, C56 w4 w5 m → am_Bt m → am_Z F 56 [] [(2, v0), (0, v1), (0, v2), (0, v3), (0, w4), (0, w5), (9, 0)] m 200) (hB : am_Bt m) (h : M_X12_longest_J1 v0 v1 v2 v3 v5 s0 C56 K m) : am_Z F 104 [(0, s0)] [(2, v0), (0, v1), (0, v2), (0, v3), (9, 0), (0, v5), (9, 0)] m 200 := by
  have G := X.G
  unfold M_X12_longest_J1 at h
  refine b_storeE (nx := 106) (a := 4) (loc2 := [(2, v0), (0, v1), (0, v2), (0, v3), (0, s0), (0, v5), (9, 0)]) G rfl (Nat.le_of_ble_eq_true rfl) (am_pl1 rfl (fun h => nomatch h)) dX12_longest_104 rfl (z_aload_n (nx := 107) (a := 0) G rfl (Or.inl rfl) dX12_longest_106 rfl (z_iconst (nx := 108) (z := 0) G (R32c rfl) dX12_longest_107 rfl ?_))
  refine b_callV9 (nx := 111) (zs := [v0, 0]) (as := [(0, 0)]) X hB (by decide) rfl hp_v0 SS_X12_takesBack (am_ta (am_ti am_tn)) (Nat.le_of_ble_eq_true rfl) (Nat.le_of_ble_eq_true rfl) ml_RX12_418 iw_X12_takesBack vw_X12_takesBack cw_X12_takesBack nw_RX12 pp_X12_takesBack (Nat.le_of_ble_eq_true rfl) dX12_longest_108 rfl (NM_X12_takesBack hp_v0 h) (fun r_1 m_2 h hB => ?_)
  refine b_iinc (nx := 114) (a := 5) (loc2 := fun v5_3 => [(2, v0), (0, v1), (0, v2), (0, v3), (0, s0), (0, v5_3), (9, 0)]) G (fun _ => rfl) rfl (am_pl1 rfl (fun h => nomatch h)) dX12_longest_111 rfl (fun v5_3 e_v5_3 => ?_)
  have h := h v5_3 e_v5_3
  refine z_goto (tgt := 56) G dX12_longest_114 (by decide) ?_
  exact b_fewer (loc2 := [(2, v0), (0, v1), (0, v2), (0, v3), (0, s0), (0, v5_3), (9, 0)]) (am_lk (am_lk (am_lk (am_lk (am_lk (am_lk (am_lk am_ln))))))) (hC56 _ _ _ h hB)
set_option maxRecDepth 20000 in
set_option maxHeartbeats 4000000 in
theorem S_X12_longest_L1B {F : am_F} {K : am_KK} {v0 : Int} {v1 : Int} {v2 : Int} {v3 : Int} {v4 : Int} {v5 : Int} {C56 : Int → Int → am_M → Prop} {m : am_M} (X : am_Cx F cX12_longest RX12 (some .int) 609 0 K) (hp_v0 : am_ob v0 12) (hC56 : ∀ w4 w5 m, C56 w4 w5 m → am_Bt m → am_Z F 56 [] [(2, v0), (0, v1), (0, v2), (0, v3), (0, w4), (0, w5), (9, 0)] m 200) (hB : am_Bt m) (h : M_X12_longest_L1B v0 v1 v2 v3 v4 v5 C56 K m) : am_Z F 56 [] [(2, v0), (0, v1), (0, v2), (0, v3), (0, v4), (0, v5), (9, 0)] m 200 := by
  have G := X.G
  unfold M_X12_longest_L1B at h
  refine z_iload (nx := 58) (a := 5) G rfl dX12_longest_56 rfl ?_
  refine z_if_le (nx := 61) (tgt := 117) G dX12_longest_58 (by decide) rfl (fun c => ?_) (fun c => ?_)
  · have h := h.1 c
    refine z_iload (nx := 119) (a := 4) G rfl dX12_longest_117 rfl ?_
    exact b_ireturn X hB dX12_longest_119 h
  · have h := h.2 c
    refine z_iload (nx := 63) (a := 4) G rfl dX12_longest_61 rfl (z_iconst (nx := 64) (z := (-1)) G (R32c rfl) dX12_longest_63 rfl ?_)
    refine z_icmp_ne (nx := 67) (tgt := 117) G dX12_longest_64 (by decide) rfl (fun c => ?_) (fun c => ?_)
    · have h := h.1 c
      refine z_iload (nx := 119) (a := 4) G rfl dX12_longest_117 rfl ?_
      exact b_ireturn X hB dX12_longest_119 h
    · have h := h.2 c
      refine z_aload_n (nx := 68) (a := 0) G rfl (Or.inl rfl) dX12_longest_67 rfl ?_
      refine b_callV0 (nx := 71) (zs := [v0]) (as := []) X hB (by decide) rfl hp_v0 SS_X12_prayers (am_ta am_tn) (Nat.le_of_ble_eq_true rfl) (Nat.le_of_ble_eq_true rfl) ml_RX12_133 iw_X12_prayers vw_X12_prayers cw_X12_prayers nw_RX12 pp_X12_prayers (Nat.le_of_ble_eq_true rfl) dX12_longest_68 rfl (NM_X12_prayers hp_v0 h) (fun r_4 m_5 h hB => ?_)
      refine b_storeE (nx := 73) (a := 6) (loc2 := [(2, v0), (0, v1), (0, v2), (0, v3), (0, v4), (0, v5), (0, r_4)]) G rfl (Nat.le_of_ble_eq_true rfl) (am_pl1 rfl (fun h => nomatch h)) dX12_longest_71 rfl (z_aload_n (nx := 74) (a := 0) G rfl (Or.inl rfl) dX12_longest_73 rfl (z_iload_n (nx := 75) (a := 1) G rfl dX12_longest_74 rfl (z_iload_n (nx := 76) (a := 2) G rfl dX12_longest_75 rfl (z_iload (nx := 78) (a := 5) G rfl dX12_longest_76 rfl (z_iload_n (nx := 79) (a := 3) G rfl dX12_longest_78 rfl ?_)))))
      refine b_callV9 (nx := 82) (zs := [v0, v1, v2, v5, v3]) (as := [(0, v1), (0, v2), (0, v5), (0, v3)]) X hB (by decide) rfl hp_v0 SS_X12_says (am_ta (am_ti (am_ti (am_ti (am_ti am_tn))))) (Nat.le_of_ble_eq_true rfl) (Nat.le_of_ble_eq_true rfl) ml_RX12_177 iw_X12_says vw_X12_says cw_X12_says nw_RX12 pp_X12_says (Nat.le_of_ble_eq_true rfl) dX12_longest_79 rfl (NM_X12_says hp_v0 h) (fun r_6 m_7 h hB => ?_)
      refine z_aload_n (nx := 83) (a := 0) G rfl (Or.inl rfl) dX12_longest_82 rfl ?_
      refine b_callV0 (nx := 86) (zs := [v0]) (as := []) X hB (by decide) rfl hp_v0 SS_X12_dawns (am_ta am_tn) (Nat.le_of_ble_eq_true rfl) (Nat.le_of_ble_eq_true rfl) ml_RX12_379 iw_X12_dawns vw_X12_dawns cw_X12_dawns nw_RX12 pp_X12_dawns (Nat.le_of_ble_eq_true rfl) dX12_longest_83 rfl (NM_X12_dawns hp_v0 h) (fun r_8 m_9 h hB => ?_)
      refine z_pop (nx := 87) G (fun h => nomatch h) dX12_longest_86 rfl (z_aload_n (nx := 88) (a := 0) G rfl (Or.inl rfl) dX12_longest_87 rfl (z_iload (nx := 90) (a := 6) G rfl dX12_longest_88 rfl (z_iconst (nx := 91) (z := 5) G (R32c rfl) dX12_longest_90 rfl ?_)))
      refine b_callV0 (nx := 94) (zs := [v0, r_4, 5]) (as := [(0, r_4), (0, 5)]) X hB (by decide) rfl hp_v0 SS_X12_fact (am_ta (am_ti (am_ti am_tn))) (Nat.le_of_ble_eq_true rfl) (Nat.le_of_ble_eq_true rfl) ml_RX12_141 iw_X12_fact vw_X12_fact cw_X12_fact nw_RX12 pp_X12_fact (Nat.le_of_ble_eq_true rfl) dX12_longest_91 rfl (NM_X12_fact hp_v0 h) (fun r_10 m_11 h hB => ?_)
      refine z_iconst (nx := 95) (z := 1) G (R32c rfl) dX12_longest_94 rfl ?_
      refine z_icmp_ne (nx := 98) (tgt := 103) G dX12_longest_95 (by decide) rfl (fun c => ?_) (fun c => ?_)
      · have h := h.1 c
        refine z_iconst (nx := 104) (z := (-1)) G (R32c rfl) dX12_longest_103 rfl ?_
        exact b_fewer (loc2 := [(2, v0), (0, v1), (0, v2), (0, v3), (9, 0), (0, v5), (9, 0)]) (am_lk (am_lk (am_lk (am_lk (am_lf (am_lk (am_lf am_ln))))))) (S_X12_longest_J1 X hp_v0 hC56 hB h)
      · have h := h.2 c
        refine z_iload (nx := 100) (a := 5) G rfl dX12_longest_98 rfl (z_goto (tgt := 104) G dX12_longest_100 (by decide) ?_)
        exact b_fewer (loc2 := [(2, v0), (0, v1), (0, v2), (0, v3), (9, 0), (0, v5), (9, 0)]) (am_lk (am_lk (am_lk (am_lk (am_lf (am_lk (am_lf am_ln))))))) (S_X12_longest_J1 X hp_v0 hC56 hB h)
theorem S_X12_longest_L1 {F : am_F} {K : am_KK} {v0 : Int} {v1 : Int} {v2 : Int} {v3 : Int} {v4 : Int} {v5 : Int} {m : am_M} (X : am_Cx F cX12_longest RX12 (some .int) 609 0 K) (hp_v0 : am_ob v0 12) (hB : am_Bt m) (h : M_X12_longest_L1 v0 v1 v2 v3 v4 v5 K m) : am_Z F 56 [] [(2, v0), (0, v1), (0, v2), (0, v3), (0, v4), (0, v5), (9, 0)] m 200 := by
  obtain ⟨I, ⟨j, hj⟩, hI⟩ := h
  have key : ∀ j v4 v5 m, I j v4 v5 m → am_Bt m → am_Z F 56 [] [(2, v0), (0, v1), (0, v2), (0, v3), (0, v4), (0, v5), (9, 0)] m 200 := by
    intro j
    induction j using Nat.strongRecOn with
    | ind j ih =>
      intro v4 v5 m hj hB
      exact S_X12_longest_L1B X hp_v0 (fun v4' v5' m' hc hB' => by
        obtain ⟨j', g1, g2⟩ := hc
        exact ih j' g1 v4' v5' m' g2 hB') hB (hI j v4 v5 m hj)
  exact key j _ _ _ hj hB
set_option maxRecDepth 20000 in
set_option maxHeartbeats 4000000 in
theorem S_X12_longest {F : am_F} {K : am_KK} {v0 : Int} {v1 : Int} {v2 : Int} {v3 : Int} {m : am_M} (X : am_Cx F cX12_longest RX12 (some .int) 609 0 K) (hp_v0 : am_ob v0 12) (hB : am_Bt m) (h : M_X12_longest v0 v1 v2 v3 K m) : am_Z F 0 [] [(2, v0), (0, v1), (0, v2), (0, v3), (9, 0), (9, 0), (9, 0)] m 200 := by
  have G := X.G
  unfold M_X12_longest at h
  refine z_aload_n (nx := 1) (a := 0) G rfl (Or.inl rfl) dX12_longest_0 rfl (z_iload_n (nx := 2) (a := 1) G rfl dX12_longest_1 rfl ?_)
  refine b_callV5 (nx := 5) (zs := [v0, v1]) (as := [(0, v1)]) X hB (by decide) rfl hp_v0 SS_X12_isPerson (am_ta (am_ti am_tn)) (Nat.le_of_ble_eq_true rfl) (Nat.le_of_ble_eq_true rfl) ml_RX12_161 iw_X12_isPerson vw_X12_isPerson cw_X12_isPerson nw_RX12 pp_X12_isPerson (Nat.le_of_ble_eq_true rfl) dX12_longest_2 rfl (NM_X12_isPerson hp_v0 h) (fun r_12 m_13 h h01_14 hB => ?_)
  refine z_if_eq (nx := 8) (tgt := 39) G dX12_longest_5 (by decide) rfl (fun c => ?_) (fun c => ?_)
  · have h := h.1 c
    refine z_iconst (nx := 40) (z := (-1)) G (R32c rfl) dX12_longest_39 rfl ?_
    exact b_ireturn X hB dX12_longest_40 h
  · have h := h.2 c
    refine z_iload_n (nx := 9) (a := 2) G rfl dX12_longest_8 rfl ?_
    refine b_callS5 (nx := 12) (zs := [v2]) (as := [(0, v2)]) X hB SS_X12_isThing (am_ti am_tn) (Nat.le_of_ble_eq_true rfl) (Nat.le_of_ble_eq_true rfl) ml_RX12_148 sw_X12_isThing (am_plainC 12 (by decide)) cw_X12_isThing nw_RX12 pp_X12_isThing (Nat.le_of_ble_eq_true rfl) dX12_longest_9 rfl (NM_X12_isThing h) (fun r_15 m_16 h h01_17 hB => ?_)
    refine z_if_eq (nx := 15) (tgt := 39) G dX12_longest_12 (by decide) rfl (fun c => ?_) (fun c => ?_)
    · have h := h.1 c
      refine z_iconst (nx := 40) (z := (-1)) G (R32c rfl) dX12_longest_39 rfl ?_
      exact b_ireturn X hB dX12_longest_40 h
    · have h := h.2 c
      refine z_iload_n (nx := 16) (a := 3) G rfl dX12_longest_15 rfl (z_iconst (nx := 17) (z := 1) G (R32c rfl) dX12_longest_16 rfl (z_bipush (nx := 19) (z := 6) G (R32c rfl) rfl dX12_longest_17 rfl ?_))
      refine b_callS5 (nx := 22) (zs := [v3, 1, 6]) (as := [(0, v3), (0, 1), (0, 6)]) X hB SS_X12_lies (am_ti (am_ti (am_ti am_tn))) (Nat.le_of_ble_eq_true rfl) (Nat.le_of_ble_eq_true rfl) ml_RX12_123 sw_X12_lies (am_plainC 12 (by decide)) cw_X12_lies nw_RX12 pp_X12_lies (Nat.le_of_ble_eq_true rfl) dX12_longest_19 rfl (NM_X12_lies h) (fun r_18 m_19 h h01_20 hB => ?_)
      refine z_if_eq (nx := 25) (tgt := 39) G dX12_longest_22 (by decide) rfl (fun c => ?_) (fun c => ?_)
      · have h := h.1 c
        refine z_iconst (nx := 40) (z := (-1)) G (R32c rfl) dX12_longest_39 rfl ?_
        exact b_ireturn X hB dX12_longest_40 h
      · have h := h.2 c
        refine z_aload_n (nx := 26) (a := 0) G rfl (Or.inl rfl) dX12_longest_25 rfl (b_getA (nx := 29) (k0 := 2) G hB fl_RX12_24 (Nat.le_of_ble_eq_true rfl) (Nat.le_of_ble_eq_true rfl) rfl hp_v0 dX12_longest_26 rfl (z_sipush (nx := 32) (z := 169) G (R32c rfl) rfl dX12_longest_29 rfl ?_))
        obtain ⟨hb, h⟩ := h
        refine z_iald (nx := 33) G (sh_12_2 _ hp_v0) hb.1 hb.2 dX12_longest_32 rfl ?_
        refine z_sipush (nx := 36) (z := 999) G (R32c rfl) rfl dX12_longest_33 rfl ?_
        refine z_icmp_ne (nx := 39) (tgt := 41) G dX12_longest_36 (by decide) rfl (fun c => ?_) (fun c => ?_)
        · have h := h.1 c
          refine z_aload_n (nx := 42) (a := 0) G rfl (Or.inl rfl) dX12_longest_41 rfl (z_iconst (nx := 43) (z := 0) G (R32c rfl) dX12_longest_42 rfl ?_)
          refine b_callV9 (nx := 46) (zs := [v0, 0]) (as := [(0, 0)]) X hB (by decide) rfl hp_v0 SS_X12_laysAside (am_ta (am_ti am_tn)) (Nat.le_of_ble_eq_true rfl) (Nat.le_of_ble_eq_true rfl) ml_RX12_415 iw_X12_laysAside vw_X12_laysAside cw_X12_laysAside nw_RX12 pp_X12_laysAside (Nat.le_of_ble_eq_true rfl) dX12_longest_43 rfl (NM_X12_laysAside hp_v0 h) (fun r_21 m_22 h hB => ?_)
          refine z_iconst (nx := 47) (z := (-1)) G (R32c rfl) dX12_longest_46 rfl (b_storeE (nx := 49) (a := 4) (loc2 := [(2, v0), (0, v1), (0, v2), (0, v3), (0, (-1)), (9, 0), (9, 0)]) G rfl (Nat.le_of_ble_eq_true rfl) (am_pl1 rfl (fun h => nomatch h)) dX12_longest_47 rfl (z_aload_n (nx := 50) (a := 0) G rfl (Or.inl rfl) dX12_longest_49 rfl (z_iload_n (nx := 51) (a := 1) G rfl dX12_longest_50 rfl ?_)))
          refine b_callV0 (nx := 54) (zs := [v0, v1]) (as := [(0, v1)]) X hB (by decide) rfl hp_v0 SS_X12_breathOf (am_ta (am_ti am_tn)) (Nat.le_of_ble_eq_true rfl) (Nat.le_of_ble_eq_true rfl) ml_RX12_164 iw_X12_breathOf vw_X12_breathOf cw_X12_breathOf nw_RX12 pp_X12_breathOf (Nat.le_of_ble_eq_true rfl) dX12_longest_51 rfl (NM_X12_breathOf hp_v0 h) (fun r_23 m_24 h hB => ?_)
          refine b_storeE (nx := 56) (a := 5) (loc2 := [(2, v0), (0, v1), (0, v2), (0, v3), (0, (-1)), (0, r_23), (9, 0)]) G rfl (Nat.le_of_ble_eq_true rfl) (am_pl1 rfl (fun h => nomatch h)) dX12_longest_54 rfl ?_
          exact b_fewer (loc2 := [(2, v0), (0, v1), (0, v2), (0, v3), (0, (-1)), (0, r_23), (9, 0)]) (am_lk (am_lk (am_lk (am_lk (am_lk (am_lk (am_lk am_ln))))))) (S_X12_longest_L1 X hp_v0 hB h)
        · have h := h.2 c
          refine z_iconst (nx := 40) (z := (-1)) G (R32c rfl) dX12_longest_39 rfl ?_
          exact b_ireturn X hB dX12_longest_40 h
theorem NM_X12_longest {v0 : Int} {v1 : Int} {v2 : Int} {v3 : Int} {K : am_KK} {m : am_M} (hp_v0 : am_ob v0 12) (h : M_X12_longest v0 v1 v2 v3 K m) : N_X12_longest [v0, v1, v2, v3] K m := ⟨hp_v0, h⟩
theorem SS_X12_longest : am_Snd yX12_longest cX12_longest 7 (some .int) 0 609 (am_L [2, 0, 0, 0] 0 N_X12_longest) := by
  refine am_SB (by decide +kernel) (Nat.le_of_ble_eq_true rfl) (fun F zs as K m X ht hB hM => ?_)
  obtain ⟨v0, zs, as, rfl, rfl, hz0, ht⟩ := am_inv ht
  obtain ⟨v1, zs, as, rfl, rfl, hz1, ht⟩ := am_inv ht
  obtain ⟨v2, zs, as, rfl, rfl, hz2, ht⟩ := am_inv ht
  obtain ⟨v3, zs, as, rfl, rfl, hz3, ht⟩ := am_inv ht
  obtain ⟨rfl, rfl⟩ := am_inv0 ht
  obtain ⟨hp_v0, hM⟩ := hM
  exact S_X12_longest X hp_v0 hB hM
set_option maxRecDepth 20000 in
set_option maxHeartbeats 4000000 in
theorem S_X12_keep_J2 {F : am_F} {K : am_KK} {v0 : Int} {v1 : Int} {v2 : Int} {v3 : Int} {v4 : Int} {v5 : Int} {v7 : Int} {s0 : Int} {C68 : Int → Int → am_M → Prop} {m : am_M} (X : am_Cx F cX12_keep RX12 (some .int) 609 0 K) (hp_v0 : am_ob v0 12) (hC68 : ∀ w6 w7 m, C68 w6 w7 m → am_Bt m → am_Z F 68 [] [(2, v0), (0, v1), (0, v2), (0, v3), (0, v4), (0, v5), (0, w6), (0, w7), (9, 0)] m 200) (hB : am_Bt m) (h : M_X12_keep_J2 v0 v1 v2 v3 v4 v5 v7 s0 C68 K m) : am_Z F 157 [(0, s0)] [(2, v0), (0, v1), (0, v2), (0, v3), (0, v4), (0, v5), (9, 0), (0, v7), (9, 0)] m 200 := by
  have G := X.G
  unfold M_X12_keep_J2 at h
  refine b_storeE (nx := 159) (a := 6) (loc2 := [(2, v0), (0, v1), (0, v2), (0, v3), (0, v4), (0, v5), (0, s0), (0, v7), (9, 0)]) G rfl (Nat.le_of_ble_eq_true rfl) (am_pl1 rfl (fun h => nomatch h)) dX12_keep_157 rfl (z_aload_n (nx := 160) (a := 0) G rfl (Or.inl rfl) dX12_keep_159 rfl (z_iconst (nx := 161) (z := 0) G (R32c rfl) dX12_keep_160 rfl ?_))
  refine b_callV9 (nx := 164) (zs := [v0, 0]) (as := [(0, 0)]) X hB (by decide) rfl hp_v0 SS_X12_takesBack (am_ta (am_ti am_tn)) (Nat.le_of_ble_eq_true rfl) (Nat.le_of_ble_eq_true rfl) ml_RX12_418 iw_X12_takesBack vw_X12_takesBack cw_X12_takesBack nw_RX12 pp_X12_takesBack (Nat.le_of_ble_eq_true rfl) dX12_keep_161 rfl (NM_X12_takesBack hp_v0 h) (fun r_1 m_2 h hB => ?_)
  refine b_iinc (nx := 167) (a := 7) (loc2 := fun v7_3 => [(2, v0), (0, v1), (0, v2), (0, v3), (0, v4), (0, v5), (0, s0), (0, v7_3), (9, 0)]) G (fun _ => rfl) rfl (am_pl1 rfl (fun h => nomatch h)) dX12_keep_164 rfl (fun v7_3 e_v7_3 => ?_)
  have h := h v7_3 e_v7_3
  refine z_goto (tgt := 68) G dX12_keep_167 (by decide) ?_
  exact b_fewer (loc2 := [(2, v0), (0, v1), (0, v2), (0, v3), (0, v4), (0, v5), (0, s0), (0, v7_3), (9, 0)]) (am_lk (am_lk (am_lk (am_lk (am_lk (am_lk (am_lk (am_lk (am_lk am_ln))))))))) (hC68 _ _ _ h hB)
set_option maxRecDepth 20000 in
set_option maxHeartbeats 4000000 in
theorem S_X12_keep_J1 {F : am_F} {K : am_KK} {v0 : Int} {v1 : Int} {v2 : Int} {v3 : Int} {v4 : Int} {v5 : Int} {v7 : Int} {C68 : Int → Int → am_M → Prop} {m : am_M} (X : am_Cx F cX12_keep RX12 (some .int) 609 0 K) (hp_v0 : am_ob v0 12) (hC68 : ∀ w6 w7 m, C68 w6 w7 m → am_Bt m → am_Z F 68 [] [(2, v0), (0, v1), (0, v2), (0, v3), (0, v4), (0, v5), (0, w6), (0, w7), (9, 0)] m 200) (hB : am_Bt m) (h : M_X12_keep_J1 v0 v1 v2 v3 v4 v5 v7 C68 K m) : am_Z F 141 [] [(2, v0), (0, v1), (0, v2), (0, v3), (0, v4), (0, v5), (9, 0), (0, v7), (9, 0)] m 200 := by
  have G := X.G
  unfold M_X12_keep_J1 at h
  refine z_aload_n (nx := 142) (a := 0) G rfl (Or.inl rfl) dX12_keep_141 rfl (z_iload_n (nx := 143) (a := 1) G rfl dX12_keep_142 rfl (z_iconst (nx := 144) (z := 5) G (R32c rfl) dX12_keep_143 rfl ?_))
  refine b_callV0 (nx := 147) (zs := [v0, v1, 5]) (as := [(0, v1), (0, 5)]) X hB (by decide) rfl hp_v0 SS_X12_fact (am_ta (am_ti (am_ti am_tn))) (Nat.le_of_ble_eq_true rfl) (Nat.le_of_ble_eq_true rfl) ml_RX12_141 iw_X12_fact vw_X12_fact cw_X12_fact nw_RX12 pp_X12_fact (Nat.le_of_ble_eq_true rfl) dX12_keep_144 rfl (NM_X12_fact hp_v0 h) (fun r_4 m_5 h hB => ?_)
  refine z_iconst (nx := 148) (z := 1) G (R32c rfl) dX12_keep_147 rfl ?_
  refine z_icmp_ne (nx := 151) (tgt := 155) G dX12_keep_148 (by decide) rfl (fun c => ?_) (fun c => ?_)
  · have h := h.1 c
    refine z_iload (nx := 157) (a := 7) G rfl dX12_keep_155 rfl ?_
    exact b_fewer (loc2 := [(2, v0), (0, v1), (0, v2), (0, v3), (0, v4), (0, v5), (9, 0), (0, v7), (9, 0)]) (am_lk (am_lk (am_lk (am_lk (am_lk (am_lk (am_lk (am_lk (am_lk am_ln))))))))) (S_X12_keep_J2 X hp_v0 hC68 hB h)
  · have h := h.2 c
    refine z_iconst (nx := 152) (z := (-1)) G (R32c rfl) dX12_keep_151 rfl (z_goto (tgt := 157) G dX12_keep_152 (by decide) ?_)
    exact b_fewer (loc2 := [(2, v0), (0, v1), (0, v2), (0, v3), (0, v4), (0, v5), (9, 0), (0, v7), (9, 0)]) (am_lk (am_lk (am_lk (am_lk (am_lk (am_lk (am_lk (am_lk (am_lk am_ln))))))))) (S_X12_keep_J2 X hp_v0 hC68 hB h)
set_option maxRecDepth 20000 in
set_option maxHeartbeats 4000000 in
theorem S_X12_keep_L3B {F : am_F} {K : am_KK} {v0 : Int} {v1 : Int} {v2 : Int} {v3 : Int} {v4 : Int} {v5 : Int} {v7 : Int} {v8 : Int} {C110 : Int → am_M → Prop} {C68 : Int → Int → am_M → Prop} {m : am_M} (X : am_Cx F cX12_keep RX12 (some .int) 609 0 K) (hp_v0 : am_ob v0 12) (hC110 : ∀ w8 m, C110 w8 m → am_Bt m → am_Z F 110 [] [(2, v0), (0, v1), (0, v2), (0, v3), (0, v4), (0, v5), (9, 0), (0, v7), (0, w8)] m 200) (hC68 : ∀ w6 w7 m, C68 w6 w7 m → am_Bt m → am_Z F 68 [] [(2, v0), (0, v1), (0, v2), (0, v3), (0, v4), (0, v5), (0, w6), (0, w7), (9, 0)] m 200) (hB : am_Bt m) (h : M_X12_keep_L3B v0 v1 v2 v3 v4 v5 v7 v8 C110 C68 K m) : am_Z F 110 [] [(2, v0), (0, v1), (0, v2), (0, v3), (0, v4), (0, v5), (9, 0), (0, v7), (0, v8)] m 200 := by
  have G := X.G
  unfold M_X12_keep_L3B at h
  refine z_iload (nx := 112) (a := 8) G rfl dX12_keep_110 rfl (z_iload_n (nx := 113) (a := 2) G rfl dX12_keep_112 rfl ?_)
  refine z_icmp_ge (nx := 116) (tgt := 141) G dX12_keep_113 (by decide) rfl (fun c => ?_) (fun c => ?_)
  · have h := h.1 c
    exact b_fewer (loc2 := [(2, v0), (0, v1), (0, v2), (0, v3), (0, v4), (0, v5), (9, 0), (0, v7), (9, 0)]) (am_lk (am_lk (am_lk (am_lk (am_lk (am_lk (am_lk (am_lk (am_lf am_ln))))))))) (S_X12_keep_J1 X hp_v0 hC68 hB h)
  · have h := h.2 c
    refine z_aload_n (nx := 117) (a := 0) G rfl (Or.inl rfl) dX12_keep_116 rfl (b_getA (nx := 120) (k0 := 2) G hB fl_RX12_24 (Nat.le_of_ble_eq_true rfl) (Nat.le_of_ble_eq_true rfl) rfl hp_v0 dX12_keep_117 rfl (z_sipush (nx := 123) (z := 169) G (R32c rfl) rfl dX12_keep_120 rfl ?_))
    obtain ⟨hb, h⟩ := h
    refine z_iald (nx := 124) G (sh_12_2 _ hp_v0) hb.1 hb.2 dX12_keep_123 rfl ?_
    refine z_sipush (nx := 127) (z := 999) G (R32c rfl) rfl dX12_keep_124 rfl ?_
    refine z_icmp_ge (nx := 130) (tgt := 141) G dX12_keep_127 (by decide) rfl (fun c => ?_) (fun c => ?_)
    · have h := h.1 c
      exact b_fewer (loc2 := [(2, v0), (0, v1), (0, v2), (0, v3), (0, v4), (0, v5), (9, 0), (0, v7), (9, 0)]) (am_lk (am_lk (am_lk (am_lk (am_lk (am_lk (am_lk (am_lk (am_lf am_ln))))))))) (S_X12_keep_J1 X hp_v0 hC68 hB h)
    · have h := h.2 c
      refine z_aload_n (nx := 131) (a := 0) G rfl (Or.inl rfl) dX12_keep_130 rfl ?_
      refine b_callV0 (nx := 134) (zs := [v0]) (as := []) X hB (by decide) rfl hp_v0 SS_X12_dawns (am_ta am_tn) (Nat.le_of_ble_eq_true rfl) (Nat.le_of_ble_eq_true rfl) ml_RX12_379 iw_X12_dawns vw_X12_dawns cw_X12_dawns nw_RX12 pp_X12_dawns (Nat.le_of_ble_eq_true rfl) dX12_keep_131 rfl (NM_X12_dawns hp_v0 h) (fun r_6 m_7 h hB => ?_)
      refine z_pop (nx := 135) G (fun h => nomatch h) dX12_keep_134 rfl ?_
      refine b_iinc (nx := 138) (a := 8) (loc2 := fun v8_8 => [(2, v0), (0, v1), (0, v2), (0, v3), (0, v4), (0, v5), (9, 0), (0, v7), (0, v8_8)]) G (fun _ => rfl) rfl (am_pl1 rfl (fun h => nomatch h)) dX12_keep_135 rfl (fun v8_8 e_v8_8 => ?_)
      have h := h v8_8 e_v8_8
      refine z_goto (tgt := 110) G dX12_keep_138 (by decide) ?_
      exact b_fewer (loc2 := [(2, v0), (0, v1), (0, v2), (0, v3), (0, v4), (0, v5), (9, 0), (0, v7), (0, v8_8)]) (am_lk (am_lk (am_lk (am_lk (am_lk (am_lk (am_lk (am_lk (am_lk am_ln))))))))) (hC110 _ _ h hB)
theorem S_X12_keep_L3 {F : am_F} {K : am_KK} {v0 : Int} {v1 : Int} {v2 : Int} {v3 : Int} {v4 : Int} {v5 : Int} {v7 : Int} {v8 : Int} {C68 : Int → Int → am_M → Prop} {m : am_M} (X : am_Cx F cX12_keep RX12 (some .int) 609 0 K) (hp_v0 : am_ob v0 12) (hC68 : ∀ w6 w7 m, C68 w6 w7 m → am_Bt m → am_Z F 68 [] [(2, v0), (0, v1), (0, v2), (0, v3), (0, v4), (0, v5), (0, w6), (0, w7), (9, 0)] m 200) (hB : am_Bt m) (h : M_X12_keep_L3 v0 v1 v2 v3 v4 v5 v7 v8 C68 K m) : am_Z F 110 [] [(2, v0), (0, v1), (0, v2), (0, v3), (0, v4), (0, v5), (9, 0), (0, v7), (0, v8)] m 200 := by
  obtain ⟨I, ⟨j, hj⟩, hI⟩ := h
  have key : ∀ j v8 m, I j v8 m → am_Bt m → am_Z F 110 [] [(2, v0), (0, v1), (0, v2), (0, v3), (0, v4), (0, v5), (9, 0), (0, v7), (0, v8)] m 200 := by
    intro j
    induction j using Nat.strongRecOn with
    | ind j ih =>
      intro v8 m hj hB
      exact S_X12_keep_L3B X hp_v0 (fun v8' m' hc hB' => by
        obtain ⟨j', g1, g2⟩ := hc
        exact ih j' g1 v8' m' g2 hB') hC68 hB (hI j v8 m hj)
  exact key j _ _ hj hB
set_option maxRecDepth 20000 in
set_option maxHeartbeats 4000000 in
theorem S_X12_keep_L2B {F : am_F} {K : am_KK} {v0 : Int} {v1 : Int} {v2 : Int} {v3 : Int} {v4 : Int} {v5 : Int} {v7 : Int} {v8 : Int} {C84 : Int → am_M → Prop} {C68 : Int → Int → am_M → Prop} {m : am_M} (X : am_Cx F cX12_keep RX12 (some .int) 609 0 K) (hp_v0 : am_ob v0 12) (hC84 : ∀ w8 m, C84 w8 m → am_Bt m → am_Z F 84 [] [(2, v0), (0, v1), (0, v2), (0, v3), (0, v4), (0, v5), (9, 0), (0, v7), (0, w8)] m 200) (hC68 : ∀ w6 w7 m, C68 w6 w7 m → am_Bt m → am_Z F 68 [] [(2, v0), (0, v1), (0, v2), (0, v3), (0, v4), (0, v5), (0, w6), (0, w7), (9, 0)] m 200) (hB : am_Bt m) (h : M_X12_keep_L2B v0 v1 v2 v3 v4 v5 v7 v8 C84 C68 K m) : am_Z F 84 [] [(2, v0), (0, v1), (0, v2), (0, v3), (0, v4), (0, v5), (9, 0), (0, v7), (0, v8)] m 200 := by
  have G := X.G
  unfold M_X12_keep_L2B at h
  refine z_iload (nx := 86) (a := 8) G rfl dX12_keep_84 rfl (z_iload (nx := 88) (a := 7) G rfl dX12_keep_86 rfl ?_)
  refine z_icmp_ge (nx := 91) (tgt := 107) G dX12_keep_88 (by decide) rfl (fun c => ?_) (fun c => ?_)
  · have h := h.1 c
    refine z_iconst (nx := 108) (z := 0) G (R32c rfl) dX12_keep_107 rfl (b_storeE (nx := 110) (a := 8) (loc2 := [(2, v0), (0, v1), (0, v2), (0, v3), (0, v4), (0, v5), (9, 0), (0, v7), (0, 0)]) G rfl (Nat.le_of_ble_eq_true rfl) (am_pl1 rfl (fun h => nomatch h)) dX12_keep_108 rfl ?_)
    exact b_fewer (loc2 := [(2, v0), (0, v1), (0, v2), (0, v3), (0, v4), (0, v5), (9, 0), (0, v7), (0, 0)]) (am_lk (am_lk (am_lk (am_lk (am_lk (am_lk (am_lk (am_lk (am_lk am_ln))))))))) (S_X12_keep_L3 X hp_v0 hC68 hB h)
  · have h := h.2 c
    refine z_aload_n (nx := 92) (a := 0) G rfl (Or.inl rfl) dX12_keep_91 rfl (z_iload_n (nx := 93) (a := 3) G rfl dX12_keep_92 rfl (z_iload (nx := 95) (a := 4) G rfl dX12_keep_93 rfl (z_iload (nx := 97) (a := 5) G rfl dX12_keep_95 rfl (z_iconst (nx := 98) (z := 1) G (R32c rfl) dX12_keep_97 rfl ?_))))
    refine b_callV9 (nx := 101) (zs := [v0, v3, v4, v5, 1]) (as := [(0, v3), (0, v4), (0, v5), (0, 1)]) X hB (by decide) rfl hp_v0 SS_X12_says (am_ta (am_ti (am_ti (am_ti (am_ti am_tn))))) (Nat.le_of_ble_eq_true rfl) (Nat.le_of_ble_eq_true rfl) ml_RX12_177 iw_X12_says vw_X12_says cw_X12_says nw_RX12 pp_X12_says (Nat.le_of_ble_eq_true rfl) dX12_keep_98 rfl (NM_X12_says hp_v0 h) (fun r_9 m_10 h hB => ?_)
    refine b_iinc (nx := 104) (a := 8) (loc2 := fun v8_11 => [(2, v0), (0, v1), (0, v2), (0, v3), (0, v4), (0, v5), (9, 0), (0, v7), (0, v8_11)]) G (fun _ => rfl) rfl (am_pl1 rfl (fun h => nomatch h)) dX12_keep_101 rfl (fun v8_11 e_v8_11 => ?_)
    have h := h v8_11 e_v8_11
    refine z_goto (tgt := 84) G dX12_keep_104 (by decide) ?_
    exact b_fewer (loc2 := [(2, v0), (0, v1), (0, v2), (0, v3), (0, v4), (0, v5), (9, 0), (0, v7), (0, v8_11)]) (am_lk (am_lk (am_lk (am_lk (am_lk (am_lk (am_lk (am_lk (am_lk am_ln))))))))) (hC84 _ _ h hB)
theorem S_X12_keep_L2 {F : am_F} {K : am_KK} {v0 : Int} {v1 : Int} {v2 : Int} {v3 : Int} {v4 : Int} {v5 : Int} {v7 : Int} {v8 : Int} {C68 : Int → Int → am_M → Prop} {m : am_M} (X : am_Cx F cX12_keep RX12 (some .int) 609 0 K) (hp_v0 : am_ob v0 12) (hC68 : ∀ w6 w7 m, C68 w6 w7 m → am_Bt m → am_Z F 68 [] [(2, v0), (0, v1), (0, v2), (0, v3), (0, v4), (0, v5), (0, w6), (0, w7), (9, 0)] m 200) (hB : am_Bt m) (h : M_X12_keep_L2 v0 v1 v2 v3 v4 v5 v7 v8 C68 K m) : am_Z F 84 [] [(2, v0), (0, v1), (0, v2), (0, v3), (0, v4), (0, v5), (9, 0), (0, v7), (0, v8)] m 200 := by
  obtain ⟨I, ⟨j, hj⟩, hI⟩ := h
  have key : ∀ j v8 m, I j v8 m → am_Bt m → am_Z F 84 [] [(2, v0), (0, v1), (0, v2), (0, v3), (0, v4), (0, v5), (9, 0), (0, v7), (0, v8)] m 200 := by
    intro j
    induction j using Nat.strongRecOn with
    | ind j ih =>
      intro v8 m hj hB
      exact S_X12_keep_L2B X hp_v0 (fun v8' m' hc hB' => by
        obtain ⟨j', g1, g2⟩ := hc
        exact ih j' g1 v8' m' g2 hB') hC68 hB (hI j v8 m hj)
  exact key j _ _ hj hB
set_option maxRecDepth 20000 in
set_option maxHeartbeats 4000000 in
theorem S_X12_keep_L1B {F : am_F} {K : am_KK} {v0 : Int} {v1 : Int} {v2 : Int} {v3 : Int} {v4 : Int} {v5 : Int} {v6 : Int} {v7 : Int} {C68 : Int → Int → am_M → Prop} {m : am_M} (X : am_Cx F cX12_keep RX12 (some .int) 609 0 K) (hp_v0 : am_ob v0 12) (hC68 : ∀ w6 w7 m, C68 w6 w7 m → am_Bt m → am_Z F 68 [] [(2, v0), (0, v1), (0, v2), (0, v3), (0, v4), (0, v5), (0, w6), (0, w7), (9, 0)] m 200) (hB : am_Bt m) (h : M_X12_keep_L1B v0 v1 v2 v3 v4 v5 v6 v7 C68 K m) : am_Z F 68 [] [(2, v0), (0, v1), (0, v2), (0, v3), (0, v4), (0, v5), (0, v6), (0, v7), (9, 0)] m 200 := by
  have G := X.G
  unfold M_X12_keep_L1B at h
  refine z_iload (nx := 70) (a := 7) G rfl dX12_keep_68 rfl (z_bipush (nx := 72) (z := 8) G (R32c rfl) rfl dX12_keep_70 rfl ?_)
  refine z_icmp_gt (nx := 75) (tgt := 170) G dX12_keep_72 (by decide) rfl (fun c => ?_) (fun c => ?_)
  · have h := h.1 c
    refine z_iload (nx := 172) (a := 6) G rfl dX12_keep_170 rfl ?_
    exact b_ireturn X hB dX12_keep_172 h
  · have h := h.2 c
    refine z_iload (nx := 77) (a := 6) G rfl dX12_keep_75 rfl (z_iconst (nx := 78) (z := (-1)) G (R32c rfl) dX12_keep_77 rfl ?_)
    refine z_icmp_ne (nx := 81) (tgt := 170) G dX12_keep_78 (by decide) rfl (fun c => ?_) (fun c => ?_)
    · have h := h.1 c
      refine z_iload (nx := 172) (a := 6) G rfl dX12_keep_170 rfl ?_
      exact b_ireturn X hB dX12_keep_172 h
    · have h := h.2 c
      refine z_iconst (nx := 82) (z := 0) G (R32c rfl) dX12_keep_81 rfl (b_storeE (nx := 84) (a := 8) (loc2 := [(2, v0), (0, v1), (0, v2), (0, v3), (0, v4), (0, v5), (0, v6), (0, v7), (0, 0)]) G rfl (Nat.le_of_ble_eq_true rfl) (am_pl1 rfl (fun h => nomatch h)) dX12_keep_82 rfl ?_)
      exact b_fewer (loc2 := [(2, v0), (0, v1), (0, v2), (0, v3), (0, v4), (0, v5), (9, 0), (0, v7), (0, 0)]) (am_lk (am_lk (am_lk (am_lk (am_lk (am_lk (am_lf (am_lk (am_lk am_ln))))))))) (S_X12_keep_L2 X hp_v0 hC68 hB h)
theorem S_X12_keep_L1 {F : am_F} {K : am_KK} {v0 : Int} {v1 : Int} {v2 : Int} {v3 : Int} {v4 : Int} {v5 : Int} {v6 : Int} {v7 : Int} {m : am_M} (X : am_Cx F cX12_keep RX12 (some .int) 609 0 K) (hp_v0 : am_ob v0 12) (hB : am_Bt m) (h : M_X12_keep_L1 v0 v1 v2 v3 v4 v5 v6 v7 K m) : am_Z F 68 [] [(2, v0), (0, v1), (0, v2), (0, v3), (0, v4), (0, v5), (0, v6), (0, v7), (9, 0)] m 200 := by
  obtain ⟨I, ⟨j, hj⟩, hI⟩ := h
  have key : ∀ j v6 v7 m, I j v6 v7 m → am_Bt m → am_Z F 68 [] [(2, v0), (0, v1), (0, v2), (0, v3), (0, v4), (0, v5), (0, v6), (0, v7), (9, 0)] m 200 := by
    intro j
    induction j using Nat.strongRecOn with
    | ind j ih =>
      intro v6 v7 m hj hB
      exact S_X12_keep_L1B X hp_v0 (fun v6' v7' m' hc hB' => by
        obtain ⟨j', g1, g2⟩ := hc
        exact ih j' g1 v6' v7' m' g2 hB') hB (hI j v6 v7 m hj)
  exact key j _ _ _ hj hB
set_option maxRecDepth 20000 in
set_option maxHeartbeats 4000000 in
theorem S_X12_keep {F : am_F} {K : am_KK} {v0 : Int} {v1 : Int} {v2 : Int} {v3 : Int} {v4 : Int} {v5 : Int} {m : am_M} (X : am_Cx F cX12_keep RX12 (some .int) 609 0 K) (hp_v0 : am_ob v0 12) (hB : am_Bt m) (h : M_X12_keep v0 v1 v2 v3 v4 v5 K m) : am_Z F 0 [] [(2, v0), (0, v1), (0, v2), (0, v3), (0, v4), (0, v5), (9, 0), (9, 0), (9, 0)] m 200 := by
  have G := X.G
  unfold M_X12_keep at h
  refine z_aload_n (nx := 1) (a := 0) G rfl (Or.inl rfl) dX12_keep_0 rfl (z_iload_n (nx := 2) (a := 1) G rfl dX12_keep_1 rfl ?_)
  refine b_callV5 (nx := 5) (zs := [v0, v1]) (as := [(0, v1)]) X hB (by decide) rfl hp_v0 SS_X12_isWaiting (am_ta (am_ti am_tn)) (Nat.le_of_ble_eq_true rfl) (Nat.le_of_ble_eq_true rfl) ml_RX12_372 iw_X12_isWaiting vw_X12_isWaiting cw_X12_isWaiting nw_RX12 pp_X12_isWaiting (Nat.le_of_ble_eq_true rfl) dX12_keep_2 rfl (NM_X12_isWaiting hp_v0 h) (fun r_12 m_13 h h01_14 hB => ?_)
  refine z_if_eq (nx := 8) (tgt := 55) G dX12_keep_5 (by decide) rfl (fun c => ?_) (fun c => ?_)
  · have h := h.1 c
    refine z_iconst (nx := 56) (z := (-1)) G (R32c rfl) dX12_keep_55 rfl ?_
    exact b_ireturn X hB dX12_keep_56 h
  · have h := h.2 c
    refine z_iload_n (nx := 9) (a := 2) G rfl dX12_keep_8 rfl (z_iconst (nx := 10) (z := 1) G (R32c rfl) dX12_keep_9 rfl (z_bipush (nx := 12) (z := 20) G (R32c rfl) rfl dX12_keep_10 rfl ?_))
    refine b_callS5 (nx := 15) (zs := [v2, 1, 20]) (as := [(0, v2), (0, 1), (0, 20)]) X hB SS_X12_lies (am_ti (am_ti (am_ti am_tn))) (Nat.le_of_ble_eq_true rfl) (Nat.le_of_ble_eq_true rfl) ml_RX12_123 sw_X12_lies (am_plainC 12 (by decide)) cw_X12_lies nw_RX12 pp_X12_lies (Nat.le_of_ble_eq_true rfl) dX12_keep_12 rfl (NM_X12_lies h) (fun r_15 m_16 h h01_17 hB => ?_)
    refine z_if_eq (nx := 18) (tgt := 55) G dX12_keep_15 (by decide) rfl (fun c => ?_) (fun c => ?_)
    · have h := h.1 c
      refine z_iconst (nx := 56) (z := (-1)) G (R32c rfl) dX12_keep_55 rfl ?_
      exact b_ireturn X hB dX12_keep_56 h
    · have h := h.2 c
      refine z_aload_n (nx := 19) (a := 0) G rfl (Or.inl rfl) dX12_keep_18 rfl (z_iload_n (nx := 20) (a := 3) G rfl dX12_keep_19 rfl ?_)
      refine b_callV5 (nx := 23) (zs := [v0, v3]) (as := [(0, v3)]) X hB (by decide) rfl hp_v0 SS_X12_isPerson (am_ta (am_ti am_tn)) (Nat.le_of_ble_eq_true rfl) (Nat.le_of_ble_eq_true rfl) ml_RX12_161 iw_X12_isPerson vw_X12_isPerson cw_X12_isPerson nw_RX12 pp_X12_isPerson (Nat.le_of_ble_eq_true rfl) dX12_keep_20 rfl (NM_X12_isPerson hp_v0 h) (fun r_18 m_19 h h01_20 hB => ?_)
      refine z_if_eq (nx := 26) (tgt := 55) G dX12_keep_23 (by decide) rfl (fun c => ?_) (fun c => ?_)
      · have h := h.1 c
        refine z_iconst (nx := 56) (z := (-1)) G (R32c rfl) dX12_keep_55 rfl ?_
        exact b_ireturn X hB dX12_keep_56 h
      · have h := h.2 c
        refine z_iload (nx := 28) (a := 4) G rfl dX12_keep_26 rfl ?_
        refine b_callS5 (nx := 31) (zs := [v4]) (as := [(0, v4)]) X hB SS_X12_isThing (am_ti am_tn) (Nat.le_of_ble_eq_true rfl) (Nat.le_of_ble_eq_true rfl) ml_RX12_148 sw_X12_isThing (am_plainC 12 (by decide)) cw_X12_isThing nw_RX12 pp_X12_isThing (Nat.le_of_ble_eq_true rfl) dX12_keep_28 rfl (NM_X12_isThing h) (fun r_21 m_22 h h01_23 hB => ?_)
        refine z_if_eq (nx := 34) (tgt := 55) G dX12_keep_31 (by decide) rfl (fun c => ?_) (fun c => ?_)
        · have h := h.1 c
          refine z_iconst (nx := 56) (z := (-1)) G (R32c rfl) dX12_keep_55 rfl ?_
          exact b_ireturn X hB dX12_keep_56 h
        · have h := h.2 c
          refine z_iload (nx := 36) (a := 5) G rfl dX12_keep_34 rfl (z_iconst (nx := 37) (z := 1) G (R32c rfl) dX12_keep_36 rfl (z_bipush (nx := 39) (z := 99) G (R32c rfl) rfl dX12_keep_37 rfl ?_))
          refine b_callS5 (nx := 42) (zs := [v5, 1, 99]) (as := [(0, v5), (0, 1), (0, 99)]) X hB SS_X12_lies (am_ti (am_ti (am_ti am_tn))) (Nat.le_of_ble_eq_true rfl) (Nat.le_of_ble_eq_true rfl) ml_RX12_123 sw_X12_lies (am_plainC 12 (by decide)) cw_X12_lies nw_RX12 pp_X12_lies (Nat.le_of_ble_eq_true rfl) dX12_keep_39 rfl (NM_X12_lies h) (fun r_24 m_25 h h01_26 hB => ?_)
          refine z_if_eq (nx := 45) (tgt := 55) G dX12_keep_42 (by decide) rfl (fun c => ?_) (fun c => ?_)
          · have h := h.1 c
            refine z_iconst (nx := 56) (z := (-1)) G (R32c rfl) dX12_keep_55 rfl ?_
            exact b_ireturn X hB dX12_keep_56 h
          · have h := h.2 c
            refine z_iload (nx := 47) (a := 5) G rfl dX12_keep_45 rfl (z_aload_n (nx := 48) (a := 0) G rfl (Or.inl rfl) dX12_keep_47 rfl (z_iload_n (nx := 49) (a := 3) G rfl dX12_keep_48 rfl ?_))
            refine b_callV0 (nx := 52) (zs := [v0, v3]) (as := [(0, v3)]) X hB (by decide) rfl hp_v0 SS_X12_breathOf (am_ta (am_ti am_tn)) (Nat.le_of_ble_eq_true rfl) (Nat.le_of_ble_eq_true rfl) ml_RX12_164 iw_X12_breathOf vw_X12_breathOf cw_X12_breathOf nw_RX12 pp_X12_breathOf (Nat.le_of_ble_eq_true rfl) dX12_keep_49 rfl (NM_X12_breathOf hp_v0 h) (fun r_27 m_28 h hB => ?_)
            refine z_icmp_le (nx := 55) (tgt := 57) G dX12_keep_52 (by decide) rfl (fun c => ?_) (fun c => ?_)
            · have h := h.1 c
              refine z_aload_n (nx := 58) (a := 0) G rfl (Or.inl rfl) dX12_keep_57 rfl (z_iconst (nx := 59) (z := 0) G (R32c rfl) dX12_keep_58 rfl ?_)
              refine b_callV9 (nx := 62) (zs := [v0, 0]) (as := [(0, 0)]) X hB (by decide) rfl hp_v0 SS_X12_laysAside (am_ta (am_ti am_tn)) (Nat.le_of_ble_eq_true rfl) (Nat.le_of_ble_eq_true rfl) ml_RX12_415 iw_X12_laysAside vw_X12_laysAside cw_X12_laysAside nw_RX12 pp_X12_laysAside (Nat.le_of_ble_eq_true rfl) dX12_keep_59 rfl (NM_X12_laysAside hp_v0 h) (fun r_29 m_30 h hB => ?_)
              refine z_iconst (nx := 63) (z := (-1)) G (R32c rfl) dX12_keep_62 rfl (b_storeE (nx := 65) (a := 6) (loc2 := [(2, v0), (0, v1), (0, v2), (0, v3), (0, v4), (0, v5), (0, (-1)), (9, 0), (9, 0)]) G rfl (Nat.le_of_ble_eq_true rfl) (am_pl1 rfl (fun h => nomatch h)) dX12_keep_63 rfl (z_iconst (nx := 66) (z := 0) G (R32c rfl) dX12_keep_65 rfl (b_storeE (nx := 68) (a := 7) (loc2 := [(2, v0), (0, v1), (0, v2), (0, v3), (0, v4), (0, v5), (0, (-1)), (0, 0), (9, 0)]) G rfl (Nat.le_of_ble_eq_true rfl) (am_pl1 rfl (fun h => nomatch h)) dX12_keep_66 rfl ?_)))
              exact b_fewer (loc2 := [(2, v0), (0, v1), (0, v2), (0, v3), (0, v4), (0, v5), (0, (-1)), (0, 0), (9, 0)]) (am_lk (am_lk (am_lk (am_lk (am_lk (am_lk (am_lk (am_lk (am_lk am_ln))))))))) (S_X12_keep_L1 X hp_v0 hB h)
            · have h := h.2 c
              refine z_iconst (nx := 56) (z := (-1)) G (R32c rfl) dX12_keep_55 rfl ?_
              exact b_ireturn X hB dX12_keep_56 h
theorem NM_X12_keep {v0 : Int} {v1 : Int} {v2 : Int} {v3 : Int} {v4 : Int} {v5 : Int} {K : am_KK} {m : am_M} (hp_v0 : am_ob v0 12) (h : M_X12_keep v0 v1 v2 v3 v4 v5 K m) : N_X12_keep [v0, v1, v2, v3, v4, v5] K m := ⟨hp_v0, h⟩
theorem SS_X12_keep : am_Snd yX12_keep cX12_keep 9 (some .int) 0 609 (am_L [2, 0, 0, 0, 0, 0] 0 N_X12_keep) := by
  refine am_SB (by decide +kernel) (Nat.le_of_ble_eq_true rfl) (fun F zs as K m X ht hB hM => ?_)
  obtain ⟨v0, zs, as, rfl, rfl, hz0, ht⟩ := am_inv ht
  obtain ⟨v1, zs, as, rfl, rfl, hz1, ht⟩ := am_inv ht
  obtain ⟨v2, zs, as, rfl, rfl, hz2, ht⟩ := am_inv ht
  obtain ⟨v3, zs, as, rfl, rfl, hz3, ht⟩ := am_inv ht
  obtain ⟨v4, zs, as, rfl, rfl, hz4, ht⟩ := am_inv ht
  obtain ⟨v5, zs, as, rfl, rfl, hz5, ht⟩ := am_inv ht
  obtain ⟨rfl, rfl⟩ := am_inv0 ht
  obtain ⟨hp_v0, hM⟩ := hM
  exact S_X12_keep X hp_v0 hB hM
set_option maxRecDepth 20000 in
set_option maxHeartbeats 4000000 in
theorem S_X12_answer_J1 {F : am_F} {K : am_KK} {v0 : Int} {m : am_M} (X : am_Cx F cX12_answer RX12 (some .int) 3 0 K) (hp_v0 : am_ob v0 12) (hB : am_Bt m) (h : M_X12_answer_J1 v0 K m) : am_Z F 26 [] [(2, v0), (9, 0), (9, 0), (9, 0), (9, 0)] m 200 := by
  have G := X.G
  unfold M_X12_answer_J1 at h
  refine z_aload_n (nx := 27) (a := 0) G rfl (Or.inl rfl) dX12_answer_26 rfl (z_iconst (nx := 28) (z := (-1)) G (R32c rfl) dX12_answer_27 rfl ?_)
  refine b_callV0 (nx := 31) (zs := [v0, (-1)]) (as := [(0, (-1))]) X hB (by decide) rfl hp_v0 SS_X12_refuses (am_ta (am_ti am_tn)) (Nat.le_of_ble_eq_true rfl) (Nat.le_of_ble_eq_true rfl) ml_RX12_127 iw_X12_refuses vw_X12_refuses cw_X12_refuses nw_RX12 pp_X12_refuses (Nat.le_of_ble_eq_true rfl) dX12_answer_28 rfl (NM_X12_refuses hp_v0 h) (fun r_1 m_2 h hB => ?_)
  exact b_ireturn X hB dX12_answer_31 h
set_option maxRecDepth 20000 in
set_option maxHeartbeats 4000000 in
theorem S_X12_answer {F : am_F} {K : am_KK} {v0 : Int} {v1 : Int} {v2 : Int} {v3 : Int} {m : am_M} (X : am_Cx F cX12_answer RX12 (some .int) 3 0 K) (hp_v0 : am_ob v0 12) (hB : am_Bt m) (h : M_X12_answer v0 v1 v2 v3 K m) : am_Z F 0 [] [(2, v0), (0, v1), (0, v2), (0, v3), (9, 0)] m 200 := by
  have G := X.G
  unfold M_X12_answer at h
  refine z_iload_n (nx := 1) (a := 1) G rfl dX12_answer_0 rfl (z_iconst (nx := 2) (z := 1) G (R32c rfl) dX12_answer_1 rfl (z_bipush (nx := 4) (z := 9) G (R32c rfl) rfl dX12_answer_2 rfl ?_))
  refine b_callS5 (nx := 7) (zs := [v1, 1, 9]) (as := [(0, v1), (0, 1), (0, 9)]) X hB SS_X12_lies (am_ti (am_ti (am_ti am_tn))) (Nat.le_of_ble_eq_true rfl) (Nat.le_of_ble_eq_true rfl) ml_RX12_123 sw_X12_lies (am_plainC 12 (by decide)) cw_X12_lies nw_RX12 pp_X12_lies (Nat.le_of_ble_eq_true rfl) dX12_answer_4 rfl (NM_X12_lies h) (fun r_3 m_4 h h01_5 hB => ?_)
  refine z_if_eq (nx := 10) (tgt := 26) G dX12_answer_7 (by decide) rfl (fun c => ?_) (fun c => ?_)
  · have h := h.1 c
    exact b_fewer (loc2 := [(2, v0), (9, 0), (9, 0), (9, 0), (9, 0)]) (am_lk (am_lf (am_lf (am_lf (am_lk am_ln))))) (S_X12_answer_J1 X hp_v0 hB h)
  · have h := h.2 c
    refine z_iload_n (nx := 11) (a := 2) G rfl dX12_answer_10 rfl ?_
    refine b_callS5 (nx := 14) (zs := [v2]) (as := [(0, v2)]) X hB SS_X12_isThing (am_ti am_tn) (Nat.le_of_ble_eq_true rfl) (Nat.le_of_ble_eq_true rfl) ml_RX12_148 sw_X12_isThing (am_plainC 12 (by decide)) cw_X12_isThing nw_RX12 pp_X12_isThing (Nat.le_of_ble_eq_true rfl) dX12_answer_11 rfl (NM_X12_isThing h) (fun r_6 m_7 h h01_8 hB => ?_)
    refine z_if_eq (nx := 17) (tgt := 26) G dX12_answer_14 (by decide) rfl (fun c => ?_) (fun c => ?_)
    · have h := h.1 c
      exact b_fewer (loc2 := [(2, v0), (9, 0), (9, 0), (9, 0), (9, 0)]) (am_lk (am_lf (am_lf (am_lf (am_lk am_ln))))) (S_X12_answer_J1 X hp_v0 hB h)
    · have h := h.2 c
      refine z_iload_n (nx := 18) (a := 3) G rfl dX12_answer_17 rfl (z_iconst (nx := 19) (z := 0) G (R32c rfl) dX12_answer_18 rfl (z_iconst (nx := 20) (z := 1) G (R32c rfl) dX12_answer_19 rfl ?_))
      refine b_callS5 (nx := 23) (zs := [v3, 0, 1]) (as := [(0, v3), (0, 0), (0, 1)]) X hB SS_X12_lies (am_ti (am_ti (am_ti am_tn))) (Nat.le_of_ble_eq_true rfl) (Nat.le_of_ble_eq_true rfl) ml_RX12_123 sw_X12_lies (am_plainC 12 (by decide)) cw_X12_lies nw_RX12 pp_X12_lies (Nat.le_of_ble_eq_true rfl) dX12_answer_20 rfl (NM_X12_lies h) (fun r_9 m_10 h h01_11 hB => ?_)
      refine z_if_ne (nx := 26) (tgt := 32) G dX12_answer_23 (by decide) rfl (fun c => ?_) (fun c => ?_)
      · have h := h.1 c
        refine z_aload_n (nx := 33) (a := 0) G rfl (Or.inl rfl) dX12_answer_32 rfl (b_getA (nx := 36) (k0 := 2) G hB fl_RX12_24 (Nat.le_of_ble_eq_true rfl) (Nat.le_of_ble_eq_true rfl) rfl hp_v0 dX12_answer_33 rfl (z_sipush (nx := 39) (z := 367) G (R32c rfl) rfl dX12_answer_36 rfl ?_))
        obtain ⟨hb, h⟩ := h
        refine z_iald (nx := 40) G (sh_12_2 _ hp_v0) hb.1 hb.2 dX12_answer_39 rfl ?_
        refine b_store (nx := 42) (a := 4) (loc2 := fun v4_12 => [(2, v0), (0, v1), (0, v2), (0, v3), (0, v4_12)]) G (fun _ => rfl) (Nat.le_of_ble_eq_true rfl) (am_pl1 rfl (fun h => nomatch h)) dX12_answer_40 rfl (fun v4_12 e_v4_12 => ?_)
        have h := h v4_12 e_v4_12
        refine z_iload (nx := 44) (a := 4) G rfl dX12_answer_42 rfl (z_bipush (nx := 46) (z := 6) G (R32c rfl) rfl dX12_answer_44 rfl ?_)
        refine z_icmp_ne (nx := 49) (tgt := 56) G dX12_answer_46 (by decide) rfl (fun c => ?_) (fun c => ?_)
        · have h := h.1 c
          refine z_aload_n (nx := 57) (a := 0) G rfl (Or.inl rfl) dX12_answer_56 rfl (b_getA (nx := 60) (k0 := 2) G hB fl_RX12_24 (Nat.le_of_ble_eq_true rfl) (Nat.le_of_ble_eq_true rfl) rfl hp_v0 dX12_answer_57 rfl (z_sipush (nx := 63) (z := 342) G (R32c rfl) rfl dX12_answer_60 rfl (z_iconst (nx := 64) (z := 3) G (R32c rfl) dX12_answer_63 rfl (z_iload (nx := 66) (a := 4) G rfl dX12_answer_64 rfl (z_imul (nx := 67) G dX12_answer_66 rfl (z_iadd (nx := 68) G dX12_answer_67 rfl (z_iload_n (nx := 69) (a := 1) G rfl dX12_answer_68 rfl ?_)))))))
          obtain ⟨hb, h⟩ := h
          refine b_iast (nx := 70) G hB (sh_12_2 _ hp_v0) hb.1 hb.2 dX12_answer_69 rfl (fun m_13 e_m_13 hB => ?_)
          have h := h m_13 e_m_13
          refine z_aload_n (nx := 71) (a := 0) G rfl (Or.inl rfl) dX12_answer_70 rfl (b_getA (nx := 74) (k0 := 2) G hB fl_RX12_24 (Nat.le_of_ble_eq_true rfl) (Nat.le_of_ble_eq_true rfl) rfl hp_v0 dX12_answer_71 rfl (z_sipush (nx := 77) (z := 342) G (R32c rfl) rfl dX12_answer_74 rfl (z_iconst (nx := 78) (z := 3) G (R32c rfl) dX12_answer_77 rfl (z_iload (nx := 80) (a := 4) G rfl dX12_answer_78 rfl (z_imul (nx := 81) G dX12_answer_80 rfl (z_iadd (nx := 82) G dX12_answer_81 rfl (z_iconst (nx := 83) (z := 1) G (R32c rfl) dX12_answer_82 rfl (z_iadd (nx := 84) G dX12_answer_83 rfl (z_iload_n (nx := 85) (a := 2) G rfl dX12_answer_84 rfl ?_)))))))))
          obtain ⟨hb, h⟩ := h
          refine b_iast (nx := 86) G hB (sh_12_2 _ hp_v0) hb.1 hb.2 dX12_answer_85 rfl (fun m_14 e_m_14 hB => ?_)
          have h := h m_14 e_m_14
          refine z_aload_n (nx := 87) (a := 0) G rfl (Or.inl rfl) dX12_answer_86 rfl (b_getA (nx := 90) (k0 := 2) G hB fl_RX12_24 (Nat.le_of_ble_eq_true rfl) (Nat.le_of_ble_eq_true rfl) rfl hp_v0 dX12_answer_87 rfl (z_sipush (nx := 93) (z := 342) G (R32c rfl) rfl dX12_answer_90 rfl (z_iconst (nx := 94) (z := 3) G (R32c rfl) dX12_answer_93 rfl (z_iload (nx := 96) (a := 4) G rfl dX12_answer_94 rfl (z_imul (nx := 97) G dX12_answer_96 rfl (z_iadd (nx := 98) G dX12_answer_97 rfl (z_iconst (nx := 99) (z := 2) G (R32c rfl) dX12_answer_98 rfl (z_iadd (nx := 100) G dX12_answer_99 rfl (z_iload_n (nx := 101) (a := 3) G rfl dX12_answer_100 rfl ?_)))))))))
          obtain ⟨hb, h⟩ := h
          refine b_iast (nx := 102) G hB (sh_12_2 _ hp_v0) hb.1 hb.2 dX12_answer_101 rfl (fun m_15 e_m_15 hB => ?_)
          have h := h m_15 e_m_15
          refine z_aload_n (nx := 103) (a := 0) G rfl (Or.inl rfl) dX12_answer_102 rfl (b_getA (nx := 106) (k0 := 2) G hB fl_RX12_24 (Nat.le_of_ble_eq_true rfl) (Nat.le_of_ble_eq_true rfl) rfl hp_v0 dX12_answer_103 rfl (z_sipush (nx := 109) (z := 367) G (R32c rfl) rfl dX12_answer_106 rfl (z_dup2 (nx := 110) G (fun h => nomatch h) (fun h => nomatch h) dX12_answer_109 rfl ?_)))
          obtain ⟨hb, h⟩ := h
          refine z_iald (nx := 111) G (sh_12_2 _ hp_v0) hb.1 hb.2 dX12_answer_110 rfl ?_
          refine z_iconst (nx := 112) (z := 1) G (R32c rfl) dX12_answer_111 rfl (z_iadd (nx := 113) G dX12_answer_112 rfl ?_)
          obtain ⟨hb, h⟩ := h
          refine b_iast (nx := 114) G hB (sh_12_2 _ hp_v0) hb.1 hb.2 dX12_answer_113 rfl (fun m_16 e_m_16 hB => ?_)
          have h := h m_16 e_m_16
          refine z_aload_n (nx := 115) (a := 0) G rfl (Or.inl rfl) dX12_answer_114 rfl (z_iload (nx := 117) (a := 4) G rfl dX12_answer_115 rfl (z_iconst (nx := 118) (z := 1) G (R32c rfl) dX12_answer_117 rfl (z_iadd (nx := 119) G dX12_answer_118 rfl ?_)))
          refine b_callV0 (nx := 122) (zs := [v0, w32 (v4_12 + 1)]) (as := [(0, w32 (v4_12 + 1))]) X hB (by decide) rfl hp_v0 SS_X12_good (am_ta (am_ti am_tn)) (Nat.le_of_ble_eq_true rfl) (Nat.le_of_ble_eq_true rfl) ml_RX12_14 iw_X12_good vw_X12_good cw_X12_good nw_RX12 pp_X12_good (Nat.le_of_ble_eq_true rfl) dX12_answer_119 rfl (NM_X12_good hp_v0 h) (fun r_17 m_18 h hB => ?_)
          exact b_ireturn X hB dX12_answer_122 h
        · have h := h.2 c
          refine z_aload_n (nx := 50) (a := 0) G rfl (Or.inl rfl) dX12_answer_49 rfl (z_bipush (nx := 52) (z := (-5)) G (R32c rfl) rfl dX12_answer_50 rfl ?_)
          refine b_callV0 (nx := 55) (zs := [v0, (-5)]) (as := [(0, (-5))]) X hB (by decide) rfl hp_v0 SS_X12_refuses (am_ta (am_ti am_tn)) (Nat.le_of_ble_eq_true rfl) (Nat.le_of_ble_eq_true rfl) ml_RX12_127 iw_X12_refuses vw_X12_refuses cw_X12_refuses nw_RX12 pp_X12_refuses (Nat.le_of_ble_eq_true rfl) dX12_answer_52 rfl (NM_X12_refuses hp_v0 h) (fun r_19 m_20 h hB => ?_)
          exact b_ireturn X hB dX12_answer_55 h
      · have h := h.2 c
        exact b_fewer (loc2 := [(2, v0), (9, 0), (9, 0), (9, 0), (9, 0)]) (am_lk (am_lf (am_lf (am_lf (am_lk am_ln))))) (S_X12_answer_J1 X hp_v0 hB h)
theorem NM_X12_answer {v0 : Int} {v1 : Int} {v2 : Int} {v3 : Int} {K : am_KK} {m : am_M} (hp_v0 : am_ob v0 12) (h : M_X12_answer v0 v1 v2 v3 K m) : N_X12_answer [v0, v1, v2, v3] K m := ⟨hp_v0, h⟩
theorem SS_X12_answer : am_Snd yX12_answer cX12_answer 5 (some .int) 0 3 (am_L [2, 0, 0, 0] 0 N_X12_answer) := by
  refine am_SB (by decide +kernel) (Nat.le_of_ble_eq_true rfl) (fun F zs as K m X ht hB hM => ?_)
  obtain ⟨v0, zs, as, rfl, rfl, hz0, ht⟩ := am_inv ht
  obtain ⟨v1, zs, as, rfl, rfl, hz1, ht⟩ := am_inv ht
  obtain ⟨v2, zs, as, rfl, rfl, hz2, ht⟩ := am_inv ht
  obtain ⟨v3, zs, as, rfl, rfl, hz3, ht⟩ := am_inv ht
  obtain ⟨rfl, rfl⟩ := am_inv0 ht
  obtain ⟨hp_v0, hM⟩ := hM
  exact S_X12_answer X hp_v0 hB hM
set_option maxRecDepth 20000 in
set_option maxHeartbeats 4000000 in
theorem S_X12_forget {F : am_F} {K : am_KK} {v0 : Int} {m : am_M} (X : am_Cx F cX12_forget RX12 (some .int) 1 0 K) (hp_v0 : am_ob v0 12) (hB : am_Bt m) (h : M_X12_forget v0 K m) : am_Z F 0 [] [(2, v0), (9, 0)] m 200 := by
  have G := X.G
  unfold M_X12_forget at h
  refine z_aload_n (nx := 1) (a := 0) G rfl (Or.inl rfl) dX12_forget_0 rfl (b_getA (nx := 4) (k0 := 2) G hB fl_RX12_24 (Nat.le_of_ble_eq_true rfl) (Nat.le_of_ble_eq_true rfl) rfl hp_v0 dX12_forget_1 rfl (z_sipush (nx := 7) (z := 367) G (R32c rfl) rfl dX12_forget_4 rfl ?_))
  obtain ⟨hb, h⟩ := h
  refine z_iald (nx := 8) G (sh_12_2 _ hp_v0) hb.1 hb.2 dX12_forget_7 rfl ?_
  refine b_store_n (nx := 9) (a := 1) (loc2 := fun v1_1 => [(2, v0), (0, v1_1)]) G (fun _ => rfl) (Nat.le_of_ble_eq_true rfl) (am_pl1 rfl (fun h => nomatch h)) dX12_forget_8 rfl (fun v1_1 e_v1_1 => ?_)
  have h := h v1_1 e_v1_1
  refine z_aload_n (nx := 10) (a := 0) G rfl (Or.inl rfl) dX12_forget_9 rfl (b_getA (nx := 13) (k0 := 2) G hB fl_RX12_24 (Nat.le_of_ble_eq_true rfl) (Nat.le_of_ble_eq_true rfl) rfl hp_v0 dX12_forget_10 rfl (z_sipush (nx := 16) (z := 367) G (R32c rfl) rfl dX12_forget_13 rfl (z_iconst (nx := 17) (z := 0) G (R32c rfl) dX12_forget_16 rfl ?_)))
  obtain ⟨hb, h⟩ := h
  refine b_iast (nx := 18) G hB (sh_12_2 _ hp_v0) hb.1 hb.2 dX12_forget_17 rfl (fun m_2 e_m_2 hB => ?_)
  have h := h m_2 e_m_2
  refine z_iload_n (nx := 19) (a := 1) G rfl dX12_forget_18 rfl ?_
  exact b_ireturn X hB dX12_forget_19 h
theorem NM_X12_forget {v0 : Int} {K : am_KK} {m : am_M} (hp_v0 : am_ob v0 12) (h : M_X12_forget v0 K m) : N_X12_forget [v0] K m := ⟨hp_v0, h⟩
theorem SS_X12_forget : am_Snd yX12_forget cX12_forget 2 (some .int) 0 1 (am_L [2] 0 N_X12_forget) := by
  refine am_SB (by decide +kernel) (Nat.le_of_ble_eq_true rfl) (fun F zs as K m X ht hB hM => ?_)
  obtain ⟨v0, zs, as, rfl, rfl, hz0, ht⟩ := am_inv ht
  obtain ⟨rfl, rfl⟩ := am_inv0 ht
  obtain ⟨hp_v0, hM⟩ := hM
  exact S_X12_forget X hp_v0 hB hM
set_option maxRecDepth 20000 in
set_option maxHeartbeats 4000000 in
theorem S_X12_lastAnswer_J1 {F : am_F} {K : am_KK} {v0 : Int} {v2 : Int} {s0 : Int} {C4 : Int → Int → am_M → Prop} {m : am_M} (X : am_Cx F cX12_lastAnswer RX12 (some .int) 1 0 K) (hp_v0 : am_ob v0 12) (hC4 : ∀ w1 w2 m, C4 w1 w2 m → am_Bt m → am_Z F 4 [] [(2, v0), (0, w1), (0, w2)] m 200) (hB : am_Bt m) (h : M_X12_lastAnswer_J1 v0 v2 s0 C4 K m) : am_Z F 48 [(0, s0)] [(2, v0), (9, 0), (0, v2)] m 200 := by
  have G := X.G
  unfold M_X12_lastAnswer_J1 at h
  refine b_storeE_n (nx := 49) (a := 1) (loc2 := [(2, v0), (0, s0), (0, v2)]) G rfl (Nat.le_of_ble_eq_true rfl) (am_pl1 rfl (fun h => nomatch h)) dX12_lastAnswer_48 rfl ?_
  refine b_iinc (nx := 52) (a := 2) (loc2 := fun v2_1 => [(2, v0), (0, s0), (0, v2_1)]) G (fun _ => rfl) rfl (am_pl1 rfl (fun h => nomatch h)) dX12_lastAnswer_49 rfl (fun v2_1 e_v2_1 => ?_)
  have h := h v2_1 e_v2_1
  refine z_goto (tgt := 4) G dX12_lastAnswer_52 (by decide) ?_
  exact b_fewer (loc2 := [(2, v0), (0, s0), (0, v2_1)]) (am_lk (am_lk (am_lk am_ln))) (hC4 _ _ _ h hB)
set_option maxRecDepth 20000 in
set_option maxHeartbeats 4000000 in
theorem S_X12_lastAnswer_L1B {F : am_F} {K : am_KK} {v0 : Int} {v1 : Int} {v2 : Int} {C4 : Int → Int → am_M → Prop} {m : am_M} (X : am_Cx F cX12_lastAnswer RX12 (some .int) 1 0 K) (hp_v0 : am_ob v0 12) (hC4 : ∀ w1 w2 m, C4 w1 w2 m → am_Bt m → am_Z F 4 [] [(2, v0), (0, w1), (0, w2)] m 200) (hB : am_Bt m) (h : M_X12_lastAnswer_L1B v0 v1 v2 C4 K m) : am_Z F 4 [] [(2, v0), (0, v1), (0, v2)] m 200 := by
  have G := X.G
  unfold M_X12_lastAnswer_L1B at h
  refine z_iload_n (nx := 5) (a := 2) G rfl dX12_lastAnswer_4 rfl (z_aload_n (nx := 6) (a := 0) G rfl (Or.inl rfl) dX12_lastAnswer_5 rfl (b_getA (nx := 9) (k0 := 2) G hB fl_RX12_24 (Nat.le_of_ble_eq_true rfl) (Nat.le_of_ble_eq_true rfl) rfl hp_v0 dX12_lastAnswer_6 rfl (z_sipush (nx := 12) (z := 367) G (R32c rfl) rfl dX12_lastAnswer_9 rfl ?_)))
  obtain ⟨hb, h⟩ := h
  refine z_iald (nx := 13) G (sh_12_2 _ hp_v0) hb.1 hb.2 dX12_lastAnswer_12 rfl ?_
  refine z_icmp_ge (nx := 16) (tgt := 55) G dX12_lastAnswer_13 (by decide) rfl (fun c => ?_) (fun c => ?_)
  · have h := h.1 c
    refine z_iload_n (nx := 56) (a := 1) G rfl dX12_lastAnswer_55 rfl ?_
    exact b_ireturn X hB dX12_lastAnswer_56 h
  · have h := h.2 c
    refine z_aload_n (nx := 17) (a := 0) G rfl (Or.inl rfl) dX12_lastAnswer_16 rfl (b_getA (nx := 20) (k0 := 2) G hB fl_RX12_24 (Nat.le_of_ble_eq_true rfl) (Nat.le_of_ble_eq_true rfl) rfl hp_v0 dX12_lastAnswer_17 rfl (z_sipush (nx := 23) (z := 342) G (R32c rfl) rfl dX12_lastAnswer_20 rfl (z_iconst (nx := 24) (z := 3) G (R32c rfl) dX12_lastAnswer_23 rfl (z_iload_n (nx := 25) (a := 2) G rfl dX12_lastAnswer_24 rfl (z_imul (nx := 26) G dX12_lastAnswer_25 rfl (z_iadd (nx := 27) G dX12_lastAnswer_26 rfl ?_))))))
    obtain ⟨hb, h⟩ := h
    refine z_iald (nx := 28) G (sh_12_2 _ hp_v0) hb.1 hb.2 dX12_lastAnswer_27 rfl ?_
    refine z_iload_n (nx := 29) (a := 1) G rfl dX12_lastAnswer_28 rfl ?_
    refine z_icmp_le (nx := 32) (tgt := 47) G dX12_lastAnswer_29 (by decide) rfl (fun c => ?_) (fun c => ?_)
    · have h := h.1 c
      refine z_iload_n (nx := 48) (a := 1) G rfl dX12_lastAnswer_47 rfl ?_
      exact b_fewer (loc2 := [(2, v0), (9, 0), (0, v2)]) (am_lk (am_lf (am_lk am_ln))) (S_X12_lastAnswer_J1 X hp_v0 hC4 hB h)
    · have h := h.2 c
      refine z_aload_n (nx := 33) (a := 0) G rfl (Or.inl rfl) dX12_lastAnswer_32 rfl (b_getA (nx := 36) (k0 := 2) G hB fl_RX12_24 (Nat.le_of_ble_eq_true rfl) (Nat.le_of_ble_eq_true rfl) rfl hp_v0 dX12_lastAnswer_33 rfl (z_sipush (nx := 39) (z := 342) G (R32c rfl) rfl dX12_lastAnswer_36 rfl (z_iconst (nx := 40) (z := 3) G (R32c rfl) dX12_lastAnswer_39 rfl (z_iload_n (nx := 41) (a := 2) G rfl dX12_lastAnswer_40 rfl (z_imul (nx := 42) G dX12_lastAnswer_41 rfl (z_iadd (nx := 43) G dX12_lastAnswer_42 rfl ?_))))))
      obtain ⟨hb, h⟩ := h
      refine z_iald (nx := 44) G (sh_12_2 _ hp_v0) hb.1 hb.2 dX12_lastAnswer_43 rfl ?_
      refine z_goto (tgt := 48) G dX12_lastAnswer_44 (by decide) ?_
      exact b_fewer (loc2 := [(2, v0), (9, 0), (0, v2)]) (am_lk (am_lf (am_lk am_ln))) (S_X12_lastAnswer_J1 X hp_v0 hC4 hB h)
theorem S_X12_lastAnswer_L1 {F : am_F} {K : am_KK} {v0 : Int} {v1 : Int} {v2 : Int} {m : am_M} (X : am_Cx F cX12_lastAnswer RX12 (some .int) 1 0 K) (hp_v0 : am_ob v0 12) (hB : am_Bt m) (h : M_X12_lastAnswer_L1 v0 v1 v2 K m) : am_Z F 4 [] [(2, v0), (0, v1), (0, v2)] m 200 := by
  obtain ⟨I, ⟨j, hj⟩, hI⟩ := h
  have key : ∀ j v1 v2 m, I j v1 v2 m → am_Bt m → am_Z F 4 [] [(2, v0), (0, v1), (0, v2)] m 200 := by
    intro j
    induction j using Nat.strongRecOn with
    | ind j ih =>
      intro v1 v2 m hj hB
      exact S_X12_lastAnswer_L1B X hp_v0 (fun v1' v2' m' hc hB' => by
        obtain ⟨j', g1, g2⟩ := hc
        exact ih j' g1 v1' v2' m' g2 hB') hB (hI j v1 v2 m hj)
  exact key j _ _ _ hj hB
set_option maxRecDepth 20000 in
set_option maxHeartbeats 4000000 in
theorem S_X12_lastAnswer {F : am_F} {K : am_KK} {v0 : Int} {m : am_M} (X : am_Cx F cX12_lastAnswer RX12 (some .int) 1 0 K) (hp_v0 : am_ob v0 12) (hB : am_Bt m) (h : M_X12_lastAnswer v0 K m) : am_Z F 0 [] [(2, v0), (9, 0), (9, 0)] m 200 := by
  have G := X.G
  unfold M_X12_lastAnswer at h
  refine z_iconst (nx := 1) (z := 0) G (R32c rfl) dX12_lastAnswer_0 rfl (b_storeE_n (nx := 2) (a := 1) (loc2 := [(2, v0), (0, 0), (9, 0)]) G rfl (Nat.le_of_ble_eq_true rfl) (am_pl1 rfl (fun h => nomatch h)) dX12_lastAnswer_1 rfl (z_iconst (nx := 3) (z := 0) G (R32c rfl) dX12_lastAnswer_2 rfl (b_storeE_n (nx := 4) (a := 2) (loc2 := [(2, v0), (0, 0), (0, 0)]) G rfl (Nat.le_of_ble_eq_true rfl) (am_pl1 rfl (fun h => nomatch h)) dX12_lastAnswer_3 rfl ?_)))
  exact b_fewer (loc2 := [(2, v0), (0, 0), (0, 0)]) (am_lk (am_lk (am_lk am_ln))) (S_X12_lastAnswer_L1 X hp_v0 hB h)
theorem NM_X12_lastAnswer {v0 : Int} {K : am_KK} {m : am_M} (hp_v0 : am_ob v0 12) (h : M_X12_lastAnswer v0 K m) : N_X12_lastAnswer [v0] K m := ⟨hp_v0, h⟩
theorem SS_X12_lastAnswer : am_Snd yX12_lastAnswer cX12_lastAnswer 3 (some .int) 0 1 (am_L [2] 0 N_X12_lastAnswer) := by
  refine am_SB (by decide +kernel) (Nat.le_of_ble_eq_true rfl) (fun F zs as K m X ht hB hM => ?_)
  obtain ⟨v0, zs, as, rfl, rfl, hz0, ht⟩ := am_inv ht
  obtain ⟨rfl, rfl⟩ := am_inv0 ht
  obtain ⟨hp_v0, hM⟩ := hM
  exact S_X12_lastAnswer X hp_v0 hB hM
set_option maxRecDepth 20000 in
set_option maxHeartbeats 4000000 in
theorem S_X12_areSo_J3 {F : am_F} {K : am_KK} {v0 : Int} {v1 : Int} {v2 : Int} {v3 : Int} {v4 : Int} {C41 : Int → am_M → Prop} {C7 : Int → am_M → Prop} {m : am_M} (X : am_Cx F cX12_areSo RX12 (some .boolean) 609 5 K) (hp_v0 : am_ob v0 12) (hC41 : ∀ w4 m, C41 w4 m → am_Bt m → am_Z F 41 [] [(2, v0), (0, v1), (0, v2), (0, v3), (0, w4)] m 200) (hC7 : ∀ w2 m, C7 w2 m → am_Bt m → am_Z F 7 [] [(2, v0), (0, v1), (0, w2), (9, 0), (9, 0)] m 200) (hB : am_Bt m) (h : M_X12_areSo_J3 v0 v1 v2 v3 v4 C41 C7 K m) : am_Z F 119 [] [(2, v0), (0, v1), (0, v2), (0, v3), (0, v4)] m 200 := by
  have G := X.G
  unfold M_X12_areSo_J3 at h
  refine b_iinc (nx := 122) (a := 4) (loc2 := fun v4_1 => [(2, v0), (0, v1), (0, v2), (0, v3), (0, v4_1)]) G (fun _ => rfl) rfl (am_pl1 rfl (fun h => nomatch h)) dX12_areSo_119 rfl (fun v4_1 e_v4_1 => ?_)
  have h := h v4_1 e_v4_1
  refine z_goto (tgt := 41) G dX12_areSo_122 (by decide) ?_
  exact b_fewer (loc2 := [(2, v0), (0, v1), (0, v2), (0, v3), (0, v4_1)]) (am_lk (am_lk (am_lk (am_lk (am_lk am_ln))))) (hC41 _ _ h hB)
set_option maxRecDepth 20000 in
set_option maxHeartbeats 4000000 in
theorem S_X12_areSo_J2 {F : am_F} {K : am_KK} {v0 : Int} {v1 : Int} {v2 : Int} {v3 : Int} {v4 : Int} {s0 : Int} {s1 : Int} {C41 : Int → am_M → Prop} {C7 : Int → am_M → Prop} {m : am_M} (X : am_Cx F cX12_areSo RX12 (some .boolean) 609 5 K) (hp_v0 : am_ob v0 12) (hp_s0 : s0 = 0 ∨ s0 = 1) (hp_s1 : s1 = 0 ∨ s1 = 1) (hC41 : ∀ w4 m, C41 w4 m → am_Bt m → am_Z F 41 [] [(2, v0), (0, v1), (0, v2), (0, v3), (0, w4)] m 200) (hC7 : ∀ w2 m, C7 w2 m → am_Bt m → am_Z F 7 [] [(2, v0), (0, v1), (0, w2), (9, 0), (9, 0)] m 200) (hB : am_Bt m) (h : M_X12_areSo_J2 v0 v1 v2 v3 v4 s0 s1 C41 C7 K m) : am_Z F 114 [(0, s1), (0, s0)] [(2, v0), (0, v1), (0, v2), (0, v3), (0, v4)] m 200 := by
  have G := X.G
  unfold M_X12_areSo_J2 at h
  refine z_icmp_eq (nx := 117) (tgt := 119) G dX12_areSo_114 (by decide) rfl (fun c => ?_) (fun c => ?_)
  · have h := h.1 c
    exact b_fewer (loc2 := [(2, v0), (0, v1), (0, v2), (0, v3), (0, v4)]) (am_lk (am_lk (am_lk (am_lk (am_lk am_ln))))) (S_X12_areSo_J3 X hp_v0 hC41 hC7 hB h)
  · have h := h.2 c
    refine z_iconst (nx := 118) (z := 0) G (R32c rfl) dX12_areSo_117 rfl ?_
    exact b_zreturn X hB (Or.inl rfl) dX12_areSo_118 h
set_option maxRecDepth 20000 in
set_option maxHeartbeats 4000000 in
theorem S_X12_areSo_L2B {F : am_F} {K : am_KK} {v0 : Int} {v1 : Int} {v2 : Int} {v3 : Int} {v4 : Int} {C41 : Int → am_M → Prop} {C7 : Int → am_M → Prop} {m : am_M} (X : am_Cx F cX12_areSo RX12 (some .boolean) 609 5 K) (hp_v0 : am_ob v0 12) (hC41 : ∀ w4 m, C41 w4 m → am_Bt m → am_Z F 41 [] [(2, v0), (0, v1), (0, v2), (0, v3), (0, w4)] m 200) (hC7 : ∀ w2 m, C7 w2 m → am_Bt m → am_Z F 7 [] [(2, v0), (0, v1), (0, w2), (9, 0), (9, 0)] m 200) (hB : am_Bt m) (h : M_X12_areSo_L2B v0 v1 v2 v3 v4 C41 C7 K m) : am_Z F 41 [] [(2, v0), (0, v1), (0, v2), (0, v3), (0, v4)] m 200 := by
  have G := X.G
  unfold M_X12_areSo_L2B at h
  refine z_iload (nx := 43) (a := 4) G rfl dX12_areSo_41 rfl (z_aload_n (nx := 44) (a := 0) G rfl (Or.inl rfl) dX12_areSo_43 rfl (b_getA (nx := 47) (k0 := 2) G hB fl_RX12_24 (Nat.le_of_ble_eq_true rfl) (Nat.le_of_ble_eq_true rfl) rfl hp_v0 dX12_areSo_44 rfl (z_sipush (nx := 50) (z := 367) G (R32c rfl) rfl dX12_areSo_47 rfl ?_)))
  obtain ⟨hb, h⟩ := h
  refine z_iald (nx := 51) G (sh_12_2 _ hp_v0) hb.1 hb.2 dX12_areSo_50 rfl ?_
  refine z_icmp_ge (nx := 54) (tgt := 125) G dX12_areSo_51 (by decide) rfl (fun c => ?_) (fun c => ?_)
  · have h := h.1 c
    refine b_iinc (nx := 128) (a := 2) (loc2 := fun v2_2 => [(2, v0), (0, v1), (0, v2_2), (0, v3), (0, v4)]) G (fun _ => rfl) rfl (am_pl1 rfl (fun h => nomatch h)) dX12_areSo_125 rfl (fun v2_2 e_v2_2 => ?_)
    have h := h v2_2 e_v2_2
    refine z_goto (tgt := 7) G dX12_areSo_128 (by decide) ?_
    exact b_fewer (loc2 := [(2, v0), (0, v1), (0, v2_2), (9, 0), (9, 0)]) (am_lk (am_lk (am_lk (am_lf (am_lf am_ln))))) (hC7 _ _ h hB)
  · have h := h.2 c
    refine z_aload_n (nx := 55) (a := 0) G rfl (Or.inl rfl) dX12_areSo_54 rfl (b_getA (nx := 58) (k0 := 2) G hB fl_RX12_24 (Nat.le_of_ble_eq_true rfl) (Nat.le_of_ble_eq_true rfl) rfl hp_v0 dX12_areSo_55 rfl (z_sipush (nx := 61) (z := 342) G (R32c rfl) rfl dX12_areSo_58 rfl (z_iconst (nx := 62) (z := 3) G (R32c rfl) dX12_areSo_61 rfl (z_iload (nx := 64) (a := 4) G rfl dX12_areSo_62 rfl (z_imul (nx := 65) G dX12_areSo_64 rfl (z_iadd (nx := 66) G dX12_areSo_65 rfl ?_))))))
    obtain ⟨hb, h⟩ := h
    refine z_iald (nx := 67) G (sh_12_2 _ hp_v0) hb.1 hb.2 dX12_areSo_66 rfl ?_
    refine z_iload_n (nx := 68) (a := 2) G rfl dX12_areSo_67 rfl ?_
    refine z_icmp_ne (nx := 71) (tgt := 119) G dX12_areSo_68 (by decide) rfl (fun c => ?_) (fun c => ?_)
    · have h := h.1 c
      exact b_fewer (loc2 := [(2, v0), (0, v1), (0, v2), (0, v3), (0, v4)]) (am_lk (am_lk (am_lk (am_lk (am_lk am_ln))))) (S_X12_areSo_J3 X hp_v0 hC41 hC7 hB h)
    · have h := h.2 c
      refine z_iload_n (nx := 72) (a := 3) G rfl dX12_areSo_71 rfl (z_aload_n (nx := 73) (a := 0) G rfl (Or.inl rfl) dX12_areSo_72 rfl (b_getA (nx := 76) (k0 := 2) G hB fl_RX12_24 (Nat.le_of_ble_eq_true rfl) (Nat.le_of_ble_eq_true rfl) rfl hp_v0 dX12_areSo_73 rfl (z_sipush (nx := 79) (z := 342) G (R32c rfl) rfl dX12_areSo_76 rfl (z_iconst (nx := 80) (z := 3) G (R32c rfl) dX12_areSo_79 rfl (z_iload (nx := 82) (a := 4) G rfl dX12_areSo_80 rfl (z_imul (nx := 83) G dX12_areSo_82 rfl (z_iadd (nx := 84) G dX12_areSo_83 rfl (z_iconst (nx := 85) (z := 1) G (R32c rfl) dX12_areSo_84 rfl (z_iadd (nx := 86) G dX12_areSo_85 rfl ?_)))))))))
      obtain ⟨hb, h⟩ := h
      refine z_iald (nx := 87) G (sh_12_2 _ hp_v0) hb.1 hb.2 dX12_areSo_86 rfl ?_
      refine b_callS5 (nx := 90) (zs := [v3, m (am_rfv v0 2) (w32 ((w32 (342 + (w32 (3 * v4)))) + 1))]) (as := [(0, v3), (0, m (am_rfv v0 2) (w32 ((w32 (342 + (w32 (3 * v4)))) + 1)))]) X hB SS_X12_isIn (am_ti (am_ti am_tn)) (Nat.le_of_ble_eq_true rfl) (Nat.le_of_ble_eq_true rfl) ml_RX12_406 sw_X12_isIn (am_plainC 12 (by decide)) cw_X12_isIn nw_RX12 pp_X12_isIn (Nat.le_of_ble_eq_true rfl) dX12_areSo_87 rfl (NM_X12_isIn h) (fun r_3 m_4 h h01_5 hB => ?_)
      refine z_aload_n (nx := 91) (a := 0) G rfl (Or.inl rfl) dX12_areSo_90 rfl (b_getA (nx := 94) (k0 := 2) G hB fl_RX12_24 (Nat.le_of_ble_eq_true rfl) (Nat.le_of_ble_eq_true rfl) rfl hp_v0 dX12_areSo_91 rfl (z_sipush (nx := 97) (z := 342) G (R32c rfl) rfl dX12_areSo_94 rfl (z_iconst (nx := 98) (z := 3) G (R32c rfl) dX12_areSo_97 rfl (z_iload (nx := 100) (a := 4) G rfl dX12_areSo_98 rfl (z_imul (nx := 101) G dX12_areSo_100 rfl (z_iadd (nx := 102) G dX12_areSo_101 rfl (z_iconst (nx := 103) (z := 2) G (R32c rfl) dX12_areSo_102 rfl (z_iadd (nx := 104) G dX12_areSo_103 rfl ?_))))))))
      obtain ⟨hb, h⟩ := h
      refine z_iald (nx := 105) G (sh_12_2 _ hp_v0) hb.1 hb.2 dX12_areSo_104 rfl ?_
      refine z_iconst (nx := 106) (z := 1) G (R32c rfl) dX12_areSo_105 rfl ?_
      refine z_icmp_ne (nx := 109) (tgt := 113) G dX12_areSo_106 (by decide) rfl (fun c => ?_) (fun c => ?_)
      · have h := h.1 c
        refine z_iconst (nx := 114) (z := 0) G (R32c rfl) dX12_areSo_113 rfl ?_
        exact b_fewer (loc2 := [(2, v0), (0, v1), (0, v2), (0, v3), (0, v4)]) (am_lk (am_lk (am_lk (am_lk (am_lk am_ln))))) (S_X12_areSo_J2 X hp_v0 h01_5 (Or.inl rfl) hC41 hC7 hB h)
      · have h := h.2 c
        refine z_iconst (nx := 110) (z := 1) G (R32c rfl) dX12_areSo_109 rfl (z_goto (tgt := 114) G dX12_areSo_110 (by decide) ?_)
        exact b_fewer (loc2 := [(2, v0), (0, v1), (0, v2), (0, v3), (0, v4)]) (am_lk (am_lk (am_lk (am_lk (am_lk am_ln))))) (S_X12_areSo_J2 X hp_v0 h01_5 (Or.inr rfl) hC41 hC7 hB h)
theorem S_X12_areSo_L2 {F : am_F} {K : am_KK} {v0 : Int} {v1 : Int} {v2 : Int} {v3 : Int} {v4 : Int} {C7 : Int → am_M → Prop} {m : am_M} (X : am_Cx F cX12_areSo RX12 (some .boolean) 609 5 K) (hp_v0 : am_ob v0 12) (hC7 : ∀ w2 m, C7 w2 m → am_Bt m → am_Z F 7 [] [(2, v0), (0, v1), (0, w2), (9, 0), (9, 0)] m 200) (hB : am_Bt m) (h : M_X12_areSo_L2 v0 v1 v2 v3 v4 C7 K m) : am_Z F 41 [] [(2, v0), (0, v1), (0, v2), (0, v3), (0, v4)] m 200 := by
  obtain ⟨I, ⟨j, hj⟩, hI⟩ := h
  have key : ∀ j v4 m, I j v4 m → am_Bt m → am_Z F 41 [] [(2, v0), (0, v1), (0, v2), (0, v3), (0, v4)] m 200 := by
    intro j
    induction j using Nat.strongRecOn with
    | ind j ih =>
      intro v4 m hj hB
      exact S_X12_areSo_L2B X hp_v0 (fun v4' m' hc hB' => by
        obtain ⟨j', g1, g2⟩ := hc
        exact ih j' g1 v4' m' g2 hB') hC7 hB (hI j v4 m hj)
  exact key j _ _ hj hB
set_option maxRecDepth 20000 in
set_option maxHeartbeats 4000000 in
theorem S_X12_areSo_J1 {F : am_F} {K : am_KK} {v0 : Int} {v1 : Int} {v2 : Int} {v3 : Int} {C7 : Int → am_M → Prop} {m : am_M} (X : am_Cx F cX12_areSo RX12 (some .boolean) 609 5 K) (hp_v0 : am_ob v0 12) (hC7 : ∀ w2 m, C7 w2 m → am_Bt m → am_Z F 7 [] [(2, v0), (0, v1), (0, w2), (9, 0), (9, 0)] m 200) (hB : am_Bt m) (h : M_X12_areSo_J1 v0 v1 v2 v3 C7 K m) : am_Z F 38 [] [(2, v0), (0, v1), (0, v2), (0, v3), (9, 0)] m 200 := by
  have G := X.G
  unfold M_X12_areSo_J1 at h
  refine z_iconst (nx := 39) (z := 0) G (R32c rfl) dX12_areSo_38 rfl (b_storeE (nx := 41) (a := 4) (loc2 := [(2, v0), (0, v1), (0, v2), (0, v3), (0, 0)]) G rfl (Nat.le_of_ble_eq_true rfl) (am_pl1 rfl (fun h => nomatch h)) dX12_areSo_39 rfl ?_)
  exact b_fewer (loc2 := [(2, v0), (0, v1), (0, v2), (0, v3), (0, 0)]) (am_lk (am_lk (am_lk (am_lk (am_lk am_ln))))) (S_X12_areSo_L2 X hp_v0 hC7 hB h)
set_option maxRecDepth 20000 in
set_option maxHeartbeats 4000000 in
theorem S_X12_areSo_L1B {F : am_F} {K : am_KK} {v0 : Int} {v1 : Int} {v2 : Int} {C7 : Int → am_M → Prop} {m : am_M} (X : am_Cx F cX12_areSo RX12 (some .boolean) 609 5 K) (hp_v0 : am_ob v0 12) (hC7 : ∀ w2 m, C7 w2 m → am_Bt m → am_Z F 7 [] [(2, v0), (0, v1), (0, w2), (9, 0), (9, 0)] m 200) (hB : am_Bt m) (h : M_X12_areSo_L1B v0 v1 v2 C7 K m) : am_Z F 7 [] [(2, v0), (0, v1), (0, v2), (9, 0), (9, 0)] m 200 := by
  have G := X.G
  unfold M_X12_areSo_L1B at h
  refine z_iload_n (nx := 8) (a := 2) G rfl dX12_areSo_7 rfl (z_iload_n (nx := 9) (a := 1) G rfl dX12_areSo_8 rfl ?_)
  refine z_icmp_gt (nx := 12) (tgt := 131) G dX12_areSo_9 (by decide) rfl (fun c => ?_) (fun c => ?_)
  · have h := h.1 c
    refine z_iconst (nx := 132) (z := 1) G (R32c rfl) dX12_areSo_131 rfl ?_
    exact b_zreturn X hB (Or.inr rfl) dX12_areSo_132 h
  · have h := h.2 c
    refine z_iconst (nx := 13) (z := 0) G (R32c rfl) dX12_areSo_12 rfl (b_storeE_n (nx := 14) (a := 3) (loc2 := [(2, v0), (0, v1), (0, v2), (0, 0), (9, 0)]) G rfl (Nat.le_of_ble_eq_true rfl) (am_pl1 rfl (fun h => nomatch h)) dX12_areSo_13 rfl (z_aload_n (nx := 15) (a := 0) G rfl (Or.inl rfl) dX12_areSo_14 rfl (b_getA (nx := 18) (k0 := 2) G hB fl_RX12_24 (Nat.le_of_ble_eq_true rfl) (Nat.le_of_ble_eq_true rfl) rfl hp_v0 dX12_areSo_15 rfl (z_sipush (nx := 21) (z := 169) G (R32c rfl) rfl dX12_areSo_18 rfl ?_))))
    obtain ⟨hb, h⟩ := h
    refine z_iald (nx := 22) G (sh_12_2 _ hp_v0) hb.1 hb.2 dX12_areSo_21 rfl ?_
    refine z_sipush (nx := 25) (z := 999) G (R32c rfl) rfl dX12_areSo_22 rfl ?_
    refine z_icmp_ge (nx := 28) (tgt := 38) G dX12_areSo_25 (by decide) rfl (fun c => ?_) (fun c => ?_)
    · have h := h.1 c
      exact b_fewer (loc2 := [(2, v0), (0, v1), (0, v2), (0, 0), (9, 0)]) (am_lk (am_lk (am_lk (am_lk (am_lk am_ln))))) (S_X12_areSo_J1 X hp_v0 hC7 hB h)
    · have h := h.2 c
      refine z_aload_n (nx := 29) (a := 0) G rfl (Or.inl rfl) dX12_areSo_28 rfl ?_
      refine b_callV0 (nx := 32) (zs := [v0]) (as := []) X hB (by decide) rfl hp_v0 SS_X12_dawns (am_ta am_tn) (Nat.le_of_ble_eq_true rfl) (Nat.le_of_ble_eq_true rfl) ml_RX12_379 iw_X12_dawns vw_X12_dawns cw_X12_dawns nw_RX12 pp_X12_dawns (Nat.le_of_ble_eq_true rfl) dX12_areSo_29 rfl (NM_X12_dawns hp_v0 h) (fun r_6 m_7 h hB => ?_)
      refine z_pop (nx := 33) G (fun h => nomatch h) dX12_areSo_32 rfl (z_aload_n (nx := 34) (a := 0) G rfl (Or.inl rfl) dX12_areSo_33 rfl (b_getI (nx := 37) (k0 := 35) (t := 0) G fl_RX12_366 (Nat.le_of_ble_eq_true rfl) (Nat.le_of_ble_eq_true rfl) rfl hp_v0 dX12_areSo_34 rfl ?_))
      refine b_store_n (nx := 38) (a := 3) (loc2 := fun v3_8 => [(2, v0), (0, v1), (0, v2), (0, v3_8), (9, 0)]) G (fun _ => rfl) (Nat.le_of_ble_eq_true rfl) (am_pl1 rfl (fun h => nomatch h)) dX12_areSo_37 rfl (fun v3_8 e_v3_8 => ?_)
      have h := h v3_8 e_v3_8
      exact b_fewer (loc2 := [(2, v0), (0, v1), (0, v2), (0, v3_8), (9, 0)]) (am_lk (am_lk (am_lk (am_lk (am_lk am_ln))))) (S_X12_areSo_J1 X hp_v0 hC7 hB h)
theorem S_X12_areSo_L1 {F : am_F} {K : am_KK} {v0 : Int} {v1 : Int} {v2 : Int} {m : am_M} (X : am_Cx F cX12_areSo RX12 (some .boolean) 609 5 K) (hp_v0 : am_ob v0 12) (hB : am_Bt m) (h : M_X12_areSo_L1 v0 v1 v2 K m) : am_Z F 7 [] [(2, v0), (0, v1), (0, v2), (9, 0), (9, 0)] m 200 := by
  obtain ⟨I, ⟨j, hj⟩, hI⟩ := h
  have key : ∀ j v2 m, I j v2 m → am_Bt m → am_Z F 7 [] [(2, v0), (0, v1), (0, v2), (9, 0), (9, 0)] m 200 := by
    intro j
    induction j using Nat.strongRecOn with
    | ind j ih =>
      intro v2 m hj hB
      exact S_X12_areSo_L1B X hp_v0 (fun v2' m' hc hB' => by
        obtain ⟨j', g1, g2⟩ := hc
        exact ih j' g1 v2' m' g2 hB') hB (hI j v2 m hj)
  exact key j _ _ hj hB
set_option maxRecDepth 20000 in
set_option maxHeartbeats 4000000 in
theorem S_X12_areSo {F : am_F} {K : am_KK} {v0 : Int} {m : am_M} (X : am_Cx F cX12_areSo RX12 (some .boolean) 609 5 K) (hp_v0 : am_ob v0 12) (hB : am_Bt m) (h : M_X12_areSo v0 K m) : am_Z F 0 [] [(2, v0), (9, 0), (9, 0), (9, 0), (9, 0)] m 200 := by
  have G := X.G
  unfold M_X12_areSo at h
  refine z_aload_n (nx := 1) (a := 0) G rfl (Or.inl rfl) dX12_areSo_0 rfl ?_
  refine b_callV0 (nx := 4) (zs := [v0]) (as := []) X hB (by decide) rfl hp_v0 SS_X12_lastAnswer (am_ta am_tn) (Nat.le_of_ble_eq_true rfl) (Nat.le_of_ble_eq_true rfl) ml_RX12_421 iw_X12_lastAnswer vw_X12_lastAnswer cw_X12_lastAnswer nw_RX12 pp_X12_lastAnswer (Nat.le_of_ble_eq_true rfl) dX12_areSo_1 rfl (NM_X12_lastAnswer hp_v0 h) (fun r_9 m_10 h hB => ?_)
  refine b_storeE_n (nx := 5) (a := 1) (loc2 := [(2, v0), (0, r_9), (9, 0), (9, 0), (9, 0)]) G rfl (Nat.le_of_ble_eq_true rfl) (am_pl1 rfl (fun h => nomatch h)) dX12_areSo_4 rfl (z_iconst (nx := 6) (z := 1) G (R32c rfl) dX12_areSo_5 rfl (b_storeE_n (nx := 7) (a := 2) (loc2 := [(2, v0), (0, r_9), (0, 1), (9, 0), (9, 0)]) G rfl (Nat.le_of_ble_eq_true rfl) (am_pl1 rfl (fun h => nomatch h)) dX12_areSo_6 rfl ?_))
  exact b_fewer (loc2 := [(2, v0), (0, r_9), (0, 1), (9, 0), (9, 0)]) (am_lk (am_lk (am_lk (am_lk (am_lk am_ln))))) (S_X12_areSo_L1 X hp_v0 hB h)
theorem NM_X12_areSo {v0 : Int} {K : am_KK} {m : am_M} (hp_v0 : am_ob v0 12) (h : M_X12_areSo v0 K m) : N_X12_areSo [v0] K m := ⟨hp_v0, h⟩
theorem SS_X12_areSo : am_Snd yX12_areSo cX12_areSo 5 (some .boolean) 0 609 (am_L [2] 5 N_X12_areSo) := by
  refine am_SB (by decide +kernel) (Nat.le_of_ble_eq_true rfl) (fun F zs as K m X ht hB hM => ?_)
  obtain ⟨v0, zs, as, rfl, rfl, hz0, ht⟩ := am_inv ht
  obtain ⟨rfl, rfl⟩ := am_inv0 ht
  obtain ⟨hp_v0, hM⟩ := hM
  exact S_X12_areSo X hp_v0 hB hM
set_option maxRecDepth 20000 in
set_option maxHeartbeats 4000000 in
theorem S_X12_hidden_J3 {F : am_F} {K : am_KK} {v1 : Int} {v2 : Int} {v3 : Int} {m : am_M} (X : am_Cx F cX12_hidden RX12 (some .int) 610 0 K) (hB : am_Bt m) (h : M_X12_hidden_J3 v1 v2 v3 K m) : am_Z F 105 [] [(9, 0), (0, v1), (0, v2), (0, v3), (9, 0), (9, 0)] m 200 := by
  have G := X.G
  unfold M_X12_hidden_J3 at h
  refine z_iload_n (nx := 106) (a := 1) G rfl dX12_hidden_105 rfl (z_iconst (nx := 107) (z := (-1)) G (R32c rfl) dX12_hidden_106 rfl ?_)
  refine z_icmp_ne (nx := 110) (tgt := 114) G dX12_hidden_107 (by decide) rfl (fun c => ?_) (fun c => ?_)
  · have h := h.1 c
    refine z_iload_n (nx := 115) (a := 3) G rfl dX12_hidden_114 rfl ?_
    exact b_ireturn X hB dX12_hidden_115 h
  · have h := h.2 c
    refine z_iload_n (nx := 111) (a := 2) G rfl dX12_hidden_110 rfl (z_goto (tgt := 115) G dX12_hidden_111 (by decide) ?_)
    exact b_ireturn X hB dX12_hidden_115 h
set_option maxRecDepth 20000 in
set_option maxHeartbeats 4000000 in
theorem S_X12_hidden_J2 {F : am_F} {K : am_KK} {v0 : Int} {v1 : Int} {v2 : Int} {v3 : Int} {v4 : Int} {C19 : Int → Int → Int → am_M → Prop} {m : am_M} (X : am_Cx F cX12_hidden RX12 (some .int) 610 0 K) (hp_v0 : am_ob v0 12) (hC19 : ∀ w2 w3 w4 m, C19 w2 w3 w4 m → am_Bt m → am_Z F 19 [] [(2, v0), (0, v1), (0, w2), (0, w3), (0, w4), (9, 0)] m 200) (hB : am_Bt m) (h : M_X12_hidden_J2 v0 v1 v2 v3 v4 C19 K m) : am_Z F 99 [] [(2, v0), (0, v1), (0, v2), (0, v3), (0, v4), (9, 0)] m 200 := by
  have G := X.G
  unfold M_X12_hidden_J2 at h
  refine b_iinc (nx := 102) (a := 4) (loc2 := fun v4_1 => [(2, v0), (0, v1), (0, v2), (0, v3), (0, v4_1), (9, 0)]) G (fun _ => rfl) rfl (am_pl1 rfl (fun h => nomatch h)) dX12_hidden_99 rfl (fun v4_1 e_v4_1 => ?_)
  have h := h v4_1 e_v4_1
  refine z_goto (tgt := 19) G dX12_hidden_102 (by decide) ?_
  exact b_fewer (loc2 := [(2, v0), (0, v1), (0, v2), (0, v3), (0, v4_1), (9, 0)]) (am_lk (am_lk (am_lk (am_lk (am_lk (am_lk am_ln)))))) (hC19 _ _ _ _ h hB)
set_option maxRecDepth 20000 in
set_option maxHeartbeats 4000000 in
theorem S_X12_hidden_J1 {F : am_F} {K : am_KK} {v0 : Int} {v1 : Int} {v2 : Int} {v3 : Int} {v4 : Int} {C19 : Int → Int → Int → am_M → Prop} {m : am_M} (X : am_Cx F cX12_hidden RX12 (some .int) 610 0 K) (hp_v0 : am_ob v0 12) (hC19 : ∀ w2 w3 w4 m, C19 w2 w3 w4 m → am_Bt m → am_Z F 19 [] [(2, v0), (0, v1), (0, w2), (0, w3), (0, w4), (9, 0)] m 200) (hB : am_Bt m) (h : M_X12_hidden_J1 v0 v1 v2 v3 v4 C19 K m) : am_Z F 96 [] [(2, v0), (0, v1), (0, v2), (0, v3), (0, v4), (9, 0)] m 200 := by
  have G := X.G
  unfold M_X12_hidden_J1 at h
  refine b_iinc (nx := 99) (a := 2) (loc2 := fun v2_2 => [(2, v0), (0, v1), (0, v2_2), (0, v3), (0, v4), (9, 0)]) G (fun _ => rfl) rfl (am_pl1 rfl (fun h => nomatch h)) dX12_hidden_96 rfl (fun v2_2 e_v2_2 => ?_)
  have h := h v2_2 e_v2_2
  exact b_fewer (loc2 := [(2, v0), (0, v1), (0, v2_2), (0, v3), (0, v4), (9, 0)]) (am_lk (am_lk (am_lk (am_lk (am_lk (am_lk am_ln)))))) (S_X12_hidden_J2 X hp_v0 hC19 hB h)
set_option maxRecDepth 20000 in
set_option maxHeartbeats 4000000 in
theorem S_X12_hidden_L1B {F : am_F} {K : am_KK} {v0 : Int} {v1 : Int} {v2 : Int} {v3 : Int} {v4 : Int} {C19 : Int → Int → Int → am_M → Prop} {m : am_M} (X : am_Cx F cX12_hidden RX12 (some .int) 610 0 K) (hp_v0 : am_ob v0 12) (hC19 : ∀ w2 w3 w4 m, C19 w2 w3 w4 m → am_Bt m → am_Z F 19 [] [(2, v0), (0, v1), (0, w2), (0, w3), (0, w4), (9, 0)] m 200) (hB : am_Bt m) (h : M_X12_hidden_L1B v0 v1 v2 v3 v4 C19 K m) : am_Z F 19 [] [(2, v0), (0, v1), (0, v2), (0, v3), (0, v4), (9, 0)] m 200 := by
  have G := X.G
  unfold M_X12_hidden_L1B at h
  refine z_iload (nx := 21) (a := 4) G rfl dX12_hidden_19 rfl (z_aload_n (nx := 22) (a := 0) G rfl (Or.inl rfl) dX12_hidden_21 rfl (b_getA (nx := 25) (k0 := 2) G hB fl_RX12_24 (Nat.le_of_ble_eq_true rfl) (Nat.le_of_ble_eq_true rfl) rfl hp_v0 dX12_hidden_22 rfl (z_sipush (nx := 28) (z := 365) G (R32c rfl) rfl dX12_hidden_25 rfl ?_)))
  obtain ⟨hb, h⟩ := h
  refine z_iald (nx := 29) G (sh_12_2 _ hp_v0) hb.1 hb.2 dX12_hidden_28 rfl ?_
  refine z_bipush (nx := 31) (z := 8) G (R32c rfl) rfl dX12_hidden_29 rfl (z_imul (nx := 32) G dX12_hidden_31 rfl (z_bipush (nx := 34) (z := 30) G (R32c rfl) rfl dX12_hidden_32 rfl (z_imul (nx := 35) G dX12_hidden_34 rfl ?_)))
  refine z_icmp_ge (nx := 38) (tgt := 105) G dX12_hidden_35 (by decide) rfl (fun c => ?_) (fun c => ?_)
  · have h := h.1 c
    exact b_fewer (loc2 := [(9, 0), (0, v1), (0, v2), (0, v3), (9, 0), (9, 0)]) (am_lf (am_lk (am_lk (am_lk (am_lf (am_lk am_ln)))))) (S_X12_hidden_J3 X hB h)
  · have h := h.2 c
    refine z_iload_n (nx := 39) (a := 3) G rfl dX12_hidden_38 rfl (z_iconst (nx := 40) (z := (-1)) G (R32c rfl) dX12_hidden_39 rfl ?_)
    refine z_icmp_ne (nx := 43) (tgt := 105) G dX12_hidden_40 (by decide) rfl (fun c => ?_) (fun c => ?_)
    · have h := h.1 c
      exact b_fewer (loc2 := [(9, 0), (0, v1), (0, v2), (0, v3), (9, 0), (9, 0)]) (am_lf (am_lk (am_lk (am_lk (am_lf (am_lk am_ln)))))) (S_X12_hidden_J3 X hB h)
    · have h := h.2 c
      refine z_aload_n (nx := 44) (a := 0) G rfl (Or.inl rfl) dX12_hidden_43 rfl (z_iload (nx := 46) (a := 4) G rfl dX12_hidden_44 rfl (z_sipush (nx := 49) (z := 240) G (R32c rfl) rfl dX12_hidden_46 rfl (z_idiv (nx := 50) G (by decide) dX12_hidden_49 rfl (z_iload (nx := 52) (a := 4) G rfl dX12_hidden_50 rfl (z_bipush (nx := 54) (z := 30) G (R32c rfl) rfl dX12_hidden_52 rfl (z_idiv (nx := 55) G (by decide) dX12_hidden_54 rfl (z_bipush (nx := 57) (z := 8) G (R32c rfl) rfl dX12_hidden_55 rfl (z_irem (nx := 58) G (by decide) dX12_hidden_57 rfl (z_iconst (nx := 59) (z := 1) G (R32c rfl) dX12_hidden_58 rfl (z_iload (nx := 61) (a := 4) G rfl dX12_hidden_59 rfl (z_bipush (nx := 63) (z := 30) G (R32c rfl) rfl dX12_hidden_61 rfl (z_irem (nx := 64) G (by decide) dX12_hidden_63 rfl (z_iadd (nx := 65) G dX12_hidden_64 rfl (z_iconst (nx := 66) (z := 1) G (R32c rfl) dX12_hidden_65 rfl ?_))))))))))))))
      refine b_callV9 (nx := 69) (zs := [v0, w32 (Int.tdiv v4 240), w32 (Int.tmod (w32 (Int.tdiv v4 30)) 8), w32 (1 + (w32 (Int.tmod v4 30))), 1]) (as := [(0, w32 (Int.tdiv v4 240)), (0, w32 (Int.tmod (w32 (Int.tdiv v4 30)) 8)), (0, w32 (1 + (w32 (Int.tmod v4 30)))), (0, 1)]) X hB (by decide) rfl hp_v0 SS_X12_says (am_ta (am_ti (am_ti (am_ti (am_ti am_tn))))) (Nat.le_of_ble_eq_true rfl) (Nat.le_of_ble_eq_true rfl) ml_RX12_177 iw_X12_says vw_X12_says cw_X12_says nw_RX12 pp_X12_says (Nat.le_of_ble_eq_true rfl) dX12_hidden_66 rfl (NM_X12_says hp_v0 h) (fun r_3 m_4 h hB => ?_)
      refine z_aload_n (nx := 70) (a := 0) G rfl (Or.inl rfl) dX12_hidden_69 rfl ?_
      refine b_callV5 (nx := 73) (zs := [v0]) (as := []) X hB (by decide) rfl hp_v0 SS_X12_areSo (am_ta am_tn) (Nat.le_of_ble_eq_true rfl) (Nat.le_of_ble_eq_true rfl) ml_RX12_424 iw_X12_areSo vw_X12_areSo cw_X12_areSo nw_RX12 pp_X12_areSo (Nat.le_of_ble_eq_true rfl) dX12_hidden_70 rfl (NM_X12_areSo hp_v0 h) (fun r_5 m_6 h h01_7 hB => ?_)
      refine b_storeE (nx := 75) (a := 5) (loc2 := [(2, v0), (0, v1), (0, v2), (0, v3), (0, v4), (0, r_5)]) G rfl (Nat.le_of_ble_eq_true rfl) (am_pl1 rfl (fun h => nomatch h)) dX12_hidden_73 rfl (z_aload_n (nx := 76) (a := 0) G rfl (Or.inl rfl) dX12_hidden_75 rfl (z_iconst (nx := 77) (z := 0) G (R32c rfl) dX12_hidden_76 rfl ?_))
      refine b_callV9 (nx := 80) (zs := [v0, 0]) (as := [(0, 0)]) X hB (by decide) rfl hp_v0 SS_X12_takesBack (am_ta (am_ti am_tn)) (Nat.le_of_ble_eq_true rfl) (Nat.le_of_ble_eq_true rfl) ml_RX12_418 iw_X12_takesBack vw_X12_takesBack cw_X12_takesBack nw_RX12 pp_X12_takesBack (Nat.le_of_ble_eq_true rfl) dX12_hidden_77 rfl (NM_X12_takesBack hp_v0 h) (fun r_8 m_9 h hB => ?_)
      refine z_iload (nx := 82) (a := 5) G rfl dX12_hidden_80 rfl ?_
      refine z_if_ne (nx := 85) (tgt := 88) G dX12_hidden_82 (by decide) rfl (fun c => ?_) (fun c => ?_)
      · have h := h.1 c
        refine z_iload_n (nx := 89) (a := 2) G rfl dX12_hidden_88 rfl (z_iload_n (nx := 90) (a := 1) G rfl dX12_hidden_89 rfl ?_)
        refine z_icmp_ne (nx := 93) (tgt := 96) G dX12_hidden_90 (by decide) rfl (fun c => ?_) (fun c => ?_)
        · have h := h.1 c
          exact b_fewer (loc2 := [(2, v0), (0, v1), (0, v2), (0, v3), (0, v4), (9, 0)]) (am_lk (am_lk (am_lk (am_lk (am_lk (am_lf am_ln)))))) (S_X12_hidden_J1 X hp_v0 hC19 hB h)
        · have h := h.2 c
          refine z_iload (nx := 95) (a := 4) G rfl dX12_hidden_93 rfl (b_storeE_n (nx := 96) (a := 3) (loc2 := [(2, v0), (0, v1), (0, v2), (0, v4), (0, v4), (0, r_5)]) G rfl (Nat.le_of_ble_eq_true rfl) (am_pl1 rfl (fun h => nomatch h)) dX12_hidden_95 rfl ?_)
          exact b_fewer (loc2 := [(2, v0), (0, v1), (0, v2), (0, v4), (0, v4), (9, 0)]) (am_lk (am_lk (am_lk (am_lk (am_lk (am_lf am_ln)))))) (S_X12_hidden_J1 X hp_v0 hC19 hB h)
      · have h := h.2 c
        refine z_goto (tgt := 99) G dX12_hidden_85 (by decide) ?_
        exact b_fewer (loc2 := [(2, v0), (0, v1), (0, v2), (0, v3), (0, v4), (9, 0)]) (am_lk (am_lk (am_lk (am_lk (am_lk (am_lf am_ln)))))) (S_X12_hidden_J2 X hp_v0 hC19 hB h)
theorem S_X12_hidden_L1 {F : am_F} {K : am_KK} {v0 : Int} {v1 : Int} {v2 : Int} {v3 : Int} {v4 : Int} {m : am_M} (X : am_Cx F cX12_hidden RX12 (some .int) 610 0 K) (hp_v0 : am_ob v0 12) (hB : am_Bt m) (h : M_X12_hidden_L1 v0 v1 v2 v3 v4 K m) : am_Z F 19 [] [(2, v0), (0, v1), (0, v2), (0, v3), (0, v4), (9, 0)] m 200 := by
  obtain ⟨I, ⟨j, hj⟩, hI⟩ := h
  have key : ∀ j v2 v3 v4 m, I j v2 v3 v4 m → am_Bt m → am_Z F 19 [] [(2, v0), (0, v1), (0, v2), (0, v3), (0, v4), (9, 0)] m 200 := by
    intro j
    induction j using Nat.strongRecOn with
    | ind j ih =>
      intro v2 v3 v4 m hj hB
      exact S_X12_hidden_L1B X hp_v0 (fun v2' v3' v4' m' hc hB' => by
        obtain ⟨j', g1, g2⟩ := hc
        exact ih j' g1 v2' v3' v4' m' g2 hB') hB (hI j v2 v3 v4 m hj)
  exact key j _ _ _ _ hj hB
set_option maxRecDepth 20000 in
set_option maxHeartbeats 4000000 in
theorem S_X12_hidden {F : am_F} {K : am_KK} {v0 : Int} {v1 : Int} {m : am_M} (X : am_Cx F cX12_hidden RX12 (some .int) 610 0 K) (hp_v0 : am_ob v0 12) (hB : am_Bt m) (h : M_X12_hidden v0 v1 K m) : am_Z F 0 [] [(2, v0), (0, v1), (9, 0), (9, 0), (9, 0), (9, 0)] m 200 := by
  have G := X.G
  unfold M_X12_hidden at h
  refine z_iload_n (nx := 1) (a := 1) G rfl dX12_hidden_0 rfl (z_iconst (nx := 2) (z := (-1)) G (R32c rfl) dX12_hidden_1 rfl ?_)
  refine z_icmp_ge (nx := 5) (tgt := 7) G dX12_hidden_2 (by decide) rfl (fun c => ?_) (fun c => ?_)
  · have h := h.1 c
    refine z_aload_n (nx := 8) (a := 0) G rfl (Or.inl rfl) dX12_hidden_7 rfl (z_iconst (nx := 9) (z := 0) G (R32c rfl) dX12_hidden_8 rfl ?_)
    refine b_callV9 (nx := 12) (zs := [v0, 0]) (as := [(0, 0)]) X hB (by decide) rfl hp_v0 SS_X12_laysAside (am_ta (am_ti am_tn)) (Nat.le_of_ble_eq_true rfl) (Nat.le_of_ble_eq_true rfl) ml_RX12_415 iw_X12_laysAside vw_X12_laysAside cw_X12_laysAside nw_RX12 pp_X12_laysAside (Nat.le_of_ble_eq_true rfl) dX12_hidden_9 rfl (NM_X12_laysAside hp_v0 h) (fun r_10 m_11 h hB => ?_)
    refine z_iconst (nx := 13) (z := 0) G (R32c rfl) dX12_hidden_12 rfl (b_storeE_n (nx := 14) (a := 2) (loc2 := [(2, v0), (0, v1), (0, 0), (9, 0), (9, 0), (9, 0)]) G rfl (Nat.le_of_ble_eq_true rfl) (am_pl1 rfl (fun h => nomatch h)) dX12_hidden_13 rfl (z_iconst (nx := 15) (z := (-1)) G (R32c rfl) dX12_hidden_14 rfl (b_storeE_n (nx := 16) (a := 3) (loc2 := [(2, v0), (0, v1), (0, 0), (0, (-1)), (9, 0), (9, 0)]) G rfl (Nat.le_of_ble_eq_true rfl) (am_pl1 rfl (fun h => nomatch h)) dX12_hidden_15 rfl (z_iconst (nx := 17) (z := 0) G (R32c rfl) dX12_hidden_16 rfl (b_storeE (nx := 19) (a := 4) (loc2 := [(2, v0), (0, v1), (0, 0), (0, (-1)), (0, 0), (9, 0)]) G rfl (Nat.le_of_ble_eq_true rfl) (am_pl1 rfl (fun h => nomatch h)) dX12_hidden_17 rfl ?_)))))
    exact b_fewer (loc2 := [(2, v0), (0, v1), (0, 0), (0, (-1)), (0, 0), (9, 0)]) (am_lk (am_lk (am_lk (am_lk (am_lk (am_lk am_ln)))))) (S_X12_hidden_L1 X hp_v0 hB h)
  · have h := h.2 c
    refine z_iconst (nx := 6) (z := (-1)) G (R32c rfl) dX12_hidden_5 rfl ?_
    exact b_ireturn X hB dX12_hidden_6 h
theorem NM_X12_hidden {v0 : Int} {v1 : Int} {K : am_KK} {m : am_M} (hp_v0 : am_ob v0 12) (h : M_X12_hidden v0 v1 K m) : N_X12_hidden [v0, v1] K m := ⟨hp_v0, h⟩
theorem SS_X12_hidden : am_Snd yX12_hidden cX12_hidden 6 (some .int) 0 610 (am_L [2, 0] 0 N_X12_hidden) := by
  refine am_SB (by decide +kernel) (Nat.le_of_ble_eq_true rfl) (fun F zs as K m X ht hB hM => ?_)
  obtain ⟨v0, zs, as, rfl, rfl, hz0, ht⟩ := am_inv ht
  obtain ⟨v1, zs, as, rfl, rfl, hz1, ht⟩ := am_inv ht
  obtain ⟨rfl, rfl⟩ := am_inv0 ht
  obtain ⟨hp_v0, hM⟩ := hM
  exact S_X12_hidden X hp_v0 hB hM
set_option maxRecDepth 20000 in
set_option maxHeartbeats 4000000 in
theorem S_X12_stopped {F : am_F} {K : am_KK} {v0 : Int} {m : am_M} (X : am_Cx F cX12_stopped RX12 (some .int) 1 0 K) (hp_v0 : am_ob v0 12) (hB : am_Bt m) (h : M_X12_stopped v0 K m) : am_Z F 0 [] [(2, v0)] m 200 := by
  have G := X.G
  unfold M_X12_stopped at h
  refine z_aload_n (nx := 1) (a := 0) G rfl (Or.inl rfl) dX12_stopped_0 rfl (b_getI (nx := 4) (k0 := 48) (t := 0) G fl_RX12_110 (Nat.le_of_ble_eq_true rfl) (Nat.le_of_ble_eq_true rfl) rfl hp_v0 dX12_stopped_1 rfl ?_)
  exact b_ireturn X hB dX12_stopped_4 h
theorem NM_X12_stopped {v0 : Int} {K : am_KK} {m : am_M} (hp_v0 : am_ob v0 12) (h : M_X12_stopped v0 K m) : N_X12_stopped [v0] K m := ⟨hp_v0, h⟩
theorem SS_X12_stopped : am_Snd yX12_stopped cX12_stopped 1 (some .int) 0 1 (am_L [2] 0 N_X12_stopped) := by
  refine am_SB (by decide +kernel) (Nat.le_of_ble_eq_true rfl) (fun F zs as K m X ht hB hM => ?_)
  obtain ⟨v0, zs, as, rfl, rfl, hz0, ht⟩ := am_inv ht
  obtain ⟨rfl, rfl⟩ := am_inv0 ht
  obtain ⟨hp_v0, hM⟩ := hM
  exact S_X12_stopped X hp_v0 hB hM
set_option maxRecDepth 20000 in
set_option maxHeartbeats 4000000 in
theorem S_X12_waiting_J1 {F : am_F} {K : am_KK} {v0 : Int} {v2 : Int} {s0 : Int} {s1 : Int} {C4 : Int → Int → am_M → Prop} {m : am_M} (X : am_Cx F cX12_waiting RX12 (some .int) 2 0 K) (hp_v0 : am_ob v0 12) (hp_s1 : s1 = 0 ∨ s1 = 1) (hC4 : ∀ w1 w2 m, C4 w1 w2 m → am_Bt m → am_Z F 4 [] [(2, v0), (0, w1), (0, w2)] m 200) (hB : am_Bt m) (h : M_X12_waiting_J1 v0 v2 s0 s1 C4 K m) : am_Z F 27 [(0, s1), (0, s0)] [(2, v0), (9, 0), (0, v2)] m 200 := by
  have G := X.G
  unfold M_X12_waiting_J1 at h
  refine z_iadd (nx := 28) G dX12_waiting_27 rfl ?_
  refine b_store_n (nx := 29) (a := 1) (loc2 := fun v1_1 => [(2, v0), (0, v1_1), (0, v2)]) G (fun _ => rfl) (Nat.le_of_ble_eq_true rfl) (am_pl1 rfl (fun h => nomatch h)) dX12_waiting_28 rfl (fun v1_1 e_v1_1 => ?_)
  have h := h v1_1 e_v1_1
  refine b_iinc (nx := 32) (a := 2) (loc2 := fun v2_2 => [(2, v0), (0, v1_1), (0, v2_2)]) G (fun _ => rfl) rfl (am_pl1 rfl (fun h => nomatch h)) dX12_waiting_29 rfl (fun v2_2 e_v2_2 => ?_)
  have h := h v2_2 e_v2_2
  refine z_goto (tgt := 4) G dX12_waiting_32 (by decide) ?_
  exact b_fewer (loc2 := [(2, v0), (0, v1_1), (0, v2_2)]) (am_lk (am_lk (am_lk am_ln))) (hC4 _ _ _ h hB)
set_option maxRecDepth 20000 in
set_option maxHeartbeats 4000000 in
theorem S_X12_waiting_L1B {F : am_F} {K : am_KK} {v0 : Int} {v1 : Int} {v2 : Int} {C4 : Int → Int → am_M → Prop} {m : am_M} (X : am_Cx F cX12_waiting RX12 (some .int) 2 0 K) (hp_v0 : am_ob v0 12) (hC4 : ∀ w1 w2 m, C4 w1 w2 m → am_Bt m → am_Z F 4 [] [(2, v0), (0, w1), (0, w2)] m 200) (hB : am_Bt m) (h : M_X12_waiting_L1B v0 v1 v2 C4 K m) : am_Z F 4 [] [(2, v0), (0, v1), (0, v2)] m 200 := by
  have G := X.G
  unfold M_X12_waiting_L1B at h
  refine z_iload_n (nx := 5) (a := 2) G rfl dX12_waiting_4 rfl (z_aload_n (nx := 6) (a := 0) G rfl (Or.inl rfl) dX12_waiting_5 rfl ?_)
  refine b_callV0 (nx := 9) (zs := [v0]) (as := []) X hB (by decide) rfl hp_v0 SS_X12_prayers (am_ta am_tn) (Nat.le_of_ble_eq_true rfl) (Nat.le_of_ble_eq_true rfl) ml_RX12_133 iw_X12_prayers vw_X12_prayers cw_X12_prayers nw_RX12 pp_X12_prayers (Nat.le_of_ble_eq_true rfl) dX12_waiting_6 rfl (NM_X12_prayers hp_v0 h) (fun r_3 m_4 h hB => ?_)
  refine z_icmp_ge (nx := 12) (tgt := 35) G dX12_waiting_9 (by decide) rfl (fun c => ?_) (fun c => ?_)
  · have h := h.1 c
    refine z_iload_n (nx := 36) (a := 1) G rfl dX12_waiting_35 rfl ?_
    exact b_ireturn X hB dX12_waiting_36 h
  · have h := h.2 c
    refine z_iload_n (nx := 13) (a := 1) G rfl dX12_waiting_12 rfl (z_aload_n (nx := 14) (a := 0) G rfl (Or.inl rfl) dX12_waiting_13 rfl (z_iload_n (nx := 15) (a := 2) G rfl dX12_waiting_14 rfl (z_iconst (nx := 16) (z := 5) G (R32c rfl) dX12_waiting_15 rfl ?_)))
    refine b_callV0 (nx := 19) (zs := [v0, v2, 5]) (as := [(0, v2), (0, 5)]) X hB (by decide) rfl hp_v0 SS_X12_fact (am_ta (am_ti (am_ti am_tn))) (Nat.le_of_ble_eq_true rfl) (Nat.le_of_ble_eq_true rfl) ml_RX12_141 iw_X12_fact vw_X12_fact cw_X12_fact nw_RX12 pp_X12_fact (Nat.le_of_ble_eq_true rfl) dX12_waiting_16 rfl (NM_X12_fact hp_v0 h) (fun r_5 m_6 h hB => ?_)
    refine z_if_ne (nx := 22) (tgt := 26) G dX12_waiting_19 (by decide) rfl (fun c => ?_) (fun c => ?_)
    · have h := h.1 c
      refine z_iconst (nx := 27) (z := 0) G (R32c rfl) dX12_waiting_26 rfl ?_
      exact b_fewer (loc2 := [(2, v0), (9, 0), (0, v2)]) (am_lk (am_lf (am_lk am_ln))) (S_X12_waiting_J1 X hp_v0 (Or.inl rfl) hC4 hB h)
    · have h := h.2 c
      refine z_iconst (nx := 23) (z := 1) G (R32c rfl) dX12_waiting_22 rfl (z_goto (tgt := 27) G dX12_waiting_23 (by decide) ?_)
      exact b_fewer (loc2 := [(2, v0), (9, 0), (0, v2)]) (am_lk (am_lf (am_lk am_ln))) (S_X12_waiting_J1 X hp_v0 (Or.inr rfl) hC4 hB h)
theorem S_X12_waiting_L1 {F : am_F} {K : am_KK} {v0 : Int} {v1 : Int} {v2 : Int} {m : am_M} (X : am_Cx F cX12_waiting RX12 (some .int) 2 0 K) (hp_v0 : am_ob v0 12) (hB : am_Bt m) (h : M_X12_waiting_L1 v0 v1 v2 K m) : am_Z F 4 [] [(2, v0), (0, v1), (0, v2)] m 200 := by
  obtain ⟨I, ⟨j, hj⟩, hI⟩ := h
  have key : ∀ j v1 v2 m, I j v1 v2 m → am_Bt m → am_Z F 4 [] [(2, v0), (0, v1), (0, v2)] m 200 := by
    intro j
    induction j using Nat.strongRecOn with
    | ind j ih =>
      intro v1 v2 m hj hB
      exact S_X12_waiting_L1B X hp_v0 (fun v1' v2' m' hc hB' => by
        obtain ⟨j', g1, g2⟩ := hc
        exact ih j' g1 v1' v2' m' g2 hB') hB (hI j v1 v2 m hj)
  exact key j _ _ _ hj hB
set_option maxRecDepth 20000 in
set_option maxHeartbeats 4000000 in
theorem S_X12_waiting {F : am_F} {K : am_KK} {v0 : Int} {m : am_M} (X : am_Cx F cX12_waiting RX12 (some .int) 2 0 K) (hp_v0 : am_ob v0 12) (hB : am_Bt m) (h : M_X12_waiting v0 K m) : am_Z F 0 [] [(2, v0), (9, 0), (9, 0)] m 200 := by
  have G := X.G
  unfold M_X12_waiting at h
  refine z_iconst (nx := 1) (z := 0) G (R32c rfl) dX12_waiting_0 rfl (b_storeE_n (nx := 2) (a := 1) (loc2 := [(2, v0), (0, 0), (9, 0)]) G rfl (Nat.le_of_ble_eq_true rfl) (am_pl1 rfl (fun h => nomatch h)) dX12_waiting_1 rfl (z_iconst (nx := 3) (z := 0) G (R32c rfl) dX12_waiting_2 rfl (b_storeE_n (nx := 4) (a := 2) (loc2 := [(2, v0), (0, 0), (0, 0)]) G rfl (Nat.le_of_ble_eq_true rfl) (am_pl1 rfl (fun h => nomatch h)) dX12_waiting_3 rfl ?_)))
  exact b_fewer (loc2 := [(2, v0), (0, 0), (0, 0)]) (am_lk (am_lk (am_lk am_ln))) (S_X12_waiting_L1 X hp_v0 hB h)
theorem NM_X12_waiting {v0 : Int} {K : am_KK} {m : am_M} (hp_v0 : am_ob v0 12) (h : M_X12_waiting v0 K m) : N_X12_waiting [v0] K m := ⟨hp_v0, h⟩
theorem SS_X12_waiting : am_Snd yX12_waiting cX12_waiting 3 (some .int) 0 2 (am_L [2] 0 N_X12_waiting) := by
  refine am_SB (by decide +kernel) (Nat.le_of_ble_eq_true rfl) (fun F zs as K m X ht hB hM => ?_)
  obtain ⟨v0, zs, as, rfl, rfl, hz0, ht⟩ := am_inv ht
  obtain ⟨rfl, rfl⟩ := am_inv0 ht
  obtain ⟨hp_v0, hM⟩ := hM
  exact S_X12_waiting X hp_v0 hB hM
set_option maxRecDepth 20000 in
set_option maxHeartbeats 4000000 in
theorem S_X12_goesAlong_J10 {F : am_F} {K : am_KK} {v0 : Int} {s0 : Int} {s1 : Int} {m : am_M} (X : am_Cx F cX12_goesAlong RX12 none 605 9 K) (hp_v0 : am_ob v0 12) (hp_s0 : am_ob s0 12) (hp_s1 : s1 = 0 ∨ s1 = 1) (hB : am_Bt m) (h : M_X12_goesAlong_J10 v0 s0 s1 K m) : am_Z F 328 [(0, s1), (2, s0)] [(2, v0), (9, 0), (9, 0), (9, 0), (9, 0)] m 200 := by
  have G := X.G
  unfold M_X12_goesAlong_J10 at h
  refine b_put (nx := 331) (k0 := 54) (t := 0) G hB fl_RX12_448 (Nat.le_of_ble_eq_true rfl) (Nat.le_of_ble_eq_true rfl) rfl (fun h => nomatch h) ⟨rfl, hp_s1⟩ hp_s0 dX12_goesAlong_328 rfl (fun m_1 e_m_1 hB => ?_)
  have h := h m_1 e_m_1
  refine z_aload_n (nx := 332) (a := 0) G rfl (Or.inl rfl) dX12_goesAlong_331 rfl (z_dup (nx := 333) G (fun h => nomatch h) dX12_goesAlong_332 rfl (b_getI (nx := 336) (k0 := 22) (t := 0) G fl_RX12_281 (Nat.le_of_ble_eq_true rfl) (Nat.le_of_ble_eq_true rfl) rfl hp_v0 dX12_goesAlong_333 rfl (z_iconst (nx := 337) (z := 1) G (R32c rfl) dX12_goesAlong_336 rfl (z_iadd (nx := 338) G dX12_goesAlong_337 rfl ?_))))
  refine b_put (nx := 341) (k0 := 22) (t := 0) G hB fl_RX12_281 (Nat.le_of_ble_eq_true rfl) (Nat.le_of_ble_eq_true rfl) rfl (fun h => nomatch h) rfl hp_v0 dX12_goesAlong_338 rfl (fun m_2 e_m_2 hB => ?_)
  have h := h m_2 e_m_2
  exact b_return X hB dX12_goesAlong_341 h
set_option maxRecDepth 20000 in
set_option maxHeartbeats 4000000 in
theorem S_X12_goesAlong_J9 {F : am_F} {K : am_KK} {v0 : Int} {s0 : Int} {m : am_M} (X : am_Cx F cX12_goesAlong RX12 none 605 9 K) (hp_v0 : am_ob v0 12) (hp_s0 : am_ob s0 12) (hB : am_Bt m) (h : M_X12_goesAlong_J9 v0 s0 K m) : am_Z F 327 [(2, s0)] [(2, v0), (9, 0), (9, 0), (9, 0), (9, 0)] m 200 := by
  have G := X.G
  unfold M_X12_goesAlong_J9 at h
  refine z_iconst (nx := 328) (z := 0) G (R32c rfl) dX12_goesAlong_327 rfl ?_
  exact b_fewer (loc2 := [(2, v0), (9, 0), (9, 0), (9, 0), (9, 0)]) (am_lk (am_lk (am_lk (am_lk (am_lk am_ln))))) (S_X12_goesAlong_J10 X hp_v0 hp_s0 (Or.inl rfl) hB h)
set_option maxRecDepth 20000 in
set_option maxHeartbeats 4000000 in
theorem S_X12_goesAlong_J8 {F : am_F} {K : am_KK} {v0 : Int} {s0 : Int} {s1 : Int} {m : am_M} (X : am_Cx F cX12_goesAlong RX12 none 605 9 K) (hp_v0 : am_ob v0 12) (hp_s0 : am_ob s0 12) (hp_s1 : s1 = 0 ∨ s1 = 1) (hB : am_Bt m) (h : M_X12_goesAlong_J8 v0 s0 s1 K m) : am_Z F 305 [(0, s1), (2, s0)] [(2, v0), (9, 0), (9, 0), (9, 0), (9, 0)] m 200 := by
  have G := X.G
  unfold M_X12_goesAlong_J8 at h
  refine b_put (nx := 308) (k0 := 54) (t := 0) G hB fl_RX12_448 (Nat.le_of_ble_eq_true rfl) (Nat.le_of_ble_eq_true rfl) rfl (fun h => nomatch h) ⟨rfl, hp_s1⟩ hp_s0 dX12_goesAlong_305 rfl (fun m_3 e_m_3 hB => ?_)
  have h := h m_3 e_m_3
  refine z_aload_n (nx := 309) (a := 0) G rfl (Or.inl rfl) dX12_goesAlong_308 rfl (z_aload_n (nx := 310) (a := 0) G rfl (Or.inl rfl) dX12_goesAlong_309 rfl (b_getI (nx := 313) (k0 := 54) (t := 0) G fl_RX12_448 (Nat.le_of_ble_eq_true rfl) (Nat.le_of_ble_eq_true rfl) rfl hp_v0 dX12_goesAlong_310 rfl ?_))
  refine z_if_eq (nx := 316) (tgt := 327) G dX12_goesAlong_313 (by decide) rfl (fun c => ?_) (fun c => ?_)
  · have h := h.1 c
    exact b_fewer (loc2 := [(2, v0), (9, 0), (9, 0), (9, 0), (9, 0)]) (am_lk (am_lk (am_lk (am_lk (am_lk am_ln))))) (S_X12_goesAlong_J9 X hp_v0 hp_v0 hB h)
  · have h := h.2 c
    refine z_aload_n (nx := 317) (a := 0) G rfl (Or.inl rfl) dX12_goesAlong_316 rfl (b_getI (nx := 320) (k0 := 24) (t := 0) G fl_RX12_291 (Nat.le_of_ble_eq_true rfl) (Nat.le_of_ble_eq_true rfl) rfl hp_v0 dX12_goesAlong_317 rfl ?_)
    refine z_if_ne (nx := 323) (tgt := 327) G dX12_goesAlong_320 (by decide) rfl (fun c => ?_) (fun c => ?_)
    · have h := h.1 c
      exact b_fewer (loc2 := [(2, v0), (9, 0), (9, 0), (9, 0), (9, 0)]) (am_lk (am_lk (am_lk (am_lk (am_lk am_ln))))) (S_X12_goesAlong_J9 X hp_v0 hp_v0 hB h)
    · have h := h.2 c
      refine z_iconst (nx := 324) (z := 1) G (R32c rfl) dX12_goesAlong_323 rfl (z_goto (tgt := 328) G dX12_goesAlong_324 (by decide) ?_)
      exact b_fewer (loc2 := [(2, v0), (9, 0), (9, 0), (9, 0), (9, 0)]) (am_lk (am_lk (am_lk (am_lk (am_lk am_ln))))) (S_X12_goesAlong_J10 X hp_v0 hp_v0 (Or.inr rfl) hB h)
set_option maxRecDepth 20000 in
set_option maxHeartbeats 4000000 in
theorem S_X12_goesAlong_J7 {F : am_F} {K : am_KK} {v0 : Int} {s0 : Int} {m : am_M} (X : am_Cx F cX12_goesAlong RX12 none 605 9 K) (hp_v0 : am_ob v0 12) (hp_s0 : am_ob s0 12) (hB : am_Bt m) (h : M_X12_goesAlong_J7 v0 s0 K m) : am_Z F 300 [(2, s0)] [(2, v0), (9, 0), (9, 0), (9, 0), (9, 0)] m 200 := by
  have G := X.G
  unfold M_X12_goesAlong_J7 at h
  refine z_iconst (nx := 301) (z := 1) G (R32c rfl) dX12_goesAlong_300 rfl (z_goto (tgt := 305) G dX12_goesAlong_301 (by decide) ?_)
  exact b_fewer (loc2 := [(2, v0), (9, 0), (9, 0), (9, 0), (9, 0)]) (am_lk (am_lk (am_lk (am_lk (am_lk am_ln))))) (S_X12_goesAlong_J8 X hp_v0 hp_s0 (Or.inr rfl) hB h)
set_option maxRecDepth 20000 in
set_option maxHeartbeats 4000000 in
theorem S_X12_goesAlong_J6 {F : am_F} {K : am_KK} {v0 : Int} {v2 : Int} {m : am_M} (X : am_Cx F cX12_goesAlong RX12 none 605 9 K) (hp_v0 : am_ob v0 12) (hp_v2 : v2 = 0 ∨ v2 = 1) (hB : am_Bt m) (h : M_X12_goesAlong_J6 v0 v2 K m) : am_Z F 278 [] [(2, v0), (9, 0), (0, v2), (9, 0), (9, 0)] m 200 := by
  have G := X.G
  unfold M_X12_goesAlong_J6 at h
  refine z_aload_n (nx := 279) (a := 0) G rfl (Or.inl rfl) dX12_goesAlong_278 rfl (z_iconst (nx := 280) (z := 0) G (R32c rfl) dX12_goesAlong_279 rfl ?_)
  refine b_put (nx := 283) (k0 := 24) (t := 0) G hB fl_RX12_291 (Nat.le_of_ble_eq_true rfl) (Nat.le_of_ble_eq_true rfl) rfl (fun h => nomatch h) ⟨rfl, (Or.inl rfl)⟩ hp_v0 dX12_goesAlong_280 rfl (fun m_4 e_m_4 hB => ?_)
  have h := h m_4 e_m_4
  refine z_aload_n (nx := 284) (a := 0) G rfl (Or.inl rfl) dX12_goesAlong_283 rfl (z_aload_n (nx := 285) (a := 0) G rfl (Or.inl rfl) dX12_goesAlong_284 rfl (z_iconst (nx := 286) (z := 4) G (R32c rfl) dX12_goesAlong_285 rfl ?_))
  refine b_callV5 (nx := 289) (zs := [v0, 4]) (as := [(0, 4)]) X hB (by decide) rfl hp_v0 SS_X12_passes0 (am_ta (am_ti am_tn)) (Nat.le_of_ble_eq_true rfl) (Nat.le_of_ble_eq_true rfl) ml_RX12_305 iw_X12_passes0 vw_X12_passes0 cw_X12_passes0 nw_RX12 pp_X12_passes0 (Nat.le_of_ble_eq_true rfl) dX12_goesAlong_286 rfl (NM_X12_passes0 hp_v0 h) (fun r_5 m_6 h h01_7 hB => ?_)
  refine z_if_eq (nx := 292) (tgt := 300) G dX12_goesAlong_289 (by decide) rfl (fun c => ?_) (fun c => ?_)
  · have h := h.1 c
    exact b_fewer (loc2 := [(2, v0), (9, 0), (9, 0), (9, 0), (9, 0)]) (am_lk (am_lk (am_lf (am_lk (am_lk am_ln))))) (S_X12_goesAlong_J7 X hp_v0 hp_v0 hB h)
  · have h := h.2 c
    refine z_aload_n (nx := 293) (a := 0) G rfl (Or.inl rfl) dX12_goesAlong_292 rfl (z_iload_n (nx := 294) (a := 2) G rfl dX12_goesAlong_293 rfl ?_)
    refine b_callV5 (nx := 297) (zs := [v0, v2]) (as := [(0, v2)]) X hB (by decide) rfl hp_v0 SS_X12_testOf (am_ta (am_tz hp_v2 am_tn)) (Nat.le_of_ble_eq_true rfl) (Nat.le_of_ble_eq_true rfl) ml_RX12_320 iw_X12_testOf vw_X12_testOf cw_X12_testOf nw_RX12 pp_X12_testOf (Nat.le_of_ble_eq_true rfl) dX12_goesAlong_294 rfl h (fun r_8 m_9 h h01_10 hB => ?_)
    refine z_if_eq (nx := 300) (tgt := 304) G dX12_goesAlong_297 (by decide) rfl (fun c => ?_) (fun c => ?_)
    · have h := h.1 c
      refine z_iconst (nx := 305) (z := 0) G (R32c rfl) dX12_goesAlong_304 rfl ?_
      exact b_fewer (loc2 := [(2, v0), (9, 0), (9, 0), (9, 0), (9, 0)]) (am_lk (am_lk (am_lf (am_lk (am_lk am_ln))))) (S_X12_goesAlong_J8 X hp_v0 hp_v0 (Or.inl rfl) hB h)
    · have h := h.2 c
      exact b_fewer (loc2 := [(2, v0), (9, 0), (9, 0), (9, 0), (9, 0)]) (am_lk (am_lk (am_lf (am_lk (am_lk am_ln))))) (S_X12_goesAlong_J7 X hp_v0 hp_v0 hB h)
set_option maxRecDepth 20000 in
set_option maxHeartbeats 4000000 in
theorem S_X12_goesAlong_J5 {F : am_F} {K : am_KK} {v0 : Int} {v2 : Int} {v3 : Int} {v4 : Int} {s0 : Int} {s1 : Int} {C170 : Int → am_M → Prop} {m : am_M} (X : am_Cx F cX12_goesAlong RX12 none 605 9 K) (hp_v0 : am_ob v0 12) (hp_v2 : v2 = 0 ∨ v2 = 1) (hp_s0 : am_ob s0 12) (hp_s1 : s1 = 0 ∨ s1 = 1) (hC170 : ∀ w4 m, C170 w4 m → am_Bt m → am_Z F 170 [] [(2, v0), (9, 0), (0, v2), (0, v3), (0, w4)] m 200) (hB : am_Bt m) (h : M_X12_goesAlong_J5 v0 v2 v3 v4 s0 s1 C170 K m) : am_Z F 228 [(0, s1), (2, s0)] [(2, v0), (9, 0), (0, v2), (0, v3), (0, v4)] m 200 := by
  have G := X.G
  unfold M_X12_goesAlong_J5 at h
  refine b_put (nx := 231) (k0 := 53) (t := 0) G hB fl_RX12_442 (Nat.le_of_ble_eq_true rfl) (Nat.le_of_ble_eq_true rfl) rfl (fun h => nomatch h) ⟨rfl, hp_s1⟩ hp_s0 dX12_goesAlong_228 rfl (fun m_11 e_m_11 hB => ?_)
  have h := h m_11 e_m_11
  refine b_iinc (nx := 234) (a := 4) (loc2 := fun v4_12 => [(2, v0), (9, 0), (0, v2), (0, v3), (0, v4_12)]) G (fun _ => rfl) rfl (am_pl1 rfl (fun h => nomatch h)) dX12_goesAlong_231 rfl (fun v4_12 e_v4_12 => ?_)
  have h := h v4_12 e_v4_12
  refine z_goto (tgt := 170) G dX12_goesAlong_234 (by decide) ?_
  exact b_fewer (loc2 := [(2, v0), (9, 0), (0, v2), (0, v3), (0, v4_12)]) (am_lk (am_lk (am_lk (am_lk (am_lk am_ln))))) (hC170 _ _ h hB)
set_option maxRecDepth 20000 in
set_option maxHeartbeats 4000000 in
theorem S_X12_goesAlong_J4 {F : am_F} {K : am_KK} {v0 : Int} {v2 : Int} {v3 : Int} {v4 : Int} {s0 : Int} {C170 : Int → am_M → Prop} {m : am_M} (X : am_Cx F cX12_goesAlong RX12 none 605 9 K) (hp_v0 : am_ob v0 12) (hp_v2 : v2 = 0 ∨ v2 = 1) (hp_s0 : am_ob s0 12) (hC170 : ∀ w4 m, C170 w4 m → am_Bt m → am_Z F 170 [] [(2, v0), (9, 0), (0, v2), (0, v3), (0, w4)] m 200) (hB : am_Bt m) (h : M_X12_goesAlong_J4 v0 v2 v3 v4 s0 C170 K m) : am_Z F 227 [(2, s0)] [(2, v0), (9, 0), (0, v2), (0, v3), (0, v4)] m 200 := by
  have G := X.G
  unfold M_X12_goesAlong_J4 at h
  refine z_iconst (nx := 228) (z := 0) G (R32c rfl) dX12_goesAlong_227 rfl ?_
  exact b_fewer (loc2 := [(2, v0), (9, 0), (0, v2), (0, v3), (0, v4)]) (am_lk (am_lk (am_lk (am_lk (am_lk am_ln))))) (S_X12_goesAlong_J5 X hp_v0 hp_v2 hp_s0 (Or.inl rfl) hC170 hB h)
set_option maxRecDepth 20000 in
set_option maxHeartbeats 4000000 in
theorem S_X12_goesAlong_J3 {F : am_F} {K : am_KK} {v0 : Int} {v2 : Int} {v3 : Int} {v4 : Int} {C170 : Int → am_M → Prop} {m : am_M} (X : am_Cx F cX12_goesAlong RX12 none 605 9 K) (hp_v0 : am_ob v0 12) (hp_v2 : v2 = 0 ∨ v2 = 1) (hC170 : ∀ w4 m, C170 w4 m → am_Bt m → am_Z F 170 [] [(2, v0), (9, 0), (0, v2), (0, v3), (0, w4)] m 200) (hB : am_Bt m) (h : M_X12_goesAlong_J3 v0 v2 v3 v4 C170 K m) : am_Z F 191 [] [(2, v0), (9, 0), (0, v2), (0, v3), (0, v4)] m 200 := by
  have G := X.G
  unfold M_X12_goesAlong_J3 at h
  refine z_aload_n (nx := 192) (a := 0) G rfl (Or.inl rfl) dX12_goesAlong_191 rfl (z_iconst (nx := 193) (z := 0) G (R32c rfl) dX12_goesAlong_192 rfl ?_)
  refine b_put (nx := 196) (k0 := 24) (t := 0) G hB fl_RX12_291 (Nat.le_of_ble_eq_true rfl) (Nat.le_of_ble_eq_true rfl) rfl (fun h => nomatch h) ⟨rfl, (Or.inl rfl)⟩ hp_v0 dX12_goesAlong_193 rfl (fun m_13 e_m_13 hB => ?_)
  have h := h m_13 e_m_13
  refine z_aload_n (nx := 197) (a := 0) G rfl (Or.inl rfl) dX12_goesAlong_196 rfl (b_getA (nx := 200) (k0 := 55) G hB fl_RX12_113 (Nat.le_of_ble_eq_true rfl) (Nat.le_of_ble_eq_true rfl) rfl hp_v0 dX12_goesAlong_197 rfl (z_iload (nx := 202) (a := 4) G rfl dX12_goesAlong_200 rfl (z_aload_n (nx := 203) (a := 0) G rfl (Or.inl rfl) dX12_goesAlong_202 rfl (z_iload_n (nx := 204) (a := 2) G rfl dX12_goesAlong_203 rfl ?_))))
  refine b_callV1 (nx := 207) (zs := [v0, v2]) (as := [(0, v2)]) X hB (by decide) rfl hp_v0 SS_X12_sumOf (am_ta (am_tz hp_v2 am_tn)) (Nat.le_of_ble_eq_true rfl) (Nat.le_of_ble_eq_true rfl) ml_RX12_308 iw_X12_sumOf vw_X12_sumOf cw_X12_sumOf nw_RX12 pp_X12_sumOf (Nat.le_of_ble_eq_true rfl) dX12_goesAlong_204 rfl h (fun r_14 m_15 h hB => ?_)
  obtain ⟨hb, h⟩ := h
  refine b_last (nx := 208) G hB (sh_12_55 _ hp_v0) hb.1 hb.2 dX12_goesAlong_207 rfl (fun m_16 e_m_16 hB => ?_)
  have h := h m_16 e_m_16
  refine z_aload_n (nx := 209) (a := 0) G rfl (Or.inl rfl) dX12_goesAlong_208 rfl (z_aload_n (nx := 210) (a := 0) G rfl (Or.inl rfl) dX12_goesAlong_209 rfl (b_getI (nx := 213) (k0 := 53) (t := 0) G fl_RX12_442 (Nat.le_of_ble_eq_true rfl) (Nat.le_of_ble_eq_true rfl) rfl hp_v0 dX12_goesAlong_210 rfl ?_))
  refine z_if_eq (nx := 216) (tgt := 227) G dX12_goesAlong_213 (by decide) rfl (fun c => ?_) (fun c => ?_)
  · have h := h.1 c
    exact b_fewer (loc2 := [(2, v0), (9, 0), (0, v2), (0, v3), (0, v4)]) (am_lk (am_lk (am_lk (am_lk (am_lk am_ln))))) (S_X12_goesAlong_J4 X hp_v0 hp_v2 hp_v0 hC170 hB h)
  · have h := h.2 c
    refine z_aload_n (nx := 217) (a := 0) G rfl (Or.inl rfl) dX12_goesAlong_216 rfl (b_getI (nx := 220) (k0 := 24) (t := 0) G fl_RX12_291 (Nat.le_of_ble_eq_true rfl) (Nat.le_of_ble_eq_true rfl) rfl hp_v0 dX12_goesAlong_217 rfl ?_)
    refine z_if_ne (nx := 223) (tgt := 227) G dX12_goesAlong_220 (by decide) rfl (fun c => ?_) (fun c => ?_)
    · have h := h.1 c
      exact b_fewer (loc2 := [(2, v0), (9, 0), (0, v2), (0, v3), (0, v4)]) (am_lk (am_lk (am_lk (am_lk (am_lk am_ln))))) (S_X12_goesAlong_J4 X hp_v0 hp_v2 hp_v0 hC170 hB h)
    · have h := h.2 c
      refine z_iconst (nx := 224) (z := 1) G (R32c rfl) dX12_goesAlong_223 rfl (z_goto (tgt := 228) G dX12_goesAlong_224 (by decide) ?_)
      exact b_fewer (loc2 := [(2, v0), (9, 0), (0, v2), (0, v3), (0, v4)]) (am_lk (am_lk (am_lk (am_lk (am_lk am_ln))))) (S_X12_goesAlong_J5 X hp_v0 hp_v2 hp_v0 (Or.inr rfl) hC170 hB h)
set_option maxRecDepth 20000 in
set_option maxHeartbeats 4000000 in
theorem S_X12_goesAlong_L3B {F : am_F} {K : am_KK} {v0 : Int} {v2 : Int} {v3 : Int} {v4 : Int} {C170 : Int → am_M → Prop} {m : am_M} (X : am_Cx F cX12_goesAlong RX12 none 605 9 K) (hp_v0 : am_ob v0 12) (hp_v2 : v2 = 0 ∨ v2 = 1) (hC170 : ∀ w4 m, C170 w4 m → am_Bt m → am_Z F 170 [] [(2, v0), (9, 0), (0, v2), (0, v3), (0, w4)] m 200) (hB : am_Bt m) (h : M_X12_goesAlong_L3B v0 v2 v3 v4 C170 K m) : am_Z F 170 [] [(2, v0), (9, 0), (0, v2), (0, v3), (0, v4)] m 200 := by
  have G := X.G
  unfold M_X12_goesAlong_L3B at h
  refine z_iload (nx := 172) (a := 4) G rfl dX12_goesAlong_170 rfl (z_iload_n (nx := 173) (a := 3) G rfl dX12_goesAlong_172 rfl ?_)
  refine z_icmp_ge (nx := 176) (tgt := 237) G dX12_goesAlong_173 (by decide) rfl (fun c => ?_) (fun c => ?_)
  · have h := h.1 c
    refine z_aload_n (nx := 238) (a := 0) G rfl (Or.inl rfl) dX12_goesAlong_237 rfl (z_iconst (nx := 239) (z := 1) G (R32c rfl) dX12_goesAlong_238 rfl ?_)
    refine b_put (nx := 242) (k0 := 51) (t := 0) G hB fl_RX12_445 (Nat.le_of_ble_eq_true rfl) (Nat.le_of_ble_eq_true rfl) rfl (fun h => nomatch h) rfl hp_v0 dX12_goesAlong_239 rfl (fun m_17 e_m_17 hB => ?_)
    have h := h m_17 e_m_17
    refine z_aload_n (nx := 243) (a := 0) G rfl (Or.inl rfl) dX12_goesAlong_242 rfl (z_bipush (nx := 245) (z := 25) G (R32c rfl) rfl dX12_goesAlong_243 rfl ?_)
    refine b_callV5 (nx := 248) (zs := [v0, 25]) (as := [(0, 25)]) X hB (by decide) rfl hp_v0 SS_X12_passes0 (am_ta (am_ti am_tn)) (Nat.le_of_ble_eq_true rfl) (Nat.le_of_ble_eq_true rfl) ml_RX12_305 iw_X12_passes0 vw_X12_passes0 cw_X12_passes0 nw_RX12 pp_X12_passes0 (Nat.le_of_ble_eq_true rfl) dX12_goesAlong_245 rfl (NM_X12_passes0 hp_v0 h) (fun r_18 m_19 h h01_20 hB => ?_)
    refine z_if_eq (nx := 251) (tgt := 278) G dX12_goesAlong_248 (by decide) rfl (fun c => ?_) (fun c => ?_)
    · have h := h.1 c
      exact b_fewer (loc2 := [(2, v0), (9, 0), (0, v2), (9, 0), (9, 0)]) (am_lk (am_lk (am_lk (am_lf (am_lf am_ln))))) (S_X12_goesAlong_J6 X hp_v0 hp_v2 hB h)
    · have h := h.2 c
      refine z_aload_n (nx := 252) (a := 0) G rfl (Or.inl rfl) dX12_goesAlong_251 rfl (z_aload_n (nx := 253) (a := 0) G rfl (Or.inl rfl) dX12_goesAlong_252 rfl (b_getA (nx := 256) (k0 := 2) G hB fl_RX12_24 (Nat.le_of_ble_eq_true rfl) (Nat.le_of_ble_eq_true rfl) rfl hp_v0 dX12_goesAlong_253 rfl (z_sipush (nx := 259) (z := 3177) G (R32c rfl) rfl dX12_goesAlong_256 rfl (z_aload_n (nx := 260) (a := 0) G rfl (Or.inl rfl) dX12_goesAlong_259 rfl (b_getI (nx := 263) (k0 := 22) (t := 0) G fl_RX12_281 (Nat.le_of_ble_eq_true rfl) (Nat.le_of_ble_eq_true rfl) rfl hp_v0 dX12_goesAlong_260 rfl (z_iadd (nx := 264) G dX12_goesAlong_263 rfl ?_))))))
      obtain ⟨hb, h⟩ := h
      refine z_iald (nx := 265) G (sh_12_2 _ hp_v0) hb.1 hb.2 dX12_goesAlong_264 rfl ?_
      refine b_put (nx := 268) (k0 := 51) (t := 0) G hB fl_RX12_445 (Nat.le_of_ble_eq_true rfl) (Nat.le_of_ble_eq_true rfl) rfl (fun h => nomatch h) rfl hp_v0 dX12_goesAlong_265 rfl (fun m_21 e_m_21 hB => ?_)
      have h := h m_21 e_m_21
      refine z_aload_n (nx := 269) (a := 0) G rfl (Or.inl rfl) dX12_goesAlong_268 rfl (z_dup (nx := 270) G (fun h => nomatch h) dX12_goesAlong_269 rfl (b_getI (nx := 273) (k0 := 22) (t := 0) G fl_RX12_281 (Nat.le_of_ble_eq_true rfl) (Nat.le_of_ble_eq_true rfl) rfl hp_v0 dX12_goesAlong_270 rfl (z_iconst (nx := 274) (z := 1) G (R32c rfl) dX12_goesAlong_273 rfl (z_iadd (nx := 275) G dX12_goesAlong_274 rfl ?_))))
      refine b_put (nx := 278) (k0 := 22) (t := 0) G hB fl_RX12_281 (Nat.le_of_ble_eq_true rfl) (Nat.le_of_ble_eq_true rfl) rfl (fun h => nomatch h) rfl hp_v0 dX12_goesAlong_275 rfl (fun m_22 e_m_22 hB => ?_)
      have h := h m_22 e_m_22
      exact b_fewer (loc2 := [(2, v0), (9, 0), (0, v2), (9, 0), (9, 0)]) (am_lk (am_lk (am_lk (am_lf (am_lf am_ln))))) (S_X12_goesAlong_J6 X hp_v0 hp_v2 hB h)
  · have h := h.2 c
    refine z_iload (nx := 178) (a := 4) G rfl dX12_goesAlong_176 rfl ?_
    refine z_if_le (nx := 181) (tgt := 191) G dX12_goesAlong_178 (by decide) rfl (fun c => ?_) (fun c => ?_)
    · have h := h.1 c
      exact b_fewer (loc2 := [(2, v0), (9, 0), (0, v2), (0, v3), (0, v4)]) (am_lk (am_lk (am_lk (am_lk (am_lk am_ln))))) (S_X12_goesAlong_J3 X hp_v0 hp_v2 hC170 hB h)
    · have h := h.2 c
      refine z_aload_n (nx := 182) (a := 0) G rfl (Or.inl rfl) dX12_goesAlong_181 rfl (z_dup (nx := 183) G (fun h => nomatch h) dX12_goesAlong_182 rfl (b_getI (nx := 186) (k0 := 22) (t := 0) G fl_RX12_281 (Nat.le_of_ble_eq_true rfl) (Nat.le_of_ble_eq_true rfl) rfl hp_v0 dX12_goesAlong_183 rfl (z_iconst (nx := 187) (z := 1) G (R32c rfl) dX12_goesAlong_186 rfl (z_iadd (nx := 188) G dX12_goesAlong_187 rfl ?_))))
      refine b_put (nx := 191) (k0 := 22) (t := 0) G hB fl_RX12_281 (Nat.le_of_ble_eq_true rfl) (Nat.le_of_ble_eq_true rfl) rfl (fun h => nomatch h) rfl hp_v0 dX12_goesAlong_188 rfl (fun m_23 e_m_23 hB => ?_)
      have h := h m_23 e_m_23
      exact b_fewer (loc2 := [(2, v0), (9, 0), (0, v2), (0, v3), (0, v4)]) (am_lk (am_lk (am_lk (am_lk (am_lk am_ln))))) (S_X12_goesAlong_J3 X hp_v0 hp_v2 hC170 hB h)
theorem S_X12_goesAlong_L3 {F : am_F} {K : am_KK} {v0 : Int} {v2 : Int} {v3 : Int} {v4 : Int} {m : am_M} (X : am_Cx F cX12_goesAlong RX12 none 605 9 K) (hp_v0 : am_ob v0 12) (hp_v2 : v2 = 0 ∨ v2 = 1) (hB : am_Bt m) (h : M_X12_goesAlong_L3 v0 v2 v3 v4 K m) : am_Z F 170 [] [(2, v0), (9, 0), (0, v2), (0, v3), (0, v4)] m 200 := by
  obtain ⟨I, ⟨j, hj⟩, hI⟩ := h
  have key : ∀ j v4 m, I j v4 m → am_Bt m → am_Z F 170 [] [(2, v0), (9, 0), (0, v2), (0, v3), (0, v4)] m 200 := by
    intro j
    induction j using Nat.strongRecOn with
    | ind j ih =>
      intro v4 m hj hB
      exact S_X12_goesAlong_L3B X hp_v0 hp_v2 (fun v4' m' hc hB' => by
        obtain ⟨j', g1, g2⟩ := hc
        exact ih j' g1 v4' m' g2 hB') hB (hI j v4 m hj)
  exact key j _ _ hj hB
set_option maxRecDepth 20000 in
set_option maxHeartbeats 4000000 in
theorem S_X12_goesAlong_J2 {F : am_F} {K : am_KK} {v0 : Int} {v2 : Int} {s0 : Int} {m : am_M} (X : am_Cx F cX12_goesAlong RX12 none 605 9 K) (hp_v0 : am_ob v0 12) (hp_v2 : v2 = 0 ∨ v2 = 1) (hB : am_Bt m) (h : M_X12_goesAlong_J2 v0 v2 s0 K m) : am_Z F 166 [(0, s0)] [(2, v0), (9, 0), (0, v2), (9, 0), (9, 0)] m 200 := by
  have G := X.G
  unfold M_X12_goesAlong_J2 at h
  refine b_storeE_n (nx := 167) (a := 3) (loc2 := [(2, v0), (9, 0), (0, v2), (0, s0), (9, 0)]) G rfl (Nat.le_of_ble_eq_true rfl) (am_pl1 rfl (fun h => nomatch h)) dX12_goesAlong_166 rfl (z_iconst (nx := 168) (z := 0) G (R32c rfl) dX12_goesAlong_167 rfl (b_storeE (nx := 170) (a := 4) (loc2 := [(2, v0), (9, 0), (0, v2), (0, s0), (0, 0)]) G rfl (Nat.le_of_ble_eq_true rfl) (am_pl1 rfl (fun h => nomatch h)) dX12_goesAlong_168 rfl ?_))
  exact b_fewer (loc2 := [(2, v0), (9, 0), (0, v2), (0, s0), (0, 0)]) (am_lk (am_lk (am_lk (am_lk (am_lk am_ln))))) (S_X12_goesAlong_L3 X hp_v0 hp_v2 hB h)
set_option maxRecDepth 20000 in
set_option maxHeartbeats 4000000 in
theorem S_X12_goesAlong_J1 {F : am_F} {K : am_KK} {v0 : Int} {v2 : Int} {v3 : Int} {C34 : Int → am_M → Prop} {m : am_M} (X : am_Cx F cX12_goesAlong RX12 none 605 9 K) (hp_v0 : am_ob v0 12) (hp_v2 : v2 = 0 ∨ v2 = 1) (hC34 : ∀ w3 m, C34 w3 m → am_Bt m → am_Z F 34 [] [(2, v0), (9, 0), (0, v2), (0, w3), (9, 0)] m 200) (hB : am_Bt m) (h : M_X12_goesAlong_J1 v0 v2 v3 C34 K m) : am_Z F 67 [] [(2, v0), (9, 0), (0, v2), (0, v3), (9, 0)] m 200 := by
  have G := X.G
  unfold M_X12_goesAlong_J1 at h
  refine b_iinc (nx := 70) (a := 3) (loc2 := fun v3_24 => [(2, v0), (9, 0), (0, v2), (0, v3_24), (9, 0)]) G (fun _ => rfl) rfl (am_pl1 rfl (fun h => nomatch h)) dX12_goesAlong_67 rfl (fun v3_24 e_v3_24 => ?_)
  have h := h v3_24 e_v3_24
  refine z_goto (tgt := 34) G dX12_goesAlong_70 (by decide) ?_
  exact b_fewer (loc2 := [(2, v0), (9, 0), (0, v2), (0, v3_24), (9, 0)]) (am_lk (am_lk (am_lk (am_lk (am_lk am_ln))))) (hC34 _ _ h hB)
set_option maxRecDepth 20000 in
set_option maxHeartbeats 4000000 in
theorem S_X12_goesAlong_L2B {F : am_F} {K : am_KK} {v0 : Int} {v2 : Int} {v3 : Int} {C34 : Int → am_M → Prop} {m : am_M} (X : am_Cx F cX12_goesAlong RX12 none 605 9 K) (hp_v0 : am_ob v0 12) (hp_v2 : v2 = 0 ∨ v2 = 1) (hC34 : ∀ w3 m, C34 w3 m → am_Bt m → am_Z F 34 [] [(2, v0), (9, 0), (0, v2), (0, w3), (9, 0)] m 200) (hB : am_Bt m) (h : M_X12_goesAlong_L2B v0 v2 v3 C34 K m) : am_Z F 34 [] [(2, v0), (9, 0), (0, v2), (0, v3), (9, 0)] m 200 := by
  have G := X.G
  unfold M_X12_goesAlong_L2B at h
  refine z_iload_n (nx := 35) (a := 3) G rfl dX12_goesAlong_34 rfl (z_aload_n (nx := 36) (a := 0) G rfl (Or.inl rfl) dX12_goesAlong_35 rfl ?_)
  refine b_callV0 (nx := 39) (zs := [v0]) (as := []) X hB (by decide) rfl hp_v0 SS_X12_prayers (am_ta am_tn) (Nat.le_of_ble_eq_true rfl) (Nat.le_of_ble_eq_true rfl) ml_RX12_133 iw_X12_prayers vw_X12_prayers cw_X12_prayers nw_RX12 pp_X12_prayers (Nat.le_of_ble_eq_true rfl) dX12_goesAlong_36 rfl (NM_X12_prayers hp_v0 h) (fun r_25 m_26 h hB => ?_)
  refine z_icmp_ge (nx := 42) (tgt := 73) G dX12_goesAlong_39 (by decide) rfl (fun c => ?_) (fun c => ?_)
  · have h := h.1 c
    refine z_aload_n (nx := 74) (a := 0) G rfl (Or.inl rfl) dX12_goesAlong_73 rfl (b_getA (nx := 77) (k0 := 25) G hB fl_RX12_59 (Nat.le_of_ble_eq_true rfl) (Nat.le_of_ble_eq_true rfl) rfl hp_v0 dX12_goesAlong_74 rfl (z_iconst (nx := 78) (z := 0) G (R32c rfl) dX12_goesAlong_77 rfl (z_aload_n (nx := 79) (a := 0) G rfl (Or.inl rfl) dX12_goesAlong_78 rfl (b_getA (nx := 82) (k0 := 2) G hB fl_RX12_24 (Nat.le_of_ble_eq_true rfl) (Nat.le_of_ble_eq_true rfl) rfl hp_v0 dX12_goesAlong_79 rfl (z_sipush (nx := 85) (z := 169) G (R32c rfl) rfl dX12_goesAlong_82 rfl ?_)))))
    obtain ⟨hb, h⟩ := h
    refine z_iald (nx := 86) G (sh_12_2 _ hp_v0) hb.1 hb.2 dX12_goesAlong_85 rfl ?_
    obtain ⟨hb, h⟩ := h
    refine b_iast (nx := 87) G hB (sh_12_25 _ hp_v0) hb.1 hb.2 dX12_goesAlong_86 rfl (fun m_27 e_m_27 hB => ?_)
    have h := h m_27 e_m_27
    refine z_aload_n (nx := 88) (a := 0) G rfl (Or.inl rfl) dX12_goesAlong_87 rfl (b_getA (nx := 91) (k0 := 25) G hB fl_RX12_59 (Nat.le_of_ble_eq_true rfl) (Nat.le_of_ble_eq_true rfl) rfl hp_v0 dX12_goesAlong_88 rfl (z_iconst (nx := 92) (z := 1) G (R32c rfl) dX12_goesAlong_91 rfl (z_aload_n (nx := 93) (a := 0) G rfl (Or.inl rfl) dX12_goesAlong_92 rfl ?_)))
    refine b_callV0 (nx := 96) (zs := [v0]) (as := []) X hB (by decide) rfl hp_v0 SS_X12_prayers (am_ta am_tn) (Nat.le_of_ble_eq_true rfl) (Nat.le_of_ble_eq_true rfl) ml_RX12_133 iw_X12_prayers vw_X12_prayers cw_X12_prayers nw_RX12 pp_X12_prayers (Nat.le_of_ble_eq_true rfl) dX12_goesAlong_93 rfl (NM_X12_prayers hp_v0 h) (fun r_28 m_29 h hB => ?_)
    obtain ⟨hb, h⟩ := h
    refine b_iast (nx := 97) G hB (sh_12_25 _ hp_v0) hb.1 hb.2 dX12_goesAlong_96 rfl (fun m_30 e_m_30 hB => ?_)
    have h := h m_30 e_m_30
    refine z_aload_n (nx := 98) (a := 0) G rfl (Or.inl rfl) dX12_goesAlong_97 rfl (b_getA (nx := 101) (k0 := 25) G hB fl_RX12_59 (Nat.le_of_ble_eq_true rfl) (Nat.le_of_ble_eq_true rfl) rfl hp_v0 dX12_goesAlong_98 rfl (z_iconst (nx := 102) (z := 2) G (R32c rfl) dX12_goesAlong_101 rfl (z_aload_n (nx := 103) (a := 0) G rfl (Or.inl rfl) dX12_goesAlong_102 rfl ?_)))
    refine b_callV0 (nx := 106) (zs := [v0]) (as := []) X hB (by decide) rfl hp_v0 SS_X12_waiting (am_ta am_tn) (Nat.le_of_ble_eq_true rfl) (Nat.le_of_ble_eq_true rfl) ml_RX12_436 iw_X12_waiting vw_X12_waiting cw_X12_waiting nw_RX12 pp_X12_waiting (Nat.le_of_ble_eq_true rfl) dX12_goesAlong_103 rfl (NM_X12_waiting hp_v0 h) (fun r_31 m_32 h hB => ?_)
    obtain ⟨hb, h⟩ := h
    refine b_iast (nx := 107) G hB (sh_12_25 _ hp_v0) hb.1 hb.2 dX12_goesAlong_106 rfl (fun m_33 e_m_33 hB => ?_)
    have h := h m_33 e_m_33
    refine z_aload_n (nx := 108) (a := 0) G rfl (Or.inl rfl) dX12_goesAlong_107 rfl (b_getA (nx := 111) (k0 := 25) G hB fl_RX12_59 (Nat.le_of_ble_eq_true rfl) (Nat.le_of_ble_eq_true rfl) rfl hp_v0 dX12_goesAlong_108 rfl (z_iconst (nx := 112) (z := 3) G (R32c rfl) dX12_goesAlong_111 rfl (z_aload_n (nx := 113) (a := 0) G rfl (Or.inl rfl) dX12_goesAlong_112 rfl (b_getI (nx := 116) (k0 := 49) (t := 0) G fl_RX12_427 (Nat.le_of_ble_eq_true rfl) (Nat.le_of_ble_eq_true rfl) rfl hp_v0 dX12_goesAlong_113 rfl ?_))))
    obtain ⟨hb, h⟩ := h
    refine b_iast (nx := 117) G hB (sh_12_25 _ hp_v0) hb.1 hb.2 dX12_goesAlong_116 rfl (fun m_34 e_m_34 hB => ?_)
    have h := h m_34 e_m_34
    refine z_aload_n (nx := 118) (a := 0) G rfl (Or.inl rfl) dX12_goesAlong_117 rfl (z_aload_n (nx := 119) (a := 0) G rfl (Or.inl rfl) dX12_goesAlong_118 rfl (b_getI (nx := 122) (k0 := 50) (t := 0) G fl_RX12_430 (Nat.le_of_ble_eq_true rfl) (Nat.le_of_ble_eq_true rfl) rfl hp_v0 dX12_goesAlong_119 rfl ?_))
    refine b_put (nx := 125) (k0 := 22) (t := 0) G hB fl_RX12_281 (Nat.le_of_ble_eq_true rfl) (Nat.le_of_ble_eq_true rfl) rfl (fun h => nomatch h) rfl hp_v0 dX12_goesAlong_122 rfl (fun m_35 e_m_35 hB => ?_)
    have h := h m_35 e_m_35
    refine z_aload_n (nx := 126) (a := 0) G rfl (Or.inl rfl) dX12_goesAlong_125 rfl (z_aload_n (nx := 127) (a := 0) G rfl (Or.inl rfl) dX12_goesAlong_126 rfl (z_aload_n (nx := 128) (a := 0) G rfl (Or.inl rfl) dX12_goesAlong_127 rfl (b_getI (nx := 131) (k0 := 22) (t := 0) G fl_RX12_281 (Nat.le_of_ble_eq_true rfl) (Nat.le_of_ble_eq_true rfl) rfl hp_v0 dX12_goesAlong_128 rfl ?_)))
    refine b_callV0 (nx := 134) (zs := [v0, m_35 v0 22]) (as := [(0, m_35 v0 22)]) X hB (by decide) rfl hp_v0 SS_X12_codeAt (am_ta (am_ti am_tn)) (Nat.le_of_ble_eq_true rfl) (Nat.le_of_ble_eq_true rfl) ml_RX12_284 iw_X12_codeAt vw_X12_codeAt cw_X12_codeAt nw_RX12 pp_X12_codeAt (Nat.le_of_ble_eq_true rfl) dX12_goesAlong_131 rfl (NM_X12_codeAt hp_v0 h) (fun r_36 m_37 h hB => ?_)
    refine b_put (nx := 137) (k0 := 52) (t := 0) G hB fl_RX12_439 (Nat.le_of_ble_eq_true rfl) (Nat.le_of_ble_eq_true rfl) rfl (fun h => nomatch h) rfl hp_v0 dX12_goesAlong_134 rfl (fun m_38 e_m_38 hB => ?_)
    have h := h m_38 e_m_38
    refine z_aload_n (nx := 138) (a := 0) G rfl (Or.inl rfl) dX12_goesAlong_137 rfl (z_dup (nx := 139) G (fun h => nomatch h) dX12_goesAlong_138 rfl (b_getI (nx := 142) (k0 := 22) (t := 0) G fl_RX12_281 (Nat.le_of_ble_eq_true rfl) (Nat.le_of_ble_eq_true rfl) rfl hp_v0 dX12_goesAlong_139 rfl (z_iconst (nx := 143) (z := 1) G (R32c rfl) dX12_goesAlong_142 rfl (z_iadd (nx := 144) G dX12_goesAlong_143 rfl ?_))))
    refine b_put (nx := 147) (k0 := 22) (t := 0) G hB fl_RX12_281 (Nat.le_of_ble_eq_true rfl) (Nat.le_of_ble_eq_true rfl) rfl (fun h => nomatch h) rfl hp_v0 dX12_goesAlong_144 rfl (fun m_39 e_m_39 hB => ?_)
    have h := h m_39 e_m_39
    refine z_aload_n (nx := 148) (a := 0) G rfl (Or.inl rfl) dX12_goesAlong_147 rfl (z_iconst (nx := 149) (z := 1) G (R32c rfl) dX12_goesAlong_148 rfl ?_)
    refine b_put (nx := 152) (k0 := 53) (t := 0) G hB fl_RX12_442 (Nat.le_of_ble_eq_true rfl) (Nat.le_of_ble_eq_true rfl) rfl (fun h => nomatch h) ⟨rfl, (Or.inr rfl)⟩ hp_v0 dX12_goesAlong_149 rfl (fun m_40 e_m_40 hB => ?_)
    have h := h m_40 e_m_40
    refine z_aload_n (nx := 153) (a := 0) G rfl (Or.inl rfl) dX12_goesAlong_152 rfl (b_getI (nx := 156) (k0 := 52) (t := 0) G fl_RX12_439 (Nat.le_of_ble_eq_true rfl) (Nat.le_of_ble_eq_true rfl) rfl hp_v0 dX12_goesAlong_153 rfl (z_bipush (nx := 158) (z := 24) G (R32c rfl) rfl dX12_goesAlong_156 rfl ?_))
    refine z_icmp_ne (nx := 161) (tgt := 165) G dX12_goesAlong_158 (by decide) rfl (fun c => ?_) (fun c => ?_)
    · have h := h.1 c
      refine z_iconst (nx := 166) (z := 3) G (R32c rfl) dX12_goesAlong_165 rfl ?_
      exact b_fewer (loc2 := [(2, v0), (9, 0), (0, v2), (9, 0), (9, 0)]) (am_lk (am_lk (am_lk (am_lf (am_lk am_ln))))) (S_X12_goesAlong_J2 X hp_v0 hp_v2 hB h)
    · have h := h.2 c
      refine z_iconst (nx := 162) (z := 0) G (R32c rfl) dX12_goesAlong_161 rfl (z_goto (tgt := 166) G dX12_goesAlong_162 (by decide) ?_)
      exact b_fewer (loc2 := [(2, v0), (9, 0), (0, v2), (9, 0), (9, 0)]) (am_lk (am_lk (am_lk (am_lf (am_lk am_ln))))) (S_X12_goesAlong_J2 X hp_v0 hp_v2 hB h)
  · have h := h.2 c
    refine z_aload_n (nx := 43) (a := 0) G rfl (Or.inl rfl) dX12_goesAlong_42 rfl (z_iload_n (nx := 44) (a := 3) G rfl dX12_goesAlong_43 rfl (z_iconst (nx := 45) (z := 5) G (R32c rfl) dX12_goesAlong_44 rfl ?_))
    refine b_callV0 (nx := 48) (zs := [v0, v3, 5]) (as := [(0, v3), (0, 5)]) X hB (by decide) rfl hp_v0 SS_X12_fact (am_ta (am_ti (am_ti am_tn))) (Nat.le_of_ble_eq_true rfl) (Nat.le_of_ble_eq_true rfl) ml_RX12_141 iw_X12_fact vw_X12_fact cw_X12_fact nw_RX12 pp_X12_fact (Nat.le_of_ble_eq_true rfl) dX12_goesAlong_45 rfl (NM_X12_fact hp_v0 h) (fun r_41 m_42 h hB => ?_)
    refine z_iconst (nx := 49) (z := 1) G (R32c rfl) dX12_goesAlong_48 rfl ?_
    refine z_icmp_ne (nx := 52) (tgt := 67) G dX12_goesAlong_49 (by decide) rfl (fun c => ?_) (fun c => ?_)
    · have h := h.1 c
      exact b_fewer (loc2 := [(2, v0), (9, 0), (0, v2), (0, v3), (9, 0)]) (am_lk (am_lk (am_lk (am_lk (am_lk am_ln))))) (S_X12_goesAlong_J1 X hp_v0 hp_v2 hC34 hB h)
    · have h := h.2 c
      refine z_aload_n (nx := 53) (a := 0) G rfl (Or.inl rfl) dX12_goesAlong_52 rfl (b_getA (nx := 56) (k0 := 27) G hB fl_RX12_65 (Nat.le_of_ble_eq_true rfl) (Nat.le_of_ble_eq_true rfl) rfl hp_v0 dX12_goesAlong_53 rfl (z_aload_n (nx := 57) (a := 0) G rfl (Or.inl rfl) dX12_goesAlong_56 rfl (z_iload_n (nx := 58) (a := 3) G rfl dX12_goesAlong_57 rfl (z_iconst (nx := 59) (z := 1) G (R32c rfl) dX12_goesAlong_58 rfl ?_))))
      refine b_callV0 (nx := 62) (zs := [v0, v3, 1]) (as := [(0, v3), (0, 1)]) X hB (by decide) rfl hp_v0 SS_X12_fact (am_ta (am_ti (am_ti am_tn))) (Nat.le_of_ble_eq_true rfl) (Nat.le_of_ble_eq_true rfl) ml_RX12_141 iw_X12_fact vw_X12_fact cw_X12_fact nw_RX12 pp_X12_fact (Nat.le_of_ble_eq_true rfl) dX12_goesAlong_59 rfl (NM_X12_fact hp_v0 h) (fun r_43 m_44 h hB => ?_)
      refine z_dup2 (nx := 63) G (fun h => nomatch h) (fun h => nomatch h) dX12_goesAlong_62 rfl ?_
      obtain ⟨hb, h⟩ := h
      refine z_iald (nx := 64) G (sh_12_27 _ hp_v0) hb.1 hb.2 dX12_goesAlong_63 rfl ?_
      refine z_iconst (nx := 65) (z := 1) G (R32c rfl) dX12_goesAlong_64 rfl (z_iadd (nx := 66) G dX12_goesAlong_65 rfl ?_)
      obtain ⟨hb, h⟩ := h
      refine b_iast (nx := 67) G hB (sh_12_27 _ hp_v0) hb.1 hb.2 dX12_goesAlong_66 rfl (fun m_45 e_m_45 hB => ?_)
      have h := h m_45 e_m_45
      exact b_fewer (loc2 := [(2, v0), (9, 0), (0, v2), (0, v3), (9, 0)]) (am_lk (am_lk (am_lk (am_lk (am_lk am_ln))))) (S_X12_goesAlong_J1 X hp_v0 hp_v2 hC34 hB h)
theorem S_X12_goesAlong_L2 {F : am_F} {K : am_KK} {v0 : Int} {v2 : Int} {v3 : Int} {m : am_M} (X : am_Cx F cX12_goesAlong RX12 none 605 9 K) (hp_v0 : am_ob v0 12) (hp_v2 : v2 = 0 ∨ v2 = 1) (hB : am_Bt m) (h : M_X12_goesAlong_L2 v0 v2 v3 K m) : am_Z F 34 [] [(2, v0), (9, 0), (0, v2), (0, v3), (9, 0)] m 200 := by
  obtain ⟨I, ⟨j, hj⟩, hI⟩ := h
  have key : ∀ j v3 m, I j v3 m → am_Bt m → am_Z F 34 [] [(2, v0), (9, 0), (0, v2), (0, v3), (9, 0)] m 200 := by
    intro j
    induction j using Nat.strongRecOn with
    | ind j ih =>
      intro v3 m hj hB
      exact S_X12_goesAlong_L2B X hp_v0 hp_v2 (fun v3' m' hc hB' => by
        obtain ⟨j', g1, g2⟩ := hc
        exact ih j' g1 v3' m' g2 hB') hB (hI j v3 m hj)
  exact key j _ _ hj hB
set_option maxRecDepth 20000 in
set_option maxHeartbeats 4000000 in
theorem S_X12_goesAlong_L1B {F : am_F} {K : am_KK} {v0 : Int} {v2 : Int} {v3 : Int} {C13 : Int → am_M → Prop} {m : am_M} (X : am_Cx F cX12_goesAlong RX12 none 605 9 K) (hp_v0 : am_ob v0 12) (hp_v2 : v2 = 0 ∨ v2 = 1) (hC13 : ∀ w3 m, C13 w3 m → am_Bt m → am_Z F 13 [] [(2, v0), (9, 0), (0, v2), (0, w3), (9, 0)] m 200) (hB : am_Bt m) (h : M_X12_goesAlong_L1B v0 v2 v3 C13 K m) : am_Z F 13 [] [(2, v0), (9, 0), (0, v2), (0, v3), (9, 0)] m 200 := by
  have G := X.G
  unfold M_X12_goesAlong_L1B at h
  refine z_iload_n (nx := 14) (a := 3) G rfl dX12_goesAlong_13 rfl (z_bipush (nx := 16) (z := 8) G (R32c rfl) rfl dX12_goesAlong_14 rfl ?_)
  refine z_icmp_ge (nx := 19) (tgt := 32) G dX12_goesAlong_16 (by decide) rfl (fun c => ?_) (fun c => ?_)
  · have h := h.1 c
    refine z_iconst (nx := 33) (z := 0) G (R32c rfl) dX12_goesAlong_32 rfl (b_storeE_n (nx := 34) (a := 3) (loc2 := [(2, v0), (9, 0), (0, v2), (0, 0), (9, 0)]) G rfl (Nat.le_of_ble_eq_true rfl) (am_pl1 rfl (fun h => nomatch h)) dX12_goesAlong_33 rfl ?_)
    exact b_fewer (loc2 := [(2, v0), (9, 0), (0, v2), (0, 0), (9, 0)]) (am_lk (am_lk (am_lk (am_lk (am_lk am_ln))))) (S_X12_goesAlong_L2 X hp_v0 hp_v2 hB h)
  · have h := h.2 c
    refine z_aload_n (nx := 20) (a := 0) G rfl (Or.inl rfl) dX12_goesAlong_19 rfl (b_getA (nx := 23) (k0 := 27) G hB fl_RX12_65 (Nat.le_of_ble_eq_true rfl) (Nat.le_of_ble_eq_true rfl) rfl hp_v0 dX12_goesAlong_20 rfl (z_iload_n (nx := 24) (a := 3) G rfl dX12_goesAlong_23 rfl (z_iconst (nx := 25) (z := 0) G (R32c rfl) dX12_goesAlong_24 rfl ?_)))
    obtain ⟨hb, h⟩ := h
    refine b_iast (nx := 26) G hB (sh_12_27 _ hp_v0) hb.1 hb.2 dX12_goesAlong_25 rfl (fun m_46 e_m_46 hB => ?_)
    have h := h m_46 e_m_46
    refine b_iinc (nx := 29) (a := 3) (loc2 := fun v3_47 => [(2, v0), (9, 0), (0, v2), (0, v3_47), (9, 0)]) G (fun _ => rfl) rfl (am_pl1 rfl (fun h => nomatch h)) dX12_goesAlong_26 rfl (fun v3_47 e_v3_47 => ?_)
    have h := h v3_47 e_v3_47
    refine z_goto (tgt := 13) G dX12_goesAlong_29 (by decide) ?_
    exact b_fewer (loc2 := [(2, v0), (9, 0), (0, v2), (0, v3_47), (9, 0)]) (am_lk (am_lk (am_lk (am_lk (am_lk am_ln))))) (hC13 _ _ h hB)
theorem S_X12_goesAlong_L1 {F : am_F} {K : am_KK} {v0 : Int} {v2 : Int} {v3 : Int} {m : am_M} (X : am_Cx F cX12_goesAlong RX12 none 605 9 K) (hp_v0 : am_ob v0 12) (hp_v2 : v2 = 0 ∨ v2 = 1) (hB : am_Bt m) (h : M_X12_goesAlong_L1 v0 v2 v3 K m) : am_Z F 13 [] [(2, v0), (9, 0), (0, v2), (0, v3), (9, 0)] m 200 := by
  obtain ⟨I, ⟨j, hj⟩, hI⟩ := h
  have key : ∀ j v3 m, I j v3 m → am_Bt m → am_Z F 13 [] [(2, v0), (9, 0), (0, v2), (0, v3), (9, 0)] m 200 := by
    intro j
    induction j using Nat.strongRecOn with
    | ind j ih =>
      intro v3 m hj hB
      exact S_X12_goesAlong_L1B X hp_v0 hp_v2 (fun v3' m' hc hB' => by
        obtain ⟨j', g1, g2⟩ := hc
        exact ih j' g1 v3' m' g2 hB') hB (hI j v3 m hj)
  exact key j _ _ hj hB
set_option maxRecDepth 20000 in
set_option maxHeartbeats 4000000 in
theorem S_X12_goesAlong {F : am_F} {K : am_KK} {v0 : Int} {v1 : Int} {v2 : Int} {m : am_M} (X : am_Cx F cX12_goesAlong RX12 none 605 9 K) (hp_v0 : am_ob v0 12) (hp_v2 : (v2 = 0 ∨ v2 = 1)) (hB : am_Bt m) (h : M_X12_goesAlong v0 v1 v2 K m) : am_Z F 0 [] [(2, v0), (0, v1), (0, v2), (9, 0), (9, 0)] m 200 := by
  have G := X.G
  unfold M_X12_goesAlong at h
  refine z_aload_n (nx := 1) (a := 0) G rfl (Or.inl rfl) dX12_goesAlong_0 rfl (z_bipush (nx := 3) (z := 15) G (R32c rfl) rfl dX12_goesAlong_1 rfl ?_)
  refine b_put (nx := 6) (k0 := 8) (t := 0) G hB fl_RX12_253 (Nat.le_of_ble_eq_true rfl) (Nat.le_of_ble_eq_true rfl) rfl (fun h => nomatch h) rfl hp_v0 dX12_goesAlong_3 rfl (fun m_48 e_m_48 hB => ?_)
  have h := h m_48 e_m_48
  refine z_aload_n (nx := 7) (a := 0) G rfl (Or.inl rfl) dX12_goesAlong_6 rfl (z_iload_n (nx := 8) (a := 1) G rfl dX12_goesAlong_7 rfl ?_)
  refine b_put (nx := 11) (k0 := 23) (t := 0) G hB fl_RX12_278 (Nat.le_of_ble_eq_true rfl) (Nat.le_of_ble_eq_true rfl) rfl (fun h => nomatch h) rfl hp_v0 dX12_goesAlong_8 rfl (fun m_49 e_m_49 hB => ?_)
  have h := h m_49 e_m_49
  refine z_iconst (nx := 12) (z := 0) G (R32c rfl) dX12_goesAlong_11 rfl (b_storeE_n (nx := 13) (a := 3) (loc2 := [(2, v0), (0, v1), (0, v2), (0, 0), (9, 0)]) G rfl (Nat.le_of_ble_eq_true rfl) (am_pl1 rfl (fun h => nomatch h)) dX12_goesAlong_12 rfl ?_)
  exact b_fewer (loc2 := [(2, v0), (9, 0), (0, v2), (0, 0), (9, 0)]) (am_lk (am_lf (am_lk (am_lk (am_lk am_ln))))) (S_X12_goesAlong_L1 X hp_v0 hp_v2 hB h)
theorem NM_X12_goesAlong {v0 : Int} {v1 : Int} {v2 : Int} {K : am_KK} {m : am_M} (hp_v0 : am_ob v0 12) (hp_v2 : (v2 = 0 ∨ v2 = 1)) (h : M_X12_goesAlong v0 v1 v2 K m) : N_X12_goesAlong [v0, v1, v2] K m := ⟨hp_v0, hp_v2, h⟩
theorem SS_X12_goesAlong : am_Snd yX12_goesAlong cX12_goesAlong 5 none 0 605 (am_L [2, 0, 5] 9 N_X12_goesAlong) := by
  refine am_SB (by decide +kernel) (Nat.le_of_ble_eq_true rfl) (fun F zs as K m X ht hB hM => ?_)
  obtain ⟨v0, zs, as, rfl, rfl, hz0, ht⟩ := am_inv ht
  obtain ⟨v1, zs, as, rfl, rfl, hz1, ht⟩ := am_inv ht
  obtain ⟨v2, zs, as, rfl, rfl, hz2, ht⟩ := am_inv ht
  obtain ⟨rfl, rfl⟩ := am_inv0 ht
  obtain ⟨hp_v0, hp_v2, hM⟩ := hM
  exact S_X12_goesAlong X hp_v0 hp_v2 hB hM
set_option maxRecDepth 20000 in
set_option maxHeartbeats 4000000 in
theorem S_X12_small {F : am_F} {K : am_KK} {v0 : Int} {m : am_M} (X : am_Cx F cX12_small RX12 (some .int) 1 0 K) (hB : am_Bt m) (h : M_X12_small v0 K m) : am_Z F 0 [] [(1, v0), (9, 0)] m 200 := by
  have G := X.G
  unfold M_X12_small at h
  refine z_lload_n (nx := 1) (a := 0) G rfl dX12_small_0 rfl (z_lconst (nx := 2) (z := 0) G (R64c rfl) rfl dX12_small_1 rfl (z_lcmp (nx := 3) G dX12_small_2 rfl ?_))
  refine z_if_lt (nx := 6) (tgt := 14) G dX12_small_3 (by decide) rfl (fun c => ?_) (fun c => ?_)
  · have h := h.1 c
    refine z_iconst (nx := 15) (z := (-1)) G (R32c rfl) dX12_small_14 rfl (z_goto (tgt := 20) G dX12_small_15 (by decide) ?_)
    exact b_ireturn X hB dX12_small_20 h
  · have h := h.2 c
    refine z_lload_n (nx := 7) (a := 0) G rfl dX12_small_6 rfl (z_ldc2 (nx := 10) (z := 1000000) G (R64c rfl) rfl kl_RX12_451 dX12_small_7 rfl (z_lcmp (nx := 11) G dX12_small_10 rfl ?_))
    refine z_if_le (nx := 14) (tgt := 18) G dX12_small_11 (by decide) rfl (fun c => ?_) (fun c => ?_)
    · have h := h.1 c
      refine z_lload_n (nx := 19) (a := 0) G rfl dX12_small_18 rfl (z_l2i (nx := 20) G dX12_small_19 rfl ?_)
      exact b_ireturn X hB dX12_small_20 h
    · have h := h.2 c
      refine z_iconst (nx := 15) (z := (-1)) G (R32c rfl) dX12_small_14 rfl (z_goto (tgt := 20) G dX12_small_15 (by decide) ?_)
      exact b_ireturn X hB dX12_small_20 h
theorem NM_X12_small {v0 : Int} {K : am_KK} {m : am_M} (h : M_X12_small v0 K m) : N_X12_small [v0] K m := h
theorem SS_X12_small : am_Snd yX12_small cX12_small 2 (some .int) 0 1 (am_L [1] 0 N_X12_small) := by
  refine am_SB (by decide +kernel) (Nat.le_of_ble_eq_true rfl) (fun F zs as K m X ht hB hM => ?_)
  obtain ⟨v0, zs, as, rfl, rfl, hz0, ht⟩ := am_inv ht
  obtain ⟨rfl, rfl⟩ := am_inv0 ht
  exact S_X12_small X hB hM
set_option maxRecDepth 20000 in
set_option maxHeartbeats 4000000 in
theorem S_X12_runs_J2 {F : am_F} {K : am_KK} {v0 : Int} {v1 : Int} {v2 : Int} {v3 : Int} {v4 : Int} {C19 : Int → am_M → Prop} {m : am_M} (X : am_Cx F cX12_runs RX12 (some .int) 610 0 K) (hp_v0 : am_ob v0 12) (hC19 : ∀ w4 m, C19 w4 m → am_Bt m → am_Z F 19 [] [(2, v0), (0, v1), (0, v2), (0, v3), (0, w4), (9, 0)] m 200) (hB : am_Bt m) (h : M_X12_runs_J2 v0 v1 v2 v3 v4 C19 K m) : am_Z F 119 [] [(2, v0), (0, v1), (0, v2), (0, v3), (0, v4), (9, 0)] m 200 := by
  have G := X.G
  unfold M_X12_runs_J2 at h
  refine b_iinc (nx := 122) (a := 4) (loc2 := fun v4_1 => [(2, v0), (0, v1), (0, v2), (0, v3), (0, v4_1), (9, 0)]) G (fun _ => rfl) rfl (am_pl1 rfl (fun h => nomatch h)) dX12_runs_119 rfl (fun v4_1 e_v4_1 => ?_)
  have h := h v4_1 e_v4_1
  refine z_goto (tgt := 19) G dX12_runs_122 (by decide) ?_
  exact b_fewer (loc2 := [(2, v0), (0, v1), (0, v2), (0, v3), (0, v4_1), (9, 0)]) (am_lk (am_lk (am_lk (am_lk (am_lk (am_lk am_ln)))))) (hC19 _ _ h hB)
set_option maxRecDepth 20000 in
set_option maxHeartbeats 4000000 in
theorem S_X12_runs_J1 {F : am_F} {K : am_KK} {v0 : Int} {v1 : Int} {v2 : Int} {v3 : Int} {v4 : Int} {s0 : Int} {C19 : Int → am_M → Prop} {m : am_M} (X : am_Cx F cX12_runs RX12 (some .int) 610 0 K) (hp_v0 : am_ob v0 12) (hC19 : ∀ w4 m, C19 w4 m → am_Bt m → am_Z F 19 [] [(2, v0), (0, v1), (0, v2), (0, v3), (0, w4), (9, 0)] m 200) (hB : am_Bt m) (h : M_X12_runs_J1 v0 v1 v2 v3 v4 s0 C19 K m) : am_Z F 99 [(0, s0)] [(2, v0), (0, v1), (0, v2), (0, v3), (0, v4), (9, 0)] m 200 := by
  have G := X.G
  unfold M_X12_runs_J1 at h
  refine b_storeE (nx := 101) (a := 5) (loc2 := [(2, v0), (0, v1), (0, v2), (0, v3), (0, v4), (0, s0)]) G rfl (Nat.le_of_ble_eq_true rfl) (am_pl1 rfl (fun h => nomatch h)) dX12_runs_99 rfl (z_iload (nx := 103) (a := 5) G rfl dX12_runs_101 rfl ?_)
  refine z_if_ge (nx := 106) (tgt := 109) G dX12_runs_103 (by decide) rfl (fun c => ?_) (fun c => ?_)
  · have h := h.1 c
    refine z_aload_n (nx := 110) (a := 0) G rfl (Or.inl rfl) dX12_runs_109 rfl (z_dup (nx := 111) G (fun h => nomatch h) dX12_runs_110 rfl (b_getI (nx := 114) (k0 := 49) (t := 0) G fl_RX12_427 (Nat.le_of_ble_eq_true rfl) (Nat.le_of_ble_eq_true rfl) rfl hp_v0 dX12_runs_111 rfl (z_iconst (nx := 115) (z := 1) G (R32c rfl) dX12_runs_114 rfl (z_iadd (nx := 116) G dX12_runs_115 rfl ?_))))
    refine b_put (nx := 119) (k0 := 49) (t := 0) G hB fl_RX12_427 (Nat.le_of_ble_eq_true rfl) (Nat.le_of_ble_eq_true rfl) rfl (fun h => nomatch h) rfl hp_v0 dX12_runs_116 rfl (fun m_2 e_m_2 hB => ?_)
    have h := h m_2 e_m_2
    exact b_fewer (loc2 := [(2, v0), (0, v1), (0, v2), (0, v3), (0, v4), (9, 0)]) (am_lk (am_lk (am_lk (am_lk (am_lk (am_lf am_ln)))))) (S_X12_runs_J2 X hp_v0 hC19 hB h)
  · have h := h.2 c
    refine z_iload (nx := 108) (a := 5) G rfl dX12_runs_106 rfl ?_
    exact b_ireturn X hB dX12_runs_108 h
set_option maxRecDepth 20000 in
set_option maxHeartbeats 4000000 in
theorem S_X12_runs_L1B {F : am_F} {K : am_KK} {v0 : Int} {v1 : Int} {v2 : Int} {v3 : Int} {v4 : Int} {C19 : Int → am_M → Prop} {m : am_M} (X : am_Cx F cX12_runs RX12 (some .int) 610 0 K) (hp_v0 : am_ob v0 12) (hC19 : ∀ w4 m, C19 w4 m → am_Bt m → am_Z F 19 [] [(2, v0), (0, v1), (0, v2), (0, v3), (0, w4), (9, 0)] m 200) (hB : am_Bt m) (h : M_X12_runs_L1B v0 v1 v2 v3 v4 C19 K m) : am_Z F 19 [] [(2, v0), (0, v1), (0, v2), (0, v3), (0, v4), (9, 0)] m 200 := by
  have G := X.G
  unfold M_X12_runs_L1B at h
  refine z_iload (nx := 21) (a := 4) G rfl dX12_runs_19 rfl (z_iload_n (nx := 22) (a := 2) G rfl dX12_runs_21 rfl ?_)
  refine z_icmp_ge (nx := 25) (tgt := 125) G dX12_runs_22 (by decide) rfl (fun c => ?_) (fun c => ?_)
  · have h := h.1 c
    refine z_aload_n (nx := 126) (a := 0) G rfl (Or.inl rfl) dX12_runs_125 rfl (z_iload_n (nx := 127) (a := 3) G rfl dX12_runs_126 rfl ?_)
    refine b_put (nx := 130) (k0 := 50) (t := 0) G hB fl_RX12_430 (Nat.le_of_ble_eq_true rfl) (Nat.le_of_ble_eq_true rfl) rfl (fun h => nomatch h) rfl hp_v0 dX12_runs_127 rfl (fun m_3 e_m_3 hB => ?_)
    have h := h m_3 e_m_3
    refine z_iconst (nx := 131) (z := 0) G (R32c rfl) dX12_runs_130 rfl ?_
    exact b_ireturn X hB dX12_runs_131 h
  · have h := h.2 c
    refine z_aload_n (nx := 26) (a := 0) G rfl (Or.inl rfl) dX12_runs_25 rfl (z_iload_n (nx := 27) (a := 1) G rfl dX12_runs_26 rfl (z_iconst (nx := 28) (z := 1) G (R32c rfl) dX12_runs_27 rfl ?_))
    refine b_callV9 (nx := 31) (zs := [v0, v1, 1]) (as := [(0, v1), (0, 1)]) X hB (by decide) rfl hp_v0 SS_X12_goesAlong (am_ta (am_ti (am_tz (Or.inr rfl) am_tn))) (Nat.le_of_ble_eq_true rfl) (Nat.le_of_ble_eq_true rfl) ml_RX12_453 iw_X12_goesAlong vw_X12_goesAlong cw_X12_goesAlong nw_RX12 pp_X12_goesAlong (Nat.le_of_ble_eq_true rfl) dX12_runs_28 rfl (NM_X12_goesAlong hp_v0 (Or.inr rfl) h) (fun r_4 m_5 h hB => ?_)
    refine z_aload_n (nx := 32) (a := 0) G rfl (Or.inl rfl) dX12_runs_31 rfl (b_getI (nx := 35) (k0 := 54) (t := 0) G fl_RX12_448 (Nat.le_of_ble_eq_true rfl) (Nat.le_of_ble_eq_true rfl) rfl hp_v0 dX12_runs_32 rfl ?_)
    refine z_if_ne (nx := 38) (tgt := 41) G dX12_runs_35 (by decide) rfl (fun c => ?_) (fun c => ?_)
    · have h := h.1 c
      refine z_aload_n (nx := 42) (a := 0) G rfl (Or.inl rfl) dX12_runs_41 rfl (b_getI (nx := 45) (k0 := 53) (t := 0) G fl_RX12_442 (Nat.le_of_ble_eq_true rfl) (Nat.le_of_ble_eq_true rfl) rfl hp_v0 dX12_runs_42 rfl ?_)
      refine z_if_ne (nx := 48) (tgt := 51) G dX12_runs_45 (by decide) rfl (fun c => ?_) (fun c => ?_)
      · have h := h.1 c
        refine z_aload_n (nx := 52) (a := 0) G rfl (Or.inl rfl) dX12_runs_51 rfl (b_getI (nx := 55) (k0 := 52) (t := 0) G fl_RX12_439 (Nat.le_of_ble_eq_true rfl) (Nat.le_of_ble_eq_true rfl) rfl hp_v0 dX12_runs_52 rfl (z_bipush (nx := 57) (z := 24) G (R32c rfl) rfl dX12_runs_55 rfl ?_))
        refine z_icmp_ne (nx := 60) (tgt := 67) G dX12_runs_57 (by decide) rfl (fun c => ?_) (fun c => ?_)
        · have h := h.1 c
          refine z_aload_n (nx := 68) (a := 0) G rfl (Or.inl rfl) dX12_runs_67 rfl (z_aload_n (nx := 69) (a := 0) G rfl (Or.inl rfl) dX12_runs_68 rfl (b_getA (nx := 72) (k0 := 55) G hB fl_RX12_113 (Nat.le_of_ble_eq_true rfl) (Nat.le_of_ble_eq_true rfl) rfl hp_v0 dX12_runs_69 rfl (z_iconst (nx := 73) (z := 0) G (R32c rfl) dX12_runs_72 rfl ?_)))
          obtain ⟨hb, h⟩ := h
          refine z_lald (nx := 74) G (sh_12_55 _ hp_v0) hb.1 hb.2 dX12_runs_73 rfl ?_
          refine b_callS0 (nx := 77) (zs := [m_5 (am_rfv v0 55) 0]) (as := [(1, m_5 (am_rfv v0 55) 0)]) X hB SS_X12_small (am_tj am_tn) (Nat.le_of_ble_eq_true rfl) (Nat.le_of_ble_eq_true rfl) ml_RX12_457 sw_X12_small (am_plainC 12 (by decide)) cw_X12_small nw_RX12 pp_X12_small (Nat.le_of_ble_eq_true rfl) dX12_runs_74 rfl (NM_X12_small h) (fun r_6 m_7 h hB => ?_)
          refine z_aload_n (nx := 78) (a := 0) G rfl (Or.inl rfl) dX12_runs_77 rfl (b_getA (nx := 81) (k0 := 55) G hB fl_RX12_113 (Nat.le_of_ble_eq_true rfl) (Nat.le_of_ble_eq_true rfl) rfl hp_v0 dX12_runs_78 rfl (z_iconst (nx := 82) (z := 1) G (R32c rfl) dX12_runs_81 rfl ?_))
          obtain ⟨hb, h⟩ := h
          refine z_lald (nx := 83) G (sh_12_55 _ hp_v0) hb.1 hb.2 dX12_runs_82 rfl ?_
          refine b_callS0 (nx := 86) (zs := [m_7 (am_rfv v0 55) 1]) (as := [(1, m_7 (am_rfv v0 55) 1)]) X hB SS_X12_small (am_tj am_tn) (Nat.le_of_ble_eq_true rfl) (Nat.le_of_ble_eq_true rfl) ml_RX12_457 sw_X12_small (am_plainC 12 (by decide)) cw_X12_small nw_RX12 pp_X12_small (Nat.le_of_ble_eq_true rfl) dX12_runs_83 rfl (NM_X12_small h) (fun r_8 m_9 h hB => ?_)
          refine z_aload_n (nx := 87) (a := 0) G rfl (Or.inl rfl) dX12_runs_86 rfl (b_getA (nx := 90) (k0 := 55) G hB fl_RX12_113 (Nat.le_of_ble_eq_true rfl) (Nat.le_of_ble_eq_true rfl) rfl hp_v0 dX12_runs_87 rfl (z_iconst (nx := 91) (z := 2) G (R32c rfl) dX12_runs_90 rfl ?_))
          obtain ⟨hb, h⟩ := h
          refine z_lald (nx := 92) G (sh_12_55 _ hp_v0) hb.1 hb.2 dX12_runs_91 rfl ?_
          refine b_callS0 (nx := 95) (zs := [m_9 (am_rfv v0 55) 2]) (as := [(1, m_9 (am_rfv v0 55) 2)]) X hB SS_X12_small (am_tj am_tn) (Nat.le_of_ble_eq_true rfl) (Nat.le_of_ble_eq_true rfl) ml_RX12_457 sw_X12_small (am_plainC 12 (by decide)) cw_X12_small nw_RX12 pp_X12_small (Nat.le_of_ble_eq_true rfl) dX12_runs_92 rfl (NM_X12_small h) (fun r_10 m_11 h hB => ?_)
          refine z_iconst (nx := 96) (z := 1) G (R32c rfl) dX12_runs_95 rfl ?_
          refine b_callV0 (nx := 99) (zs := [v0, r_6, r_8, r_10, 1]) (as := [(0, r_6), (0, r_8), (0, r_10), (0, 1)]) X hB (by decide) rfl hp_v0 SS_X12_praysKept (am_ta (am_ti (am_ti (am_ti (am_ti am_tn))))) (Nat.le_of_ble_eq_true rfl) (Nat.le_of_ble_eq_true rfl) ml_RX12_382 iw_X12_praysKept vw_X12_praysKept cw_X12_praysKept nw_RX12 pp_X12_praysKept (Nat.le_of_ble_eq_true rfl) dX12_runs_96 rfl (NM_X12_praysKept hp_v0 h) (fun r_12 m_13 h hB => ?_)
          exact b_fewer (loc2 := [(2, v0), (0, v1), (0, v2), (0, v3), (0, v4), (9, 0)]) (am_lk (am_lk (am_lk (am_lk (am_lk (am_lk am_ln)))))) (S_X12_runs_J1 X hp_v0 hC19 hB h)
        · have h := h.2 c
          refine z_aload_n (nx := 61) (a := 0) G rfl (Or.inl rfl) dX12_runs_60 rfl ?_
          refine b_callV0 (nx := 64) (zs := [v0]) (as := []) X hB (by decide) rfl hp_v0 SS_X12_dawnsKept (am_ta am_tn) (Nat.le_of_ble_eq_true rfl) (Nat.le_of_ble_eq_true rfl) ml_RX12_388 iw_X12_dawnsKept vw_X12_dawnsKept cw_X12_dawnsKept nw_RX12 pp_X12_dawnsKept (Nat.le_of_ble_eq_true rfl) dX12_runs_61 rfl (NM_X12_dawnsKept hp_v0 h) (fun r_14 m_15 h hB => ?_)
          refine z_goto (tgt := 99) G dX12_runs_64 (by decide) ?_
          exact b_fewer (loc2 := [(2, v0), (0, v1), (0, v2), (0, v3), (0, v4), (9, 0)]) (am_lk (am_lk (am_lk (am_lk (am_lk (am_lk am_ln)))))) (S_X12_runs_J1 X hp_v0 hC19 hB h)
      · have h := h.2 c
        refine z_bipush (nx := 50) (z := (-3)) G (R32c rfl) rfl dX12_runs_48 rfl ?_
        exact b_ireturn X hB dX12_runs_50 h
    · have h := h.2 c
      refine z_goto (tgt := 119) G dX12_runs_38 (by decide) ?_
      exact b_fewer (loc2 := [(2, v0), (0, v1), (0, v2), (0, v3), (0, v4), (9, 0)]) (am_lk (am_lk (am_lk (am_lk (am_lk (am_lk am_ln)))))) (S_X12_runs_J2 X hp_v0 hC19 hB h)
theorem S_X12_runs_L1 {F : am_F} {K : am_KK} {v0 : Int} {v1 : Int} {v2 : Int} {v3 : Int} {v4 : Int} {m : am_M} (X : am_Cx F cX12_runs RX12 (some .int) 610 0 K) (hp_v0 : am_ob v0 12) (hB : am_Bt m) (h : M_X12_runs_L1 v0 v1 v2 v3 v4 K m) : am_Z F 19 [] [(2, v0), (0, v1), (0, v2), (0, v3), (0, v4), (9, 0)] m 200 := by
  obtain ⟨I, ⟨j, hj⟩, hI⟩ := h
  have key : ∀ j v4 m, I j v4 m → am_Bt m → am_Z F 19 [] [(2, v0), (0, v1), (0, v2), (0, v3), (0, v4), (9, 0)] m 200 := by
    intro j
    induction j using Nat.strongRecOn with
    | ind j ih =>
      intro v4 m hj hB
      exact S_X12_runs_L1B X hp_v0 (fun v4' m' hc hB' => by
        obtain ⟨j', g1, g2⟩ := hc
        exact ih j' g1 v4' m' g2 hB') hB (hI j v4 m hj)
  exact key j _ _ hj hB
set_option maxRecDepth 20000 in
set_option maxHeartbeats 4000000 in
theorem S_X12_runs {F : am_F} {K : am_KK} {v0 : Int} {v1 : Int} {m : am_M} (X : am_Cx F cX12_runs RX12 (some .int) 610 0 K) (hp_v0 : am_ob v0 12) (hB : am_Bt m) (h : M_X12_runs v0 v1 K m) : am_Z F 0 [] [(2, v0), (0, v1), (9, 0), (9, 0), (9, 0), (9, 0)] m 200 := by
  have G := X.G
  unfold M_X12_runs at h
  refine z_aload_n (nx := 1) (a := 0) G rfl (Or.inl rfl) dX12_runs_0 rfl (z_iload_n (nx := 2) (a := 1) G rfl dX12_runs_1 rfl (z_iconst (nx := 3) (z := 0) G (R32c rfl) dX12_runs_2 rfl ?_))
  refine b_callV9 (nx := 6) (zs := [v0, v1, 0]) (as := [(0, v1), (0, 0)]) X hB (by decide) rfl hp_v0 SS_X12_goesAlong (am_ta (am_ti (am_tz (Or.inl rfl) am_tn))) (Nat.le_of_ble_eq_true rfl) (Nat.le_of_ble_eq_true rfl) ml_RX12_453 iw_X12_goesAlong vw_X12_goesAlong cw_X12_goesAlong nw_RX12 pp_X12_goesAlong (Nat.le_of_ble_eq_true rfl) dX12_runs_3 rfl (NM_X12_goesAlong hp_v0 (Or.inl rfl) h) (fun r_16 m_17 h hB => ?_)
  refine z_aload_n (nx := 7) (a := 0) G rfl (Or.inl rfl) dX12_runs_6 rfl (b_getI (nx := 10) (k0 := 51) (t := 0) G fl_RX12_445 (Nat.le_of_ble_eq_true rfl) (Nat.le_of_ble_eq_true rfl) rfl hp_v0 dX12_runs_7 rfl ?_)
  refine b_store_n (nx := 11) (a := 2) (loc2 := fun v2_18 => [(2, v0), (0, v1), (0, v2_18), (9, 0), (9, 0), (9, 0)]) G (fun _ => rfl) (Nat.le_of_ble_eq_true rfl) (am_pl1 rfl (fun h => nomatch h)) dX12_runs_10 rfl (fun v2_18 e_v2_18 => ?_)
  have h := h v2_18 e_v2_18
  refine z_aload_n (nx := 12) (a := 0) G rfl (Or.inl rfl) dX12_runs_11 rfl (b_getI (nx := 15) (k0 := 22) (t := 0) G fl_RX12_281 (Nat.le_of_ble_eq_true rfl) (Nat.le_of_ble_eq_true rfl) rfl hp_v0 dX12_runs_12 rfl ?_)
  refine b_store_n (nx := 16) (a := 3) (loc2 := fun v3_19 => [(2, v0), (0, v1), (0, v2_18), (0, v3_19), (9, 0), (9, 0)]) G (fun _ => rfl) (Nat.le_of_ble_eq_true rfl) (am_pl1 rfl (fun h => nomatch h)) dX12_runs_15 rfl (fun v3_19 e_v3_19 => ?_)
  have h := h v3_19 e_v3_19
  refine z_iconst (nx := 17) (z := 0) G (R32c rfl) dX12_runs_16 rfl (b_storeE (nx := 19) (a := 4) (loc2 := [(2, v0), (0, v1), (0, v2_18), (0, v3_19), (0, 0), (9, 0)]) G rfl (Nat.le_of_ble_eq_true rfl) (am_pl1 rfl (fun h => nomatch h)) dX12_runs_17 rfl ?_)
  exact b_fewer (loc2 := [(2, v0), (0, v1), (0, v2_18), (0, v3_19), (0, 0), (9, 0)]) (am_lk (am_lk (am_lk (am_lk (am_lk (am_lk am_ln)))))) (S_X12_runs_L1 X hp_v0 hB h)
theorem NM_X12_runs {v0 : Int} {v1 : Int} {K : am_KK} {m : am_M} (hp_v0 : am_ob v0 12) (h : M_X12_runs v0 v1 K m) : N_X12_runs [v0, v1] K m := ⟨hp_v0, h⟩
theorem SS_X12_runs : am_Snd yX12_runs cX12_runs 6 (some .int) 0 610 (am_L [2, 0] 0 N_X12_runs) := by
  refine am_SB (by decide +kernel) (Nat.le_of_ble_eq_true rfl) (fun F zs as K m X ht hB hM => ?_)
  obtain ⟨v0, zs, as, rfl, rfl, hz0, ht⟩ := am_inv ht
  obtain ⟨v1, zs, as, rfl, rfl, hz1, ht⟩ := am_inv ht
  obtain ⟨rfl, rfl⟩ := am_inv0 ht
  obtain ⟨hp_v0, hM⟩ := hM
  exact S_X12_runs X hp_v0 hB hM
set_option maxRecDepth 20000 in
set_option maxHeartbeats 4000000 in
theorem S_X12_orders_J2 {F : am_F} {K : am_KK} {s0 : Int} {s1 : Int} {m : am_M} (X : am_Cx F cX12_orders RX12 (some .int) 611 0 K) (hp_s0 : am_ob s0 12) (hB : am_Bt m) (h : M_X12_orders_J2 s0 s1 K m) : am_Z F 221 [(0, s1), (2, s0)] [(9, 0), (9, 0), (9, 0), (9, 0), (9, 0), (9, 0)] m 200 := by
  have G := X.G
  unfold M_X12_orders_J2 at h
  refine b_callV0 (nx := 224) (zs := [s0, s1]) (as := [(0, s1)]) X hB (by decide) rfl hp_s0 SS_X12_refuses (am_ta (am_ti am_tn)) (Nat.le_of_ble_eq_true rfl) (Nat.le_of_ble_eq_true rfl) ml_RX12_127 iw_X12_refuses vw_X12_refuses cw_X12_refuses nw_RX12 pp_X12_refuses (Nat.le_of_ble_eq_true rfl) dX12_orders_221 rfl (NM_X12_refuses hp_s0 h) (fun r_1 m_2 h hB => ?_)
  exact b_ireturn X hB dX12_orders_224 h
set_option maxRecDepth 20000 in
set_option maxHeartbeats 4000000 in
theorem S_X12_orders_L4B {F : am_F} {K : am_KK} {v0 : Int} {v1 : Int} {v3 : Int} {v4 : Int} {v5 : Int} {C168 : Int → am_M → Prop} {m : am_M} (X : am_Cx F cX12_orders RX12 (some .int) 611 0 K) (hp_v0 : am_ob v0 12) (hC168 : ∀ w5 m, C168 w5 m → am_Bt m → am_Z F 168 [] [(2, v0), (0, v1), (9, 0), (0, v3), (0, v4), (0, w5)] m 200) (hB : am_Bt m) (h : M_X12_orders_L4B v0 v1 v3 v4 v5 C168 K m) : am_Z F 168 [] [(2, v0), (0, v1), (9, 0), (0, v3), (0, v4), (0, v5)] m 200 := by
  have G := X.G
  unfold M_X12_orders_L4B at h
  refine z_iload (nx := 170) (a := 5) G rfl dX12_orders_168 rfl (z_sipush (nx := 173) (z := 2736) G (R32c rfl) rfl dX12_orders_170 rfl ?_)
  refine z_icmp_ge (nx := 176) (tgt := 196) G dX12_orders_173 (by decide) rfl (fun c => ?_) (fun c => ?_)
  · have h := h.1 c
    refine z_aload_n (nx := 197) (a := 0) G rfl (Or.inl rfl) dX12_orders_196 rfl (z_iload_n (nx := 198) (a := 1) G rfl dX12_orders_197 rfl ?_)
    refine b_put (nx := 201) (k0 := 38) (t := 0) G hB fl_RX12_11 (Nat.le_of_ble_eq_true rfl) (Nat.le_of_ble_eq_true rfl) rfl (fun h => nomatch h) rfl hp_v0 dX12_orders_198 rfl (fun m_3 e_m_3 hB => ?_)
    have h := h m_3 e_m_3
    refine z_aload_n (nx := 202) (a := 0) G rfl (Or.inl rfl) dX12_orders_201 rfl (z_iload_n (nx := 203) (a := 3) G rfl dX12_orders_202 rfl ?_)
    refine b_put (nx := 206) (k0 := 48) (t := 0) G hB fl_RX12_110 (Nat.le_of_ble_eq_true rfl) (Nat.le_of_ble_eq_true rfl) rfl (fun h => nomatch h) rfl hp_v0 dX12_orders_203 rfl (fun m_4 e_m_4 hB => ?_)
    have h := h m_4 e_m_4
    refine z_aload_n (nx := 207) (a := 0) G rfl (Or.inl rfl) dX12_orders_206 rfl (z_iload (nx := 209) (a := 4) G rfl dX12_orders_207 rfl (z_bipush (nx := 211) (z := (-5)) G (R32c rfl) rfl dX12_orders_209 rfl ?_))
    refine z_icmp_ne (nx := 214) (tgt := 219) G dX12_orders_211 (by decide) rfl (fun c => ?_) (fun c => ?_)
    · have h := h.1 c
      refine z_bipush (nx := 221) (z := (-3)) G (R32c rfl) rfl dX12_orders_219 rfl ?_
      exact b_fewer (loc2 := [(9, 0), (9, 0), (9, 0), (9, 0), (9, 0), (9, 0)]) (am_lf (am_lf (am_lk (am_lf (am_lf (am_lf am_ln)))))) (S_X12_orders_J2 X hp_v0 hB h)
    · have h := h.2 c
      refine z_bipush (nx := 216) (z := (-5)) G (R32c rfl) rfl dX12_orders_214 rfl (z_goto (tgt := 221) G dX12_orders_216 (by decide) ?_)
      exact b_fewer (loc2 := [(9, 0), (9, 0), (9, 0), (9, 0), (9, 0), (9, 0)]) (am_lf (am_lf (am_lk (am_lf (am_lf (am_lf am_ln)))))) (S_X12_orders_J2 X hp_v0 hB h)
  · have h := h.2 c
    refine z_aload_n (nx := 177) (a := 0) G rfl (Or.inl rfl) dX12_orders_176 rfl (b_getA (nx := 180) (k0 := 36) G hB fl_RX12_86 (Nat.le_of_ble_eq_true rfl) (Nat.le_of_ble_eq_true rfl) rfl hp_v0 dX12_orders_177 rfl (z_iload (nx := 182) (a := 5) G rfl dX12_orders_180 rfl (z_aload_n (nx := 183) (a := 0) G rfl (Or.inl rfl) dX12_orders_182 rfl (b_getA (nx := 186) (k0 := 37) G hB fl_RX12_89 (Nat.le_of_ble_eq_true rfl) (Nat.le_of_ble_eq_true rfl) rfl hp_v0 dX12_orders_183 rfl (z_iload (nx := 188) (a := 5) G rfl dX12_orders_186 rfl ?_)))))
    obtain ⟨hb, h⟩ := h
    refine z_iald (nx := 189) G (sh_12_37 _ hp_v0) hb.1 hb.2 dX12_orders_188 rfl ?_
    obtain ⟨hb, h⟩ := h
    refine b_iast (nx := 190) G hB (sh_12_36 _ hp_v0) hb.1 hb.2 dX12_orders_189 rfl (fun m_5 e_m_5 hB => ?_)
    have h := h m_5 e_m_5
    refine b_iinc (nx := 193) (a := 5) (loc2 := fun v5_6 => [(2, v0), (0, v1), (9, 0), (0, v3), (0, v4), (0, v5_6)]) G (fun _ => rfl) rfl (am_pl1 rfl (fun h => nomatch h)) dX12_orders_190 rfl (fun v5_6 e_v5_6 => ?_)
    have h := h v5_6 e_v5_6
    refine z_goto (tgt := 168) G dX12_orders_193 (by decide) ?_
    exact b_fewer (loc2 := [(2, v0), (0, v1), (9, 0), (0, v3), (0, v4), (0, v5_6)]) (am_lk (am_lk (am_lk (am_lk (am_lk (am_lk am_ln)))))) (hC168 _ _ h hB)
theorem S_X12_orders_L4 {F : am_F} {K : am_KK} {v0 : Int} {v1 : Int} {v3 : Int} {v4 : Int} {v5 : Int} {m : am_M} (X : am_Cx F cX12_orders RX12 (some .int) 611 0 K) (hp_v0 : am_ob v0 12) (hB : am_Bt m) (h : M_X12_orders_L4 v0 v1 v3 v4 v5 K m) : am_Z F 168 [] [(2, v0), (0, v1), (9, 0), (0, v3), (0, v4), (0, v5)] m 200 := by
  obtain ⟨I, ⟨j, hj⟩, hI⟩ := h
  have key : ∀ j v5 m, I j v5 m → am_Bt m → am_Z F 168 [] [(2, v0), (0, v1), (9, 0), (0, v3), (0, v4), (0, v5)] m 200 := by
    intro j
    induction j using Nat.strongRecOn with
    | ind j ih =>
      intro v5 m hj hB
      exact S_X12_orders_L4B X hp_v0 (fun v5' m' hc hB' => by
        obtain ⟨j', g1, g2⟩ := hc
        exact ih j' g1 v5' m' g2 hB') hB (hI j v5 m hj)
  exact key j _ _ hj hB
set_option maxRecDepth 20000 in
set_option maxHeartbeats 4000000 in
theorem S_X12_orders_L3B {F : am_F} {K : am_KK} {v0 : Int} {v1 : Int} {v2 : Int} {v3 : Int} {C137 : Int → am_M → Prop} {m : am_M} (X : am_Cx F cX12_orders RX12 (some .int) 611 0 K) (hp_v0 : am_ob v0 12) (hC137 : ∀ w3 m, C137 w3 m → am_Bt m → am_Z F 137 [] [(2, v0), (0, v1), (0, v2), (0, w3), (9, 0), (9, 0)] m 200) (hB : am_Bt m) (h : M_X12_orders_L3B v0 v1 v2 v3 C137 K m) : am_Z F 137 [] [(2, v0), (0, v1), (0, v2), (0, v3), (9, 0), (9, 0)] m 200 := by
  have G := X.G
  unfold M_X12_orders_L3B at h
  refine z_aload_n (nx := 138) (a := 0) G rfl (Or.inl rfl) dX12_orders_137 rfl (b_getI (nx := 141) (k0 := 50) (t := 0) G fl_RX12_430 (Nat.le_of_ble_eq_true rfl) (Nat.le_of_ble_eq_true rfl) rfl hp_v0 dX12_orders_138 rfl (z_iload_n (nx := 142) (a := 2) G rfl dX12_orders_141 rfl ?_))
  refine z_icmp_ge (nx := 145) (tgt := 231) G dX12_orders_142 (by decide) rfl (fun c => ?_) (fun c => ?_)
  · have h := h.1 c
    refine z_aload_n (nx := 232) (a := 0) G rfl (Or.inl rfl) dX12_orders_231 rfl (z_aload_n (nx := 233) (a := 0) G rfl (Or.inl rfl) dX12_orders_232 rfl (b_getI (nx := 236) (k0 := 49) (t := 0) G fl_RX12_427 (Nat.le_of_ble_eq_true rfl) (Nat.le_of_ble_eq_true rfl) rfl hp_v0 dX12_orders_233 rfl ?_))
    refine b_callV0 (nx := 239) (zs := [v0, m v0 49]) (as := [(0, m v0 49)]) X hB (by decide) rfl hp_v0 SS_X12_good (am_ta (am_ti am_tn)) (Nat.le_of_ble_eq_true rfl) (Nat.le_of_ble_eq_true rfl) ml_RX12_14 iw_X12_good vw_X12_good cw_X12_good nw_RX12 pp_X12_good (Nat.le_of_ble_eq_true rfl) dX12_orders_236 rfl (NM_X12_good hp_v0 h) (fun r_7 m_8 h hB => ?_)
    exact b_ireturn X hB dX12_orders_239 h
  · have h := h.2 c
    refine z_aload_n (nx := 146) (a := 0) G rfl (Or.inl rfl) dX12_orders_145 rfl (z_iload_n (nx := 147) (a := 2) G rfl dX12_orders_146 rfl ?_)
    refine b_callV0 (nx := 150) (zs := [v0, v2]) (as := [(0, v2)]) X hB (by decide) rfl hp_v0 SS_X12_runs (am_ta (am_ti am_tn)) (Nat.le_of_ble_eq_true rfl) (Nat.le_of_ble_eq_true rfl) ml_RX12_433 iw_X12_runs vw_X12_runs cw_X12_runs nw_RX12 pp_X12_runs (Nat.le_of_ble_eq_true rfl) dX12_orders_147 rfl (NM_X12_runs hp_v0 h) (fun r_9 m_10 h hB => ?_)
    refine b_storeE (nx := 152) (a := 4) (loc2 := [(2, v0), (0, v1), (0, v2), (0, v3), (0, r_9), (9, 0)]) G rfl (Nat.le_of_ble_eq_true rfl) (am_pl1 rfl (fun h => nomatch h)) dX12_orders_150 rfl (z_iload (nx := 154) (a := 4) G rfl dX12_orders_152 rfl ?_)
    refine z_if_ne (nx := 157) (tgt := 160) G dX12_orders_154 (by decide) rfl (fun c => ?_) (fun c => ?_)
    · have h := h.1 c
      refine z_aload_n (nx := 161) (a := 0) G rfl (Or.inl rfl) dX12_orders_160 rfl (z_iconst (nx := 162) (z := 1) G (R32c rfl) dX12_orders_161 rfl ?_)
      refine b_callV9 (nx := 165) (zs := [v0, 1]) (as := [(0, 1)]) X hB (by decide) rfl hp_v0 SS_X12_takesBack (am_ta (am_ti am_tn)) (Nat.le_of_ble_eq_true rfl) (Nat.le_of_ble_eq_true rfl) ml_RX12_418 iw_X12_takesBack vw_X12_takesBack cw_X12_takesBack nw_RX12 pp_X12_takesBack (Nat.le_of_ble_eq_true rfl) dX12_orders_162 rfl (NM_X12_takesBack hp_v0 h) (fun r_11 m_12 h hB => ?_)
      refine z_iconst (nx := 166) (z := 0) G (R32c rfl) dX12_orders_165 rfl (b_storeE (nx := 168) (a := 5) (loc2 := [(2, v0), (0, v1), (0, v2), (0, v3), (0, r_9), (0, 0)]) G rfl (Nat.le_of_ble_eq_true rfl) (am_pl1 rfl (fun h => nomatch h)) dX12_orders_166 rfl ?_)
      exact b_fewer (loc2 := [(2, v0), (0, v1), (9, 0), (0, v3), (0, r_9), (0, 0)]) (am_lk (am_lk (am_lf (am_lk (am_lk (am_lk am_ln)))))) (S_X12_orders_L4 X hp_v0 hB h)
    · have h := h.2 c
      refine z_goto (tgt := 225) G dX12_orders_157 (by decide) ?_
      refine b_iinc (nx := 228) (a := 3) (loc2 := fun v3_13 => [(2, v0), (0, v1), (0, v2), (0, v3_13), (0, r_9), (9, 0)]) G (fun _ => rfl) rfl (am_pl1 rfl (fun h => nomatch h)) dX12_orders_225 rfl (fun v3_13 e_v3_13 => ?_)
      have h := h v3_13 e_v3_13
      refine z_goto (tgt := 137) G dX12_orders_228 (by decide) ?_
      exact b_fewer (loc2 := [(2, v0), (0, v1), (0, v2), (0, v3_13), (9, 0), (9, 0)]) (am_lk (am_lk (am_lk (am_lk (am_lf (am_lk am_ln)))))) (hC137 _ _ h hB)
theorem S_X12_orders_L3 {F : am_F} {K : am_KK} {v0 : Int} {v1 : Int} {v2 : Int} {v3 : Int} {m : am_M} (X : am_Cx F cX12_orders RX12 (some .int) 611 0 K) (hp_v0 : am_ob v0 12) (hB : am_Bt m) (h : M_X12_orders_L3 v0 v1 v2 v3 K m) : am_Z F 137 [] [(2, v0), (0, v1), (0, v2), (0, v3), (9, 0), (9, 0)] m 200 := by
  obtain ⟨I, ⟨j, hj⟩, hI⟩ := h
  have key : ∀ j v3 m, I j v3 m → am_Bt m → am_Z F 137 [] [(2, v0), (0, v1), (0, v2), (0, v3), (9, 0), (9, 0)] m 200 := by
    intro j
    induction j using Nat.strongRecOn with
    | ind j ih =>
      intro v3 m hj hB
      exact S_X12_orders_L3B X hp_v0 (fun v3' m' hc hB' => by
        obtain ⟨j', g1, g2⟩ := hc
        exact ih j' g1 v3' m' g2 hB') hB (hI j v3 m hj)
  exact key j _ _ hj hB
set_option maxRecDepth 20000 in
set_option maxHeartbeats 4000000 in
theorem S_X12_orders_J1 {F : am_F} {K : am_KK} {v0 : Int} {v1 : Int} {v2 : Int} {s0 : Int} {s1 : Int} {s2 : Int} {C69 : Int → am_M → Prop} {m : am_M} (X : am_Cx F cX12_orders RX12 (some .int) 611 0 K) (hp_v0 : am_ob v0 12) (hp_s0 : am_ar s0 20) (hC69 : ∀ w2 m, C69 w2 m → am_Bt m → am_Z F 69 [] [(2, v0), (0, v1), (0, w2), (9, 0), (9, 0), (9, 0)] m 200) (hB : am_Bt m) (h : M_X12_orders_J1 v0 v1 v2 s0 s1 s2 C69 K m) : am_Z F 102 [(0, s2), (0, s1), (2, s0)] [(2, v0), (0, v1), (0, v2), (9, 0), (9, 0), (9, 0)] m 200 := by
  have G := X.G
  unfold M_X12_orders_J1 at h
  obtain ⟨hb, h⟩ := h
  refine b_iast (nx := 103) G hB hp_s0 hb.1 hb.2 dX12_orders_102 rfl (fun m_14 e_m_14 hB => ?_)
  have h := h m_14 e_m_14
  refine b_iinc (nx := 106) (a := 2) (loc2 := fun v2_15 => [(2, v0), (0, v1), (0, v2_15), (9, 0), (9, 0), (9, 0)]) G (fun _ => rfl) rfl (am_pl1 rfl (fun h => nomatch h)) dX12_orders_103 rfl (fun v2_15 e_v2_15 => ?_)
  have h := h v2_15 e_v2_15
  refine z_goto (tgt := 69) G dX12_orders_106 (by decide) ?_
  exact b_fewer (loc2 := [(2, v0), (0, v1), (0, v2_15), (9, 0), (9, 0), (9, 0)]) (am_lk (am_lk (am_lk (am_lk (am_lk (am_lk am_ln)))))) (hC69 _ _ h hB)
set_option maxRecDepth 20000 in
set_option maxHeartbeats 4000000 in
theorem S_X12_orders_L2B {F : am_F} {K : am_KK} {v0 : Int} {v1 : Int} {v2 : Int} {C69 : Int → am_M → Prop} {m : am_M} (X : am_Cx F cX12_orders RX12 (some .int) 611 0 K) (hp_v0 : am_ob v0 12) (hC69 : ∀ w2 m, C69 w2 m → am_Bt m → am_Z F 69 [] [(2, v0), (0, v1), (0, w2), (9, 0), (9, 0), (9, 0)] m 200) (hB : am_Bt m) (h : M_X12_orders_L2B v0 v1 v2 C69 K m) : am_Z F 69 [] [(2, v0), (0, v1), (0, v2), (9, 0), (9, 0), (9, 0)] m 200 := by
  have G := X.G
  unfold M_X12_orders_L2B at h
  refine z_iload_n (nx := 70) (a := 2) G rfl dX12_orders_69 rfl (z_bipush (nx := 72) (z := 8) G (R32c rfl) rfl dX12_orders_70 rfl ?_)
  refine z_icmp_ge (nx := 75) (tgt := 109) G dX12_orders_72 (by decide) rfl (fun c => ?_) (fun c => ?_)
  · have h := h.1 c
    refine z_aload_n (nx := 110) (a := 0) G rfl (Or.inl rfl) dX12_orders_109 rfl (z_iconst (nx := 111) (z := 0) G (R32c rfl) dX12_orders_110 rfl ?_)
    refine b_put (nx := 114) (k0 := 49) (t := 0) G hB fl_RX12_427 (Nat.le_of_ble_eq_true rfl) (Nat.le_of_ble_eq_true rfl) rfl (fun h => nomatch h) rfl hp_v0 dX12_orders_111 rfl (fun m_16 e_m_16 hB => ?_)
    have h := h m_16 e_m_16
    refine z_aload_n (nx := 115) (a := 0) G rfl (Or.inl rfl) dX12_orders_114 rfl (z_sipush (nx := 118) (z := 2400) G (R32c rfl) rfl dX12_orders_115 rfl ?_)
    refine b_put (nx := 121) (k0 := 50) (t := 0) G hB fl_RX12_430 (Nat.le_of_ble_eq_true rfl) (Nat.le_of_ble_eq_true rfl) rfl (fun h => nomatch h) rfl hp_v0 dX12_orders_118 rfl (fun m_17 e_m_17 hB => ?_)
    have h := h m_17 e_m_17
    refine z_aload_n (nx := 122) (a := 0) G rfl (Or.inl rfl) dX12_orders_121 rfl (b_getI (nx := 125) (k0 := 50) (t := 0) G fl_RX12_430 (Nat.le_of_ble_eq_true rfl) (Nat.le_of_ble_eq_true rfl) rfl hp_v0 dX12_orders_122 rfl (z_aload_n (nx := 126) (a := 0) G rfl (Or.inl rfl) dX12_orders_125 rfl (b_getA (nx := 129) (k0 := 2) G hB fl_RX12_24 (Nat.le_of_ble_eq_true rfl) (Nat.le_of_ble_eq_true rfl) rfl hp_v0 dX12_orders_126 rfl (z_sipush (nx := 132) (z := 376) G (R32c rfl) rfl dX12_orders_129 rfl ?_))))
    obtain ⟨hb, h⟩ := h
    refine z_iald (nx := 133) G (sh_12_2 _ hp_v0) hb.1 hb.2 dX12_orders_132 rfl ?_
    refine z_iadd (nx := 134) G dX12_orders_133 rfl ?_
    refine b_store_n (nx := 135) (a := 2) (loc2 := fun v2_18 => [(2, v0), (0, v1), (0, v2_18), (9, 0), (9, 0), (9, 0)]) G (fun _ => rfl) (Nat.le_of_ble_eq_true rfl) (am_pl1 rfl (fun h => nomatch h)) dX12_orders_134 rfl (fun v2_18 e_v2_18 => ?_)
    have h := h v2_18 e_v2_18
    refine z_iconst (nx := 136) (z := 0) G (R32c rfl) dX12_orders_135 rfl (b_storeE_n (nx := 137) (a := 3) (loc2 := [(2, v0), (0, v1), (0, v2_18), (0, 0), (9, 0), (9, 0)]) G rfl (Nat.le_of_ble_eq_true rfl) (am_pl1 rfl (fun h => nomatch h)) dX12_orders_136 rfl ?_)
    exact b_fewer (loc2 := [(2, v0), (0, v1), (0, v2_18), (0, 0), (9, 0), (9, 0)]) (am_lk (am_lk (am_lk (am_lk (am_lk (am_lk am_ln)))))) (S_X12_orders_L3 X hp_v0 hB h)
  · have h := h.2 c
    refine z_aload_n (nx := 76) (a := 0) G rfl (Or.inl rfl) dX12_orders_75 rfl (b_getA (nx := 79) (k0 := 26) G hB fl_RX12_62 (Nat.le_of_ble_eq_true rfl) (Nat.le_of_ble_eq_true rfl) rfl hp_v0 dX12_orders_76 rfl (z_iload_n (nx := 80) (a := 2) G rfl dX12_orders_79 rfl (z_aload_n (nx := 81) (a := 0) G rfl (Or.inl rfl) dX12_orders_80 rfl (b_getA (nx := 84) (k0 := 28) G hB fl_RX12_68 (Nat.le_of_ble_eq_true rfl) (Nat.le_of_ble_eq_true rfl) rfl hp_v0 dX12_orders_81 rfl (z_iload_n (nx := 85) (a := 2) G rfl dX12_orders_84 rfl ?_)))))
    obtain ⟨hb, h⟩ := h
    refine z_iald (nx := 86) G (sh_12_28 _ hp_v0) hb.1 hb.2 dX12_orders_85 rfl ?_
    refine z_ldcw (nx := 89) (z := 1000000000) G (R32c rfl) rfl kw_RX12_329 dX12_orders_86 rfl ?_
    refine z_icmp_lt (nx := 92) (tgt := 96) G dX12_orders_89 (by decide) rfl (fun c => ?_) (fun c => ?_)
    · have h := h.1 c
      refine z_aload_n (nx := 97) (a := 0) G rfl (Or.inl rfl) dX12_orders_96 rfl (b_getA (nx := 100) (k0 := 28) G hB fl_RX12_68 (Nat.le_of_ble_eq_true rfl) (Nat.le_of_ble_eq_true rfl) rfl hp_v0 dX12_orders_97 rfl (z_iload_n (nx := 101) (a := 2) G rfl dX12_orders_100 rfl ?_))
      obtain ⟨hb, h⟩ := h
      refine z_iald (nx := 102) G (sh_12_28 _ hp_v0) hb.1 hb.2 dX12_orders_101 rfl ?_
      exact b_fewer (loc2 := [(2, v0), (0, v1), (0, v2), (9, 0), (9, 0), (9, 0)]) (am_lk (am_lk (am_lk (am_lk (am_lk (am_lk am_ln)))))) (S_X12_orders_J1 X hp_v0 (sh_12_26 _ hp_v0) hC69 hB h)
    · have h := h.2 c
      refine z_iconst (nx := 93) (z := (-1)) G (R32c rfl) dX12_orders_92 rfl (z_goto (tgt := 102) G dX12_orders_93 (by decide) ?_)
      exact b_fewer (loc2 := [(2, v0), (0, v1), (0, v2), (9, 0), (9, 0), (9, 0)]) (am_lk (am_lk (am_lk (am_lk (am_lk (am_lk am_ln)))))) (S_X12_orders_J1 X hp_v0 (sh_12_26 _ hp_v0) hC69 hB h)
theorem S_X12_orders_L2 {F : am_F} {K : am_KK} {v0 : Int} {v1 : Int} {v2 : Int} {m : am_M} (X : am_Cx F cX12_orders RX12 (some .int) 611 0 K) (hp_v0 : am_ob v0 12) (hB : am_Bt m) (h : M_X12_orders_L2 v0 v1 v2 K m) : am_Z F 69 [] [(2, v0), (0, v1), (0, v2), (9, 0), (9, 0), (9, 0)] m 200 := by
  obtain ⟨I, ⟨j, hj⟩, hI⟩ := h
  have key : ∀ j v2 m, I j v2 m → am_Bt m → am_Z F 69 [] [(2, v0), (0, v1), (0, v2), (9, 0), (9, 0), (9, 0)] m 200 := by
    intro j
    induction j using Nat.strongRecOn with
    | ind j ih =>
      intro v2 m hj hB
      exact S_X12_orders_L2B X hp_v0 (fun v2' m' hc hB' => by
        obtain ⟨j', g1, g2⟩ := hc
        exact ih j' g1 v2' m' g2 hB') hB (hI j v2 m hj)
  exact key j _ _ hj hB
set_option maxRecDepth 20000 in
set_option maxHeartbeats 4000000 in
theorem S_X12_orders_L1B {F : am_F} {K : am_KK} {v0 : Int} {v1 : Int} {C27 : Int → am_M → Prop} {m : am_M} (X : am_Cx F cX12_orders RX12 (some .int) 611 0 K) (hp_v0 : am_ob v0 12) (hC27 : ∀ w1 m, C27 w1 m → am_Bt m → am_Z F 27 [] [(2, v0), (0, w1), (9, 0), (9, 0), (9, 0), (9, 0)] m 200) (hB : am_Bt m) (h : M_X12_orders_L1B v0 v1 C27 K m) : am_Z F 27 [] [(2, v0), (0, v1), (9, 0), (9, 0), (9, 0), (9, 0)] m 200 := by
  have G := X.G
  unfold M_X12_orders_L1B at h
  refine z_iload_n (nx := 28) (a := 1) G rfl dX12_orders_27 rfl (z_sipush (nx := 31) (z := 2736) G (R32c rfl) rfl dX12_orders_28 rfl ?_)
  refine z_icmp_ge (nx := 34) (tgt := 52) G dX12_orders_31 (by decide) rfl (fun c => ?_) (fun c => ?_)
  · have h := h.1 c
    refine z_aload_n (nx := 53) (a := 0) G rfl (Or.inl rfl) dX12_orders_52 rfl (b_getI (nx := 56) (k0 := 38) (t := 0) G fl_RX12_11 (Nat.le_of_ble_eq_true rfl) (Nat.le_of_ble_eq_true rfl) rfl hp_v0 dX12_orders_53 rfl ?_)
    refine b_store_n (nx := 57) (a := 1) (loc2 := fun v1_19 => [(2, v0), (0, v1_19), (9, 0), (9, 0), (9, 0), (9, 0)]) G (fun _ => rfl) (Nat.le_of_ble_eq_true rfl) (am_pl1 rfl (fun h => nomatch h)) dX12_orders_56 rfl (fun v1_19 e_v1_19 => ?_)
    have h := h v1_19 e_v1_19
    refine z_aload_n (nx := 58) (a := 0) G rfl (Or.inl rfl) dX12_orders_57 rfl (z_bipush (nx := 60) (z := 6) G (R32c rfl) rfl dX12_orders_58 rfl ?_)
    refine b_callV9 (nx := 63) (zs := [v0, 6]) (as := [(0, 6)]) X hB (by decide) rfl hp_v0 SS_X12_lays (am_ta (am_ti am_tn)) (Nat.le_of_ble_eq_true rfl) (Nat.le_of_ble_eq_true rfl) ml_RX12_275 iw_X12_lays vw_X12_lays cw_X12_lays nw_RX12 pp_X12_lays (Nat.le_of_ble_eq_true rfl) dX12_orders_60 rfl (NM_X12_lays hp_v0 h) (fun r_20 m_21 h hB => ?_)
    refine z_aload_n (nx := 64) (a := 0) G rfl (Or.inl rfl) dX12_orders_63 rfl ?_
    refine b_callV9 (nx := 67) (zs := [v0]) (as := []) X hB (by decide) rfl hp_v0 SS_X12_wordings (am_ta am_tn) (Nat.le_of_ble_eq_true rfl) (Nat.le_of_ble_eq_true rfl) ml_RX12_348 iw_X12_wordings vw_X12_wordings cw_X12_wordings nw_RX12 pp_X12_wordings (Nat.le_of_ble_eq_true rfl) dX12_orders_64 rfl (NM_X12_wordings hp_v0 h) (fun r_22 m_23 h hB => ?_)
    refine z_iconst (nx := 68) (z := 0) G (R32c rfl) dX12_orders_67 rfl (b_storeE_n (nx := 69) (a := 2) (loc2 := [(2, v0), (0, v1_19), (0, 0), (9, 0), (9, 0), (9, 0)]) G rfl (Nat.le_of_ble_eq_true rfl) (am_pl1 rfl (fun h => nomatch h)) dX12_orders_68 rfl ?_)
    exact b_fewer (loc2 := [(2, v0), (0, v1_19), (0, 0), (9, 0), (9, 0), (9, 0)]) (am_lk (am_lk (am_lk (am_lk (am_lk (am_lk am_ln)))))) (S_X12_orders_L2 X hp_v0 hB h)
  · have h := h.2 c
    refine z_aload_n (nx := 35) (a := 0) G rfl (Or.inl rfl) dX12_orders_34 rfl (b_getA (nx := 38) (k0 := 37) G hB fl_RX12_89 (Nat.le_of_ble_eq_true rfl) (Nat.le_of_ble_eq_true rfl) rfl hp_v0 dX12_orders_35 rfl (z_iload_n (nx := 39) (a := 1) G rfl dX12_orders_38 rfl (z_aload_n (nx := 40) (a := 0) G rfl (Or.inl rfl) dX12_orders_39 rfl (b_getA (nx := 43) (k0 := 36) G hB fl_RX12_86 (Nat.le_of_ble_eq_true rfl) (Nat.le_of_ble_eq_true rfl) rfl hp_v0 dX12_orders_40 rfl (z_iload_n (nx := 44) (a := 1) G rfl dX12_orders_43 rfl ?_)))))
    obtain ⟨hb, h⟩ := h
    refine z_iald (nx := 45) G (sh_12_36 _ hp_v0) hb.1 hb.2 dX12_orders_44 rfl ?_
    obtain ⟨hb, h⟩ := h
    refine b_iast (nx := 46) G hB (sh_12_37 _ hp_v0) hb.1 hb.2 dX12_orders_45 rfl (fun m_24 e_m_24 hB => ?_)
    have h := h m_24 e_m_24
    refine b_iinc (nx := 49) (a := 1) (loc2 := fun v1_25 => [(2, v0), (0, v1_25), (9, 0), (9, 0), (9, 0), (9, 0)]) G (fun _ => rfl) rfl (am_pl1 rfl (fun h => nomatch h)) dX12_orders_46 rfl (fun v1_25 e_v1_25 => ?_)
    have h := h v1_25 e_v1_25
    refine z_goto (tgt := 27) G dX12_orders_49 (by decide) ?_
    exact b_fewer (loc2 := [(2, v0), (0, v1_25), (9, 0), (9, 0), (9, 0), (9, 0)]) (am_lk (am_lk (am_lk (am_lk (am_lk (am_lk am_ln)))))) (hC27 _ _ h hB)
theorem S_X12_orders_L1 {F : am_F} {K : am_KK} {v0 : Int} {v1 : Int} {m : am_M} (X : am_Cx F cX12_orders RX12 (some .int) 611 0 K) (hp_v0 : am_ob v0 12) (hB : am_Bt m) (h : M_X12_orders_L1 v0 v1 K m) : am_Z F 27 [] [(2, v0), (0, v1), (9, 0), (9, 0), (9, 0), (9, 0)] m 200 := by
  obtain ⟨I, ⟨j, hj⟩, hI⟩ := h
  have key : ∀ j v1 m, I j v1 m → am_Bt m → am_Z F 27 [] [(2, v0), (0, v1), (9, 0), (9, 0), (9, 0), (9, 0)] m 200 := by
    intro j
    induction j using Nat.strongRecOn with
    | ind j ih =>
      intro v1 m hj hB
      exact S_X12_orders_L1B X hp_v0 (fun v1' m' hc hB' => by
        obtain ⟨j', g1, g2⟩ := hc
        exact ih j' g1 v1' m' g2 hB') hB (hI j v1 m hj)
  exact key j _ _ hj hB
set_option maxRecDepth 20000 in
set_option maxHeartbeats 4000000 in
theorem S_X12_orders {F : am_F} {K : am_KK} {v0 : Int} {m : am_M} (X : am_Cx F cX12_orders RX12 (some .int) 611 0 K) (hp_v0 : am_ob v0 12) (hB : am_Bt m) (h : M_X12_orders v0 K m) : am_Z F 0 [] [(2, v0), (9, 0), (9, 0), (9, 0), (9, 0), (9, 0)] m 200 := by
  have G := X.G
  unfold M_X12_orders at h
  refine z_aload_n (nx := 1) (a := 0) G rfl (Or.inl rfl) dX12_orders_0 rfl (z_iconst (nx := 2) (z := (-1)) G (R32c rfl) dX12_orders_1 rfl ?_)
  refine b_put (nx := 5) (k0 := 48) (t := 0) G hB fl_RX12_110 (Nat.le_of_ble_eq_true rfl) (Nat.le_of_ble_eq_true rfl) rfl (fun h => nomatch h) rfl hp_v0 dX12_orders_2 rfl (fun m_26 e_m_26 hB => ?_)
  have h := h m_26 e_m_26
  refine z_aload_n (nx := 6) (a := 0) G rfl (Or.inl rfl) dX12_orders_5 rfl (z_iconst (nx := 7) (z := 1) G (R32c rfl) dX12_orders_6 rfl ?_)
  refine b_callV5 (nx := 10) (zs := [v0, 1]) (as := [(0, 1)]) X hB (by decide) rfl hp_v0 SS_X12_readsAs (am_ta (am_tz (Or.inr rfl) am_tn)) (Nat.le_of_ble_eq_true rfl) (Nat.le_of_ble_eq_true rfl) ml_RX12_271 iw_X12_readsAs vw_X12_readsAs cw_X12_readsAs nw_RX12 pp_X12_readsAs (Nat.le_of_ble_eq_true rfl) dX12_orders_7 rfl (NM_X12_readsAs hp_v0 (Or.inr rfl) h) (fun r_27 m_28 h h01_29 hB => ?_)
  refine z_if_ne (nx := 13) (tgt := 20) G dX12_orders_10 (by decide) rfl (fun c => ?_) (fun c => ?_)
  · have h := h.1 c
    refine z_aload_n (nx := 21) (a := 0) G rfl (Or.inl rfl) dX12_orders_20 rfl (z_iconst (nx := 22) (z := 1) G (R32c rfl) dX12_orders_21 rfl ?_)
    refine b_callV9 (nx := 25) (zs := [v0, 1]) (as := [(0, 1)]) X hB (by decide) rfl hp_v0 SS_X12_laysAside (am_ta (am_ti am_tn)) (Nat.le_of_ble_eq_true rfl) (Nat.le_of_ble_eq_true rfl) ml_RX12_415 iw_X12_laysAside vw_X12_laysAside cw_X12_laysAside nw_RX12 pp_X12_laysAside (Nat.le_of_ble_eq_true rfl) dX12_orders_22 rfl (NM_X12_laysAside hp_v0 h) (fun r_30 m_31 h hB => ?_)
    refine z_iconst (nx := 26) (z := 0) G (R32c rfl) dX12_orders_25 rfl (b_storeE_n (nx := 27) (a := 1) (loc2 := [(2, v0), (0, 0), (9, 0), (9, 0), (9, 0), (9, 0)]) G rfl (Nat.le_of_ble_eq_true rfl) (am_pl1 rfl (fun h => nomatch h)) dX12_orders_26 rfl ?_)
    exact b_fewer (loc2 := [(2, v0), (0, 0), (9, 0), (9, 0), (9, 0), (9, 0)]) (am_lk (am_lk (am_lk (am_lk (am_lk (am_lk am_ln)))))) (S_X12_orders_L1 X hp_v0 hB h)
  · have h := h.2 c
    refine z_aload_n (nx := 14) (a := 0) G rfl (Or.inl rfl) dX12_orders_13 rfl (z_bipush (nx := 16) (z := (-6)) G (R32c rfl) rfl dX12_orders_14 rfl ?_)
    refine b_callV0 (nx := 19) (zs := [v0, (-6)]) (as := [(0, (-6))]) X hB (by decide) rfl hp_v0 SS_X12_refuses (am_ta (am_ti am_tn)) (Nat.le_of_ble_eq_true rfl) (Nat.le_of_ble_eq_true rfl) ml_RX12_127 iw_X12_refuses vw_X12_refuses cw_X12_refuses nw_RX12 pp_X12_refuses (Nat.le_of_ble_eq_true rfl) dX12_orders_16 rfl (NM_X12_refuses hp_v0 h) (fun r_32 m_33 h hB => ?_)
    exact b_ireturn X hB dX12_orders_19 h
theorem NM_X12_orders {v0 : Int} {K : am_KK} {m : am_M} (hp_v0 : am_ob v0 12) (h : M_X12_orders v0 K m) : N_X12_orders [v0] K m := ⟨hp_v0, h⟩
theorem SS_X12_orders : am_Snd yX12_orders cX12_orders 6 (some .int) 0 611 (am_L [2] 0 N_X12_orders) := by
  refine am_SB (by decide +kernel) (Nat.le_of_ble_eq_true rfl) (fun F zs as K m X ht hB hM => ?_)
  obtain ⟨v0, zs, as, rfl, rfl, hz0, ht⟩ := am_inv ht
  obtain ⟨rfl, rfl⟩ := am_inv0 ht
  obtain ⟨hp_v0, hM⟩ := hM
  exact S_X12_orders X hp_v0 hB hM
set_option maxRecDepth 20000 in
set_option maxHeartbeats 4000000 in
theorem S_X12_draws {F : am_F} {K : am_KK} {v0 : Int} {v1 : Int} {m : am_M} (X : am_Cx F cX12_draws RX12 (some .int) 1 0 K) (hp_v0 : am_ob v0 12) (hB : am_Bt m) (h : M_X12_draws v0 v1 K m) : am_Z F 0 [] [(2, v0), (0, v1)] m 200 := by
  have G := X.G
  unfold M_X12_draws at h
  refine z_aload_n (nx := 1) (a := 0) G rfl (Or.inl rfl) dX12_draws_0 rfl (z_ldc2 (nx := 4) (z := 1103) G (R64c rfl) rfl kl_RX12_461 dX12_draws_1 rfl (z_aload_n (nx := 5) (a := 0) G rfl (Or.inl rfl) dX12_draws_4 rfl (b_getI (nx := 8) (k0 := 59) (t := 0) G fl_RX12_463 (Nat.le_of_ble_eq_true rfl) (Nat.le_of_ble_eq_true rfl) rfl hp_v0 dX12_draws_5 rfl (z_i2l (nx := 9) G dX12_draws_8 rfl (z_lmul (nx := 10) G dX12_draws_9 rfl (z_ldc2 (nx := 13) (z := 12345) G (R64c rfl) rfl kl_RX12_466 dX12_draws_10 rfl (z_ladd (nx := 14) G dX12_draws_13 rfl (z_ldc2 (nx := 17) (z := 1000003) G (R64c rfl) rfl kl_RX12_468 dX12_draws_14 rfl (z_lrem (nx := 18) G (by decide) dX12_draws_17 rfl (z_l2i (nx := 19) G dX12_draws_18 rfl ?_))))))))))
  refine b_put (nx := 22) (k0 := 59) (t := 0) G hB fl_RX12_463 (Nat.le_of_ble_eq_true rfl) (Nat.le_of_ble_eq_true rfl) rfl (fun h => nomatch h) rfl hp_v0 dX12_draws_19 rfl (fun m_1 e_m_1 hB => ?_)
  have h := h m_1 e_m_1
  refine z_aload_n (nx := 23) (a := 0) G rfl (Or.inl rfl) dX12_draws_22 rfl (b_getI (nx := 26) (k0 := 59) (t := 0) G fl_RX12_463 (Nat.le_of_ble_eq_true rfl) (Nat.le_of_ble_eq_true rfl) rfl hp_v0 dX12_draws_23 rfl (z_iload_n (nx := 27) (a := 1) G rfl dX12_draws_26 rfl ?_))
  obtain ⟨hb, h⟩ := h
  refine z_irem (nx := 28) G hb dX12_draws_27 rfl ?_
  exact b_ireturn X hB dX12_draws_28 h
theorem NM_X12_draws {v0 : Int} {v1 : Int} {K : am_KK} {m : am_M} (hp_v0 : am_ob v0 12) (h : M_X12_draws v0 v1 K m) : N_X12_draws [v0, v1] K m := ⟨hp_v0, h⟩
theorem SS_X12_draws : am_Snd yX12_draws cX12_draws 2 (some .int) 0 1 (am_L [2, 0] 0 N_X12_draws) := by
  refine am_SB (by decide +kernel) (Nat.le_of_ble_eq_true rfl) (fun F zs as K m X ht hB hM => ?_)
  obtain ⟨v0, zs, as, rfl, rfl, hz0, ht⟩ := am_inv ht
  obtain ⟨v1, zs, as, rfl, rfl, hz1, ht⟩ := am_inv ht
  obtain ⟨rfl, rfl⟩ := am_inv0 ht
  obtain ⟨hp_v0, hM⟩ := hM
  exact S_X12_draws X hp_v0 hB hM
