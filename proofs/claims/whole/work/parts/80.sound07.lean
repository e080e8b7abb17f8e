/-! the machine does what the forms say, 7 -/
set_option maxRecDepth 20000 in
set_option maxHeartbeats 4000000 in
theorem S_X12_season_L4B {F : am_F} {K : am_KK} {v0 : Int} {v3 : Int} {v5 : Int} {C233 : Int → am_M → Prop} {m : am_M} (X : am_Cx F cX12_season RX12 (some .int) 609 0 K) (hp_v0 : am_ob v0 12) (hC233 : ∀ w5 m, C233 w5 m → am_Bt m → am_Z F 233 [] [(2, v0), (9, 0), (9, 0), (0, v3), (9, 0), (0, w5), (9, 0), (9, 0), (9, 0)] m 200) (hB : am_Bt m) (h : M_X12_season_L4B v0 v3 v5 C233 K m) : am_Z F 233 [] [(2, v0), (9, 0), (9, 0), (0, v3), (9, 0), (0, v5), (9, 0), (9, 0), (9, 0)] m 200 := by
  have G := X.G
  unfold M_X12_season_L4B at h
  refine z_iload (nx := 235) (a := 5) G rfl dX12_season_233 rfl (z_aload_n (nx := 236) (a := 0) G rfl (Or.inl rfl) dX12_season_235 rfl ?_)
  refine b_callV0 (nx := 239) (zs := [v0]) (as := []) X hB (by decide) rfl hp_v0 SS_X12_prayers (am_ta am_tn) (Nat.le_of_ble_eq_true rfl) (Nat.le_of_ble_eq_true rfl) ml_RX12_133 iw_X12_prayers vw_X12_prayers cw_X12_prayers nw_RX12 pp_X12_prayers (Nat.le_of_ble_eq_true rfl) dX12_season_236 rfl (NM_X12_prayers hp_v0 h) (fun r_1 m_2 h hB => ?_)
  refine z_icmp_ge (nx := 242) (tgt := 274) G dX12_season_239 (by decide) rfl (fun c => ?_) (fun c => ?_)
  · have h := h.1 c
    refine z_aload_n (nx := 275) (a := 0) G rfl (Or.inl rfl) dX12_season_274 rfl (z_iconst (nx := 276) (z := 0) G (R32c rfl) dX12_season_275 rfl ?_)
    refine b_callV9 (nx := 279) (zs := [v0, 0]) (as := [(0, 0)]) X hB (by decide) rfl hp_v0 SS_X12_takesBack (am_ta (am_ti am_tn)) (Nat.le_of_ble_eq_true rfl) (Nat.le_of_ble_eq_true rfl) ml_RX12_418 iw_X12_takesBack vw_X12_takesBack cw_X12_takesBack nw_RX12 pp_X12_takesBack (Nat.le_of_ble_eq_true rfl) dX12_season_276 rfl (NM_X12_takesBack hp_v0 h) (fun r_3 m_4 h hB => ?_)
    refine z_aload_n (nx := 280) (a := 0) G rfl (Or.inl rfl) dX12_season_279 rfl (z_iload_n (nx := 281) (a := 3) G rfl dX12_season_280 rfl ?_)
    refine b_callV0 (nx := 284) (zs := [v0, v3]) (as := [(0, v3)]) X hB (by decide) rfl hp_v0 SS_X12_good (am_ta (am_ti am_tn)) (Nat.le_of_ble_eq_true rfl) (Nat.le_of_ble_eq_true rfl) ml_RX12_14 iw_X12_good vw_X12_good cw_X12_good nw_RX12 pp_X12_good (Nat.le_of_ble_eq_true rfl) dX12_season_281 rfl (NM_X12_good hp_v0 h) (fun r_5 m_6 h hB => ?_)
    exact b_ireturn X hB dX12_season_284 h
  · have h := h.2 c
    refine z_aload_n (nx := 243) (a := 0) G rfl (Or.inl rfl) dX12_season_242 rfl (b_getA (nx := 246) (k0 := 57) G hB fl_RX12_120 (Nat.le_of_ble_eq_true rfl) (Nat.le_of_ble_eq_true rfl) rfl hp_v0 dX12_season_243 rfl (z_iconst (nx := 247) (z := 3) G (R32c rfl) dX12_season_246 rfl (z_aload_n (nx := 248) (a := 0) G rfl (Or.inl rfl) dX12_season_247 rfl (z_iload (nx := 250) (a := 5) G rfl dX12_season_248 rfl (z_iconst (nx := 251) (z := 0) G (R32c rfl) dX12_season_250 rfl ?_)))))
    refine b_callV0 (nx := 254) (zs := [v0, v5, 0]) (as := [(0, v5), (0, 0)]) X hB (by decide) rfl hp_v0 SS_X12_fact (am_ta (am_ti (am_ti am_tn))) (Nat.le_of_ble_eq_true rfl) (Nat.le_of_ble_eq_true rfl) ml_RX12_141 iw_X12_fact vw_X12_fact cw_X12_fact nw_RX12 pp_X12_fact (Nat.le_of_ble_eq_true rfl) dX12_season_251 rfl (NM_X12_fact hp_v0 h) (fun r_7 m_8 h hB => ?_)
    refine z_imul (nx := 255) G dX12_season_254 rfl (z_aload_n (nx := 256) (a := 0) G rfl (Or.inl rfl) dX12_season_255 rfl (z_iload (nx := 258) (a := 5) G rfl dX12_season_256 rfl (z_iconst (nx := 259) (z := 5) G (R32c rfl) dX12_season_258 rfl ?_)))
    refine b_callV0 (nx := 262) (zs := [v0, v5, 5]) (as := [(0, v5), (0, 5)]) X hB (by decide) rfl hp_v0 SS_X12_fact (am_ta (am_ti (am_ti am_tn))) (Nat.le_of_ble_eq_true rfl) (Nat.le_of_ble_eq_true rfl) ml_RX12_141 iw_X12_fact vw_X12_fact cw_X12_fact nw_RX12 pp_X12_fact (Nat.le_of_ble_eq_true rfl) dX12_season_259 rfl (NM_X12_fact hp_v0 h) (fun r_9 m_10 h hB => ?_)
    refine z_iadd (nx := 263) G dX12_season_262 rfl (z_dup2 (nx := 264) G (fun h => nomatch h) (fun h => nomatch h) dX12_season_263 rfl ?_)
    obtain ⟨hb, h⟩ := h
    refine z_iald (nx := 265) G (sh_12_57 _ hp_v0) hb.1 hb.2 dX12_season_264 rfl ?_
    refine z_iconst (nx := 266) (z := 1) G (R32c rfl) dX12_season_265 rfl (z_iadd (nx := 267) G dX12_season_266 rfl ?_)
    obtain ⟨hb, h⟩ := h
    refine b_iast (nx := 268) G hB (sh_12_57 _ hp_v0) hb.1 hb.2 dX12_season_267 rfl (fun m_11 e_m_11 hB => ?_)
    have h := h m_11 e_m_11
    refine b_iinc (nx := 271) (a := 5) (loc2 := fun v5_12 => [(2, v0), (9, 0), (9, 0), (0, v3), (9, 0), (0, v5_12), (9, 0), (9, 0), (9, 0)]) G (fun _ => rfl) rfl (am_pl1 rfl (fun h => nomatch h)) dX12_season_268 rfl (fun v5_12 e_v5_12 => ?_)
    have h := h v5_12 e_v5_12
    refine z_goto (tgt := 233) G dX12_season_271 (by decide) ?_
    exact b_fewer (loc2 := [(2, v0), (9, 0), (9, 0), (0, v3), (9, 0), (0, v5_12), (9, 0), (9, 0), (9, 0)]) (am_lk (am_lk (am_lk (am_lk (am_lk (am_lk (am_lk (am_lk (am_lk am_ln))))))))) (hC233 _ _ h hB)
theorem S_X12_season_L4 {F : am_F} {K : am_KK} {v0 : Int} {v3 : Int} {v5 : Int} {m : am_M} (X : am_Cx F cX12_season RX12 (some .int) 609 0 K) (hp_v0 : am_ob v0 12) (hB : am_Bt m) (h : M_X12_season_L4 v0 v3 v5 K m) : am_Z F 233 [] [(2, v0), (9, 0), (9, 0), (0, v3), (9, 0), (0, v5), (9, 0), (9, 0), (9, 0)] m 200 := by
  obtain ⟨I, ⟨j, hj⟩, hI⟩ := h
  have key : ∀ j v5 m, I j v5 m → am_Bt m → am_Z F 233 [] [(2, v0), (9, 0), (9, 0), (0, v3), (9, 0), (0, v5), (9, 0), (9, 0), (9, 0)] m 200 := by
    intro j
    induction j using Nat.strongRecOn with
    | ind j ih =>
      intro v5 m hj hB
      exact S_X12_season_L4B X hp_v0 (fun v5' m' hc hB' => by
        obtain ⟨j', g1, g2⟩ := hc
        exact ih j' g1 v5' m' g2 hB') hB (hI j v5 m hj)
  exact key j _ _ hj hB
set_option maxRecDepth 20000 in
set_option maxHeartbeats 4000000 in
theorem S_X12_season_J5 {F : am_F} {K : am_KK} {v0 : Int} {v3 : Int} {m : am_M} (X : am_Cx F cX12_season RX12 (some .int) 609 0 K) (hp_v0 : am_ob v0 12) (hB : am_Bt m) (h : M_X12_season_J5 v0 v3 K m) : am_Z F 230 [] [(2, v0), (9, 0), (9, 0), (0, v3), (9, 0), (9, 0), (9, 0), (9, 0), (9, 0)] m 200 := by
  have G := X.G
  unfold M_X12_season_J5 at h
  refine z_iconst (nx := 231) (z := 0) G (R32c rfl) dX12_season_230 rfl (b_storeE (nx := 233) (a := 5) (loc2 := [(2, v0), (9, 0), (9, 0), (0, v3), (9, 0), (0, 0), (9, 0), (9, 0), (9, 0)]) G rfl (Nat.le_of_ble_eq_true rfl) (am_pl1 rfl (fun h => nomatch h)) dX12_season_231 rfl ?_)
  exact b_fewer (loc2 := [(2, v0), (9, 0), (9, 0), (0, v3), (9, 0), (0, 0), (9, 0), (9, 0), (9, 0)]) (am_lk (am_lk (am_lk (am_lk (am_lk (am_lk (am_lk (am_lk (am_lk am_ln))))))))) (S_X12_season_L4 X hp_v0 hB h)
set_option maxRecDepth 20000 in
set_option maxHeartbeats 4000000 in
theorem S_X12_season_J4 {F : am_F} {K : am_KK} {v0 : Int} {v2 : Int} {v3 : Int} {v4 : Int} {v5 : Int} {C116 : Int → Int → Int → am_M → Prop} {m : am_M} (X : am_Cx F cX12_season RX12 (some .int) 609 0 K) (hp_v0 : am_ob v0 12) (hC116 : ∀ w3 w4 w5 m, C116 w3 w4 w5 m → am_Bt m → am_Z F 116 [] [(2, v0), (9, 0), (0, v2), (0, w3), (0, w4), (0, w5), (9, 0), (9, 0), (9, 0)] m 200) (hB : am_Bt m) (h : M_X12_season_J4 v0 v2 v3 v4 v5 C116 K m) : am_Z F 224 [] [(2, v0), (9, 0), (0, v2), (0, v3), (0, v4), (0, v5), (9, 0), (9, 0), (9, 0)] m 200 := by
  have G := X.G
  unfold M_X12_season_J4 at h
  refine b_iinc (nx := 227) (a := 5) (loc2 := fun v5_13 => [(2, v0), (9, 0), (0, v2), (0, v3), (0, v4), (0, v5_13), (9, 0), (9, 0), (9, 0)]) G (fun _ => rfl) rfl (am_pl1 rfl (fun h => nomatch h)) dX12_season_224 rfl (fun v5_13 e_v5_13 => ?_)
  have h := h v5_13 e_v5_13
  refine z_goto (tgt := 116) G dX12_season_227 (by decide) ?_
  exact b_fewer (loc2 := [(2, v0), (9, 0), (0, v2), (0, v3), (0, v4), (0, v5_13), (9, 0), (9, 0), (9, 0)]) (am_lk (am_lk (am_lk (am_lk (am_lk (am_lk (am_lk (am_lk (am_lk am_ln))))))))) (hC116 _ _ _ _ h hB)
set_option maxRecDepth 20000 in
set_option maxHeartbeats 4000000 in
theorem S_X12_season_J3 {F : am_F} {K : am_KK} {v0 : Int} {v2 : Int} {v3 : Int} {v5 : Int} {s0 : Int} {C116 : Int → Int → Int → am_M → Prop} {m : am_M} (X : am_Cx F cX12_season RX12 (some .int) 609 0 K) (hp_v0 : am_ob v0 12) (hp_s0 : s0 = 0 ∨ s0 = 1) (hC116 : ∀ w3 w4 w5 m, C116 w3 w4 w5 m → am_Bt m → am_Z F 116 [] [(2, v0), (9, 0), (0, v2), (0, w3), (0, w4), (0, w5), (9, 0), (9, 0), (9, 0)] m 200) (hB : am_Bt m) (h : M_X12_season_J3 v0 v2 v3 v5 s0 C116 K m) : am_Z F 210 [(0, s0)] [(2, v0), (9, 0), (0, v2), (0, v3), (9, 0), (0, v5), (9, 0), (9, 0), (9, 0)] m 200 := by
  have G := X.G
  unfold M_X12_season_J3 at h
  refine b_storeE (nx := 212) (a := 4) (loc2 := [(2, v0), (9, 0), (0, v2), (0, v3), (0, s0), (0, v5), (9, 0), (9, 0), (9, 0)]) G rfl (Nat.le_of_ble_eq_true rfl) (am_pl1 rfl (fun h => nomatch h)) dX12_season_210 rfl (z_iload (nx := 214) (a := 4) G rfl dX12_season_212 rfl ?_)
  refine z_if_eq (nx := 217) (tgt := 224) G dX12_season_214 (by decide) rfl (fun c => ?_) (fun c => ?_)
  · have h := h.1 c
    exact b_fewer (loc2 := [(2, v0), (9, 0), (0, v2), (0, v3), (0, s0), (0, v5), (9, 0), (9, 0), (9, 0)]) (am_lk (am_lk (am_lk (am_lk (am_lk (am_lk (am_lk (am_lk (am_lk am_ln))))))))) (S_X12_season_J4 X hp_v0 hC116 hB h)
  · have h := h.2 c
    refine z_iload_n (nx := 218) (a := 3) G rfl dX12_season_217 rfl (z_aload_n (nx := 219) (a := 0) G rfl (Or.inl rfl) dX12_season_218 rfl ?_)
    refine b_callV0 (nx := 222) (zs := [v0]) (as := []) X hB (by decide) rfl hp_v0 SS_X12_dawns (am_ta am_tn) (Nat.le_of_ble_eq_true rfl) (Nat.le_of_ble_eq_true rfl) ml_RX12_379 iw_X12_dawns vw_X12_dawns cw_X12_dawns nw_RX12 pp_X12_dawns (Nat.le_of_ble_eq_true rfl) dX12_season_219 rfl (NM_X12_dawns hp_v0 h) (fun r_14 m_15 h hB => ?_)
    refine z_iadd (nx := 223) G dX12_season_222 rfl ?_
    refine b_store_n (nx := 224) (a := 3) (loc2 := fun v3_16 => [(2, v0), (9, 0), (0, v2), (0, v3_16), (0, s0), (0, v5), (9, 0), (9, 0), (9, 0)]) G (fun _ => rfl) (Nat.le_of_ble_eq_true rfl) (am_pl1 rfl (fun h => nomatch h)) dX12_season_223 rfl (fun v3_16 e_v3_16 => ?_)
    have h := h v3_16 e_v3_16
    exact b_fewer (loc2 := [(2, v0), (9, 0), (0, v2), (0, v3_16), (0, s0), (0, v5), (9, 0), (9, 0), (9, 0)]) (am_lk (am_lk (am_lk (am_lk (am_lk (am_lk (am_lk (am_lk (am_lk am_ln))))))))) (S_X12_season_J4 X hp_v0 hC116 hB h)
set_option maxRecDepth 20000 in
set_option maxHeartbeats 4000000 in
theorem S_X12_season_J2 {F : am_F} {K : am_KK} {v0 : Int} {v2 : Int} {v3 : Int} {v5 : Int} {C116 : Int → Int → Int → am_M → Prop} {m : am_M} (X : am_Cx F cX12_season RX12 (some .int) 609 0 K) (hp_v0 : am_ob v0 12) (hC116 : ∀ w3 w4 w5 m, C116 w3 w4 w5 m → am_Bt m → am_Z F 116 [] [(2, v0), (9, 0), (0, v2), (0, w3), (0, w4), (0, w5), (9, 0), (9, 0), (9, 0)] m 200) (hB : am_Bt m) (h : M_X12_season_J2 v0 v2 v3 v5 C116 K m) : am_Z F 191 [] [(2, v0), (9, 0), (0, v2), (0, v3), (9, 0), (0, v5), (9, 0), (9, 0), (9, 0)] m 200 := by
  have G := X.G
  unfold M_X12_season_J2 at h
  refine z_aload_n (nx := 192) (a := 0) G rfl (Or.inl rfl) dX12_season_191 rfl (b_getA (nx := 195) (k0 := 2) G hB fl_RX12_24 (Nat.le_of_ble_eq_true rfl) (Nat.le_of_ble_eq_true rfl) rfl hp_v0 dX12_season_192 rfl (z_sipush (nx := 198) (z := 169) G (R32c rfl) rfl dX12_season_195 rfl ?_))
  obtain ⟨hb, h⟩ := h
  refine z_iald (nx := 199) G (sh_12_2 _ hp_v0) hb.1 hb.2 dX12_season_198 rfl ?_
  refine z_sipush (nx := 202) (z := 999) G (R32c rfl) rfl dX12_season_199 rfl ?_
  refine z_icmp_ge (nx := 205) (tgt := 209) G dX12_season_202 (by decide) rfl (fun c => ?_) (fun c => ?_)
  · have h := h.1 c
    refine z_iconst (nx := 210) (z := 0) G (R32c rfl) dX12_season_209 rfl ?_
    exact b_fewer (loc2 := [(2, v0), (9, 0), (0, v2), (0, v3), (9, 0), (0, v5), (9, 0), (9, 0), (9, 0)]) (am_lk (am_lk (am_lk (am_lk (am_lk (am_lk (am_lk (am_lk (am_lk am_ln))))))))) (S_X12_season_J3 X hp_v0 (Or.inl rfl) hC116 hB h)
  · have h := h.2 c
    refine z_iconst (nx := 206) (z := 1) G (R32c rfl) dX12_season_205 rfl (z_goto (tgt := 210) G dX12_season_206 (by decide) ?_)
    exact b_fewer (loc2 := [(2, v0), (9, 0), (0, v2), (0, v3), (9, 0), (0, v5), (9, 0), (9, 0), (9, 0)]) (am_lk (am_lk (am_lk (am_lk (am_lk (am_lk (am_lk (am_lk (am_lk am_ln))))))))) (S_X12_season_J3 X hp_v0 (Or.inr rfl) hC116 hB h)
set_option maxRecDepth 20000 in
set_option maxHeartbeats 4000000 in
theorem S_X12_season_L3B {F : am_F} {K : am_KK} {v0 : Int} {v2 : Int} {v3 : Int} {v4 : Int} {v5 : Int} {C116 : Int → Int → Int → am_M → Prop} {m : am_M} (X : am_Cx F cX12_season RX12 (some .int) 609 0 K) (hp_v0 : am_ob v0 12) (hC116 : ∀ w3 w4 w5 m, C116 w3 w4 w5 m → am_Bt m → am_Z F 116 [] [(2, v0), (9, 0), (0, v2), (0, w3), (0, w4), (0, w5), (9, 0), (9, 0), (9, 0)] m 200) (hB : am_Bt m) (h : M_X12_season_L3B v0 v2 v3 v4 v5 C116 K m) : am_Z F 116 [] [(2, v0), (9, 0), (0, v2), (0, v3), (0, v4), (0, v5), (9, 0), (9, 0), (9, 0)] m 200 := by
  have G := X.G
  unfold M_X12_season_L3B at h
  refine z_iload (nx := 118) (a := 5) G rfl dX12_season_116 rfl (z_iload_n (nx := 119) (a := 2) G rfl dX12_season_118 rfl ?_)
  refine z_icmp_ge (nx := 122) (tgt := 230) G dX12_season_119 (by decide) rfl (fun c => ?_) (fun c => ?_)
  · have h := h.1 c
    exact b_fewer (loc2 := [(2, v0), (9, 0), (9, 0), (0, v3), (9, 0), (9, 0), (9, 0), (9, 0), (9, 0)]) (am_lk (am_lk (am_lf (am_lk (am_lf (am_lf (am_lk (am_lk (am_lk am_ln))))))))) (S_X12_season_J5 X hp_v0 hB h)
  · have h := h.2 c
    refine z_iload (nx := 124) (a := 4) G rfl dX12_season_122 rfl ?_
    refine z_if_eq (nx := 127) (tgt := 230) G dX12_season_124 (by decide) rfl (fun c => ?_) (fun c => ?_)
    · have h := h.1 c
      exact b_fewer (loc2 := [(2, v0), (9, 0), (9, 0), (0, v3), (9, 0), (9, 0), (9, 0), (9, 0), (9, 0)]) (am_lk (am_lk (am_lf (am_lk (am_lf (am_lf (am_lk (am_lk (am_lk am_ln))))))))) (S_X12_season_J5 X hp_v0 hB h)
    · have h := h.2 c
      refine z_aload_n (nx := 128) (a := 0) G rfl (Or.inl rfl) dX12_season_127 rfl (z_aload_n (nx := 129) (a := 0) G rfl (Or.inl rfl) dX12_season_128 rfl (b_getI (nx := 132) (k0 := 58) (t := 0) G fl_RX12_470 (Nat.le_of_ble_eq_true rfl) (Nat.le_of_ble_eq_true rfl) rfl hp_v0 dX12_season_129 rfl ?_))
      refine b_callV0 (nx := 135) (zs := [v0, m v0 58]) (as := [(0, m v0 58)]) X hB (by decide) rfl hp_v0 SS_X12_draws (am_ta (am_ti am_tn)) (Nat.le_of_ble_eq_true rfl) (Nat.le_of_ble_eq_true rfl) ml_RX12_473 iw_X12_draws vw_X12_draws cw_X12_draws nw_RX12 pp_X12_draws (Nat.le_of_ble_eq_true rfl) dX12_season_132 rfl (NM_X12_draws hp_v0 h) (fun r_17 m_18 h hB => ?_)
      refine b_storeE (nx := 137) (a := 6) (loc2 := [(2, v0), (9, 0), (0, v2), (0, v3), (0, v4), (0, v5), (0, r_17), (9, 0), (9, 0)]) G rfl (Nat.le_of_ble_eq_true rfl) (am_pl1 rfl (fun h => nomatch h)) dX12_season_135 rfl (z_aload_n (nx := 138) (a := 0) G rfl (Or.inl rfl) dX12_season_137 rfl (z_bipush (nx := 140) (z := 8) G (R32c rfl) rfl dX12_season_138 rfl ?_))
      refine b_callV0 (nx := 143) (zs := [v0, 8]) (as := [(0, 8)]) X hB (by decide) rfl hp_v0 SS_X12_draws (am_ta (am_ti am_tn)) (Nat.le_of_ble_eq_true rfl) (Nat.le_of_ble_eq_true rfl) ml_RX12_473 iw_X12_draws vw_X12_draws cw_X12_draws nw_RX12 pp_X12_draws (Nat.le_of_ble_eq_true rfl) dX12_season_140 rfl (NM_X12_draws hp_v0 h) (fun r_19 m_20 h hB => ?_)
      refine b_storeE (nx := 145) (a := 7) (loc2 := [(2, v0), (9, 0), (0, v2), (0, v3), (0, v4), (0, v5), (0, r_17), (0, r_19), (9, 0)]) G rfl (Nat.le_of_ble_eq_true rfl) (am_pl1 rfl (fun h => nomatch h)) dX12_season_143 rfl (z_aload_n (nx := 146) (a := 0) G rfl (Or.inl rfl) dX12_season_145 rfl (z_bipush (nx := 148) (z := 40) G (R32c rfl) rfl dX12_season_146 rfl ?_))
      refine b_callV0 (nx := 151) (zs := [v0, 40]) (as := [(0, 40)]) X hB (by decide) rfl hp_v0 SS_X12_draws (am_ta (am_ti am_tn)) (Nat.le_of_ble_eq_true rfl) (Nat.le_of_ble_eq_true rfl) ml_RX12_473 iw_X12_draws vw_X12_draws cw_X12_draws nw_RX12 pp_X12_draws (Nat.le_of_ble_eq_true rfl) dX12_season_148 rfl (NM_X12_draws hp_v0 h) (fun r_21 m_22 h hB => ?_)
      refine z_iconst (nx := 152) (z := 1) G (R32c rfl) dX12_season_151 rfl (z_iadd (nx := 153) G dX12_season_152 rfl ?_)
      refine b_store (nx := 155) (a := 8) (loc2 := fun v8_23 => [(2, v0), (9, 0), (0, v2), (0, v3), (0, v4), (0, v5), (0, r_17), (0, r_19), (0, v8_23)]) G (fun _ => rfl) (Nat.le_of_ble_eq_true rfl) (am_pl1 rfl (fun h => nomatch h)) dX12_season_153 rfl (fun v8_23 e_v8_23 => ?_)
      have h := h v8_23 e_v8_23
      refine z_aload_n (nx := 156) (a := 0) G rfl (Or.inl rfl) dX12_season_155 rfl (z_iload (nx := 158) (a := 6) G rfl dX12_season_156 rfl (z_iload (nx := 160) (a := 7) G rfl dX12_season_158 rfl (z_iload (nx := 162) (a := 8) G rfl dX12_season_160 rfl (z_iconst (nx := 163) (z := 1) G (R32c rfl) dX12_season_162 rfl ?_))))
      refine b_callV0 (nx := 166) (zs := [v0, r_17, r_19, v8_23, 1]) (as := [(0, r_17), (0, r_19), (0, v8_23), (0, 1)]) X hB (by decide) rfl hp_v0 SS_X12_whyNot (am_ta (am_ti (am_ti (am_ti (am_ti am_tn))))) (Nat.le_of_ble_eq_true rfl) (Nat.le_of_ble_eq_true rfl) ml_RX12_173 iw_X12_whyNot vw_X12_whyNot cw_X12_whyNot nw_RX12 pp_X12_whyNot (Nat.le_of_ble_eq_true rfl) dX12_season_163 rfl (NM_X12_whyNot hp_v0 h) (fun r_24 m_25 h hB => ?_)
      refine z_if_ne (nx := 169) (tgt := 191) G dX12_season_166 (by decide) rfl (fun c => ?_) (fun c => ?_)
      · have h := h.1 c
        exact b_fewer (loc2 := [(2, v0), (9, 0), (0, v2), (0, v3), (9, 0), (0, v5), (9, 0), (9, 0), (9, 0)]) (am_lk (am_lk (am_lk (am_lk (am_lf (am_lk (am_lf (am_lf (am_lf am_ln))))))))) (S_X12_season_J2 X hp_v0 hC116 hB h)
      · have h := h.2 c
        refine z_aload_n (nx := 170) (a := 0) G rfl (Or.inl rfl) dX12_season_169 rfl (z_iload (nx := 172) (a := 6) G rfl dX12_season_170 rfl (z_iload (nx := 174) (a := 7) G rfl dX12_season_172 rfl (z_iload (nx := 176) (a := 8) G rfl dX12_season_174 rfl (z_iconst (nx := 177) (z := 1) G (R32c rfl) dX12_season_176 rfl ?_))))
        refine b_callV9 (nx := 180) (zs := [v0, r_17, r_19, v8_23, 1]) (as := [(0, r_17), (0, r_19), (0, v8_23), (0, 1)]) X hB (by decide) rfl hp_v0 SS_X12_says (am_ta (am_ti (am_ti (am_ti (am_ti am_tn))))) (Nat.le_of_ble_eq_true rfl) (Nat.le_of_ble_eq_true rfl) ml_RX12_177 iw_X12_says vw_X12_says cw_X12_says nw_RX12 pp_X12_says (Nat.le_of_ble_eq_true rfl) dX12_season_177 rfl (NM_X12_says hp_v0 h) (fun r_26 m_27 h hB => ?_)
        refine z_aload_n (nx := 181) (a := 0) G rfl (Or.inl rfl) dX12_season_180 rfl (b_getA (nx := 184) (k0 := 56) G hB fl_RX12_117 (Nat.le_of_ble_eq_true rfl) (Nat.le_of_ble_eq_true rfl) rfl hp_v0 dX12_season_181 rfl (z_iload (nx := 186) (a := 6) G rfl dX12_season_184 rfl (z_dup2 (nx := 187) G (fun h => nomatch h) (fun h => nomatch h) dX12_season_186 rfl ?_)))
        obtain ⟨hb, h⟩ := h
        refine z_iald (nx := 188) G (sh_12_56 _ hp_v0) hb.1 hb.2 dX12_season_187 rfl ?_
        refine z_iconst (nx := 189) (z := 1) G (R32c rfl) dX12_season_188 rfl (z_iadd (nx := 190) G dX12_season_189 rfl ?_)
        obtain ⟨hb, h⟩ := h
        refine b_iast (nx := 191) G hB (sh_12_56 _ hp_v0) hb.1 hb.2 dX12_season_190 rfl (fun m_28 e_m_28 hB => ?_)
        have h := h m_28 e_m_28
        exact b_fewer (loc2 := [(2, v0), (9, 0), (0, v2), (0, v3), (9, 0), (0, v5), (9, 0), (9, 0), (9, 0)]) (am_lk (am_lk (am_lk (am_lk (am_lf (am_lk (am_lf (am_lf (am_lf am_ln))))))))) (S_X12_season_J2 X hp_v0 hC116 hB h)
theorem S_X12_season_L3 {F : am_F} {K : am_KK} {v0 : Int} {v2 : Int} {v3 : Int} {v4 : Int} {v5 : Int} {m : am_M} (X : am_Cx F cX12_season RX12 (some .int) 609 0 K) (hp_v0 : am_ob v0 12) (hB : am_Bt m) (h : M_X12_season_L3 v0 v2 v3 v4 v5 K m) : am_Z F 116 [] [(2, v0), (9, 0), (0, v2), (0, v3), (0, v4), (0, v5), (9, 0), (9, 0), (9, 0)] m 200 := by
  obtain ⟨I, ⟨j, hj⟩, hI⟩ := h
  have key : ∀ j v3 v4 v5 m, I j v3 v4 v5 m → am_Bt m → am_Z F 116 [] [(2, v0), (9, 0), (0, v2), (0, v3), (0, v4), (0, v5), (9, 0), (9, 0), (9, 0)] m 200 := by
    intro j
    induction j using Nat.strongRecOn with
    | ind j ih =>
      intro v3 v4 v5 m hj hB
      exact S_X12_season_L3B X hp_v0 (fun v3' v4' v5' m' hc hB' => by
        obtain ⟨j', g1, g2⟩ := hc
        exact ih j' g1 v3' v4' v5' m' g2 hB') hB (hI j v3 v4 v5 m hj)
  exact key j _ _ _ _ hj hB
set_option maxRecDepth 20000 in
set_option maxHeartbeats 4000000 in
theorem S_X12_season_L2B {F : am_F} {K : am_KK} {v0 : Int} {v2 : Int} {v3 : Int} {C84 : Int → am_M → Prop} {m : am_M} (X : am_Cx F cX12_season RX12 (some .int) 609 0 K) (hp_v0 : am_ob v0 12) (hC84 : ∀ w3 m, C84 w3 m → am_Bt m → am_Z F 84 [] [(2, v0), (9, 0), (0, v2), (0, w3), (9, 0), (9, 0), (9, 0), (9, 0), (9, 0)] m 200) (hB : am_Bt m) (h : M_X12_season_L2B v0 v2 v3 C84 K m) : am_Z F 84 [] [(2, v0), (9, 0), (0, v2), (0, v3), (9, 0), (9, 0), (9, 0), (9, 0), (9, 0)] m 200 := by
  have G := X.G
  unfold M_X12_season_L2B at h
  refine z_iload_n (nx := 85) (a := 3) G rfl dX12_season_84 rfl (z_bipush (nx := 87) (z := 18) G (R32c rfl) rfl dX12_season_85 rfl ?_)
  refine z_icmp_ge (nx := 90) (tgt := 103) G dX12_season_87 (by decide) rfl (fun c => ?_) (fun c => ?_)
  · have h := h.1 c
    refine z_aload_n (nx := 104) (a := 0) G rfl (Or.inl rfl) dX12_season_103 rfl (z_iconst (nx := 105) (z := 0) G (R32c rfl) dX12_season_104 rfl ?_)
    refine b_callV9 (nx := 108) (zs := [v0, 0]) (as := [(0, 0)]) X hB (by decide) rfl hp_v0 SS_X12_laysAside (am_ta (am_ti am_tn)) (Nat.le_of_ble_eq_true rfl) (Nat.le_of_ble_eq_true rfl) ml_RX12_415 iw_X12_laysAside vw_X12_laysAside cw_X12_laysAside nw_RX12 pp_X12_laysAside (Nat.le_of_ble_eq_true rfl) dX12_season_105 rfl (NM_X12_laysAside hp_v0 h) (fun r_29 m_30 h hB => ?_)
    refine z_iconst (nx := 109) (z := 0) G (R32c rfl) dX12_season_108 rfl (b_storeE_n (nx := 110) (a := 3) (loc2 := [(2, v0), (9, 0), (0, v2), (0, 0), (9, 0), (9, 0), (9, 0), (9, 0), (9, 0)]) G rfl (Nat.le_of_ble_eq_true rfl) (am_pl1 rfl (fun h => nomatch h)) dX12_season_109 rfl (z_iconst (nx := 111) (z := 1) G (R32c rfl) dX12_season_110 rfl (b_storeE (nx := 113) (a := 4) (loc2 := [(2, v0), (9, 0), (0, v2), (0, 0), (0, 1), (9, 0), (9, 0), (9, 0), (9, 0)]) G rfl (Nat.le_of_ble_eq_true rfl) (am_pl1 rfl (fun h => nomatch h)) dX12_season_111 rfl (z_iconst (nx := 114) (z := 0) G (R32c rfl) dX12_season_113 rfl (b_storeE (nx := 116) (a := 5) (loc2 := [(2, v0), (9, 0), (0, v2), (0, 0), (0, 1), (0, 0), (9, 0), (9, 0), (9, 0)]) G rfl (Nat.le_of_ble_eq_true rfl) (am_pl1 rfl (fun h => nomatch h)) dX12_season_114 rfl ?_)))))
    exact b_fewer (loc2 := [(2, v0), (9, 0), (0, v2), (0, 0), (0, 1), (0, 0), (9, 0), (9, 0), (9, 0)]) (am_lk (am_lk (am_lk (am_lk (am_lk (am_lk (am_lk (am_lk (am_lk am_ln))))))))) (S_X12_season_L3 X hp_v0 hB h)
  · have h := h.2 c
    refine z_aload_n (nx := 91) (a := 0) G rfl (Or.inl rfl) dX12_season_90 rfl (b_getA (nx := 94) (k0 := 57) G hB fl_RX12_120 (Nat.le_of_ble_eq_true rfl) (Nat.le_of_ble_eq_true rfl) rfl hp_v0 dX12_season_91 rfl (z_iload_n (nx := 95) (a := 3) G rfl dX12_season_94 rfl (z_iconst (nx := 96) (z := 0) G (R32c rfl) dX12_season_95 rfl ?_)))
    obtain ⟨hb, h⟩ := h
    refine b_iast (nx := 97) G hB (sh_12_57 _ hp_v0) hb.1 hb.2 dX12_season_96 rfl (fun m_31 e_m_31 hB => ?_)
    have h := h m_31 e_m_31
    refine b_iinc (nx := 100) (a := 3) (loc2 := fun v3_32 => [(2, v0), (9, 0), (0, v2), (0, v3_32), (9, 0), (9, 0), (9, 0), (9, 0), (9, 0)]) G (fun _ => rfl) rfl (am_pl1 rfl (fun h => nomatch h)) dX12_season_97 rfl (fun v3_32 e_v3_32 => ?_)
    have h := h v3_32 e_v3_32
    refine z_goto (tgt := 84) G dX12_season_100 (by decide) ?_
    exact b_fewer (loc2 := [(2, v0), (9, 0), (0, v2), (0, v3_32), (9, 0), (9, 0), (9, 0), (9, 0), (9, 0)]) (am_lk (am_lk (am_lk (am_lk (am_lk (am_lk (am_lk (am_lk (am_lk am_ln))))))))) (hC84 _ _ h hB)
theorem S_X12_season_L2 {F : am_F} {K : am_KK} {v0 : Int} {v2 : Int} {v3 : Int} {m : am_M} (X : am_Cx F cX12_season RX12 (some .int) 609 0 K) (hp_v0 : am_ob v0 12) (hB : am_Bt m) (h : M_X12_season_L2 v0 v2 v3 K m) : am_Z F 84 [] [(2, v0), (9, 0), (0, v2), (0, v3), (9, 0), (9, 0), (9, 0), (9, 0), (9, 0)] m 200 := by
  obtain ⟨I, ⟨j, hj⟩, hI⟩ := h
  have key : ∀ j v3 m, I j v3 m → am_Bt m → am_Z F 84 [] [(2, v0), (9, 0), (0, v2), (0, v3), (9, 0), (9, 0), (9, 0), (9, 0), (9, 0)] m 200 := by
    intro j
    induction j using Nat.strongRecOn with
    | ind j ih =>
      intro v3 m hj hB
      exact S_X12_season_L2B X hp_v0 (fun v3' m' hc hB' => by
        obtain ⟨j', g1, g2⟩ := hc
        exact ih j' g1 v3' m' g2 hB') hB (hI j v3 m hj)
  exact key j _ _ hj hB
set_option maxRecDepth 20000 in
set_option maxHeartbeats 4000000 in
theorem S_X12_season_L1B {F : am_F} {K : am_KK} {v0 : Int} {v2 : Int} {v3 : Int} {C63 : Int → am_M → Prop} {m : am_M} (X : am_Cx F cX12_season RX12 (some .int) 609 0 K) (hp_v0 : am_ob v0 12) (hC63 : ∀ w3 m, C63 w3 m → am_Bt m → am_Z F 63 [] [(2, v0), (9, 0), (0, v2), (0, w3), (9, 0), (9, 0), (9, 0), (9, 0), (9, 0)] m 200) (hB : am_Bt m) (h : M_X12_season_L1B v0 v2 v3 C63 K m) : am_Z F 63 [] [(2, v0), (9, 0), (0, v2), (0, v3), (9, 0), (9, 0), (9, 0), (9, 0), (9, 0)] m 200 := by
  have G := X.G
  unfold M_X12_season_L1B at h
  refine z_iload_n (nx := 64) (a := 3) G rfl dX12_season_63 rfl (z_bipush (nx := 66) (z := 6) G (R32c rfl) rfl dX12_season_64 rfl ?_)
  refine z_icmp_ge (nx := 69) (tgt := 82) G dX12_season_66 (by decide) rfl (fun c => ?_) (fun c => ?_)
  · have h := h.1 c
    refine z_iconst (nx := 83) (z := 0) G (R32c rfl) dX12_season_82 rfl (b_storeE_n (nx := 84) (a := 3) (loc2 := [(2, v0), (9, 0), (0, v2), (0, 0), (9, 0), (9, 0), (9, 0), (9, 0), (9, 0)]) G rfl (Nat.le_of_ble_eq_true rfl) (am_pl1 rfl (fun h => nomatch h)) dX12_season_83 rfl ?_)
    exact b_fewer (loc2 := [(2, v0), (9, 0), (0, v2), (0, 0), (9, 0), (9, 0), (9, 0), (9, 0), (9, 0)]) (am_lk (am_lk (am_lk (am_lk (am_lk (am_lk (am_lk (am_lk (am_lk am_ln))))))))) (S_X12_season_L2 X hp_v0 hB h)
  · have h := h.2 c
    refine z_aload_n (nx := 70) (a := 0) G rfl (Or.inl rfl) dX12_season_69 rfl (b_getA (nx := 73) (k0 := 56) G hB fl_RX12_117 (Nat.le_of_ble_eq_true rfl) (Nat.le_of_ble_eq_true rfl) rfl hp_v0 dX12_season_70 rfl (z_iload_n (nx := 74) (a := 3) G rfl dX12_season_73 rfl (z_iconst (nx := 75) (z := 0) G (R32c rfl) dX12_season_74 rfl ?_)))
    obtain ⟨hb, h⟩ := h
    refine b_iast (nx := 76) G hB (sh_12_56 _ hp_v0) hb.1 hb.2 dX12_season_75 rfl (fun m_33 e_m_33 hB => ?_)
    have h := h m_33 e_m_33
    refine b_iinc (nx := 79) (a := 3) (loc2 := fun v3_34 => [(2, v0), (9, 0), (0, v2), (0, v3_34), (9, 0), (9, 0), (9, 0), (9, 0), (9, 0)]) G (fun _ => rfl) rfl (am_pl1 rfl (fun h => nomatch h)) dX12_season_76 rfl (fun v3_34 e_v3_34 => ?_)
    have h := h v3_34 e_v3_34
    refine z_goto (tgt := 63) G dX12_season_79 (by decide) ?_
    exact b_fewer (loc2 := [(2, v0), (9, 0), (0, v2), (0, v3_34), (9, 0), (9, 0), (9, 0), (9, 0), (9, 0)]) (am_lk (am_lk (am_lk (am_lk (am_lk (am_lk (am_lk (am_lk (am_lk am_ln))))))))) (hC63 _ _ h hB)
theorem S_X12_season_L1 {F : am_F} {K : am_KK} {v0 : Int} {v2 : Int} {v3 : Int} {m : am_M} (X : am_Cx F cX12_season RX12 (some .int) 609 0 K) (hp_v0 : am_ob v0 12) (hB : am_Bt m) (h : M_X12_season_L1 v0 v2 v3 K m) : am_Z F 63 [] [(2, v0), (9, 0), (0, v2), (0, v3), (9, 0), (9, 0), (9, 0), (9, 0), (9, 0)] m 200 := by
  obtain ⟨I, ⟨j, hj⟩, hI⟩ := h
  have key : ∀ j v3 m, I j v3 m → am_Bt m → am_Z F 63 [] [(2, v0), (9, 0), (0, v2), (0, v3), (9, 0), (9, 0), (9, 0), (9, 0), (9, 0)] m 200 := by
    intro j
    induction j using Nat.strongRecOn with
    | ind j ih =>
      intro v3 m hj hB
      exact S_X12_season_L1B X hp_v0 (fun v3' m' hc hB' => by
        obtain ⟨j', g1, g2⟩ := hc
        exact ih j' g1 v3' m' g2 hB') hB (hI j v3 m hj)
  exact key j _ _ hj hB
set_option maxRecDepth 20000 in
set_option maxHeartbeats 4000000 in
theorem S_X12_season_J1 {F : am_F} {K : am_KK} {v0 : Int} {m : am_M} (X : am_Cx F cX12_season RX12 (some .int) 609 0 K) (hp_v0 : am_ob v0 12) (hB : am_Bt m) (h : M_X12_season_J1 v0 K m) : am_Z F 20 [] [(2, v0), (9, 0), (9, 0), (9, 0), (9, 0), (9, 0), (9, 0), (9, 0), (9, 0)] m 200 := by
  have G := X.G
  unfold M_X12_season_J1 at h
  refine z_aload_n (nx := 21) (a := 0) G rfl (Or.inl rfl) dX12_season_20 rfl (z_iconst (nx := 22) (z := (-1)) G (R32c rfl) dX12_season_21 rfl ?_)
  refine b_callV0 (nx := 25) (zs := [v0, (-1)]) (as := [(0, (-1))]) X hB (by decide) rfl hp_v0 SS_X12_refuses (am_ta (am_ti am_tn)) (Nat.le_of_ble_eq_true rfl) (Nat.le_of_ble_eq_true rfl) ml_RX12_127 iw_X12_refuses vw_X12_refuses cw_X12_refuses nw_RX12 pp_X12_refuses (Nat.le_of_ble_eq_true rfl) dX12_season_22 rfl (NM_X12_refuses hp_v0 h) (fun r_35 m_36 h hB => ?_)
  exact b_ireturn X hB dX12_season_25 h
set_option maxRecDepth 20000 in
set_option maxHeartbeats 4000000 in
theorem S_X12_season {F : am_F} {K : am_KK} {v0 : Int} {v1 : Int} {v2 : Int} {m : am_M} (X : am_Cx F cX12_season RX12 (some .int) 609 0 K) (hp_v0 : am_ob v0 12) (hB : am_Bt m) (h : M_X12_season v0 v1 v2 K m) : am_Z F 0 [] [(2, v0), (0, v1), (0, v2), (9, 0), (9, 0), (9, 0), (9, 0), (9, 0), (9, 0)] m 200 := by
  have G := X.G
  unfold M_X12_season at h
  refine z_iload_n (nx := 1) (a := 1) G rfl dX12_season_0 rfl (z_iconst (nx := 2) (z := 0) G (R32c rfl) dX12_season_1 rfl (z_ldc (nx := 4) (z := 1000000) G (R32c rfl) rfl kw_RX12_193 dX12_season_2 rfl ?_))
  refine b_callS5 (nx := 7) (zs := [v1, 0, 1000000]) (as := [(0, v1), (0, 0), (0, 1000000)]) X hB SS_X12_lies (am_ti (am_ti (am_ti am_tn))) (Nat.le_of_ble_eq_true rfl) (Nat.le_of_ble_eq_true rfl) ml_RX12_123 sw_X12_lies (am_plainC 12 (by decide)) cw_X12_lies nw_RX12 pp_X12_lies (Nat.le_of_ble_eq_true rfl) dX12_season_4 rfl (NM_X12_lies h) (fun r_37 m_38 h h01_39 hB => ?_)
  refine z_if_eq (nx := 10) (tgt := 20) G dX12_season_7 (by decide) rfl (fun c => ?_) (fun c => ?_)
  · have h := h.1 c
    exact b_fewer (loc2 := [(2, v0), (9, 0), (9, 0), (9, 0), (9, 0), (9, 0), (9, 0), (9, 0), (9, 0)]) (am_lk (am_lf (am_lf (am_lk (am_lk (am_lk (am_lk (am_lk (am_lk am_ln))))))))) (S_X12_season_J1 X hp_v0 hB h)
  · have h := h.2 c
    refine z_iload_n (nx := 11) (a := 2) G rfl dX12_season_10 rfl (z_iconst (nx := 12) (z := 1) G (R32c rfl) dX12_season_11 rfl (z_bipush (nx := 14) (z := 60) G (R32c rfl) rfl dX12_season_12 rfl ?_))
    refine b_callS5 (nx := 17) (zs := [v2, 1, 60]) (as := [(0, v2), (0, 1), (0, 60)]) X hB SS_X12_lies (am_ti (am_ti (am_ti am_tn))) (Nat.le_of_ble_eq_true rfl) (Nat.le_of_ble_eq_true rfl) ml_RX12_123 sw_X12_lies (am_plainC 12 (by decide)) cw_X12_lies nw_RX12 pp_X12_lies (Nat.le_of_ble_eq_true rfl) dX12_season_14 rfl (NM_X12_lies h) (fun r_40 m_41 h h01_42 hB => ?_)
    refine z_if_ne (nx := 20) (tgt := 26) G dX12_season_17 (by decide) rfl (fun c => ?_) (fun c => ?_)
    · have h := h.1 c
      refine z_aload_n (nx := 27) (a := 0) G rfl (Or.inl rfl) dX12_season_26 rfl (b_getA (nx := 30) (k0 := 2) G hB fl_RX12_24 (Nat.le_of_ble_eq_true rfl) (Nat.le_of_ble_eq_true rfl) rfl hp_v0 dX12_season_27 rfl (z_sipush (nx := 33) (z := 365) G (R32c rfl) rfl dX12_season_30 rfl ?_))
      obtain ⟨hb, h⟩ := h
      refine z_iald (nx := 34) G (sh_12_2 _ hp_v0) hb.1 hb.2 dX12_season_33 rfl ?_
      refine z_if_ne (nx := 37) (tgt := 44) G dX12_season_34 (by decide) rfl (fun c => ?_) (fun c => ?_)
      · have h := h.1 c
        refine z_aload_n (nx := 45) (a := 0) G rfl (Or.inl rfl) dX12_season_44 rfl (z_iload_n (nx := 46) (a := 1) G rfl dX12_season_45 rfl ?_)
        refine b_put (nx := 49) (k0 := 59) (t := 0) G hB fl_RX12_463 (Nat.le_of_ble_eq_true rfl) (Nat.le_of_ble_eq_true rfl) rfl (fun h => nomatch h) rfl hp_v0 dX12_season_46 rfl (fun m_43 e_m_43 hB => ?_)
        have h := h m_43 e_m_43
        refine z_aload_n (nx := 50) (a := 0) G rfl (Or.inl rfl) dX12_season_49 rfl (z_aload_n (nx := 51) (a := 0) G rfl (Or.inl rfl) dX12_season_50 rfl (b_getA (nx := 54) (k0 := 2) G hB fl_RX12_24 (Nat.le_of_ble_eq_true rfl) (Nat.le_of_ble_eq_true rfl) rfl hp_v0 dX12_season_51 rfl (z_sipush (nx := 57) (z := 365) G (R32c rfl) rfl dX12_season_54 rfl ?_)))
        obtain ⟨hb, h⟩ := h
        refine z_iald (nx := 58) G (sh_12_2 _ hp_v0) hb.1 hb.2 dX12_season_57 rfl ?_
        refine b_put (nx := 61) (k0 := 58) (t := 0) G hB fl_RX12_470 (Nat.le_of_ble_eq_true rfl) (Nat.le_of_ble_eq_true rfl) rfl (fun h => nomatch h) rfl hp_v0 dX12_season_58 rfl (fun m_44 e_m_44 hB => ?_)
        have h := h m_44 e_m_44
        refine z_iconst (nx := 62) (z := 0) G (R32c rfl) dX12_season_61 rfl (b_storeE_n (nx := 63) (a := 3) (loc2 := [(2, v0), (0, v1), (0, v2), (0, 0), (9, 0), (9, 0), (9, 0), (9, 0), (9, 0)]) G rfl (Nat.le_of_ble_eq_true rfl) (am_pl1 rfl (fun h => nomatch h)) dX12_season_62 rfl ?_)
        exact b_fewer (loc2 := [(2, v0), (9, 0), (0, v2), (0, 0), (9, 0), (9, 0), (9, 0), (9, 0), (9, 0)]) (am_lk (am_lf (am_lk (am_lk (am_lk (am_lk (am_lk (am_lk (am_lk am_ln))))))))) (S_X12_season_L1 X hp_v0 hB h)
      · have h := h.2 c
        refine z_aload_n (nx := 38) (a := 0) G rfl (Or.inl rfl) dX12_season_37 rfl (z_bipush (nx := 40) (z := (-3)) G (R32c rfl) rfl dX12_season_38 rfl ?_)
        refine b_callV0 (nx := 43) (zs := [v0, (-3)]) (as := [(0, (-3))]) X hB (by decide) rfl hp_v0 SS_X12_refuses (am_ta (am_ti am_tn)) (Nat.le_of_ble_eq_true rfl) (Nat.le_of_ble_eq_true rfl) ml_RX12_127 iw_X12_refuses vw_X12_refuses cw_X12_refuses nw_RX12 pp_X12_refuses (Nat.le_of_ble_eq_true rfl) dX12_season_40 rfl (NM_X12_refuses hp_v0 h) (fun r_45 m_46 h hB => ?_)
        exact b_ireturn X hB dX12_season_43 h
    · have h := h.2 c
      exact b_fewer (loc2 := [(2, v0), (9, 0), (9, 0), (9, 0), (9, 0), (9, 0), (9, 0), (9, 0), (9, 0)]) (am_lk (am_lf (am_lf (am_lk (am_lk (am_lk (am_lk (am_lk (am_lk am_ln))))))))) (S_X12_season_J1 X hp_v0 hB h)
theorem NM_X12_season {v0 : Int} {v1 : Int} {v2 : Int} {K : am_KK} {m : am_M} (hp_v0 : am_ob v0 12) (h : M_X12_season v0 v1 v2 K m) : N_X12_season [v0, v1, v2] K m := ⟨hp_v0, h⟩
theorem SS_X12_season : am_Snd yX12_season cX12_season 9 (some .int) 0 609 (am_L [2, 0, 0] 0 N_X12_season) := by
  refine am_SB (by decide +kernel) (Nat.le_of_ble_eq_true rfl) (fun F zs as K m X ht hB hM => ?_)
  obtain ⟨v0, zs, as, rfl, rfl, hz0, ht⟩ := am_inv ht
  obtain ⟨v1, zs, as, rfl, rfl, hz1, ht⟩ := am_inv ht
  obtain ⟨v2, zs, as, rfl, rfl, hz2, ht⟩ := am_inv ht
  obtain ⟨rfl, rfl⟩ := am_inv0 ht
  obtain ⟨hp_v0, hM⟩ := hM
  exact S_X12_season X hp_v0 hB hM
set_option maxRecDepth 20000 in
set_option maxHeartbeats 4000000 in
theorem S_X12_drawn {F : am_F} {K : am_KK} {v0 : Int} {v1 : Int} {v2 : Int} {m : am_M} (X : am_Cx F cX12_drawn RX12 (some .int) 2 0 K) (hp_v0 : am_ob v0 12) (hB : am_Bt m) (h : M_X12_drawn v0 v1 v2 K m) : am_Z F 0 [] [(2, v0), (0, v1), (0, v2)] m 200 := by
  have G := X.G
  unfold M_X12_drawn at h
  refine z_iload_n (nx := 1) (a := 1) G rfl dX12_drawn_0 rfl (z_iconst (nx := 2) (z := 0) G (R32c rfl) dX12_drawn_1 rfl (z_aload_n (nx := 3) (a := 0) G rfl (Or.inl rfl) dX12_drawn_2 rfl (b_getI (nx := 6) (k0 := 58) (t := 0) G fl_RX12_470 (Nat.le_of_ble_eq_true rfl) (Nat.le_of_ble_eq_true rfl) rfl hp_v0 dX12_drawn_3 rfl (z_iconst (nx := 7) (z := 1) G (R32c rfl) dX12_drawn_6 rfl (z_isub (nx := 8) G dX12_drawn_7 rfl ?_)))))
  refine b_callS5 (nx := 11) (zs := [v1, 0, w32 ((m v0 58) - 1)]) (as := [(0, v1), (0, 0), (0, w32 ((m v0 58) - 1))]) X hB SS_X12_lies (am_ti (am_ti (am_ti am_tn))) (Nat.le_of_ble_eq_true rfl) (Nat.le_of_ble_eq_true rfl) ml_RX12_123 sw_X12_lies (am_plainC 12 (by decide)) cw_X12_lies nw_RX12 pp_X12_lies (Nat.le_of_ble_eq_true rfl) dX12_drawn_8 rfl (NM_X12_lies h) (fun r_1 m_2 h h01_3 hB => ?_)
  refine z_if_ne (nx := 14) (tgt := 16) G dX12_drawn_11 (by decide) rfl (fun c => ?_) (fun c => ?_)
  · have h := h.1 c
    refine z_iload_n (nx := 17) (a := 2) G rfl dX12_drawn_16 rfl ?_
    refine z_table G dX12_drawn_17 (fun i => match i with | 0 => 48 | 1 => 55 | 2 => 66 | _ => 77) 86 (fun i hi => ?_) (by decide) (fun i hi c => ?_) (fun c => ?_)
    · match i, hi with
      | 0, _ => exact ⟨_, rfl, by decide⟩
      | 1, _ => exact ⟨_, rfl, by decide⟩
      | 2, _ => exact ⟨_, rfl, by decide⟩
      | 3, _ => exact ⟨_, rfl, by decide⟩
      | i + 4, hi => exact absurd hi (by omega)
    · match i, hi, c with
      | 0, _, c =>
        have h := h.1 (c.trans (by decide))
        refine z_aload_n (nx := 49) (a := 0) G rfl (Or.inl rfl) dX12_drawn_48 rfl (b_getA (nx := 52) (k0 := 56) G hB fl_RX12_117 (Nat.le_of_ble_eq_true rfl) (Nat.le_of_ble_eq_true rfl) rfl hp_v0 dX12_drawn_49 rfl (z_iload_n (nx := 53) (a := 1) G rfl dX12_drawn_52 rfl ?_))
        obtain ⟨hb, h⟩ := h
        refine z_iald (nx := 54) G (sh_12_56 _ hp_v0) hb.1 hb.2 dX12_drawn_53 rfl ?_
        exact b_ireturn X hB dX12_drawn_54 h
      | 1, _, c =>
        have h := h.2.1 (c.trans (by decide))
        refine z_aload_n (nx := 56) (a := 0) G rfl (Or.inl rfl) dX12_drawn_55 rfl (b_getA (nx := 59) (k0 := 57) G hB fl_RX12_120 (Nat.le_of_ble_eq_true rfl) (Nat.le_of_ble_eq_true rfl) rfl hp_v0 dX12_drawn_56 rfl (z_iconst (nx := 60) (z := 3) G (R32c rfl) dX12_drawn_59 rfl (z_iload_n (nx := 61) (a := 1) G rfl dX12_drawn_60 rfl (z_imul (nx := 62) G dX12_drawn_61 rfl (z_iconst (nx := 63) (z := 1) G (R32c rfl) dX12_drawn_62 rfl (z_iadd (nx := 64) G dX12_drawn_63 rfl ?_))))))
        obtain ⟨hb, h⟩ := h
        refine z_iald (nx := 65) G (sh_12_57 _ hp_v0) hb.1 hb.2 dX12_drawn_64 rfl ?_
        exact b_ireturn X hB dX12_drawn_65 h
      | 2, _, c =>
        have h := h.2.2.1 (c.trans (by decide))
        refine z_aload_n (nx := 67) (a := 0) G rfl (Or.inl rfl) dX12_drawn_66 rfl (b_getA (nx := 70) (k0 := 57) G hB fl_RX12_120 (Nat.le_of_ble_eq_true rfl) (Nat.le_of_ble_eq_true rfl) rfl hp_v0 dX12_drawn_67 rfl (z_iconst (nx := 71) (z := 3) G (R32c rfl) dX12_drawn_70 rfl (z_iload_n (nx := 72) (a := 1) G rfl dX12_drawn_71 rfl (z_imul (nx := 73) G dX12_drawn_72 rfl (z_iconst (nx := 74) (z := 2) G (R32c rfl) dX12_drawn_73 rfl (z_iadd (nx := 75) G dX12_drawn_74 rfl ?_))))))
        obtain ⟨hb, h⟩ := h
        refine z_iald (nx := 76) G (sh_12_57 _ hp_v0) hb.1 hb.2 dX12_drawn_75 rfl ?_
        exact b_ireturn X hB dX12_drawn_76 h
      | 3, _, c =>
        have h := h.2.2.2.1 (c.trans (by decide))
        refine z_aload_n (nx := 78) (a := 0) G rfl (Or.inl rfl) dX12_drawn_77 rfl (b_getA (nx := 81) (k0 := 57) G hB fl_RX12_120 (Nat.le_of_ble_eq_true rfl) (Nat.le_of_ble_eq_true rfl) rfl hp_v0 dX12_drawn_78 rfl (z_iconst (nx := 82) (z := 3) G (R32c rfl) dX12_drawn_81 rfl (z_iload_n (nx := 83) (a := 1) G rfl dX12_drawn_82 rfl (z_imul (nx := 84) G dX12_drawn_83 rfl ?_))))
        obtain ⟨hb, h⟩ := h
        refine z_iald (nx := 85) G (sh_12_57 _ hp_v0) hb.1 hb.2 dX12_drawn_84 rfl ?_
        exact b_ireturn X hB dX12_drawn_85 h
      | i + 4, hi, _ => exact absurd hi (by omega)
    · have h := h.2.2.2.2 c
      refine z_iconst (nx := 87) (z := (-1)) G (R32c rfl) dX12_drawn_86 rfl ?_
      exact b_ireturn X hB dX12_drawn_87 h
  · have h := h.2 c
    refine z_iconst (nx := 15) (z := (-1)) G (R32c rfl) dX12_drawn_14 rfl ?_
    exact b_ireturn X hB dX12_drawn_15 h
theorem NM_X12_drawn {v0 : Int} {v1 : Int} {v2 : Int} {K : am_KK} {m : am_M} (hp_v0 : am_ob v0 12) (h : M_X12_drawn v0 v1 v2 K m) : N_X12_drawn [v0, v1, v2] K m := ⟨hp_v0, h⟩
theorem SS_X12_drawn : am_Snd yX12_drawn cX12_drawn 3 (some .int) 0 2 (am_L [2, 0, 0] 0 N_X12_drawn) := by
  refine am_SB (by decide +kernel) (Nat.le_of_ble_eq_true rfl) (fun F zs as K m X ht hB hM => ?_)
  obtain ⟨v0, zs, as, rfl, rfl, hz0, ht⟩ := am_inv ht
  obtain ⟨v1, zs, as, rfl, rfl, hz1, ht⟩ := am_inv ht
  obtain ⟨v2, zs, as, rfl, rfl, hz2, ht⟩ := am_inv ht
  obtain ⟨rfl, rfl⟩ := am_inv0 ht
  obtain ⟨hp_v0, hM⟩ := hM
  exact S_X12_drawn X hp_v0 hB hM
set_option maxRecDepth 20000 in
set_option maxHeartbeats 4000000 in
theorem S_X12_count_J2 {F : am_F} {K : am_KK} {v0 : Int} {v1 : Int} {m : am_M} (X : am_Cx F cX12_count RX12 (some .int) 3 0 K) (hp_v0 : am_ob v0 12) (hB : am_Bt m) (h : M_X12_count_J2 v0 v1 K m) : am_Z F 213 [] [(2, v0), (0, v1)] m 200 := by
  have G := X.G
  unfold M_X12_count_J2 at h
  refine z_aload_n (nx := 214) (a := 0) G rfl (Or.inl rfl) dX12_count_213 rfl (b_getA (nx := 217) (k0 := 2) G hB fl_RX12_24 (Nat.le_of_ble_eq_true rfl) (Nat.le_of_ble_eq_true rfl) rfl hp_v0 dX12_count_214 rfl (z_sipush (nx := 220) (z := 360) G (R32c rfl) rfl dX12_count_217 rfl (z_iload_n (nx := 221) (a := 1) G rfl dX12_count_220 rfl (z_iadd (nx := 222) G dX12_count_221 rfl (z_bipush (nx := 224) (z := 17) G (R32c rfl) rfl dX12_count_222 rfl (z_isub (nx := 225) G dX12_count_224 rfl ?_))))))
  obtain ⟨hb, h⟩ := h
  refine z_iald (nx := 226) G (sh_12_2 _ hp_v0) hb.1 hb.2 dX12_count_225 rfl ?_
  exact b_ireturn X hB dX12_count_226 h
set_option maxRecDepth 20000 in
set_option maxHeartbeats 4000000 in
theorem S_X12_count_J1 {F : am_F} {K : am_KK} {v0 : Int} {v1 : Int} {m : am_M} (X : am_Cx F cX12_count RX12 (some .int) 3 0 K) (hp_v0 : am_ob v0 12) (hB : am_Bt m) (h : M_X12_count_J1 v0 v1 K m) : am_Z F 170 [] [(2, v0), (0, v1)] m 200 := by
  have G := X.G
  unfold M_X12_count_J1 at h
  refine z_aload_n (nx := 171) (a := 0) G rfl (Or.inl rfl) dX12_count_170 rfl (b_getA (nx := 174) (k0 := 1) G hB fl_RX12_7 (Nat.le_of_ble_eq_true rfl) (Nat.le_of_ble_eq_true rfl) rfl hp_v0 dX12_count_171 rfl (z_iload_n (nx := 175) (a := 1) G rfl dX12_count_174 rfl (z_bipush (nx := 177) (z := 9) G (R32c rfl) rfl dX12_count_175 rfl (z_isub (nx := 178) G dX12_count_177 rfl ?_))))
  obtain ⟨hb, h⟩ := h
  refine z_iald (nx := 179) G (sh_12_1 _ hp_v0) hb.1 hb.2 dX12_count_178 rfl ?_
  exact b_ireturn X hB dX12_count_179 h
set_option maxRecDepth 20000 in
set_option maxHeartbeats 4000000 in
theorem S_X12_count {F : am_F} {K : am_KK} {v0 : Int} {v1 : Int} {m : am_M} (X : am_Cx F cX12_count RX12 (some .int) 3 0 K) (hp_v0 : am_ob v0 12) (hB : am_Bt m) (h : M_X12_count v0 v1 K m) : am_Z F 0 [] [(2, v0), (0, v1)] m 200 := by
  have G := X.G
  unfold M_X12_count at h
  refine z_iload_n (nx := 1) (a := 1) G rfl dX12_count_0 rfl ?_
  refine z_table G dX12_count_1 (fun i => match i with | 0 => 96 | 1 => 105 | 2 => 114 | 3 => 123 | 4 => 128 | 5 => 133 | 6 => 142 | 7 => 151 | 8 => 160 | 9 => 165 | 10 => 170 | 11 => 170 | 12 => 170 | 13 => 180 | 14 => 187 | 15 => 195 | 16 => 204 | 17 => 213 | 18 => 213 | _ => 213) 227 (fun i hi => ?_) (by decide) (fun i hi c => ?_) (fun c => ?_)
  · match i, hi with
    | 0, _ => exact ⟨_, rfl, by decide⟩
    | 1, _ => exact ⟨_, rfl, by decide⟩
    | 2, _ => exact ⟨_, rfl, by decide⟩
    | 3, _ => exact ⟨_, rfl, by decide⟩
    | 4, _ => exact ⟨_, rfl, by decide⟩
    | 5, _ => exact ⟨_, rfl, by decide⟩
    | 6, _ => exact ⟨_, rfl, by decide⟩
    | 7, _ => exact ⟨_, rfl, by decide⟩
    | 8, _ => exact ⟨_, rfl, by decide⟩
    | 9, _ => exact ⟨_, rfl, by decide⟩
    | 10, _ => exact ⟨_, rfl, by decide⟩
    | 11, _ => exact ⟨_, rfl, by decide⟩
    | 12, _ => exact ⟨_, rfl, by decide⟩
    | 13, _ => exact ⟨_, rfl, by decide⟩
    | 14, _ => exact ⟨_, rfl, by decide⟩
    | 15, _ => exact ⟨_, rfl, by decide⟩
    | 16, _ => exact ⟨_, rfl, by decide⟩
    | 17, _ => exact ⟨_, rfl, by decide⟩
    | 18, _ => exact ⟨_, rfl, by decide⟩
    | 19, _ => exact ⟨_, rfl, by decide⟩
    | i + 20, hi => exact absurd hi (by omega)
  · match i, hi, c with
    | 0, _, c =>
      have h := h.1 (c.trans (by decide))
      refine z_aload_n (nx := 97) (a := 0) G rfl (Or.inl rfl) dX12_count_96 rfl (b_getA (nx := 100) (k0 := 2) G hB fl_RX12_24 (Nat.le_of_ble_eq_true rfl) (Nat.le_of_ble_eq_true rfl) rfl hp_v0 dX12_count_97 rfl (z_sipush (nx := 103) (z := 363) G (R32c rfl) rfl dX12_count_100 rfl ?_))
      obtain ⟨hb, h⟩ := h
      refine z_iald (nx := 104) G (sh_12_2 _ hp_v0) hb.1 hb.2 dX12_count_103 rfl ?_
      exact b_ireturn X hB dX12_count_104 h
    | 1, _, c =>
      have h := h.2.1 (c.trans (by decide))
      refine z_aload_n (nx := 106) (a := 0) G rfl (Or.inl rfl) dX12_count_105 rfl (b_getA (nx := 109) (k0 := 2) G hB fl_RX12_24 (Nat.le_of_ble_eq_true rfl) (Nat.le_of_ble_eq_true rfl) rfl hp_v0 dX12_count_106 rfl (z_sipush (nx := 112) (z := 364) G (R32c rfl) rfl dX12_count_109 rfl ?_))
      obtain ⟨hb, h⟩ := h
      refine z_iald (nx := 113) G (sh_12_2 _ hp_v0) hb.1 hb.2 dX12_count_112 rfl ?_
      exact b_ireturn X hB dX12_count_113 h
    | 2, _, c =>
      have h := h.2.2.1 (c.trans (by decide))
      refine z_aload_n (nx := 115) (a := 0) G rfl (Or.inl rfl) dX12_count_114 rfl (b_getA (nx := 118) (k0 := 2) G hB fl_RX12_24 (Nat.le_of_ble_eq_true rfl) (Nat.le_of_ble_eq_true rfl) rfl hp_v0 dX12_count_115 rfl (z_sipush (nx := 121) (z := 365) G (R32c rfl) rfl dX12_count_118 rfl ?_))
      obtain ⟨hb, h⟩ := h
      refine z_iald (nx := 122) G (sh_12_2 _ hp_v0) hb.1 hb.2 dX12_count_121 rfl ?_
      exact b_ireturn X hB dX12_count_122 h
    | 3, _, c =>
      have h := h.2.2.2.1 (c.trans (by decide))
      refine z_aload_n (nx := 124) (a := 0) G rfl (Or.inl rfl) dX12_count_123 rfl ?_
      refine b_callV0 (nx := 127) (zs := [v0]) (as := []) X hB (by decide) rfl hp_v0 SS_X12_prayers (am_ta am_tn) (Nat.le_of_ble_eq_true rfl) (Nat.le_of_ble_eq_true rfl) ml_RX12_133 iw_X12_prayers vw_X12_prayers cw_X12_prayers nw_RX12 pp_X12_prayers (Nat.le_of_ble_eq_true rfl) dX12_count_124 rfl (NM_X12_prayers hp_v0 h) (fun r_1 m_2 h hB => ?_)
      exact b_ireturn X hB dX12_count_127 h
    | 4, _, c =>
      have h := h.2.2.2.2.1 (c.trans (by decide))
      refine z_aload_n (nx := 129) (a := 0) G rfl (Or.inl rfl) dX12_count_128 rfl ?_
      refine b_callV0 (nx := 132) (zs := [v0]) (as := []) X hB (by decide) rfl hp_v0 SS_X12_waiting (am_ta am_tn) (Nat.le_of_ble_eq_true rfl) (Nat.le_of_ble_eq_true rfl) ml_RX12_436 iw_X12_waiting vw_X12_waiting cw_X12_waiting nw_RX12 pp_X12_waiting (Nat.le_of_ble_eq_true rfl) dX12_count_129 rfl (NM_X12_waiting hp_v0 h) (fun r_3 m_4 h hB => ?_)
      exact b_ireturn X hB dX12_count_132 h
    | 5, _, c =>
      have h := h.2.2.2.2.2.1 (c.trans (by decide))
      refine z_aload_n (nx := 134) (a := 0) G rfl (Or.inl rfl) dX12_count_133 rfl (b_getA (nx := 137) (k0 := 2) G hB fl_RX12_24 (Nat.le_of_ble_eq_true rfl) (Nat.le_of_ble_eq_true rfl) rfl hp_v0 dX12_count_134 rfl (z_sipush (nx := 140) (z := 366) G (R32c rfl) rfl dX12_count_137 rfl ?_))
      obtain ⟨hb, h⟩ := h
      refine z_iald (nx := 141) G (sh_12_2 _ hp_v0) hb.1 hb.2 dX12_count_140 rfl ?_
      exact b_ireturn X hB dX12_count_141 h
    | 6, _, c =>
      have h := h.2.2.2.2.2.2.1 (c.trans (by decide))
      refine z_aload_n (nx := 143) (a := 0) G rfl (Or.inl rfl) dX12_count_142 rfl (b_getA (nx := 146) (k0 := 2) G hB fl_RX12_24 (Nat.le_of_ble_eq_true rfl) (Nat.le_of_ble_eq_true rfl) rfl hp_v0 dX12_count_143 rfl (z_sipush (nx := 149) (z := 367) G (R32c rfl) rfl dX12_count_146 rfl ?_))
      obtain ⟨hb, h⟩ := h
      refine z_iald (nx := 150) G (sh_12_2 _ hp_v0) hb.1 hb.2 dX12_count_149 rfl ?_
      exact b_ireturn X hB dX12_count_150 h
    | 7, _, c =>
      have h := h.2.2.2.2.2.2.2.1 (c.trans (by decide))
      refine z_aload_n (nx := 152) (a := 0) G rfl (Or.inl rfl) dX12_count_151 rfl (b_getA (nx := 155) (k0 := 2) G hB fl_RX12_24 (Nat.le_of_ble_eq_true rfl) (Nat.le_of_ble_eq_true rfl) rfl hp_v0 dX12_count_152 rfl (z_sipush (nx := 158) (z := 368) G (R32c rfl) rfl dX12_count_155 rfl ?_))
      obtain ⟨hb, h⟩ := h
      refine z_iald (nx := 159) G (sh_12_2 _ hp_v0) hb.1 hb.2 dX12_count_158 rfl ?_
      exact b_ireturn X hB dX12_count_159 h
    | 8, _, c =>
      have h := h.2.2.2.2.2.2.2.2.1 (c.trans (by decide))
      refine z_aload_n (nx := 161) (a := 0) G rfl (Or.inl rfl) dX12_count_160 rfl (b_getI (nx := 164) (k0 := 38) (t := 0) G fl_RX12_11 (Nat.le_of_ble_eq_true rfl) (Nat.le_of_ble_eq_true rfl) rfl hp_v0 dX12_count_161 rfl ?_)
      exact b_ireturn X hB dX12_count_164 h
    | 9, _, c =>
      have h := h.2.2.2.2.2.2.2.2.2.1 (c.trans (by decide))
      refine z_aload_n (nx := 166) (a := 0) G rfl (Or.inl rfl) dX12_count_165 rfl (b_getI (nx := 169) (k0 := 13) (t := 0) G fl_RX12_167 (Nat.le_of_ble_eq_true rfl) (Nat.le_of_ble_eq_true rfl) rfl hp_v0 dX12_count_166 rfl ?_)
      exact b_ireturn X hB dX12_count_169 h
    | 10, _, c =>
      have h := h.2.2.2.2.2.2.2.2.2.2.1 (c.trans (by decide))
      exact b_fewer (loc2 := [(2, v0), (0, v1)]) (am_lk (am_lk am_ln)) (S_X12_count_J1 X hp_v0 hB h)
    | 11, _, c =>
      have h := h.2.2.2.2.2.2.2.2.2.2.2.1 (c.trans (by decide))
      exact b_fewer (loc2 := [(2, v0), (0, v1)]) (am_lk (am_lk am_ln)) (S_X12_count_J1 X hp_v0 hB h)
    | 12, _, c =>
      have h := h.2.2.2.2.2.2.2.2.2.2.2.2.1 (c.trans (by decide))
      exact b_fewer (loc2 := [(2, v0), (0, v1)]) (am_lk (am_lk am_ln)) (S_X12_count_J1 X hp_v0 hB h)
    | 13, _, c =>
      have h := h.2.2.2.2.2.2.2.2.2.2.2.2.2.1 (c.trans (by decide))
      refine z_aload_n (nx := 181) (a := 0) G rfl (Or.inl rfl) dX12_count_180 rfl (b_getA (nx := 184) (k0 := 1) G hB fl_RX12_7 (Nat.le_of_ble_eq_true rfl) (Nat.le_of_ble_eq_true rfl) rfl hp_v0 dX12_count_181 rfl (z_iconst (nx := 185) (z := 5) G (R32c rfl) dX12_count_184 rfl ?_))
      obtain ⟨hb, h⟩ := h
      refine z_iald (nx := 186) G (sh_12_1 _ hp_v0) hb.1 hb.2 dX12_count_185 rfl ?_
      exact b_ireturn X hB dX12_count_186 h
    | 14, _, c =>
      have h := h.2.2.2.2.2.2.2.2.2.2.2.2.2.2.1 (c.trans (by decide))
      refine z_aload_n (nx := 188) (a := 0) G rfl (Or.inl rfl) dX12_count_187 rfl (b_getA (nx := 191) (k0 := 1) G hB fl_RX12_7 (Nat.le_of_ble_eq_true rfl) (Nat.le_of_ble_eq_true rfl) rfl hp_v0 dX12_count_188 rfl (z_bipush (nx := 193) (z := 6) G (R32c rfl) rfl dX12_count_191 rfl ?_))
      obtain ⟨hb, h⟩ := h
      refine z_iald (nx := 194) G (sh_12_1 _ hp_v0) hb.1 hb.2 dX12_count_193 rfl ?_
      exact b_ireturn X hB dX12_count_194 h
    | 15, _, c =>
      have h := h.2.2.2.2.2.2.2.2.2.2.2.2.2.2.2.1 (c.trans (by decide))
      refine z_aload_n (nx := 196) (a := 0) G rfl (Or.inl rfl) dX12_count_195 rfl (b_getA (nx := 199) (k0 := 2) G hB fl_RX12_24 (Nat.le_of_ble_eq_true rfl) (Nat.le_of_ble_eq_true rfl) rfl hp_v0 dX12_count_196 rfl (z_sipush (nx := 202) (z := 369) G (R32c rfl) rfl dX12_count_199 rfl ?_))
      obtain ⟨hb, h⟩ := h
      refine z_iald (nx := 203) G (sh_12_2 _ hp_v0) hb.1 hb.2 dX12_count_202 rfl ?_
      exact b_ireturn X hB dX12_count_203 h
    | 16, _, c =>
      have h := h.2.2.2.2.2.2.2.2.2.2.2.2.2.2.2.2.1 (c.trans (by decide))
      refine z_aload_n (nx := 205) (a := 0) G rfl (Or.inl rfl) dX12_count_204 rfl (b_getA (nx := 208) (k0 := 2) G hB fl_RX12_24 (Nat.le_of_ble_eq_true rfl) (Nat.le_of_ble_eq_true rfl) rfl hp_v0 dX12_count_205 rfl (z_sipush (nx := 211) (z := 169) G (R32c rfl) rfl dX12_count_208 rfl ?_))
      obtain ⟨hb, h⟩ := h
      refine z_iald (nx := 212) G (sh_12_2 _ hp_v0) hb.1 hb.2 dX12_count_211 rfl ?_
      exact b_ireturn X hB dX12_count_212 h
    | 17, _, c =>
      have h := h.2.2.2.2.2.2.2.2.2.2.2.2.2.2.2.2.2.1 (c.trans (by decide))
      exact b_fewer (loc2 := [(2, v0), (0, v1)]) (am_lk (am_lk am_ln)) (S_X12_count_J2 X hp_v0 hB h)
    | 18, _, c =>
      have h := h.2.2.2.2.2.2.2.2.2.2.2.2.2.2.2.2.2.2.1 (c.trans (by decide))
      exact b_fewer (loc2 := [(2, v0), (0, v1)]) (am_lk (am_lk am_ln)) (S_X12_count_J2 X hp_v0 hB h)
    | 19, _, c =>
      have h := h.2.2.2.2.2.2.2.2.2.2.2.2.2.2.2.2.2.2.2.1 (c.trans (by decide))
      exact b_fewer (loc2 := [(2, v0), (0, v1)]) (am_lk (am_lk am_ln)) (S_X12_count_J2 X hp_v0 hB h)
    | i + 20, hi, _ => exact absurd hi (by omega)
  · have h := h.2.2.2.2.2.2.2.2.2.2.2.2.2.2.2.2.2.2.2.2 c
    refine z_iconst (nx := 228) (z := (-1)) G (R32c rfl) dX12_count_227 rfl ?_
    exact b_ireturn X hB dX12_count_228 h
theorem NM_X12_count {v0 : Int} {v1 : Int} {K : am_KK} {m : am_M} (hp_v0 : am_ob v0 12) (h : M_X12_count v0 v1 K m) : N_X12_count [v0, v1] K m := ⟨hp_v0, h⟩
theorem SS_X12_count : am_Snd yX12_count cX12_count 2 (some .int) 0 3 (am_L [2, 0] 0 N_X12_count) := by
  refine am_SB (by decide +kernel) (Nat.le_of_ble_eq_true rfl) (fun F zs as K m X ht hB hM => ?_)
  obtain ⟨v0, zs, as, rfl, rfl, hz0, ht⟩ := am_inv ht
  obtain ⟨v1, zs, as, rfl, rfl, hz1, ht⟩ := am_inv ht
  obtain ⟨rfl, rfl⟩ := am_inv0 ht
  obtain ⟨hp_v0, hM⟩ := hM
  exact S_X12_count X hp_v0 hB hM
set_option maxRecDepth 20000 in
set_option maxHeartbeats 4000000 in
theorem S_X12_status {F : am_F} {K : am_KK} {v0 : Int} {m : am_M} (X : am_Cx F cX12_status RX12 (some .int) 1 0 K) (hp_v0 : am_ob v0 12) (hB : am_Bt m) (h : M_X12_status v0 K m) : am_Z F 0 [] [(2, v0)] m 200 := by
  have G := X.G
  unfold M_X12_status at h
  refine z_aload_n (nx := 1) (a := 0) G rfl (Or.inl rfl) dX12_status_0 rfl (b_getI (nx := 4) (k0 := 0) (t := 0) G fl_RX12_3 (Nat.le_of_ble_eq_true rfl) (Nat.le_of_ble_eq_true rfl) rfl hp_v0 dX12_status_1 rfl ?_)
  exact b_ireturn X hB dX12_status_4 h
theorem NM_X12_status {v0 : Int} {K : am_KK} {m : am_M} (hp_v0 : am_ob v0 12) (h : M_X12_status v0 K m) : N_X12_status [v0] K m := ⟨hp_v0, h⟩
theorem SS_X12_status : am_Snd yX12_status cX12_status 1 (some .int) 0 1 (am_L [2] 0 N_X12_status) := by
  refine am_SB (by decide +kernel) (Nat.le_of_ble_eq_true rfl) (fun F zs as K m X ht hB hM => ?_)
  obtain ⟨v0, zs, as, rfl, rfl, hz0, ht⟩ := am_inv ht
  obtain ⟨rfl, rfl⟩ := am_inv0 ht
  obtain ⟨hp_v0, hM⟩ := hM
  exact S_X12_status X hp_v0 hB hM
