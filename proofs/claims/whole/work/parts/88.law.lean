/-! THE LAW'S CALLS: each a pair, alike on both sides. Written by gen_law.py. -/
/-- the script at a place -/
def sc (xs : Nat → Int32) (j : Int) : Int := (xs j.toNat).toInt
theorem sc_R (xs : Nat → Int32) (j : Int) : R32 (sc xs j) := by
  have h1 := Int32.le_toInt (xs j.toNat)
  have h2 := Int32.toInt_lt (xs j.toNat)
  unfold R32 sc
  omega
/-- the law's frame: its script -/
def lawS (F : am_F) (b L : Nat) (xs : Nat → Int32) : Prop := match F with
  | (_, _, _, _, s, _, _, _, _, _, _, E, _, _, _) => E.2.1 38 = b ∧ va_X b L xs s s.heap ∧ b < s.heap.size ∧ E.1 = s.heap.size ∧ L ≤ 3072
section LAWR
variable {F : am_F} {cc : ByteArray} {own : String} {pc nx : Nat} {st loc : List am_V} {m : am_M} {n b L : Nat} {xs : Nat → Int32}
theorem z_sld (G : am_G F cc own) (X : lawS F b L xs) {i : Int} (h0 : 0 ≤ i) (hl : i < L) (hd : decode cc pc = .ok (.iaload, 1)) (hn : pc + 1 = nx) (k : am_Z F nx ((0, sc xs i) :: st) loc m n) : am_Z F pc ((0, i) :: (3, 38) :: st) loc m n := by
  subst hn
  obtain ⟨p, l, e, R, s, mm, args, below, meth, c, Q, E, n0, cnt, d⟩ := F
  obtain ⟨hx, hb, hown, hts, hK, hX, hsz, hc1, hc2, hc3, hc4⟩ := G
  obtain ⟨x1, x2, x3, x4, x5⟩ := X
  intro h1 h2 h3 h4 h0' H ls locs h5 h6 h8
  have ri : R32 i := (am_hd h1).1 rfl
  have hkk := k (am_mk (am_R0 (sc_R xs i)) (am_tl (am_tl h1))) h2 h3 h4 h0' H ls locs h5 h6 h8
  have e1 : am_rv E (3, 38) = .ref b := by
    show Value.ref (E.2.1 (38 : Int).toNat) = _
    rw [← x1]; rfl
  have e2 : am_rv E (0, sc xs i) = .int (xs (Int32.ofInt i).toNatClampNeg) := by
    show Value.int (Int32.ofInt (xs i.toNat).toInt) = _
    rw [Int32.ofInt_toInt, am_clamp ri]
  rw [List.map_cons, e2] at hkk
  rw [List.map_cons, List.map_cons, e1]
  refine va_sld hx hb x2 x3 (by show ¬ E.1 ≤ b; omega) h8 ?_ hd hkk
  intro z
  rcases z with z | z
  · have := (i32_lt ri R32_0).mp z; omega
  · rw [am_clamp ri] at z; omega
theorem z_slen (G : am_G F cc own) (X : lawS F b L xs) (hd : decode cc pc = .ok (.arraylength, 1)) (hn : pc + 1 = nx) (k : am_Z F nx ((0, (L : Int)) :: st) loc m n) : am_Z F pc ((3, 38) :: st) loc m n := by
  subst hn
  obtain ⟨p, l, e, R, s, mm, args, below, meth, c, Q, E, n0, cnt, d⟩ := F
  obtain ⟨hx, hb, hown, hts, hK, hX, hsz, hc1, hc2, hc3, hc4⟩ := G
  obtain ⟨x1, x2, x3, x4, x5⟩ := X
  intro h1 h2 h3 h4 h0' H ls locs h5 h6 h8
  have rL : R32 (L : Int) := by unfold R32; omega
  have hkk := k (am_mk (am_R0 rL) (am_tl h1)) h2 h3 h4 h0' H ls locs h5 h6 h8
  have e1 : am_rv E (3, 38) = .ref b := by
    show Value.ref (E.2.1 (38 : Int).toNat) = _
    rw [← x1]; rfl
  rw [List.map_cons, e1]
  exact va_slen hx hb x2 x3 (by show ¬ E.1 ≤ b; omega) h8 hd hkk
/-- one of a call's numbers is loaded -/
theorem z_arg (G : am_G F cc own) (X : lawS F b L xs) (hl0 : loc[0]? = some (3, 38)) {i k : Int} (hl3 : loc[3]? = some (0, i)) (hi : 0 ≤ i ∧ i + 6 ≤ L) (hk : 1 ≤ k ∧ k ≤ 5) {p1 p2 p3 p4 : Nat} (d0 : decode cc pc = .ok (.aload_n 0, 1)) (d1 : decode cc p1 = .ok (.iload_n 3, 1)) (d2 : decode cc p2 = .ok (.iconst k, 1)) (d3 : decode cc p3 = .ok (.iadd, 1)) (d4 : decode cc p4 = .ok (.iaload, 1)) (e1 : pc + 1 = p1) (e2 : p1 + 1 = p2) (e3 : p2 + 1 = p3) (e4 : p3 + 1 = p4) (e5 : p4 + 1 = nx) (kk : am_Z F nx ((0, sc xs (i + k)) :: st) loc m n) : am_Z F pc st loc m n := by
  have hL : L ≤ 3072 := by
    obtain ⟨p, l, e, R, s, mm, args, below, meth, c, Q, E, n0, cnt, d⟩ := F
    exact X.2.2.2.2
  refine z_aload_n (a := 0) G hl0 (Or.inr rfl) d0 e1 ?_
  refine z_iload_n (a := 3) G hl3 d1 e2 ?_
  refine z_iconst G (by unfold R32; omega) d2 e3 ?_
  refine z_iadd G d3 e4 ?_
  rw [w32_of (by omega) (by omega)]
  exact z_sld G X (by omega) (by omega) d4 e5 kk
/-- a call of what is made -/
theorem l_call (G : am_G F cc own) (hdF : am_d F = 1300) (hlimF : am_lim F 200) (hB : am_Bt m) {y : MethodName} {bytes : ByteArray} {maxL : Nat} {rty : Option FieldType} {dj : Nat} {tags : List Nat} {M : am_PT} {as : List am_V} {zs : List Int} {K1 : am_KK} {idx : Nat} {z : Int} {ci : Nat} (hci : ci < 13) (hyc : y.cls = am_C ci) (hz : am_ob z ci) (hM : am_Snd y bytes maxL rty 0 dj (am_L tags 0 M)) (ht : am_tagd tags zs ((2, z) :: as)) (hdj : dj + 1 ≤ 1300) (hml : maxL ≤ 41) (hl : Cond.methodLink own idx y ∈ am_TB) (hi : Cond.instanceMethod y ∈ am_TB) (hs : Cond.selects y.cls y y ∈ am_TB) (hcode : Cond.code y bytes maxL rty ∈ am_TB) (hini : Cond.initialized y.cls ∈ am_TB) (hpar : (parseMethodDescriptor y.desc).map (fun d => d.parameters.length) = some as.length) (hst : am_cats st ≤ 8) (hd : decode cc pc = .ok (.invokevirtual idx, 3)) (hn : pc + 3 = nx) (hm : M zs K1 m) (k : ∀ r m1, K1 r m1 → am_Bt m1 → am_Z F nx ((0, r) :: st) loc m1 200) : am_Z F pc (as.reverse ++ (2, z) :: st) loc m 200 := by
  refine z_callV (K := fun r m' n' => ∃ z, r = am_rr 0 z ∧ am_Bt m' ∧ K1 z m') G hci hyc hz hM (hdF.symm ▸ hdj) hml hlimF hl hi hs hcode hini hpar hst hd hn ⟨rfl, hB, zs, ht, K1, hm, fun z m' g1 g2 g3 => ⟨z, rfl, g1, g3⟩⟩ (fun r m' g => ?_)
  obtain ⟨z1, rfl, g1, g3⟩ := g
  exact k z1 m' g3 g1
/-- both answers stand on the stack: they are alike -/
theorem l_same (G : am_G F cc own) {x y : Int} (h : x = y) {off : Int} {tgt : Nat} (hd : decode cc pc = .ok (.if_icmp .eq off, 3)) (ht : (pc : Int) + off = (tgt : Int)) (k : am_Z F tgt st loc m n) : am_Z F pc ((0, y) :: (0, x) :: st) loc m n :=
  z_icmp_eq G hd ht rfl (fun _ => k) (fun z => absurd h z)
end LAWR
theorem am_ob0 : am_ob 0 11 := ⟨by decide, by decide, by decide +kernel⟩
/-- the law's locals -/
def l_loc (i : Int) : List am_V := [(3, 38), (2, 0), (2, 168), (0, i)]
section LAWC
variable {F : am_F} {m : am_M} {b L : Nat} {xs : Nat → Int32} {i : Int}
theorem l_word (G : am_G F cL_law RL) (X : lawS F b L xs) (hdF : am_d F = 1300) (hlimF : am_lim F 200) (hi : 0 ≤ i ∧ i + 6 ≤ L) (hB : am_Bt m) (hR : Rel m) (kk : ∀ n2, am_Bt n2 → Rel n2 → am_Z F 1385 [] (l_loc i) n2 200) : am_Z F 212 [] (l_loc i) m 200 := by
  refine z_aload_n (nx := 213) (a := 1) G rfl (Or.inl rfl) dL_law_212 rfl ?_
  refine z_arg (nx := 218) (i := i) (k := 1) G X rfl rfl hi (by omega) dL_law_213 dL_law_214 dL_law_215 dL_law_216 dL_law_217 rfl rfl rfl rfl rfl ?_
  have hJ := (j_word (sc xs (i + 1))) m hR (fun r1 r2 m2 => r1 = r2 ∧ Rel m2) (fun r m2 h => ⟨rfl, h⟩)
  refine l_call (nx := 221) (zs := [0, sc xs (i + 1)]) (as := [(0, sc xs (i + 1))]) (z := 0) (ci := 11) (st := []) G hdF hlimF hB (by decide) rfl am_ob0 SS_X11_word (am_ta (am_ti am_tn)) (Nat.le_of_ble_eq_true rfl) (Nat.le_of_ble_eq_true rfl) ml_RL_13 iw_X11_word vw_X11_word cw_X11_word nw_RX11 pp_X11_word (Nat.le_of_ble_eq_true rfl) dL_law_218 rfl (NM_X11_word am_ob0 hJ) (fun r_11 m_11 h_11 hB_11 => ?_)
  refine z_aload_n (nx := 222) (a := 2) G rfl (Or.inl rfl) dL_law_221 rfl ?_
  refine z_arg (nx := 227) (i := i) (k := 1) G X rfl rfl hi (by omega) dL_law_222 dL_law_223 dL_law_224 dL_law_225 dL_law_226 rfl rfl rfl rfl rfl ?_
  refine l_call (nx := 230) (zs := [168, sc xs (i + 1)]) (as := [(0, sc xs (i + 1))]) (z := 168) (ci := 12) (st := [(0, r_11)]) G hdF hlimF hB_11 (by decide) rfl am_ob168 SS_X12_word (am_ta (am_ti am_tn)) (Nat.le_of_ble_eq_true rfl) (Nat.le_of_ble_eq_true rfl) ml_RL_17 iw_X12_word vw_X12_word cw_X12_word nw_RX12 pp_X12_word (Nat.le_of_ble_eq_true rfl) dL_law_227 rfl (NM_X12_word am_ob168 h_11) (fun r_12 m_12 h_12 hB_12 => ?_)
  exact l_same G h_12.1 dL_law_230 (by decide) (kk m_12 hB_12 h_12.2)
theorem l_lengthOf (G : am_G F cL_law RL) (X : lawS F b L xs) (hdF : am_d F = 1300) (hlimF : am_lim F 200) (hi : 0 ≤ i ∧ i + 6 ≤ L) (hB : am_Bt m) (hR : Rel m) (kk : ∀ n2, am_Bt n2 → Rel n2 → am_Z F 1385 [] (l_loc i) n2 200) : am_Z F 235 [] (l_loc i) m 200 := by
  refine z_aload_n (nx := 236) (a := 1) G rfl (Or.inl rfl) dL_law_235 rfl ?_
  refine z_arg (nx := 241) (i := i) (k := 1) G X rfl rfl hi (by omega) dL_law_236 dL_law_237 dL_law_238 dL_law_239 dL_law_240 rfl rfl rfl rfl rfl ?_
  have hJ := (j_lengthOf (sc xs (i + 1))) m hR (fun r1 r2 m2 => r1 = r2 ∧ Rel m2) (fun r m2 h => ⟨rfl, h⟩)
  refine l_call (nx := 244) (zs := [0, sc xs (i + 1)]) (as := [(0, sc xs (i + 1))]) (z := 0) (ci := 11) (st := []) G hdF hlimF hB (by decide) rfl am_ob0 SS_X11_lengthOf (am_ta (am_ti am_tn)) (Nat.le_of_ble_eq_true rfl) (Nat.le_of_ble_eq_true rfl) ml_RL_18 iw_X11_lengthOf vw_X11_lengthOf cw_X11_lengthOf nw_RX11 pp_X11_lengthOf (Nat.le_of_ble_eq_true rfl) dL_law_241 rfl (NM_X11_lengthOf am_ob0 hJ) (fun r_11 m_11 h_11 hB_11 => ?_)
  refine z_aload_n (nx := 245) (a := 2) G rfl (Or.inl rfl) dL_law_244 rfl ?_
  refine z_arg (nx := 250) (i := i) (k := 1) G X rfl rfl hi (by omega) dL_law_245 dL_law_246 dL_law_247 dL_law_248 dL_law_249 rfl rfl rfl rfl rfl ?_
  refine l_call (nx := 253) (zs := [168, sc xs (i + 1)]) (as := [(0, sc xs (i + 1))]) (z := 168) (ci := 12) (st := [(0, r_11)]) G hdF hlimF hB_11 (by decide) rfl am_ob168 SS_X12_lengthOf (am_ta (am_ti am_tn)) (Nat.le_of_ble_eq_true rfl) (Nat.le_of_ble_eq_true rfl) ml_RL_21 iw_X12_lengthOf vw_X12_lengthOf cw_X12_lengthOf nw_RX12 pp_X12_lengthOf (Nat.le_of_ble_eq_true rfl) dL_law_250 rfl (NM_X12_lengthOf am_ob168 h_11) (fun r_12 m_12 h_12 hB_12 => ?_)
  exact l_same G h_12.1 dL_law_253 (by decide) (kk m_12 hB_12 h_12.2)
theorem l_rule (G : am_G F cL_law RL) (X : lawS F b L xs) (hdF : am_d F = 1300) (hlimF : am_lim F 200) (hi : 0 ≤ i ∧ i + 6 ≤ L) (hB : am_Bt m) (hR : Rel m) (kk : ∀ n2, am_Bt n2 → Rel n2 → am_Z F 1385 [] (l_loc i) n2 200) : am_Z F 258 [] (l_loc i) m 200 := by
  refine z_aload_n (nx := 259) (a := 1) G rfl (Or.inl rfl) dL_law_258 rfl ?_
  refine z_arg (nx := 264) (i := i) (k := 1) G X rfl rfl hi (by omega) dL_law_259 dL_law_260 dL_law_261 dL_law_262 dL_law_263 rfl rfl rfl rfl rfl ?_
  refine z_arg (nx := 269) (i := i) (k := 2) G X rfl rfl hi (by omega) dL_law_264 dL_law_265 dL_law_266 dL_law_267 dL_law_268 rfl rfl rfl rfl rfl ?_
  refine z_arg (nx := 274) (i := i) (k := 3) G X rfl rfl hi (by omega) dL_law_269 dL_law_270 dL_law_271 dL_law_272 dL_law_273 rfl rfl rfl rfl rfl ?_
  refine z_arg (nx := 279) (i := i) (k := 4) G X rfl rfl hi (by omega) dL_law_274 dL_law_275 dL_law_276 dL_law_277 dL_law_278 rfl rfl rfl rfl rfl ?_
  have hJ := (j_rule (sc xs (i + 1)) (sc xs (i + 2)) (sc xs (i + 3)) (sc xs (i + 4))) m hR (fun r1 r2 m2 => r1 = r2 ∧ Rel m2) (fun r m2 h => ⟨rfl, h⟩)
  refine l_call (nx := 282) (zs := [0, sc xs (i + 1), sc xs (i + 2), sc xs (i + 3), sc xs (i + 4)]) (as := [(0, sc xs (i + 1)), (0, sc xs (i + 2)), (0, sc xs (i + 3)), (0, sc xs (i + 4))]) (z := 0) (ci := 11) (st := []) G hdF hlimF hB (by decide) rfl am_ob0 SS_X11_rule (am_ta (am_ti (am_ti (am_ti (am_ti am_tn))))) (Nat.le_of_ble_eq_true rfl) (Nat.le_of_ble_eq_true rfl) ml_RL_22 iw_X11_rule vw_X11_rule cw_X11_rule nw_RX11 pp_X11_rule (Nat.le_of_ble_eq_true rfl) dL_law_279 rfl (NM_X11_rule am_ob0 hJ) (fun r_11 m_11 h_11 hB_11 => ?_)
  refine z_aload_n (nx := 283) (a := 2) G rfl (Or.inl rfl) dL_law_282 rfl ?_
  refine z_arg (nx := 288) (i := i) (k := 1) G X rfl rfl hi (by omega) dL_law_283 dL_law_284 dL_law_285 dL_law_286 dL_law_287 rfl rfl rfl rfl rfl ?_
  refine z_arg (nx := 293) (i := i) (k := 2) G X rfl rfl hi (by omega) dL_law_288 dL_law_289 dL_law_290 dL_law_291 dL_law_292 rfl rfl rfl rfl rfl ?_
  refine z_arg (nx := 298) (i := i) (k := 3) G X rfl rfl hi (by omega) dL_law_293 dL_law_294 dL_law_295 dL_law_296 dL_law_297 rfl rfl rfl rfl rfl ?_
  refine z_arg (nx := 303) (i := i) (k := 4) G X rfl rfl hi (by omega) dL_law_298 dL_law_299 dL_law_300 dL_law_301 dL_law_302 rfl rfl rfl rfl rfl ?_
  refine l_call (nx := 306) (zs := [168, sc xs (i + 1), sc xs (i + 2), sc xs (i + 3), sc xs (i + 4)]) (as := [(0, sc xs (i + 1)), (0, sc xs (i + 2)), (0, sc xs (i + 3)), (0, sc xs (i + 4))]) (z := 168) (ci := 12) (st := [(0, r_11)]) G hdF hlimF hB_11 (by decide) rfl am_ob168 SS_X12_rule (am_ta (am_ti (am_ti (am_ti (am_ti am_tn))))) (Nat.le_of_ble_eq_true rfl) (Nat.le_of_ble_eq_true rfl) ml_RL_26 iw_X12_rule vw_X12_rule cw_X12_rule nw_RX12 pp_X12_rule (Nat.le_of_ble_eq_true rfl) dL_law_303 rfl (NM_X12_rule am_ob168 h_11) (fun r_12 m_12 h_12 hB_12 => ?_)
  exact l_same G h_12.1 dL_law_306 (by decide) (kk m_12 hB_12 h_12.2)
theorem l_of (G : am_G F cL_law RL) (X : lawS F b L xs) (hdF : am_d F = 1300) (hlimF : am_lim F 200) (hi : 0 ≤ i ∧ i + 6 ≤ L) (hB : am_Bt m) (hR : Rel m) (kk : ∀ n2, am_Bt n2 → Rel n2 → am_Z F 1385 [] (l_loc i) n2 200) : am_Z F 311 [] (l_loc i) m 200 := by
  refine z_aload_n (nx := 312) (a := 1) G rfl (Or.inl rfl) dL_law_311 rfl ?_
  refine z_arg (nx := 317) (i := i) (k := 1) G X rfl rfl hi (by omega) dL_law_312 dL_law_313 dL_law_314 dL_law_315 dL_law_316 rfl rfl rfl rfl rfl ?_
  refine z_arg (nx := 322) (i := i) (k := 2) G X rfl rfl hi (by omega) dL_law_317 dL_law_318 dL_law_319 dL_law_320 dL_law_321 rfl rfl rfl rfl rfl ?_
  have hJ := (j_of (sc xs (i + 1)) (sc xs (i + 2))) m hR (fun r1 r2 m2 => r1 = r2 ∧ Rel m2) (fun r m2 h => ⟨rfl, h⟩)
  refine l_call (nx := 325) (zs := [0, sc xs (i + 1), sc xs (i + 2)]) (as := [(0, sc xs (i + 1)), (0, sc xs (i + 2))]) (z := 0) (ci := 11) (st := []) G hdF hlimF hB (by decide) rfl am_ob0 SS_X11_of (am_ta (am_ti (am_ti am_tn))) (Nat.le_of_ble_eq_true rfl) (Nat.le_of_ble_eq_true rfl) ml_RL_27 iw_X11_of vw_X11_of cw_X11_of nw_RX11 pp_X11_of (Nat.le_of_ble_eq_true rfl) dL_law_322 rfl (NM_X11_of am_ob0 hJ) (fun r_11 m_11 h_11 hB_11 => ?_)
  refine z_aload_n (nx := 326) (a := 2) G rfl (Or.inl rfl) dL_law_325 rfl ?_
  refine z_arg (nx := 331) (i := i) (k := 1) G X rfl rfl hi (by omega) dL_law_326 dL_law_327 dL_law_328 dL_law_329 dL_law_330 rfl rfl rfl rfl rfl ?_
  refine z_arg (nx := 336) (i := i) (k := 2) G X rfl rfl hi (by omega) dL_law_331 dL_law_332 dL_law_333 dL_law_334 dL_law_335 rfl rfl rfl rfl rfl ?_
  refine l_call (nx := 339) (zs := [168, sc xs (i + 1), sc xs (i + 2)]) (as := [(0, sc xs (i + 1)), (0, sc xs (i + 2))]) (z := 168) (ci := 12) (st := [(0, r_11)]) G hdF hlimF hB_11 (by decide) rfl am_ob168 SS_X12_of (am_ta (am_ti (am_ti am_tn))) (Nat.le_of_ble_eq_true rfl) (Nat.le_of_ble_eq_true rfl) ml_RL_31 iw_X12_of vw_X12_of cw_X12_of nw_RX12 pp_X12_of (Nat.le_of_ble_eq_true rfl) dL_law_336 rfl (NM_X12_of am_ob168 h_11) (fun r_12 m_12 h_12 hB_12 => ?_)
  exact l_same G h_12.1 dL_law_339 (by decide) (kk m_12 hB_12 h_12.2)
theorem l_clash (G : am_G F cL_law RL) (X : lawS F b L xs) (hdF : am_d F = 1300) (hlimF : am_lim F 200) (hi : 0 ≤ i ∧ i + 6 ≤ L) (hB : am_Bt m) (hR : Rel m) (kk : ∀ n2, am_Bt n2 → Rel n2 → am_Z F 1385 [] (l_loc i) n2 200) : am_Z F 344 [] (l_loc i) m 200 := by
  refine z_aload_n (nx := 345) (a := 1) G rfl (Or.inl rfl) dL_law_344 rfl ?_
  refine z_arg (nx := 350) (i := i) (k := 1) G X rfl rfl hi (by omega) dL_law_345 dL_law_346 dL_law_347 dL_law_348 dL_law_349 rfl rfl rfl rfl rfl ?_
  refine z_arg (nx := 355) (i := i) (k := 2) G X rfl rfl hi (by omega) dL_law_350 dL_law_351 dL_law_352 dL_law_353 dL_law_354 rfl rfl rfl rfl rfl ?_
  refine z_arg (nx := 360) (i := i) (k := 3) G X rfl rfl hi (by omega) dL_law_355 dL_law_356 dL_law_357 dL_law_358 dL_law_359 rfl rfl rfl rfl rfl ?_
  have hJ := (j_clash (sc xs (i + 1)) (sc xs (i + 2)) (sc xs (i + 3))) m hR (fun r1 r2 m2 => r1 = r2 ∧ Rel m2) (fun r m2 h => ⟨rfl, h⟩)
  refine l_call (nx := 363) (zs := [0, sc xs (i + 1), sc xs (i + 2), sc xs (i + 3)]) (as := [(0, sc xs (i + 1)), (0, sc xs (i + 2)), (0, sc xs (i + 3))]) (z := 0) (ci := 11) (st := []) G hdF hlimF hB (by decide) rfl am_ob0 SS_X11_clash (am_ta (am_ti (am_ti (am_ti am_tn)))) (Nat.le_of_ble_eq_true rfl) (Nat.le_of_ble_eq_true rfl) ml_RL_32 iw_X11_clash vw_X11_clash cw_X11_clash nw_RX11 pp_X11_clash (Nat.le_of_ble_eq_true rfl) dL_law_360 rfl (NM_X11_clash am_ob0 hJ) (fun r_11 m_11 h_11 hB_11 => ?_)
  refine z_aload_n (nx := 364) (a := 2) G rfl (Or.inl rfl) dL_law_363 rfl ?_
  refine z_arg (nx := 369) (i := i) (k := 1) G X rfl rfl hi (by omega) dL_law_364 dL_law_365 dL_law_366 dL_law_367 dL_law_368 rfl rfl rfl rfl rfl ?_
  refine z_arg (nx := 374) (i := i) (k := 2) G X rfl rfl hi (by omega) dL_law_369 dL_law_370 dL_law_371 dL_law_372 dL_law_373 rfl rfl rfl rfl rfl ?_
  refine z_arg (nx := 379) (i := i) (k := 3) G X rfl rfl hi (by omega) dL_law_374 dL_law_375 dL_law_376 dL_law_377 dL_law_378 rfl rfl rfl rfl rfl ?_
  refine l_call (nx := 382) (zs := [168, sc xs (i + 1), sc xs (i + 2), sc xs (i + 3)]) (as := [(0, sc xs (i + 1)), (0, sc xs (i + 2)), (0, sc xs (i + 3))]) (z := 168) (ci := 12) (st := [(0, r_11)]) G hdF hlimF hB_11 (by decide) rfl am_ob168 SS_X12_clash (am_ta (am_ti (am_ti (am_ti am_tn)))) (Nat.le_of_ble_eq_true rfl) (Nat.le_of_ble_eq_true rfl) ml_RL_36 iw_X12_clash vw_X12_clash cw_X12_clash nw_RX12 pp_X12_clash (Nat.le_of_ble_eq_true rfl) dL_law_379 rfl (NM_X12_clash am_ob168 h_11) (fun r_12 m_12 h_12 hB_12 => ?_)
  exact l_same G h_12.1 dL_law_382 (by decide) (kk m_12 hB_12 h_12.2)
theorem l_often (G : am_G F cL_law RL) (X : lawS F b L xs) (hdF : am_d F = 1300) (hlimF : am_lim F 200) (hi : 0 ≤ i ∧ i + 6 ≤ L) (hB : am_Bt m) (hR : Rel m) (kk : ∀ n2, am_Bt n2 → Rel n2 → am_Z F 1385 [] (l_loc i) n2 200) : am_Z F 387 [] (l_loc i) m 200 := by
  refine z_aload_n (nx := 388) (a := 1) G rfl (Or.inl rfl) dL_law_387 rfl ?_
  refine z_arg (nx := 393) (i := i) (k := 1) G X rfl rfl hi (by omega) dL_law_388 dL_law_389 dL_law_390 dL_law_391 dL_law_392 rfl rfl rfl rfl rfl ?_
  refine z_arg (nx := 398) (i := i) (k := 2) G X rfl rfl hi (by omega) dL_law_393 dL_law_394 dL_law_395 dL_law_396 dL_law_397 rfl rfl rfl rfl rfl ?_
  have hJ := (j_often (sc xs (i + 1)) (sc xs (i + 2))) m hR (fun r1 r2 m2 => r1 = r2 ∧ Rel m2) (fun r m2 h => ⟨rfl, h⟩)
  refine l_call (nx := 401) (zs := [0, sc xs (i + 1), sc xs (i + 2)]) (as := [(0, sc xs (i + 1)), (0, sc xs (i + 2))]) (z := 0) (ci := 11) (st := []) G hdF hlimF hB (by decide) rfl am_ob0 SS_X11_often (am_ta (am_ti (am_ti am_tn))) (Nat.le_of_ble_eq_true rfl) (Nat.le_of_ble_eq_true rfl) ml_RL_37 iw_X11_often vw_X11_often cw_X11_often nw_RX11 pp_X11_often (Nat.le_of_ble_eq_true rfl) dL_law_398 rfl (NM_X11_often am_ob0 hJ) (fun r_11 m_11 h_11 hB_11 => ?_)
  refine z_aload_n (nx := 402) (a := 2) G rfl (Or.inl rfl) dL_law_401 rfl ?_
  refine z_arg (nx := 407) (i := i) (k := 1) G X rfl rfl hi (by omega) dL_law_402 dL_law_403 dL_law_404 dL_law_405 dL_law_406 rfl rfl rfl rfl rfl ?_
  refine z_arg (nx := 412) (i := i) (k := 2) G X rfl rfl hi (by omega) dL_law_407 dL_law_408 dL_law_409 dL_law_410 dL_law_411 rfl rfl rfl rfl rfl ?_
  refine l_call (nx := 415) (zs := [168, sc xs (i + 1), sc xs (i + 2)]) (as := [(0, sc xs (i + 1)), (0, sc xs (i + 2))]) (z := 168) (ci := 12) (st := [(0, r_11)]) G hdF hlimF hB_11 (by decide) rfl am_ob168 SS_X12_often (am_ta (am_ti (am_ti am_tn))) (Nat.le_of_ble_eq_true rfl) (Nat.le_of_ble_eq_true rfl) ml_RL_40 iw_X12_often vw_X12_often cw_X12_often nw_RX12 pp_X12_often (Nat.le_of_ble_eq_true rfl) dL_law_412 rfl (NM_X12_often am_ob168 h_11) (fun r_12 m_12 h_12 hB_12 => ?_)
  exact l_same G h_12.1 dL_law_415 (by decide) (kk m_12 hB_12 h_12.2)
theorem l_person (G : am_G F cL_law RL) (X : lawS F b L xs) (hdF : am_d F = 1300) (hlimF : am_lim F 200) (hi : 0 ≤ i ∧ i + 6 ≤ L) (hB : am_Bt m) (hR : Rel m) (kk : ∀ n2, am_Bt n2 → Rel n2 → am_Z F 1385 [] (l_loc i) n2 200) : am_Z F 420 [] (l_loc i) m 200 := by
  refine z_aload_n (nx := 421) (a := 1) G rfl (Or.inl rfl) dL_law_420 rfl ?_
  refine z_arg (nx := 426) (i := i) (k := 1) G X rfl rfl hi (by omega) dL_law_421 dL_law_422 dL_law_423 dL_law_424 dL_law_425 rfl rfl rfl rfl rfl ?_
  have hJ := (j_person (sc xs (i + 1))) m hR (fun r1 r2 m2 => r1 = r2 ∧ Rel m2) (fun r m2 h => ⟨rfl, h⟩)
  refine l_call (nx := 429) (zs := [0, sc xs (i + 1)]) (as := [(0, sc xs (i + 1))]) (z := 0) (ci := 11) (st := []) G hdF hlimF hB (by decide) rfl am_ob0 SS_X11_person (am_ta (am_ti am_tn)) (Nat.le_of_ble_eq_true rfl) (Nat.le_of_ble_eq_true rfl) ml_RL_41 iw_X11_person vw_X11_person cw_X11_person nw_RX11 pp_X11_person (Nat.le_of_ble_eq_true rfl) dL_law_426 rfl (NM_X11_person am_ob0 hJ) (fun r_11 m_11 h_11 hB_11 => ?_)
  refine z_aload_n (nx := 430) (a := 2) G rfl (Or.inl rfl) dL_law_429 rfl ?_
  refine z_arg (nx := 435) (i := i) (k := 1) G X rfl rfl hi (by omega) dL_law_430 dL_law_431 dL_law_432 dL_law_433 dL_law_434 rfl rfl rfl rfl rfl ?_
  refine l_call (nx := 438) (zs := [168, sc xs (i + 1)]) (as := [(0, sc xs (i + 1))]) (z := 168) (ci := 12) (st := [(0, r_11)]) G hdF hlimF hB_11 (by decide) rfl am_ob168 SS_X12_person (am_ta (am_ti am_tn)) (Nat.le_of_ble_eq_true rfl) (Nat.le_of_ble_eq_true rfl) ml_RL_44 iw_X12_person vw_X12_person cw_X12_person nw_RX12 pp_X12_person (Nat.le_of_ble_eq_true rfl) dL_law_435 rfl (NM_X12_person am_ob168 h_11) (fun r_12 m_12 h_12 hB_12 => ?_)
  exact l_same G h_12.1 dL_law_438 (by decide) (kk m_12 hB_12 h_12.2)
theorem l_breath (G : am_G F cL_law RL) (X : lawS F b L xs) (hdF : am_d F = 1300) (hlimF : am_lim F 200) (hi : 0 ≤ i ∧ i + 6 ≤ L) (hB : am_Bt m) (hR : Rel m) (kk : ∀ n2, am_Bt n2 → Rel n2 → am_Z F 1385 [] (l_loc i) n2 200) : am_Z F 443 [] (l_loc i) m 200 := by
  refine z_aload_n (nx := 444) (a := 1) G rfl (Or.inl rfl) dL_law_443 rfl ?_
  refine z_arg (nx := 449) (i := i) (k := 1) G X rfl rfl hi (by omega) dL_law_444 dL_law_445 dL_law_446 dL_law_447 dL_law_448 rfl rfl rfl rfl rfl ?_
  refine z_arg (nx := 454) (i := i) (k := 2) G X rfl rfl hi (by omega) dL_law_449 dL_law_450 dL_law_451 dL_law_452 dL_law_453 rfl rfl rfl rfl rfl ?_
  have hJ := (j_breath (sc xs (i + 1)) (sc xs (i + 2))) m hR (fun r1 r2 m2 => r1 = r2 ∧ Rel m2) (fun r m2 h => ⟨rfl, h⟩)
  refine l_call (nx := 457) (zs := [0, sc xs (i + 1), sc xs (i + 2)]) (as := [(0, sc xs (i + 1)), (0, sc xs (i + 2))]) (z := 0) (ci := 11) (st := []) G hdF hlimF hB (by decide) rfl am_ob0 SS_X11_breath (am_ta (am_ti (am_ti am_tn))) (Nat.le_of_ble_eq_true rfl) (Nat.le_of_ble_eq_true rfl) ml_RL_45 iw_X11_breath vw_X11_breath cw_X11_breath nw_RX11 pp_X11_breath (Nat.le_of_ble_eq_true rfl) dL_law_454 rfl (NM_X11_breath am_ob0 hJ) (fun r_11 m_11 h_11 hB_11 => ?_)
  refine z_aload_n (nx := 458) (a := 2) G rfl (Or.inl rfl) dL_law_457 rfl ?_
  refine z_arg (nx := 463) (i := i) (k := 1) G X rfl rfl hi (by omega) dL_law_458 dL_law_459 dL_law_460 dL_law_461 dL_law_462 rfl rfl rfl rfl rfl ?_
  refine z_arg (nx := 468) (i := i) (k := 2) G X rfl rfl hi (by omega) dL_law_463 dL_law_464 dL_law_465 dL_law_466 dL_law_467 rfl rfl rfl rfl rfl ?_
  refine l_call (nx := 471) (zs := [168, sc xs (i + 1), sc xs (i + 2)]) (as := [(0, sc xs (i + 1)), (0, sc xs (i + 2))]) (z := 168) (ci := 12) (st := [(0, r_11)]) G hdF hlimF hB_11 (by decide) rfl am_ob168 SS_X12_breath (am_ta (am_ti (am_ti am_tn))) (Nat.le_of_ble_eq_true rfl) (Nat.le_of_ble_eq_true rfl) ml_RL_48 iw_X12_breath vw_X12_breath cw_X12_breath nw_RX12 pp_X12_breath (Nat.le_of_ble_eq_true rfl) dL_law_468 rfl (NM_X12_breath am_ob168 h_11) (fun r_12 m_12 h_12 hB_12 => ?_)
  exact l_same G h_12.1 dL_law_471 (by decide) (kk m_12 hB_12 h_12.2)
theorem l_terms (G : am_G F cL_law RL) (X : lawS F b L xs) (hdF : am_d F = 1300) (hlimF : am_lim F 200) (hi : 0 ≤ i ∧ i + 6 ≤ L) (hB : am_Bt m) (hR : Rel m) (kk : ∀ n2, am_Bt n2 → Rel n2 → am_Z F 1385 [] (l_loc i) n2 200) : am_Z F 476 [] (l_loc i) m 200 := by
  refine z_aload_n (nx := 477) (a := 1) G rfl (Or.inl rfl) dL_law_476 rfl ?_
  refine z_arg (nx := 482) (i := i) (k := 1) G X rfl rfl hi (by omega) dL_law_477 dL_law_478 dL_law_479 dL_law_480 dL_law_481 rfl rfl rfl rfl rfl ?_
  refine z_arg (nx := 487) (i := i) (k := 2) G X rfl rfl hi (by omega) dL_law_482 dL_law_483 dL_law_484 dL_law_485 dL_law_486 rfl rfl rfl rfl rfl ?_
  have hJ := (j_terms (sc xs (i + 1)) (sc xs (i + 2))) m hR (fun r1 r2 m2 => r1 = r2 ∧ Rel m2) (fun r m2 h => ⟨rfl, h⟩)
  refine l_call (nx := 490) (zs := [0, sc xs (i + 1), sc xs (i + 2)]) (as := [(0, sc xs (i + 1)), (0, sc xs (i + 2))]) (z := 0) (ci := 11) (st := []) G hdF hlimF hB (by decide) rfl am_ob0 SS_X11_terms (am_ta (am_ti (am_ti am_tn))) (Nat.le_of_ble_eq_true rfl) (Nat.le_of_ble_eq_true rfl) ml_RL_49 iw_X11_terms vw_X11_terms cw_X11_terms nw_RX11 pp_X11_terms (Nat.le_of_ble_eq_true rfl) dL_law_487 rfl (NM_X11_terms am_ob0 hJ) (fun r_11 m_11 h_11 hB_11 => ?_)
  refine z_aload_n (nx := 491) (a := 2) G rfl (Or.inl rfl) dL_law_490 rfl ?_
  refine z_arg (nx := 496) (i := i) (k := 1) G X rfl rfl hi (by omega) dL_law_491 dL_law_492 dL_law_493 dL_law_494 dL_law_495 rfl rfl rfl rfl rfl ?_
  refine z_arg (nx := 501) (i := i) (k := 2) G X rfl rfl hi (by omega) dL_law_496 dL_law_497 dL_law_498 dL_law_499 dL_law_500 rfl rfl rfl rfl rfl ?_
  refine l_call (nx := 504) (zs := [168, sc xs (i + 1), sc xs (i + 2)]) (as := [(0, sc xs (i + 1)), (0, sc xs (i + 2))]) (z := 168) (ci := 12) (st := [(0, r_11)]) G hdF hlimF hB_11 (by decide) rfl am_ob168 SS_X12_terms (am_ta (am_ti (am_ti am_tn))) (Nat.le_of_ble_eq_true rfl) (Nat.le_of_ble_eq_true rfl) ml_RL_52 iw_X12_terms vw_X12_terms cw_X12_terms nw_RX12 pp_X12_terms (Nat.le_of_ble_eq_true rfl) dL_law_501 rfl (NM_X12_terms am_ob168 h_11) (fun r_12 m_12 h_12 hB_12 => ?_)
  exact l_same G h_12.1 dL_law_504 (by decide) (kk m_12 hB_12 h_12.2)
theorem l_feed (G : am_G F cL_law RL) (X : lawS F b L xs) (hdF : am_d F = 1300) (hlimF : am_lim F 200) (hi : 0 ≤ i ∧ i + 6 ≤ L) (hB : am_Bt m) (hR : Rel m) (kk : ∀ n2, am_Bt n2 → Rel n2 → am_Z F 1385 [] (l_loc i) n2 200) : am_Z F 509 [] (l_loc i) m 200 := by
  refine z_aload_n (nx := 510) (a := 1) G rfl (Or.inl rfl) dL_law_509 rfl ?_
  refine z_arg (nx := 515) (i := i) (k := 1) G X rfl rfl hi (by omega) dL_law_510 dL_law_511 dL_law_512 dL_law_513 dL_law_514 rfl rfl rfl rfl rfl ?_
  refine z_arg (nx := 520) (i := i) (k := 2) G X rfl rfl hi (by omega) dL_law_515 dL_law_516 dL_law_517 dL_law_518 dL_law_519 rfl rfl rfl rfl rfl ?_
  refine z_arg (nx := 525) (i := i) (k := 3) G X rfl rfl hi (by omega) dL_law_520 dL_law_521 dL_law_522 dL_law_523 dL_law_524 rfl rfl rfl rfl rfl ?_
  refine z_arg (nx := 530) (i := i) (k := 4) G X rfl rfl hi (by omega) dL_law_525 dL_law_526 dL_law_527 dL_law_528 dL_law_529 rfl rfl rfl rfl rfl ?_
  refine z_arg (nx := 535) (i := i) (k := 5) G X rfl rfl hi (by omega) dL_law_530 dL_law_531 dL_law_532 dL_law_533 dL_law_534 rfl rfl rfl rfl rfl ?_
  have hJ := (j_feed (sc xs (i + 1)) (sc xs (i + 2)) (sc xs (i + 3)) (sc xs (i + 4)) (sc xs (i + 5))) m hR (fun r1 r2 m2 => r1 = r2 ∧ Rel m2) (fun r m2 h => ⟨rfl, h⟩)
  refine l_call (nx := 538) (zs := [0, sc xs (i + 1), sc xs (i + 2), sc xs (i + 3), sc xs (i + 4), sc xs (i + 5)]) (as := [(0, sc xs (i + 1)), (0, sc xs (i + 2)), (0, sc xs (i + 3)), (0, sc xs (i + 4)), (0, sc xs (i + 5))]) (z := 0) (ci := 11) (st := []) G hdF hlimF hB (by decide) rfl am_ob0 SS_X11_feed (am_ta (am_ti (am_ti (am_ti (am_ti (am_ti am_tn)))))) (Nat.le_of_ble_eq_true rfl) (Nat.le_of_ble_eq_true rfl) ml_RL_53 iw_X11_feed vw_X11_feed cw_X11_feed nw_RX11 pp_X11_feed (Nat.le_of_ble_eq_true rfl) dL_law_535 rfl (NM_X11_feed am_ob0 hJ) (fun r_11 m_11 h_11 hB_11 => ?_)
  refine z_aload_n (nx := 539) (a := 2) G rfl (Or.inl rfl) dL_law_538 rfl ?_
  refine z_arg (nx := 544) (i := i) (k := 1) G X rfl rfl hi (by omega) dL_law_539 dL_law_540 dL_law_541 dL_law_542 dL_law_543 rfl rfl rfl rfl rfl ?_
  refine z_arg (nx := 549) (i := i) (k := 2) G X rfl rfl hi (by omega) dL_law_544 dL_law_545 dL_law_546 dL_law_547 dL_law_548 rfl rfl rfl rfl rfl ?_
  refine z_arg (nx := 554) (i := i) (k := 3) G X rfl rfl hi (by omega) dL_law_549 dL_law_550 dL_law_551 dL_law_552 dL_law_553 rfl rfl rfl rfl rfl ?_
  refine z_arg (nx := 559) (i := i) (k := 4) G X rfl rfl hi (by omega) dL_law_554 dL_law_555 dL_law_556 dL_law_557 dL_law_558 rfl rfl rfl rfl rfl ?_
  refine z_arg (nx := 564) (i := i) (k := 5) G X rfl rfl hi (by omega) dL_law_559 dL_law_560 dL_law_561 dL_law_562 dL_law_563 rfl rfl rfl rfl rfl ?_
  refine l_call (nx := 567) (zs := [168, sc xs (i + 1), sc xs (i + 2), sc xs (i + 3), sc xs (i + 4), sc xs (i + 5)]) (as := [(0, sc xs (i + 1)), (0, sc xs (i + 2)), (0, sc xs (i + 3)), (0, sc xs (i + 4)), (0, sc xs (i + 5))]) (z := 168) (ci := 12) (st := [(0, r_11)]) G hdF hlimF hB_11 (by decide) rfl am_ob168 SS_X12_feed (am_ta (am_ti (am_ti (am_ti (am_ti (am_ti am_tn)))))) (Nat.le_of_ble_eq_true rfl) (Nat.le_of_ble_eq_true rfl) ml_RL_57 iw_X12_feed vw_X12_feed cw_X12_feed nw_RX12 pp_X12_feed (Nat.le_of_ble_eq_true rfl) dL_law_564 rfl (NM_X12_feed am_ob168 h_11) (fun r_12 m_12 h_12 hB_12 => ?_)
  exact l_same G h_12.1 dL_law_567 (by decide) (kk m_12 hB_12 h_12.2)
theorem l_end (G : am_G F cL_law RL) (X : lawS F b L xs) (hdF : am_d F = 1300) (hlimF : am_lim F 200) (hi : 0 ≤ i ∧ i + 6 ≤ L) (hB : am_Bt m) (hR : Rel m) (kk : ∀ n2, am_Bt n2 → Rel n2 → am_Z F 1385 [] (l_loc i) n2 200) : am_Z F 572 [] (l_loc i) m 200 := by
  refine z_aload_n (nx := 573) (a := 1) G rfl (Or.inl rfl) dL_law_572 rfl ?_
  refine z_arg (nx := 578) (i := i) (k := 1) G X rfl rfl hi (by omega) dL_law_573 dL_law_574 dL_law_575 dL_law_576 dL_law_577 rfl rfl rfl rfl rfl ?_
  have hJ := (j_end (sc xs (i + 1))) m hR (fun r1 r2 m2 => r1 = r2 ∧ Rel m2) (fun r m2 h => ⟨rfl, h⟩)
  refine l_call (nx := 581) (zs := [0, sc xs (i + 1)]) (as := [(0, sc xs (i + 1))]) (z := 0) (ci := 11) (st := []) G hdF hlimF hB (by decide) rfl am_ob0 SS_X11_end (am_ta (am_ti am_tn)) (Nat.le_of_ble_eq_true rfl) (Nat.le_of_ble_eq_true rfl) ml_RL_58 iw_X11_end vw_X11_end cw_X11_end nw_RX11 pp_X11_end (Nat.le_of_ble_eq_true rfl) dL_law_578 rfl (NM_X11_end am_ob0 hJ) (fun r_11 m_11 h_11 hB_11 => ?_)
  refine z_aload_n (nx := 582) (a := 2) G rfl (Or.inl rfl) dL_law_581 rfl ?_
  refine z_arg (nx := 587) (i := i) (k := 1) G X rfl rfl hi (by omega) dL_law_582 dL_law_583 dL_law_584 dL_law_585 dL_law_586 rfl rfl rfl rfl rfl ?_
  refine l_call (nx := 590) (zs := [168, sc xs (i + 1)]) (as := [(0, sc xs (i + 1))]) (z := 168) (ci := 12) (st := [(0, r_11)]) G hdF hlimF hB_11 (by decide) rfl am_ob168 SS_X12_end (am_ta (am_ti am_tn)) (Nat.le_of_ble_eq_true rfl) (Nat.le_of_ble_eq_true rfl) ml_RL_61 iw_X12_end vw_X12_end cw_X12_end nw_RX12 pp_X12_end (Nat.le_of_ble_eq_true rfl) dL_law_587 rfl (NM_X12_end am_ob168 h_11) (fun r_12 m_12 h_12 hB_12 => ?_)
  exact l_same G h_12.1 dL_law_590 (by decide) (kk m_12 hB_12 h_12.2)
theorem l_row (G : am_G F cL_law RL) (X : lawS F b L xs) (hdF : am_d F = 1300) (hlimF : am_lim F 200) (hi : 0 ≤ i ∧ i + 6 ≤ L) (hB : am_Bt m) (hR : Rel m) (kk : ∀ n2, am_Bt n2 → Rel n2 → am_Z F 1385 [] (l_loc i) n2 200) : am_Z F 595 [] (l_loc i) m 200 := by
  refine z_aload_n (nx := 596) (a := 1) G rfl (Or.inl rfl) dL_law_595 rfl ?_
  have hJ := (j_row) m hR (fun r1 r2 m2 => r1 = r2 ∧ Rel m2) (fun r m2 h => ⟨rfl, h⟩)
  refine l_call (nx := 599) (zs := [0]) (as := []) (z := 0) (ci := 11) (st := []) G hdF hlimF hB (by decide) rfl am_ob0 SS_X11_row (am_ta am_tn) (Nat.le_of_ble_eq_true rfl) (Nat.le_of_ble_eq_true rfl) ml_RL_62 iw_X11_row vw_X11_row cw_X11_row nw_RX11 pp_X11_row (Nat.le_of_ble_eq_true rfl) dL_law_596 rfl (NM_X11_row am_ob0 hJ) (fun r_11 m_11 h_11 hB_11 => ?_)
  refine z_aload_n (nx := 600) (a := 2) G rfl (Or.inl rfl) dL_law_599 rfl ?_
  refine l_call (nx := 603) (zs := [168]) (as := []) (z := 168) (ci := 12) (st := [(0, r_11)]) G hdF hlimF hB_11 (by decide) rfl am_ob168 SS_X12_row (am_ta am_tn) (Nat.le_of_ble_eq_true rfl) (Nat.le_of_ble_eq_true rfl) ml_RL_66 iw_X12_row vw_X12_row cw_X12_row nw_RX12 pp_X12_row (Nat.le_of_ble_eq_true rfl) dL_law_600 rfl (NM_X12_row am_ob168 h_11) (fun r_12 m_12 h_12 hB_12 => ?_)
  exact l_same G h_12.1 dL_law_603 (by decide) (kk m_12 hB_12 h_12.2)
theorem l_coughs (G : am_G F cL_law RL) (X : lawS F b L xs) (hdF : am_d F = 1300) (hlimF : am_lim F 200) (hi : 0 ≤ i ∧ i + 6 ≤ L) (hB : am_Bt m) (hR : Rel m) (kk : ∀ n2, am_Bt n2 → Rel n2 → am_Z F 1385 [] (l_loc i) n2 200) : am_Z F 608 [] (l_loc i) m 200 := by
  refine z_aload_n (nx := 609) (a := 1) G rfl (Or.inl rfl) dL_law_608 rfl ?_
  have hJ := (j_coughs) m hR (fun r1 r2 m2 => r1 = r2 ∧ Rel m2) (fun r m2 h => ⟨rfl, h⟩)
  refine l_call (nx := 612) (zs := [0]) (as := []) (z := 0) (ci := 11) (st := []) G hdF hlimF hB (by decide) rfl am_ob0 SS_X11_coughs (am_ta am_tn) (Nat.le_of_ble_eq_true rfl) (Nat.le_of_ble_eq_true rfl) ml_RL_67 iw_X11_coughs vw_X11_coughs cw_X11_coughs nw_RX11 pp_X11_coughs (Nat.le_of_ble_eq_true rfl) dL_law_609 rfl (NM_X11_coughs am_ob0 hJ) (fun r_11 m_11 h_11 hB_11 => ?_)
  refine z_aload_n (nx := 613) (a := 2) G rfl (Or.inl rfl) dL_law_612 rfl ?_
  refine l_call (nx := 616) (zs := [168]) (as := []) (z := 168) (ci := 12) (st := [(0, r_11)]) G hdF hlimF hB_11 (by decide) rfl am_ob168 SS_X12_coughs (am_ta am_tn) (Nat.le_of_ble_eq_true rfl) (Nat.le_of_ble_eq_true rfl) ml_RL_70 iw_X12_coughs vw_X12_coughs cw_X12_coughs nw_RX12 pp_X12_coughs (Nat.le_of_ble_eq_true rfl) dL_law_613 rfl (NM_X12_coughs am_ob168 h_11) (fun r_12 m_12 h_12 hB_12 => ?_)
  exact l_same G h_12.1 dL_law_616 (by decide) (kk m_12 hB_12 h_12.2)
theorem l_law (G : am_G F cL_law RL) (X : lawS F b L xs) (hdF : am_d F = 1300) (hlimF : am_lim F 200) (hi : 0 ≤ i ∧ i + 6 ≤ L) (hB : am_Bt m) (hR : Rel m) (kk : ∀ n2, am_Bt n2 → Rel n2 → am_Z F 1385 [] (l_loc i) n2 200) : am_Z F 621 [] (l_loc i) m 200 := by
  refine z_aload_n (nx := 622) (a := 1) G rfl (Or.inl rfl) dL_law_621 rfl ?_
  have hJ := (j_law) m hR (fun r1 r2 m2 => r1 = r2 ∧ Rel m2) (fun r m2 h => ⟨rfl, h⟩)
  refine l_call (nx := 625) (zs := [0]) (as := []) (z := 0) (ci := 11) (st := []) G hdF hlimF hB (by decide) rfl am_ob0 SS_X11_law (am_ta am_tn) (Nat.le_of_ble_eq_true rfl) (Nat.le_of_ble_eq_true rfl) ml_RL_71 iw_X11_law vw_X11_law cw_X11_law nw_RX11 pp_X11_law (Nat.le_of_ble_eq_true rfl) dL_law_622 rfl (NM_X11_law am_ob0 hJ) (fun r_11 m_11 h_11 hB_11 => ?_)
  refine z_aload_n (nx := 626) (a := 2) G rfl (Or.inl rfl) dL_law_625 rfl ?_
  refine l_call (nx := 629) (zs := [168]) (as := []) (z := 168) (ci := 12) (st := [(0, r_11)]) G hdF hlimF hB_11 (by decide) rfl am_ob168 SS_X12_law (am_ta am_tn) (Nat.le_of_ble_eq_true rfl) (Nat.le_of_ble_eq_true rfl) ml_RL_74 iw_X12_law vw_X12_law cw_X12_law nw_RX12 pp_X12_law (Nat.le_of_ble_eq_true rfl) dL_law_626 rfl (NM_X12_law am_ob168 h_11) (fun r_12 m_12 h_12 hB_12 => ?_)
  exact l_same G h_12.1 dL_law_629 (by decide) (kk m_12 hB_12 h_12.2)
theorem l_orders (G : am_G F cL_law RL) (X : lawS F b L xs) (hdF : am_d F = 1300) (hlimF : am_lim F 200) (hi : 0 ≤ i ∧ i + 6 ≤ L) (hB : am_Bt m) (hR : Rel m) (kk : ∀ n2, am_Bt n2 → Rel n2 → am_Z F 1385 [] (l_loc i) n2 200) : am_Z F 634 [] (l_loc i) m 200 := by
  refine z_aload_n (nx := 635) (a := 1) G rfl (Or.inl rfl) dL_law_634 rfl ?_
  have hJ := (j_orders) m hR (fun r1 r2 m2 => r1 = r2 ∧ Rel m2) (fun r m2 h => ⟨rfl, h⟩)
  refine l_call (nx := 638) (zs := [0]) (as := []) (z := 0) (ci := 11) (st := []) G hdF hlimF hB (by decide) rfl am_ob0 SS_X11_orders (am_ta am_tn) (Nat.le_of_ble_eq_true rfl) (Nat.le_of_ble_eq_true rfl) ml_RL_75 iw_X11_orders vw_X11_orders cw_X11_orders nw_RX11 pp_X11_orders (Nat.le_of_ble_eq_true rfl) dL_law_635 rfl (NM_X11_orders am_ob0 hJ) (fun r_11 m_11 h_11 hB_11 => ?_)
  refine z_aload_n (nx := 639) (a := 2) G rfl (Or.inl rfl) dL_law_638 rfl ?_
  refine l_call (nx := 642) (zs := [168]) (as := []) (z := 168) (ci := 12) (st := [(0, r_11)]) G hdF hlimF hB_11 (by decide) rfl am_ob168 SS_X12_orders (am_ta am_tn) (Nat.le_of_ble_eq_true rfl) (Nat.le_of_ble_eq_true rfl) ml_RL_78 iw_X12_orders vw_X12_orders cw_X12_orders nw_RX12 pp_X12_orders (Nat.le_of_ble_eq_true rfl) dL_law_639 rfl (NM_X12_orders am_ob168 h_11) (fun r_12 m_12 h_12 hB_12 => ?_)
  exact l_same G h_12.1 dL_law_642 (by decide) (kk m_12 hB_12 h_12.2)
theorem l_fault (G : am_G F cL_law RL) (X : lawS F b L xs) (hdF : am_d F = 1300) (hlimF : am_lim F 200) (hi : 0 ≤ i ∧ i + 6 ≤ L) (hB : am_Bt m) (hR : Rel m) (kk : ∀ n2, am_Bt n2 → Rel n2 → am_Z F 1385 [] (l_loc i) n2 200) : am_Z F 647 [] (l_loc i) m 200 := by
  refine z_aload_n (nx := 648) (a := 1) G rfl (Or.inl rfl) dL_law_647 rfl ?_
  have hJ := (j_fault) m hR (fun r1 r2 m2 => r1 = r2 ∧ Rel m2) (fun r m2 h => ⟨rfl, h⟩)
  refine l_call (nx := 651) (zs := [0]) (as := []) (z := 0) (ci := 11) (st := []) G hdF hlimF hB (by decide) rfl am_ob0 SS_X11_fault (am_ta am_tn) (Nat.le_of_ble_eq_true rfl) (Nat.le_of_ble_eq_true rfl) ml_RL_79 iw_X11_fault vw_X11_fault cw_X11_fault nw_RX11 pp_X11_fault (Nat.le_of_ble_eq_true rfl) dL_law_648 rfl (NM_X11_fault am_ob0 hJ) (fun r_11 m_11 h_11 hB_11 => ?_)
  refine z_aload_n (nx := 652) (a := 2) G rfl (Or.inl rfl) dL_law_651 rfl ?_
  refine l_call (nx := 655) (zs := [168]) (as := []) (z := 168) (ci := 12) (st := [(0, r_11)]) G hdF hlimF hB_11 (by decide) rfl am_ob168 SS_X12_fault (am_ta am_tn) (Nat.le_of_ble_eq_true rfl) (Nat.le_of_ble_eq_true rfl) ml_RL_82 iw_X12_fault vw_X12_fault cw_X12_fault nw_RX12 pp_X12_fault (Nat.le_of_ble_eq_true rfl) dL_law_652 rfl (NM_X12_fault am_ob168 h_11) (fun r_12 m_12 h_12 hB_12 => ?_)
  exact l_same G h_12.1 dL_law_655 (by decide) (kk m_12 hB_12 h_12.2)
theorem l_stopped (G : am_G F cL_law RL) (X : lawS F b L xs) (hdF : am_d F = 1300) (hlimF : am_lim F 200) (hi : 0 ≤ i ∧ i + 6 ≤ L) (hB : am_Bt m) (hR : Rel m) (kk : ∀ n2, am_Bt n2 → Rel n2 → am_Z F 1385 [] (l_loc i) n2 200) : am_Z F 660 [] (l_loc i) m 200 := by
  refine z_aload_n (nx := 661) (a := 1) G rfl (Or.inl rfl) dL_law_660 rfl ?_
  have hJ := (j_stopped) m hR (fun r1 r2 m2 => r1 = r2 ∧ Rel m2) (fun r m2 h => ⟨rfl, h⟩)
  refine l_call (nx := 664) (zs := [0]) (as := []) (z := 0) (ci := 11) (st := []) G hdF hlimF hB (by decide) rfl am_ob0 SS_X11_stopped (am_ta am_tn) (Nat.le_of_ble_eq_true rfl) (Nat.le_of_ble_eq_true rfl) ml_RL_83 iw_X11_stopped vw_X11_stopped cw_X11_stopped nw_RX11 pp_X11_stopped (Nat.le_of_ble_eq_true rfl) dL_law_661 rfl (NM_X11_stopped am_ob0 hJ) (fun r_11 m_11 h_11 hB_11 => ?_)
  refine z_aload_n (nx := 665) (a := 2) G rfl (Or.inl rfl) dL_law_664 rfl ?_
  refine l_call (nx := 668) (zs := [168]) (as := []) (z := 168) (ci := 12) (st := [(0, r_11)]) G hdF hlimF hB_11 (by decide) rfl am_ob168 SS_X12_stopped (am_ta am_tn) (Nat.le_of_ble_eq_true rfl) (Nat.le_of_ble_eq_true rfl) ml_RL_86 iw_X12_stopped vw_X12_stopped cw_X12_stopped nw_RX12 pp_X12_stopped (Nat.le_of_ble_eq_true rfl) dL_law_665 rfl (NM_X12_stopped am_ob168 h_11) (fun r_12 m_12 h_12 hB_12 => ?_)
  exact l_same G h_12.1 dL_law_668 (by decide) (kk m_12 hB_12 h_12.2)
theorem l_force (G : am_G F cL_law RL) (X : lawS F b L xs) (hdF : am_d F = 1300) (hlimF : am_lim F 200) (hi : 0 ≤ i ∧ i + 6 ≤ L) (hB : am_Bt m) (hR : Rel m) (kk : ∀ n2, am_Bt n2 → Rel n2 → am_Z F 1385 [] (l_loc i) n2 200) : am_Z F 673 [] (l_loc i) m 200 := by
  refine z_aload_n (nx := 674) (a := 1) G rfl (Or.inl rfl) dL_law_673 rfl ?_
  refine z_arg (nx := 679) (i := i) (k := 1) G X rfl rfl hi (by omega) dL_law_674 dL_law_675 dL_law_676 dL_law_677 dL_law_678 rfl rfl rfl rfl rfl ?_
  have hJ := (j_force (sc xs (i + 1))) m hR (fun r1 r2 m2 => r1 = r2 ∧ Rel m2) (fun r m2 h => ⟨rfl, h⟩)
  refine l_call (nx := 682) (zs := [0, sc xs (i + 1)]) (as := [(0, sc xs (i + 1))]) (z := 0) (ci := 11) (st := []) G hdF hlimF hB (by decide) rfl am_ob0 SS_X11_force (am_ta (am_ti am_tn)) (Nat.le_of_ble_eq_true rfl) (Nat.le_of_ble_eq_true rfl) ml_RL_87 iw_X11_force vw_X11_force cw_X11_force nw_RX11 pp_X11_force (Nat.le_of_ble_eq_true rfl) dL_law_679 rfl (NM_X11_force am_ob0 hJ) (fun r_11 m_11 h_11 hB_11 => ?_)
  refine z_aload_n (nx := 683) (a := 2) G rfl (Or.inl rfl) dL_law_682 rfl ?_
  refine z_arg (nx := 688) (i := i) (k := 1) G X rfl rfl hi (by omega) dL_law_683 dL_law_684 dL_law_685 dL_law_686 dL_law_687 rfl rfl rfl rfl rfl ?_
  refine l_call (nx := 691) (zs := [168, sc xs (i + 1)]) (as := [(0, sc xs (i + 1))]) (z := 168) (ci := 12) (st := [(0, r_11)]) G hdF hlimF hB_11 (by decide) rfl am_ob168 SS_X12_force (am_ta (am_ti am_tn)) (Nat.le_of_ble_eq_true rfl) (Nat.le_of_ble_eq_true rfl) ml_RL_90 iw_X12_force vw_X12_force cw_X12_force nw_RX12 pp_X12_force (Nat.le_of_ble_eq_true rfl) dL_law_688 rfl (NM_X12_force am_ob168 h_11) (fun r_12 m_12 h_12 hB_12 => ?_)
  exact l_same G h_12.1 dL_law_691 (by decide) (kk m_12 hB_12 h_12.2)
theorem l_say (G : am_G F cL_law RL) (X : lawS F b L xs) (hdF : am_d F = 1300) (hlimF : am_lim F 200) (hi : 0 ≤ i ∧ i + 6 ≤ L) (hB : am_Bt m) (hR : Rel m) (kk : ∀ n2, am_Bt n2 → Rel n2 → am_Z F 1385 [] (l_loc i) n2 200) : am_Z F 696 [] (l_loc i) m 200 := by
  refine z_aload_n (nx := 697) (a := 1) G rfl (Or.inl rfl) dL_law_696 rfl ?_
  refine z_arg (nx := 702) (i := i) (k := 1) G X rfl rfl hi (by omega) dL_law_697 dL_law_698 dL_law_699 dL_law_700 dL_law_701 rfl rfl rfl rfl rfl ?_
  refine z_arg (nx := 707) (i := i) (k := 2) G X rfl rfl hi (by omega) dL_law_702 dL_law_703 dL_law_704 dL_law_705 dL_law_706 rfl rfl rfl rfl rfl ?_
  have hJ := (j_say (sc xs (i + 1)) (sc xs (i + 2)) (by have := sc_R xs (i + 2); unfold R32 at this; omega)) m hR (fun r1 r2 m2 => r1 = r2 ∧ Rel m2) (fun r m2 h => ⟨rfl, h⟩)
  refine l_call (nx := 710) (zs := [0, sc xs (i + 1), sc xs (i + 2)]) (as := [(0, sc xs (i + 1)), (0, sc xs (i + 2))]) (z := 0) (ci := 11) (st := []) G hdF hlimF hB (by decide) rfl am_ob0 SS_X11_say (am_ta (am_ti (am_ti am_tn))) (Nat.le_of_ble_eq_true rfl) (Nat.le_of_ble_eq_true rfl) ml_RL_91 iw_X11_say vw_X11_say cw_X11_say nw_RX11 pp_X11_say (Nat.le_of_ble_eq_true rfl) dL_law_707 rfl (NM_X11_say am_ob0 hJ) (fun r_11 m_11 h_11 hB_11 => ?_)
  refine z_aload_n (nx := 711) (a := 2) G rfl (Or.inl rfl) dL_law_710 rfl ?_
  refine z_arg (nx := 716) (i := i) (k := 1) G X rfl rfl hi (by omega) dL_law_711 dL_law_712 dL_law_713 dL_law_714 dL_law_715 rfl rfl rfl rfl rfl ?_
  refine z_arg (nx := 721) (i := i) (k := 2) G X rfl rfl hi (by omega) dL_law_716 dL_law_717 dL_law_718 dL_law_719 dL_law_720 rfl rfl rfl rfl rfl ?_
  refine l_call (nx := 724) (zs := [168, sc xs (i + 1), sc xs (i + 2)]) (as := [(0, sc xs (i + 1)), (0, sc xs (i + 2))]) (z := 168) (ci := 12) (st := [(0, r_11)]) G hdF hlimF hB_11 (by decide) rfl am_ob168 SS_X12_say (am_ta (am_ti (am_ti am_tn))) (Nat.le_of_ble_eq_true rfl) (Nat.le_of_ble_eq_true rfl) ml_RL_94 iw_X12_say vw_X12_say cw_X12_say nw_RX12 pp_X12_say (Nat.le_of_ble_eq_true rfl) dL_law_721 rfl (NM_X12_say am_ob168 h_11) (fun r_12 m_12 h_12 hB_12 => ?_)
  exact l_same G h_12.1 dL_law_724 (by decide) (kk m_12 hB_12 h_12.2)
theorem l_pray (G : am_G F cL_law RL) (X : lawS F b L xs) (hdF : am_d F = 1300) (hlimF : am_lim F 200) (hi : 0 ≤ i ∧ i + 6 ≤ L) (hB : am_Bt m) (hR : Rel m) (kk : ∀ n2, am_Bt n2 → Rel n2 → am_Z F 1385 [] (l_loc i) n2 200) : am_Z F 729 [] (l_loc i) m 200 := by
  refine z_aload_n (nx := 730) (a := 1) G rfl (Or.inl rfl) dL_law_729 rfl ?_
  refine z_arg (nx := 735) (i := i) (k := 1) G X rfl rfl hi (by omega) dL_law_730 dL_law_731 dL_law_732 dL_law_733 dL_law_734 rfl rfl rfl rfl rfl ?_
  refine z_arg (nx := 740) (i := i) (k := 2) G X rfl rfl hi (by omega) dL_law_735 dL_law_736 dL_law_737 dL_law_738 dL_law_739 rfl rfl rfl rfl rfl ?_
  refine z_arg (nx := 745) (i := i) (k := 3) G X rfl rfl hi (by omega) dL_law_740 dL_law_741 dL_law_742 dL_law_743 dL_law_744 rfl rfl rfl rfl rfl ?_
  refine z_arg (nx := 750) (i := i) (k := 4) G X rfl rfl hi (by omega) dL_law_745 dL_law_746 dL_law_747 dL_law_748 dL_law_749 rfl rfl rfl rfl rfl ?_
  have hJ := (j_pray (sc xs (i + 1)) (sc xs (i + 2)) (sc xs (i + 3)) (sc xs (i + 4))) m hR (fun r1 r2 m2 => r1 = r2 ∧ Rel m2) (fun r m2 h => ⟨rfl, h⟩)
  refine l_call (nx := 753) (zs := [0, sc xs (i + 1), sc xs (i + 2), sc xs (i + 3), sc xs (i + 4)]) (as := [(0, sc xs (i + 1)), (0, sc xs (i + 2)), (0, sc xs (i + 3)), (0, sc xs (i + 4))]) (z := 0) (ci := 11) (st := []) G hdF hlimF hB (by decide) rfl am_ob0 SS_X11_pray (am_ta (am_ti (am_ti (am_ti (am_ti am_tn))))) (Nat.le_of_ble_eq_true rfl) (Nat.le_of_ble_eq_true rfl) ml_RL_95 iw_X11_pray vw_X11_pray cw_X11_pray nw_RX11 pp_X11_pray (Nat.le_of_ble_eq_true rfl) dL_law_750 rfl (NM_X11_pray am_ob0 hJ) (fun r_11 m_11 h_11 hB_11 => ?_)
  refine z_aload_n (nx := 754) (a := 2) G rfl (Or.inl rfl) dL_law_753 rfl ?_
  refine z_arg (nx := 759) (i := i) (k := 1) G X rfl rfl hi (by omega) dL_law_754 dL_law_755 dL_law_756 dL_law_757 dL_law_758 rfl rfl rfl rfl rfl ?_
  refine z_arg (nx := 764) (i := i) (k := 2) G X rfl rfl hi (by omega) dL_law_759 dL_law_760 dL_law_761 dL_law_762 dL_law_763 rfl rfl rfl rfl rfl ?_
  refine z_arg (nx := 769) (i := i) (k := 3) G X rfl rfl hi (by omega) dL_law_764 dL_law_765 dL_law_766 dL_law_767 dL_law_768 rfl rfl rfl rfl rfl ?_
  refine z_arg (nx := 774) (i := i) (k := 4) G X rfl rfl hi (by omega) dL_law_769 dL_law_770 dL_law_771 dL_law_772 dL_law_773 rfl rfl rfl rfl rfl ?_
  refine l_call (nx := 777) (zs := [168, sc xs (i + 1), sc xs (i + 2), sc xs (i + 3), sc xs (i + 4)]) (as := [(0, sc xs (i + 1)), (0, sc xs (i + 2)), (0, sc xs (i + 3)), (0, sc xs (i + 4))]) (z := 168) (ci := 12) (st := [(0, r_11)]) G hdF hlimF hB_11 (by decide) rfl am_ob168 SS_X12_pray (am_ta (am_ti (am_ti (am_ti (am_ti am_tn))))) (Nat.le_of_ble_eq_true rfl) (Nat.le_of_ble_eq_true rfl) ml_RL_98 iw_X12_pray vw_X12_pray cw_X12_pray nw_RX12 pp_X12_pray (Nat.le_of_ble_eq_true rfl) dL_law_774 rfl (NM_X12_pray am_ob168 h_11) (fun r_12 m_12 h_12 hB_12 => ?_)
  exact l_same G h_12.1 dL_law_777 (by decide) (kk m_12 hB_12 h_12.2)
theorem l_at (G : am_G F cL_law RL) (X : lawS F b L xs) (hdF : am_d F = 1300) (hlimF : am_lim F 200) (hi : 0 ≤ i ∧ i + 6 ≤ L) (hB : am_Bt m) (hR : Rel m) (kk : ∀ n2, am_Bt n2 → Rel n2 → am_Z F 1385 [] (l_loc i) n2 200) : am_Z F 782 [] (l_loc i) m 200 := by
  refine z_aload_n (nx := 783) (a := 1) G rfl (Or.inl rfl) dL_law_782 rfl ?_
  refine z_arg (nx := 788) (i := i) (k := 1) G X rfl rfl hi (by omega) dL_law_783 dL_law_784 dL_law_785 dL_law_786 dL_law_787 rfl rfl rfl rfl rfl ?_
  refine z_arg (nx := 793) (i := i) (k := 2) G X rfl rfl hi (by omega) dL_law_788 dL_law_789 dL_law_790 dL_law_791 dL_law_792 rfl rfl rfl rfl rfl ?_
  have hJ := (j_at (sc xs (i + 1)) (sc xs (i + 2))) m hR (fun r1 r2 m2 => r1 = r2 ∧ Rel m2) (fun r m2 h => ⟨rfl, h⟩)
  refine l_call (nx := 796) (zs := [0, sc xs (i + 1), sc xs (i + 2)]) (as := [(0, sc xs (i + 1)), (0, sc xs (i + 2))]) (z := 0) (ci := 11) (st := []) G hdF hlimF hB (by decide) rfl am_ob0 SS_X11_at (am_ta (am_ti (am_ti am_tn))) (Nat.le_of_ble_eq_true rfl) (Nat.le_of_ble_eq_true rfl) ml_RL_99 iw_X11_at vw_X11_at cw_X11_at nw_RX11 pp_X11_at (Nat.le_of_ble_eq_true rfl) dL_law_793 rfl (NM_X11_at am_ob0 hJ) (fun r_11 m_11 h_11 hB_11 => ?_)
  refine z_aload_n (nx := 797) (a := 2) G rfl (Or.inl rfl) dL_law_796 rfl ?_
  refine z_arg (nx := 802) (i := i) (k := 1) G X rfl rfl hi (by omega) dL_law_797 dL_law_798 dL_law_799 dL_law_800 dL_law_801 rfl rfl rfl rfl rfl ?_
  refine z_arg (nx := 807) (i := i) (k := 2) G X rfl rfl hi (by omega) dL_law_802 dL_law_803 dL_law_804 dL_law_805 dL_law_806 rfl rfl rfl rfl rfl ?_
  refine l_call (nx := 810) (zs := [168, sc xs (i + 1), sc xs (i + 2)]) (as := [(0, sc xs (i + 1)), (0, sc xs (i + 2))]) (z := 168) (ci := 12) (st := [(0, r_11)]) G hdF hlimF hB_11 (by decide) rfl am_ob168 SS_X12_at (am_ta (am_ti (am_ti am_tn))) (Nat.le_of_ble_eq_true rfl) (Nat.le_of_ble_eq_true rfl) ml_RL_102 iw_X12_at vw_X12_at cw_X12_at nw_RX12 pp_X12_at (Nat.le_of_ble_eq_true rfl) dL_law_807 rfl (NM_X12_at am_ob168 h_11) (fun r_12 m_12 h_12 hB_12 => ?_)
  exact l_same G h_12.1 dL_law_810 (by decide) (kk m_12 hB_12 h_12.2)
theorem l_rank (G : am_G F cL_law RL) (X : lawS F b L xs) (hdF : am_d F = 1300) (hlimF : am_lim F 200) (hi : 0 ≤ i ∧ i + 6 ≤ L) (hB : am_Bt m) (hR : Rel m) (kk : ∀ n2, am_Bt n2 → Rel n2 → am_Z F 1385 [] (l_loc i) n2 200) : am_Z F 815 [] (l_loc i) m 200 := by
  refine z_aload_n (nx := 816) (a := 1) G rfl (Or.inl rfl) dL_law_815 rfl ?_
  refine z_arg (nx := 821) (i := i) (k := 1) G X rfl rfl hi (by omega) dL_law_816 dL_law_817 dL_law_818 dL_law_819 dL_law_820 rfl rfl rfl rfl rfl ?_
  refine z_arg (nx := 826) (i := i) (k := 2) G X rfl rfl hi (by omega) dL_law_821 dL_law_822 dL_law_823 dL_law_824 dL_law_825 rfl rfl rfl rfl rfl ?_
  have hJ := (j_rank (sc xs (i + 1)) (sc xs (i + 2))) m hR (fun r1 r2 m2 => r1 = r2 ∧ Rel m2) (fun r m2 h => ⟨rfl, h⟩)
  refine l_call (nx := 829) (zs := [0, sc xs (i + 1), sc xs (i + 2)]) (as := [(0, sc xs (i + 1)), (0, sc xs (i + 2))]) (z := 0) (ci := 11) (st := []) G hdF hlimF hB (by decide) rfl am_ob0 SS_X11_rank (am_ta (am_ti (am_ti am_tn))) (Nat.le_of_ble_eq_true rfl) (Nat.le_of_ble_eq_true rfl) ml_RL_103 iw_X11_rank vw_X11_rank cw_X11_rank nw_RX11 pp_X11_rank (Nat.le_of_ble_eq_true rfl) dL_law_826 rfl (NM_X11_rank am_ob0 hJ) (fun r_11 m_11 h_11 hB_11 => ?_)
  refine z_aload_n (nx := 830) (a := 2) G rfl (Or.inl rfl) dL_law_829 rfl ?_
  refine z_arg (nx := 835) (i := i) (k := 1) G X rfl rfl hi (by omega) dL_law_830 dL_law_831 dL_law_832 dL_law_833 dL_law_834 rfl rfl rfl rfl rfl ?_
  refine z_arg (nx := 840) (i := i) (k := 2) G X rfl rfl hi (by omega) dL_law_835 dL_law_836 dL_law_837 dL_law_838 dL_law_839 rfl rfl rfl rfl rfl ?_
  refine l_call (nx := 843) (zs := [168, sc xs (i + 1), sc xs (i + 2)]) (as := [(0, sc xs (i + 1)), (0, sc xs (i + 2))]) (z := 168) (ci := 12) (st := [(0, r_11)]) G hdF hlimF hB_11 (by decide) rfl am_ob168 SS_X12_rank (am_ta (am_ti (am_ti am_tn))) (Nat.le_of_ble_eq_true rfl) (Nat.le_of_ble_eq_true rfl) ml_RL_106 iw_X12_rank vw_X12_rank cw_X12_rank nw_RX12 pp_X12_rank (Nat.le_of_ble_eq_true rfl) dL_law_840 rfl (NM_X12_rank am_ob168 h_11) (fun r_12 m_12 h_12 hB_12 => ?_)
  exact l_same G h_12.1 dL_law_843 (by decide) (kk m_12 hB_12 h_12.2)
theorem l_order (G : am_G F cL_law RL) (X : lawS F b L xs) (hdF : am_d F = 1300) (hlimF : am_lim F 200) (hi : 0 ≤ i ∧ i + 6 ≤ L) (hB : am_Bt m) (hR : Rel m) (kk : ∀ n2, am_Bt n2 → Rel n2 → am_Z F 1385 [] (l_loc i) n2 200) : am_Z F 848 [] (l_loc i) m 200 := by
  refine z_aload_n (nx := 849) (a := 1) G rfl (Or.inl rfl) dL_law_848 rfl ?_
  refine z_arg (nx := 854) (i := i) (k := 1) G X rfl rfl hi (by omega) dL_law_849 dL_law_850 dL_law_851 dL_law_852 dL_law_853 rfl rfl rfl rfl rfl ?_
  have hJ := (j_order (sc xs (i + 1))) m hR (fun r1 r2 m2 => r1 = r2 ∧ Rel m2) (fun r m2 h => ⟨rfl, h⟩)
  refine l_call (nx := 857) (zs := [0, sc xs (i + 1)]) (as := [(0, sc xs (i + 1))]) (z := 0) (ci := 11) (st := []) G hdF hlimF hB (by decide) rfl am_ob0 SS_X11_order (am_ta (am_ti am_tn)) (Nat.le_of_ble_eq_true rfl) (Nat.le_of_ble_eq_true rfl) ml_RL_107 iw_X11_order vw_X11_order cw_X11_order nw_RX11 pp_X11_order (Nat.le_of_ble_eq_true rfl) dL_law_854 rfl (NM_X11_order am_ob0 hJ) (fun r_11 m_11 h_11 hB_11 => ?_)
  refine z_aload_n (nx := 858) (a := 2) G rfl (Or.inl rfl) dL_law_857 rfl ?_
  refine z_arg (nx := 863) (i := i) (k := 1) G X rfl rfl hi (by omega) dL_law_858 dL_law_859 dL_law_860 dL_law_861 dL_law_862 rfl rfl rfl rfl rfl ?_
  refine l_call (nx := 866) (zs := [168, sc xs (i + 1)]) (as := [(0, sc xs (i + 1))]) (z := 168) (ci := 12) (st := [(0, r_11)]) G hdF hlimF hB_11 (by decide) rfl am_ob168 SS_X12_order (am_ta (am_ti am_tn)) (Nat.le_of_ble_eq_true rfl) (Nat.le_of_ble_eq_true rfl) ml_RL_110 iw_X12_order vw_X12_order cw_X12_order nw_RX12 pp_X12_order (Nat.le_of_ble_eq_true rfl) dL_law_863 rfl (NM_X12_order am_ob168 h_11) (fun r_12 m_12 h_12 hB_12 => ?_)
  exact l_same G h_12.1 dL_law_866 (by decide) (kk m_12 hB_12 h_12.2)
theorem l_dawn (G : am_G F cL_law RL) (X : lawS F b L xs) (hdF : am_d F = 1300) (hlimF : am_lim F 200) (hi : 0 ≤ i ∧ i + 6 ≤ L) (hB : am_Bt m) (hR : Rel m) (kk : ∀ n2, am_Bt n2 → Rel n2 → am_Z F 1385 [] (l_loc i) n2 200) : am_Z F 871 [] (l_loc i) m 200 := by
  refine z_aload_n (nx := 872) (a := 1) G rfl (Or.inl rfl) dL_law_871 rfl ?_
  have hJ := (j_dawn) m hR (fun r1 r2 m2 => r1 = r2 ∧ Rel m2) (fun r m2 h => ⟨rfl, h⟩)
  refine l_call (nx := 875) (zs := [0]) (as := []) (z := 0) (ci := 11) (st := []) G hdF hlimF hB (by decide) rfl am_ob0 SS_X11_dawn (am_ta am_tn) (Nat.le_of_ble_eq_true rfl) (Nat.le_of_ble_eq_true rfl) ml_RL_111 iw_X11_dawn vw_X11_dawn cw_X11_dawn nw_RX11 pp_X11_dawn (Nat.le_of_ble_eq_true rfl) dL_law_872 rfl (NM_X11_dawn am_ob0 hJ) (fun r_11 m_11 h_11 hB_11 => ?_)
  refine z_aload_n (nx := 876) (a := 2) G rfl (Or.inl rfl) dL_law_875 rfl ?_
  refine l_call (nx := 879) (zs := [168]) (as := []) (z := 168) (ci := 12) (st := [(0, r_11)]) G hdF hlimF hB_11 (by decide) rfl am_ob168 SS_X12_dawn (am_ta am_tn) (Nat.le_of_ble_eq_true rfl) (Nat.le_of_ble_eq_true rfl) ml_RL_114 iw_X12_dawn vw_X12_dawn cw_X12_dawn nw_RX12 pp_X12_dawn (Nat.le_of_ble_eq_true rfl) dL_law_876 rfl (NM_X12_dawn am_ob168 h_11) (fun r_12 m_12 h_12 hB_12 => ?_)
  exact l_same G h_12.1 dL_law_879 (by decide) (kk m_12 hB_12 h_12.2)
theorem l_undo (G : am_G F cL_law RL) (X : lawS F b L xs) (hdF : am_d F = 1300) (hlimF : am_lim F 200) (hi : 0 ≤ i ∧ i + 6 ≤ L) (hB : am_Bt m) (hR : Rel m) (kk : ∀ n2, am_Bt n2 → Rel n2 → am_Z F 1385 [] (l_loc i) n2 200) : am_Z F 884 [] (l_loc i) m 200 := by
  refine z_aload_n (nx := 885) (a := 1) G rfl (Or.inl rfl) dL_law_884 rfl ?_
  have hJ := (j_undo) m hR (fun r1 r2 m2 => r1 = r2 ∧ Rel m2) (fun r m2 h => ⟨rfl, h⟩)
  refine l_call (nx := 888) (zs := [0]) (as := []) (z := 0) (ci := 11) (st := []) G hdF hlimF hB (by decide) rfl am_ob0 SS_X11_undo (am_ta am_tn) (Nat.le_of_ble_eq_true rfl) (Nat.le_of_ble_eq_true rfl) ml_RL_115 iw_X11_undo vw_X11_undo cw_X11_undo nw_RX11 pp_X11_undo (Nat.le_of_ble_eq_true rfl) dL_law_885 rfl (NM_X11_undo am_ob0 hJ) (fun r_11 m_11 h_11 hB_11 => ?_)
  refine z_aload_n (nx := 889) (a := 2) G rfl (Or.inl rfl) dL_law_888 rfl ?_
  refine l_call (nx := 892) (zs := [168]) (as := []) (z := 168) (ci := 12) (st := [(0, r_11)]) G hdF hlimF hB_11 (by decide) rfl am_ob168 SS_X12_undo (am_ta am_tn) (Nat.le_of_ble_eq_true rfl) (Nat.le_of_ble_eq_true rfl) ml_RL_118 iw_X12_undo vw_X12_undo cw_X12_undo nw_RX12 pp_X12_undo (Nat.le_of_ble_eq_true rfl) dL_law_889 rfl (NM_X12_undo am_ob168 h_11) (fun r_12 m_12 h_12 hB_12 => ?_)
  exact l_same G h_12.1 dL_law_892 (by decide) (kk m_12 hB_12 h_12.2)
theorem l_sweep (G : am_G F cL_law RL) (X : lawS F b L xs) (hdF : am_d F = 1300) (hlimF : am_lim F 200) (hi : 0 ≤ i ∧ i + 6 ≤ L) (hB : am_Bt m) (hR : Rel m) (kk : ∀ n2, am_Bt n2 → Rel n2 → am_Z F 1385 [] (l_loc i) n2 200) : am_Z F 897 [] (l_loc i) m 200 := by
  refine z_aload_n (nx := 898) (a := 1) G rfl (Or.inl rfl) dL_law_897 rfl ?_
  have hJ := (j_sweep) m hR (fun r1 r2 m2 => r1 = r2 ∧ Rel m2) (fun r m2 h => ⟨rfl, h⟩)
  refine l_call (nx := 901) (zs := [0]) (as := []) (z := 0) (ci := 11) (st := []) G hdF hlimF hB (by decide) rfl am_ob0 SS_X11_sweep (am_ta am_tn) (Nat.le_of_ble_eq_true rfl) (Nat.le_of_ble_eq_true rfl) ml_RL_119 iw_X11_sweep vw_X11_sweep cw_X11_sweep nw_RX11 pp_X11_sweep (Nat.le_of_ble_eq_true rfl) dL_law_898 rfl (NM_X11_sweep am_ob0 hJ) (fun r_11 m_11 h_11 hB_11 => ?_)
  refine z_aload_n (nx := 902) (a := 2) G rfl (Or.inl rfl) dL_law_901 rfl ?_
  refine l_call (nx := 905) (zs := [168]) (as := []) (z := 168) (ci := 12) (st := [(0, r_11)]) G hdF hlimF hB_11 (by decide) rfl am_ob168 SS_X12_sweep (am_ta am_tn) (Nat.le_of_ble_eq_true rfl) (Nat.le_of_ble_eq_true rfl) ml_RL_122 iw_X12_sweep vw_X12_sweep cw_X12_sweep nw_RX12 pp_X12_sweep (Nat.le_of_ble_eq_true rfl) dL_law_902 rfl (NM_X12_sweep am_ob168 h_11) (fun r_12 m_12 h_12 hB_12 => ?_)
  exact l_same G h_12.1 dL_law_905 (by decide) (kk m_12 hB_12 h_12.2)
theorem l_code (G : am_G F cL_law RL) (X : lawS F b L xs) (hdF : am_d F = 1300) (hlimF : am_lim F 200) (hi : 0 ≤ i ∧ i + 6 ≤ L) (hB : am_Bt m) (hR : Rel m) (kk : ∀ n2, am_Bt n2 → Rel n2 → am_Z F 1385 [] (l_loc i) n2 200) : am_Z F 910 [] (l_loc i) m 200 := by
  refine z_aload_n (nx := 911) (a := 1) G rfl (Or.inl rfl) dL_law_910 rfl ?_
  refine z_arg (nx := 916) (i := i) (k := 1) G X rfl rfl hi (by omega) dL_law_911 dL_law_912 dL_law_913 dL_law_914 dL_law_915 rfl rfl rfl rfl rfl ?_
  refine z_arg (nx := 921) (i := i) (k := 2) G X rfl rfl hi (by omega) dL_law_916 dL_law_917 dL_law_918 dL_law_919 dL_law_920 rfl rfl rfl rfl rfl ?_
  have hJ := (j_code (sc xs (i + 1)) (sc xs (i + 2))) m hR (fun r1 r2 m2 => r1 = r2 ∧ Rel m2) (fun r m2 h => ⟨rfl, h⟩)
  refine l_call (nx := 924) (zs := [0, sc xs (i + 1), sc xs (i + 2)]) (as := [(0, sc xs (i + 1)), (0, sc xs (i + 2))]) (z := 0) (ci := 11) (st := []) G hdF hlimF hB (by decide) rfl am_ob0 SS_X11_code (am_ta (am_ti (am_ti am_tn))) (Nat.le_of_ble_eq_true rfl) (Nat.le_of_ble_eq_true rfl) ml_RL_123 iw_X11_code vw_X11_code cw_X11_code nw_RX11 pp_X11_code (Nat.le_of_ble_eq_true rfl) dL_law_921 rfl (NM_X11_code am_ob0 hJ) (fun r_11 m_11 h_11 hB_11 => ?_)
  refine z_aload_n (nx := 925) (a := 2) G rfl (Or.inl rfl) dL_law_924 rfl ?_
  refine z_arg (nx := 930) (i := i) (k := 1) G X rfl rfl hi (by omega) dL_law_925 dL_law_926 dL_law_927 dL_law_928 dL_law_929 rfl rfl rfl rfl rfl ?_
  refine z_arg (nx := 935) (i := i) (k := 2) G X rfl rfl hi (by omega) dL_law_930 dL_law_931 dL_law_932 dL_law_933 dL_law_934 rfl rfl rfl rfl rfl ?_
  refine l_call (nx := 938) (zs := [168, sc xs (i + 1), sc xs (i + 2)]) (as := [(0, sc xs (i + 1)), (0, sc xs (i + 2))]) (z := 168) (ci := 12) (st := [(0, r_11)]) G hdF hlimF hB_11 (by decide) rfl am_ob168 SS_X12_code (am_ta (am_ti (am_ti am_tn))) (Nat.le_of_ble_eq_true rfl) (Nat.le_of_ble_eq_true rfl) ml_RL_126 iw_X12_code vw_X12_code cw_X12_code nw_RX12 pp_X12_code (Nat.le_of_ble_eq_true rfl) dL_law_935 rfl (NM_X12_code am_ob168 h_11) (fun r_12 m_12 h_12 hB_12 => ?_)
  exact l_same G h_12.1 dL_law_938 (by decide) (kk m_12 hB_12 h_12.2)
theorem l_bundle (G : am_G F cL_law RL) (X : lawS F b L xs) (hdF : am_d F = 1300) (hlimF : am_lim F 200) (hi : 0 ≤ i ∧ i + 6 ≤ L) (hB : am_Bt m) (hR : Rel m) (kk : ∀ n2, am_Bt n2 → Rel n2 → am_Z F 1385 [] (l_loc i) n2 200) : am_Z F 943 [] (l_loc i) m 200 := by
  refine z_aload_n (nx := 944) (a := 1) G rfl (Or.inl rfl) dL_law_943 rfl ?_
  refine z_arg (nx := 949) (i := i) (k := 1) G X rfl rfl hi (by omega) dL_law_944 dL_law_945 dL_law_946 dL_law_947 dL_law_948 rfl rfl rfl rfl rfl ?_
  refine z_arg (nx := 954) (i := i) (k := 2) G X rfl rfl hi (by omega) dL_law_949 dL_law_950 dL_law_951 dL_law_952 dL_law_953 rfl rfl rfl rfl rfl ?_
  have hJ := (j_bundle (sc xs (i + 1)) (sc xs (i + 2))) m hR (fun r1 r2 m2 => r1 = r2 ∧ Rel m2) (fun r m2 h => ⟨rfl, h⟩)
  refine l_call (nx := 957) (zs := [0, sc xs (i + 1), sc xs (i + 2)]) (as := [(0, sc xs (i + 1)), (0, sc xs (i + 2))]) (z := 0) (ci := 11) (st := []) G hdF hlimF hB (by decide) rfl am_ob0 SS_X11_bundle (am_ta (am_ti (am_ti am_tn))) (Nat.le_of_ble_eq_true rfl) (Nat.le_of_ble_eq_true rfl) ml_RL_127 iw_X11_bundle vw_X11_bundle cw_X11_bundle nw_RX11 pp_X11_bundle (Nat.le_of_ble_eq_true rfl) dL_law_954 rfl (NM_X11_bundle am_ob0 hJ) (fun r_11 m_11 h_11 hB_11 => ?_)
  refine z_aload_n (nx := 958) (a := 2) G rfl (Or.inl rfl) dL_law_957 rfl ?_
  refine z_arg (nx := 963) (i := i) (k := 1) G X rfl rfl hi (by omega) dL_law_958 dL_law_959 dL_law_960 dL_law_961 dL_law_962 rfl rfl rfl rfl rfl ?_
  refine z_arg (nx := 968) (i := i) (k := 2) G X rfl rfl hi (by omega) dL_law_963 dL_law_964 dL_law_965 dL_law_966 dL_law_967 rfl rfl rfl rfl rfl ?_
  refine l_call (nx := 971) (zs := [168, sc xs (i + 1), sc xs (i + 2)]) (as := [(0, sc xs (i + 1)), (0, sc xs (i + 2))]) (z := 168) (ci := 12) (st := [(0, r_11)]) G hdF hlimF hB_11 (by decide) rfl am_ob168 SS_X12_bundle (am_ta (am_ti (am_ti am_tn))) (Nat.le_of_ble_eq_true rfl) (Nat.le_of_ble_eq_true rfl) ml_RL_130 iw_X12_bundle vw_X12_bundle cw_X12_bundle nw_RX12 pp_X12_bundle (Nat.le_of_ble_eq_true rfl) dL_law_968 rfl (NM_X12_bundle am_ob168 h_11) (fun r_12 m_12 h_12 hB_12 => ?_)
  exact l_same G h_12.1 dL_law_971 (by decide) (kk m_12 hB_12 h_12.2)
theorem l_cover (G : am_G F cL_law RL) (X : lawS F b L xs) (hdF : am_d F = 1300) (hlimF : am_lim F 200) (hi : 0 ≤ i ∧ i + 6 ≤ L) (hB : am_Bt m) (hR : Rel m) (kk : ∀ n2, am_Bt n2 → Rel n2 → am_Z F 1385 [] (l_loc i) n2 200) : am_Z F 976 [] (l_loc i) m 200 := by
  refine z_aload_n (nx := 977) (a := 1) G rfl (Or.inl rfl) dL_law_976 rfl ?_
  refine z_arg (nx := 982) (i := i) (k := 1) G X rfl rfl hi (by omega) dL_law_977 dL_law_978 dL_law_979 dL_law_980 dL_law_981 rfl rfl rfl rfl rfl ?_
  refine z_arg (nx := 987) (i := i) (k := 2) G X rfl rfl hi (by omega) dL_law_982 dL_law_983 dL_law_984 dL_law_985 dL_law_986 rfl rfl rfl rfl rfl ?_
  have hJ := (j_cover (sc xs (i + 1)) (sc xs (i + 2))) m hR (fun r1 r2 m2 => r1 = r2 ∧ Rel m2) (fun r m2 h => ⟨rfl, h⟩)
  refine l_call (nx := 990) (zs := [0, sc xs (i + 1), sc xs (i + 2)]) (as := [(0, sc xs (i + 1)), (0, sc xs (i + 2))]) (z := 0) (ci := 11) (st := []) G hdF hlimF hB (by decide) rfl am_ob0 SS_X11_cover (am_ta (am_ti (am_ti am_tn))) (Nat.le_of_ble_eq_true rfl) (Nat.le_of_ble_eq_true rfl) ml_RL_131 iw_X11_cover vw_X11_cover cw_X11_cover nw_RX11 pp_X11_cover (Nat.le_of_ble_eq_true rfl) dL_law_987 rfl (NM_X11_cover am_ob0 hJ) (fun r_11 m_11 h_11 hB_11 => ?_)
  refine z_aload_n (nx := 991) (a := 2) G rfl (Or.inl rfl) dL_law_990 rfl ?_
  refine z_arg (nx := 996) (i := i) (k := 1) G X rfl rfl hi (by omega) dL_law_991 dL_law_992 dL_law_993 dL_law_994 dL_law_995 rfl rfl rfl rfl rfl ?_
  refine z_arg (nx := 1001) (i := i) (k := 2) G X rfl rfl hi (by omega) dL_law_996 dL_law_997 dL_law_998 dL_law_999 dL_law_1000 rfl rfl rfl rfl rfl ?_
  refine l_call (nx := 1004) (zs := [168, sc xs (i + 1), sc xs (i + 2)]) (as := [(0, sc xs (i + 1)), (0, sc xs (i + 2))]) (z := 168) (ci := 12) (st := [(0, r_11)]) G hdF hlimF hB_11 (by decide) rfl am_ob168 SS_X12_cover (am_ta (am_ti (am_ti am_tn))) (Nat.le_of_ble_eq_true rfl) (Nat.le_of_ble_eq_true rfl) ml_RL_134 iw_X12_cover vw_X12_cover cw_X12_cover nw_RX12 pp_X12_cover (Nat.le_of_ble_eq_true rfl) dL_law_1001 rfl (NM_X12_cover am_ob168 h_11) (fun r_12 m_12 h_12 hB_12 => ?_)
  exact l_same G h_12.1 dL_law_1004 (by decide) (kk m_12 hB_12 h_12.2)
theorem l_when (G : am_G F cL_law RL) (X : lawS F b L xs) (hdF : am_d F = 1300) (hlimF : am_lim F 200) (hi : 0 ≤ i ∧ i + 6 ≤ L) (hB : am_Bt m) (hR : Rel m) (kk : ∀ n2, am_Bt n2 → Rel n2 → am_Z F 1385 [] (l_loc i) n2 200) : am_Z F 1009 [] (l_loc i) m 200 := by
  refine z_aload_n (nx := 1010) (a := 1) G rfl (Or.inl rfl) dL_law_1009 rfl ?_
  refine z_arg (nx := 1015) (i := i) (k := 1) G X rfl rfl hi (by omega) dL_law_1010 dL_law_1011 dL_law_1012 dL_law_1013 dL_law_1014 rfl rfl rfl rfl rfl ?_
  refine z_arg (nx := 1020) (i := i) (k := 2) G X rfl rfl hi (by omega) dL_law_1015 dL_law_1016 dL_law_1017 dL_law_1018 dL_law_1019 rfl rfl rfl rfl rfl ?_
  refine z_arg (nx := 1025) (i := i) (k := 3) G X rfl rfl hi (by omega) dL_law_1020 dL_law_1021 dL_law_1022 dL_law_1023 dL_law_1024 rfl rfl rfl rfl rfl ?_
  have hJ := (j_when (sc xs (i + 1)) (sc xs (i + 2)) (sc xs (i + 3))) m hR (fun r1 r2 m2 => r1 = r2 ∧ Rel m2) (fun r m2 h => ⟨rfl, h⟩)
  refine l_call (nx := 1028) (zs := [0, sc xs (i + 1), sc xs (i + 2), sc xs (i + 3)]) (as := [(0, sc xs (i + 1)), (0, sc xs (i + 2)), (0, sc xs (i + 3))]) (z := 0) (ci := 11) (st := []) G hdF hlimF hB (by decide) rfl am_ob0 SS_X11_when (am_ta (am_ti (am_ti (am_ti am_tn)))) (Nat.le_of_ble_eq_true rfl) (Nat.le_of_ble_eq_true rfl) ml_RL_135 iw_X11_when vw_X11_when cw_X11_when nw_RX11 pp_X11_when (Nat.le_of_ble_eq_true rfl) dL_law_1025 rfl (NM_X11_when am_ob0 hJ) (fun r_11 m_11 h_11 hB_11 => ?_)
  refine z_aload_n (nx := 1029) (a := 2) G rfl (Or.inl rfl) dL_law_1028 rfl ?_
  refine z_arg (nx := 1034) (i := i) (k := 1) G X rfl rfl hi (by omega) dL_law_1029 dL_law_1030 dL_law_1031 dL_law_1032 dL_law_1033 rfl rfl rfl rfl rfl ?_
  refine z_arg (nx := 1039) (i := i) (k := 2) G X rfl rfl hi (by omega) dL_law_1034 dL_law_1035 dL_law_1036 dL_law_1037 dL_law_1038 rfl rfl rfl rfl rfl ?_
  refine z_arg (nx := 1044) (i := i) (k := 3) G X rfl rfl hi (by omega) dL_law_1039 dL_law_1040 dL_law_1041 dL_law_1042 dL_law_1043 rfl rfl rfl rfl rfl ?_
  refine l_call (nx := 1047) (zs := [168, sc xs (i + 1), sc xs (i + 2), sc xs (i + 3)]) (as := [(0, sc xs (i + 1)), (0, sc xs (i + 2)), (0, sc xs (i + 3))]) (z := 168) (ci := 12) (st := [(0, r_11)]) G hdF hlimF hB_11 (by decide) rfl am_ob168 SS_X12_when (am_ta (am_ti (am_ti (am_ti am_tn)))) (Nat.le_of_ble_eq_true rfl) (Nat.le_of_ble_eq_true rfl) ml_RL_138 iw_X12_when vw_X12_when cw_X12_when nw_RX12 pp_X12_when (Nat.le_of_ble_eq_true rfl) dL_law_1044 rfl (NM_X12_when am_ob168 h_11) (fun r_12 m_12 h_12 hB_12 => ?_)
  exact l_same G h_12.1 dL_law_1047 (by decide) (kk m_12 hB_12 h_12.2)
theorem l_longest (G : am_G F cL_law RL) (X : lawS F b L xs) (hdF : am_d F = 1300) (hlimF : am_lim F 200) (hi : 0 ≤ i ∧ i + 6 ≤ L) (hB : am_Bt m) (hR : Rel m) (kk : ∀ n2, am_Bt n2 → Rel n2 → am_Z F 1385 [] (l_loc i) n2 200) : am_Z F 1052 [] (l_loc i) m 200 := by
  refine z_aload_n (nx := 1053) (a := 1) G rfl (Or.inl rfl) dL_law_1052 rfl ?_
  refine z_arg (nx := 1058) (i := i) (k := 1) G X rfl rfl hi (by omega) dL_law_1053 dL_law_1054 dL_law_1055 dL_law_1056 dL_law_1057 rfl rfl rfl rfl rfl ?_
  refine z_arg (nx := 1063) (i := i) (k := 2) G X rfl rfl hi (by omega) dL_law_1058 dL_law_1059 dL_law_1060 dL_law_1061 dL_law_1062 rfl rfl rfl rfl rfl ?_
  refine z_arg (nx := 1068) (i := i) (k := 3) G X rfl rfl hi (by omega) dL_law_1063 dL_law_1064 dL_law_1065 dL_law_1066 dL_law_1067 rfl rfl rfl rfl rfl ?_
  have hJ := (j_longest (sc xs (i + 1)) (sc xs (i + 2)) (sc xs (i + 3))) m hR (fun r1 r2 m2 => r1 = r2 ∧ Rel m2) (fun r m2 h => ⟨rfl, h⟩)
  refine l_call (nx := 1071) (zs := [0, sc xs (i + 1), sc xs (i + 2), sc xs (i + 3)]) (as := [(0, sc xs (i + 1)), (0, sc xs (i + 2)), (0, sc xs (i + 3))]) (z := 0) (ci := 11) (st := []) G hdF hlimF hB (by decide) rfl am_ob0 SS_X11_longest (am_ta (am_ti (am_ti (am_ti am_tn)))) (Nat.le_of_ble_eq_true rfl) (Nat.le_of_ble_eq_true rfl) ml_RL_139 iw_X11_longest vw_X11_longest cw_X11_longest nw_RX11 pp_X11_longest (Nat.le_of_ble_eq_true rfl) dL_law_1068 rfl (NM_X11_longest am_ob0 hJ) (fun r_11 m_11 h_11 hB_11 => ?_)
  refine z_aload_n (nx := 1072) (a := 2) G rfl (Or.inl rfl) dL_law_1071 rfl ?_
  refine z_arg (nx := 1077) (i := i) (k := 1) G X rfl rfl hi (by omega) dL_law_1072 dL_law_1073 dL_law_1074 dL_law_1075 dL_law_1076 rfl rfl rfl rfl rfl ?_
  refine z_arg (nx := 1082) (i := i) (k := 2) G X rfl rfl hi (by omega) dL_law_1077 dL_law_1078 dL_law_1079 dL_law_1080 dL_law_1081 rfl rfl rfl rfl rfl ?_
  refine z_arg (nx := 1087) (i := i) (k := 3) G X rfl rfl hi (by omega) dL_law_1082 dL_law_1083 dL_law_1084 dL_law_1085 dL_law_1086 rfl rfl rfl rfl rfl ?_
  refine l_call (nx := 1090) (zs := [168, sc xs (i + 1), sc xs (i + 2), sc xs (i + 3)]) (as := [(0, sc xs (i + 1)), (0, sc xs (i + 2)), (0, sc xs (i + 3))]) (z := 168) (ci := 12) (st := [(0, r_11)]) G hdF hlimF hB_11 (by decide) rfl am_ob168 SS_X12_longest (am_ta (am_ti (am_ti (am_ti am_tn)))) (Nat.le_of_ble_eq_true rfl) (Nat.le_of_ble_eq_true rfl) ml_RL_142 iw_X12_longest vw_X12_longest cw_X12_longest nw_RX12 pp_X12_longest (Nat.le_of_ble_eq_true rfl) dL_law_1087 rfl (NM_X12_longest am_ob168 h_11) (fun r_12 m_12 h_12 hB_12 => ?_)
  exact l_same G h_12.1 dL_law_1090 (by decide) (kk m_12 hB_12 h_12.2)
theorem l_keep (G : am_G F cL_law RL) (X : lawS F b L xs) (hdF : am_d F = 1300) (hlimF : am_lim F 200) (hi : 0 ≤ i ∧ i + 6 ≤ L) (hB : am_Bt m) (hR : Rel m) (kk : ∀ n2, am_Bt n2 → Rel n2 → am_Z F 1385 [] (l_loc i) n2 200) : am_Z F 1095 [] (l_loc i) m 200 := by
  refine z_aload_n (nx := 1096) (a := 1) G rfl (Or.inl rfl) dL_law_1095 rfl ?_
  refine z_arg (nx := 1101) (i := i) (k := 1) G X rfl rfl hi (by omega) dL_law_1096 dL_law_1097 dL_law_1098 dL_law_1099 dL_law_1100 rfl rfl rfl rfl rfl ?_
  refine z_arg (nx := 1106) (i := i) (k := 2) G X rfl rfl hi (by omega) dL_law_1101 dL_law_1102 dL_law_1103 dL_law_1104 dL_law_1105 rfl rfl rfl rfl rfl ?_
  refine z_arg (nx := 1111) (i := i) (k := 3) G X rfl rfl hi (by omega) dL_law_1106 dL_law_1107 dL_law_1108 dL_law_1109 dL_law_1110 rfl rfl rfl rfl rfl ?_
  refine z_arg (nx := 1116) (i := i) (k := 4) G X rfl rfl hi (by omega) dL_law_1111 dL_law_1112 dL_law_1113 dL_law_1114 dL_law_1115 rfl rfl rfl rfl rfl ?_
  refine z_arg (nx := 1121) (i := i) (k := 5) G X rfl rfl hi (by omega) dL_law_1116 dL_law_1117 dL_law_1118 dL_law_1119 dL_law_1120 rfl rfl rfl rfl rfl ?_
  have hJ := (j_keep (sc xs (i + 1)) (sc xs (i + 2)) (sc xs (i + 3)) (sc xs (i + 4)) (sc xs (i + 5))) m hR (fun r1 r2 m2 => r1 = r2 ∧ Rel m2) (fun r m2 h => ⟨rfl, h⟩)
  refine l_call (nx := 1124) (zs := [0, sc xs (i + 1), sc xs (i + 2), sc xs (i + 3), sc xs (i + 4), sc xs (i + 5)]) (as := [(0, sc xs (i + 1)), (0, sc xs (i + 2)), (0, sc xs (i + 3)), (0, sc xs (i + 4)), (0, sc xs (i + 5))]) (z := 0) (ci := 11) (st := []) G hdF hlimF hB (by decide) rfl am_ob0 SS_X11_keep (am_ta (am_ti (am_ti (am_ti (am_ti (am_ti am_tn)))))) (Nat.le_of_ble_eq_true rfl) (Nat.le_of_ble_eq_true rfl) ml_RL_143 iw_X11_keep vw_X11_keep cw_X11_keep nw_RX11 pp_X11_keep (Nat.le_of_ble_eq_true rfl) dL_law_1121 rfl (NM_X11_keep am_ob0 hJ) (fun r_11 m_11 h_11 hB_11 => ?_)
  refine z_aload_n (nx := 1125) (a := 2) G rfl (Or.inl rfl) dL_law_1124 rfl ?_
  refine z_arg (nx := 1130) (i := i) (k := 1) G X rfl rfl hi (by omega) dL_law_1125 dL_law_1126 dL_law_1127 dL_law_1128 dL_law_1129 rfl rfl rfl rfl rfl ?_
  refine z_arg (nx := 1135) (i := i) (k := 2) G X rfl rfl hi (by omega) dL_law_1130 dL_law_1131 dL_law_1132 dL_law_1133 dL_law_1134 rfl rfl rfl rfl rfl ?_
  refine z_arg (nx := 1140) (i := i) (k := 3) G X rfl rfl hi (by omega) dL_law_1135 dL_law_1136 dL_law_1137 dL_law_1138 dL_law_1139 rfl rfl rfl rfl rfl ?_
  refine z_arg (nx := 1145) (i := i) (k := 4) G X rfl rfl hi (by omega) dL_law_1140 dL_law_1141 dL_law_1142 dL_law_1143 dL_law_1144 rfl rfl rfl rfl rfl ?_
  refine z_arg (nx := 1150) (i := i) (k := 5) G X rfl rfl hi (by omega) dL_law_1145 dL_law_1146 dL_law_1147 dL_law_1148 dL_law_1149 rfl rfl rfl rfl rfl ?_
  refine l_call (nx := 1153) (zs := [168, sc xs (i + 1), sc xs (i + 2), sc xs (i + 3), sc xs (i + 4), sc xs (i + 5)]) (as := [(0, sc xs (i + 1)), (0, sc xs (i + 2)), (0, sc xs (i + 3)), (0, sc xs (i + 4)), (0, sc xs (i + 5))]) (z := 168) (ci := 12) (st := [(0, r_11)]) G hdF hlimF hB_11 (by decide) rfl am_ob168 SS_X12_keep (am_ta (am_ti (am_ti (am_ti (am_ti (am_ti am_tn)))))) (Nat.le_of_ble_eq_true rfl) (Nat.le_of_ble_eq_true rfl) ml_RL_146 iw_X12_keep vw_X12_keep cw_X12_keep nw_RX12 pp_X12_keep (Nat.le_of_ble_eq_true rfl) dL_law_1150 rfl (NM_X12_keep am_ob168 h_11) (fun r_12 m_12 h_12 hB_12 => ?_)
  exact l_same G h_12.1 dL_law_1153 (by decide) (kk m_12 hB_12 h_12.2)
theorem l_answer (G : am_G F cL_law RL) (X : lawS F b L xs) (hdF : am_d F = 1300) (hlimF : am_lim F 200) (hi : 0 ≤ i ∧ i + 6 ≤ L) (hB : am_Bt m) (hR : Rel m) (kk : ∀ n2, am_Bt n2 → Rel n2 → am_Z F 1385 [] (l_loc i) n2 200) : am_Z F 1158 [] (l_loc i) m 200 := by
  refine z_aload_n (nx := 1159) (a := 1) G rfl (Or.inl rfl) dL_law_1158 rfl ?_
  refine z_arg (nx := 1164) (i := i) (k := 1) G X rfl rfl hi (by omega) dL_law_1159 dL_law_1160 dL_law_1161 dL_law_1162 dL_law_1163 rfl rfl rfl rfl rfl ?_
  refine z_arg (nx := 1169) (i := i) (k := 2) G X rfl rfl hi (by omega) dL_law_1164 dL_law_1165 dL_law_1166 dL_law_1167 dL_law_1168 rfl rfl rfl rfl rfl ?_
  refine z_arg (nx := 1174) (i := i) (k := 3) G X rfl rfl hi (by omega) dL_law_1169 dL_law_1170 dL_law_1171 dL_law_1172 dL_law_1173 rfl rfl rfl rfl rfl ?_
  have hJ := (j_answer (sc xs (i + 1)) (sc xs (i + 2)) (sc xs (i + 3))) m hR (fun r1 r2 m2 => r1 = r2 ∧ Rel m2) (fun r m2 h => ⟨rfl, h⟩)
  refine l_call (nx := 1177) (zs := [0, sc xs (i + 1), sc xs (i + 2), sc xs (i + 3)]) (as := [(0, sc xs (i + 1)), (0, sc xs (i + 2)), (0, sc xs (i + 3))]) (z := 0) (ci := 11) (st := []) G hdF hlimF hB (by decide) rfl am_ob0 SS_X11_answer (am_ta (am_ti (am_ti (am_ti am_tn)))) (Nat.le_of_ble_eq_true rfl) (Nat.le_of_ble_eq_true rfl) ml_RL_147 iw_X11_answer vw_X11_answer cw_X11_answer nw_RX11 pp_X11_answer (Nat.le_of_ble_eq_true rfl) dL_law_1174 rfl (NM_X11_answer am_ob0 hJ) (fun r_11 m_11 h_11 hB_11 => ?_)
  refine z_aload_n (nx := 1178) (a := 2) G rfl (Or.inl rfl) dL_law_1177 rfl ?_
  refine z_arg (nx := 1183) (i := i) (k := 1) G X rfl rfl hi (by omega) dL_law_1178 dL_law_1179 dL_law_1180 dL_law_1181 dL_law_1182 rfl rfl rfl rfl rfl ?_
  refine z_arg (nx := 1188) (i := i) (k := 2) G X rfl rfl hi (by omega) dL_law_1183 dL_law_1184 dL_law_1185 dL_law_1186 dL_law_1187 rfl rfl rfl rfl rfl ?_
  refine z_arg (nx := 1193) (i := i) (k := 3) G X rfl rfl hi (by omega) dL_law_1188 dL_law_1189 dL_law_1190 dL_law_1191 dL_law_1192 rfl rfl rfl rfl rfl ?_
  refine l_call (nx := 1196) (zs := [168, sc xs (i + 1), sc xs (i + 2), sc xs (i + 3)]) (as := [(0, sc xs (i + 1)), (0, sc xs (i + 2)), (0, sc xs (i + 3))]) (z := 168) (ci := 12) (st := [(0, r_11)]) G hdF hlimF hB_11 (by decide) rfl am_ob168 SS_X12_answer (am_ta (am_ti (am_ti (am_ti am_tn)))) (Nat.le_of_ble_eq_true rfl) (Nat.le_of_ble_eq_true rfl) ml_RL_150 iw_X12_answer vw_X12_answer cw_X12_answer nw_RX12 pp_X12_answer (Nat.le_of_ble_eq_true rfl) dL_law_1193 rfl (NM_X12_answer am_ob168 h_11) (fun r_12 m_12 h_12 hB_12 => ?_)
  exact l_same G h_12.1 dL_law_1196 (by decide) (kk m_12 hB_12 h_12.2)
theorem l_forget (G : am_G F cL_law RL) (X : lawS F b L xs) (hdF : am_d F = 1300) (hlimF : am_lim F 200) (hi : 0 ≤ i ∧ i + 6 ≤ L) (hB : am_Bt m) (hR : Rel m) (kk : ∀ n2, am_Bt n2 → Rel n2 → am_Z F 1385 [] (l_loc i) n2 200) : am_Z F 1201 [] (l_loc i) m 200 := by
  refine z_aload_n (nx := 1202) (a := 1) G rfl (Or.inl rfl) dL_law_1201 rfl ?_
  have hJ := (j_forget) m hR (fun r1 r2 m2 => r1 = r2 ∧ Rel m2) (fun r m2 h => ⟨rfl, h⟩)
  refine l_call (nx := 1205) (zs := [0]) (as := []) (z := 0) (ci := 11) (st := []) G hdF hlimF hB (by decide) rfl am_ob0 SS_X11_forget (am_ta am_tn) (Nat.le_of_ble_eq_true rfl) (Nat.le_of_ble_eq_true rfl) ml_RL_151 iw_X11_forget vw_X11_forget cw_X11_forget nw_RX11 pp_X11_forget (Nat.le_of_ble_eq_true rfl) dL_law_1202 rfl (NM_X11_forget am_ob0 hJ) (fun r_11 m_11 h_11 hB_11 => ?_)
  refine z_aload_n (nx := 1206) (a := 2) G rfl (Or.inl rfl) dL_law_1205 rfl ?_
  refine l_call (nx := 1209) (zs := [168]) (as := []) (z := 168) (ci := 12) (st := [(0, r_11)]) G hdF hlimF hB_11 (by decide) rfl am_ob168 SS_X12_forget (am_ta am_tn) (Nat.le_of_ble_eq_true rfl) (Nat.le_of_ble_eq_true rfl) ml_RL_154 iw_X12_forget vw_X12_forget cw_X12_forget nw_RX12 pp_X12_forget (Nat.le_of_ble_eq_true rfl) dL_law_1206 rfl (NM_X12_forget am_ob168 h_11) (fun r_12 m_12 h_12 hB_12 => ?_)
  exact l_same G h_12.1 dL_law_1209 (by decide) (kk m_12 hB_12 h_12.2)
theorem l_hidden (G : am_G F cL_law RL) (X : lawS F b L xs) (hdF : am_d F = 1300) (hlimF : am_lim F 200) (hi : 0 ≤ i ∧ i + 6 ≤ L) (hB : am_Bt m) (hR : Rel m) (kk : ∀ n2, am_Bt n2 → Rel n2 → am_Z F 1385 [] (l_loc i) n2 200) : am_Z F 1214 [] (l_loc i) m 200 := by
  refine z_aload_n (nx := 1215) (a := 1) G rfl (Or.inl rfl) dL_law_1214 rfl ?_
  refine z_arg (nx := 1220) (i := i) (k := 1) G X rfl rfl hi (by omega) dL_law_1215 dL_law_1216 dL_law_1217 dL_law_1218 dL_law_1219 rfl rfl rfl rfl rfl ?_
  have hJ := (j_hidden (sc xs (i + 1))) m hR (fun r1 r2 m2 => r1 = r2 ∧ Rel m2) (fun r m2 h => ⟨rfl, h⟩)
  refine l_call (nx := 1223) (zs := [0, sc xs (i + 1)]) (as := [(0, sc xs (i + 1))]) (z := 0) (ci := 11) (st := []) G hdF hlimF hB (by decide) rfl am_ob0 SS_X11_hidden (am_ta (am_ti am_tn)) (Nat.le_of_ble_eq_true rfl) (Nat.le_of_ble_eq_true rfl) ml_RL_155 iw_X11_hidden vw_X11_hidden cw_X11_hidden nw_RX11 pp_X11_hidden (Nat.le_of_ble_eq_true rfl) dL_law_1220 rfl (NM_X11_hidden am_ob0 hJ) (fun r_11 m_11 h_11 hB_11 => ?_)
  refine z_aload_n (nx := 1224) (a := 2) G rfl (Or.inl rfl) dL_law_1223 rfl ?_
  refine z_arg (nx := 1229) (i := i) (k := 1) G X rfl rfl hi (by omega) dL_law_1224 dL_law_1225 dL_law_1226 dL_law_1227 dL_law_1228 rfl rfl rfl rfl rfl ?_
  refine l_call (nx := 1232) (zs := [168, sc xs (i + 1)]) (as := [(0, sc xs (i + 1))]) (z := 168) (ci := 12) (st := [(0, r_11)]) G hdF hlimF hB_11 (by decide) rfl am_ob168 SS_X12_hidden (am_ta (am_ti am_tn)) (Nat.le_of_ble_eq_true rfl) (Nat.le_of_ble_eq_true rfl) ml_RL_158 iw_X12_hidden vw_X12_hidden cw_X12_hidden nw_RX12 pp_X12_hidden (Nat.le_of_ble_eq_true rfl) dL_law_1229 rfl (NM_X12_hidden am_ob168 h_11) (fun r_12 m_12 h_12 hB_12 => ?_)
  exact l_same G h_12.1 dL_law_1232 (by decide) (kk m_12 hB_12 h_12.2)
theorem l_season (G : am_G F cL_law RL) (X : lawS F b L xs) (hdF : am_d F = 1300) (hlimF : am_lim F 200) (hi : 0 ≤ i ∧ i + 6 ≤ L) (hB : am_Bt m) (hR : Rel m) (kk : ∀ n2, am_Bt n2 → Rel n2 → am_Z F 1385 [] (l_loc i) n2 200) : am_Z F 1237 [] (l_loc i) m 200 := by
  refine z_aload_n (nx := 1238) (a := 1) G rfl (Or.inl rfl) dL_law_1237 rfl ?_
  refine z_arg (nx := 1243) (i := i) (k := 1) G X rfl rfl hi (by omega) dL_law_1238 dL_law_1239 dL_law_1240 dL_law_1241 dL_law_1242 rfl rfl rfl rfl rfl ?_
  refine z_arg (nx := 1248) (i := i) (k := 2) G X rfl rfl hi (by omega) dL_law_1243 dL_law_1244 dL_law_1245 dL_law_1246 dL_law_1247 rfl rfl rfl rfl rfl ?_
  have hJ := (j_season (sc xs (i + 1)) (sc xs (i + 2))) m hR (fun r1 r2 m2 => r1 = r2 ∧ Rel m2) (fun r m2 h => ⟨rfl, h⟩)
  refine l_call (nx := 1251) (zs := [0, sc xs (i + 1), sc xs (i + 2)]) (as := [(0, sc xs (i + 1)), (0, sc xs (i + 2))]) (z := 0) (ci := 11) (st := []) G hdF hlimF hB (by decide) rfl am_ob0 SS_X11_season (am_ta (am_ti (am_ti am_tn))) (Nat.le_of_ble_eq_true rfl) (Nat.le_of_ble_eq_true rfl) ml_RL_159 iw_X11_season vw_X11_season cw_X11_season nw_RX11 pp_X11_season (Nat.le_of_ble_eq_true rfl) dL_law_1248 rfl (NM_X11_season am_ob0 hJ) (fun r_11 m_11 h_11 hB_11 => ?_)
  refine z_aload_n (nx := 1252) (a := 2) G rfl (Or.inl rfl) dL_law_1251 rfl ?_
  refine z_arg (nx := 1257) (i := i) (k := 1) G X rfl rfl hi (by omega) dL_law_1252 dL_law_1253 dL_law_1254 dL_law_1255 dL_law_1256 rfl rfl rfl rfl rfl ?_
  refine z_arg (nx := 1262) (i := i) (k := 2) G X rfl rfl hi (by omega) dL_law_1257 dL_law_1258 dL_law_1259 dL_law_1260 dL_law_1261 rfl rfl rfl rfl rfl ?_
  refine l_call (nx := 1265) (zs := [168, sc xs (i + 1), sc xs (i + 2)]) (as := [(0, sc xs (i + 1)), (0, sc xs (i + 2))]) (z := 168) (ci := 12) (st := [(0, r_11)]) G hdF hlimF hB_11 (by decide) rfl am_ob168 SS_X12_season (am_ta (am_ti (am_ti am_tn))) (Nat.le_of_ble_eq_true rfl) (Nat.le_of_ble_eq_true rfl) ml_RL_162 iw_X12_season vw_X12_season cw_X12_season nw_RX12 pp_X12_season (Nat.le_of_ble_eq_true rfl) dL_law_1262 rfl (NM_X12_season am_ob168 h_11) (fun r_12 m_12 h_12 hB_12 => ?_)
  exact l_same G h_12.1 dL_law_1265 (by decide) (kk m_12 hB_12 h_12.2)
theorem l_drawn (G : am_G F cL_law RL) (X : lawS F b L xs) (hdF : am_d F = 1300) (hlimF : am_lim F 200) (hi : 0 ≤ i ∧ i + 6 ≤ L) (hB : am_Bt m) (hR : Rel m) (kk : ∀ n2, am_Bt n2 → Rel n2 → am_Z F 1385 [] (l_loc i) n2 200) : am_Z F 1270 [] (l_loc i) m 200 := by
  refine z_aload_n (nx := 1271) (a := 1) G rfl (Or.inl rfl) dL_law_1270 rfl ?_
  refine z_arg (nx := 1276) (i := i) (k := 1) G X rfl rfl hi (by omega) dL_law_1271 dL_law_1272 dL_law_1273 dL_law_1274 dL_law_1275 rfl rfl rfl rfl rfl ?_
  refine z_arg (nx := 1281) (i := i) (k := 2) G X rfl rfl hi (by omega) dL_law_1276 dL_law_1277 dL_law_1278 dL_law_1279 dL_law_1280 rfl rfl rfl rfl rfl ?_
  have hJ := (j_drawn (sc xs (i + 1)) (sc xs (i + 2))) m hR (fun r1 r2 m2 => r1 = r2 ∧ Rel m2) (fun r m2 h => ⟨rfl, h⟩)
  refine l_call (nx := 1284) (zs := [0, sc xs (i + 1), sc xs (i + 2)]) (as := [(0, sc xs (i + 1)), (0, sc xs (i + 2))]) (z := 0) (ci := 11) (st := []) G hdF hlimF hB (by decide) rfl am_ob0 SS_X11_drawn (am_ta (am_ti (am_ti am_tn))) (Nat.le_of_ble_eq_true rfl) (Nat.le_of_ble_eq_true rfl) ml_RL_163 iw_X11_drawn vw_X11_drawn cw_X11_drawn nw_RX11 pp_X11_drawn (Nat.le_of_ble_eq_true rfl) dL_law_1281 rfl (NM_X11_drawn am_ob0 hJ) (fun r_11 m_11 h_11 hB_11 => ?_)
  refine z_aload_n (nx := 1285) (a := 2) G rfl (Or.inl rfl) dL_law_1284 rfl ?_
  refine z_arg (nx := 1290) (i := i) (k := 1) G X rfl rfl hi (by omega) dL_law_1285 dL_law_1286 dL_law_1287 dL_law_1288 dL_law_1289 rfl rfl rfl rfl rfl ?_
  refine z_arg (nx := 1295) (i := i) (k := 2) G X rfl rfl hi (by omega) dL_law_1290 dL_law_1291 dL_law_1292 dL_law_1293 dL_law_1294 rfl rfl rfl rfl rfl ?_
  refine l_call (nx := 1298) (zs := [168, sc xs (i + 1), sc xs (i + 2)]) (as := [(0, sc xs (i + 1)), (0, sc xs (i + 2))]) (z := 168) (ci := 12) (st := [(0, r_11)]) G hdF hlimF hB_11 (by decide) rfl am_ob168 SS_X12_drawn (am_ta (am_ti (am_ti am_tn))) (Nat.le_of_ble_eq_true rfl) (Nat.le_of_ble_eq_true rfl) ml_RL_166 iw_X12_drawn vw_X12_drawn cw_X12_drawn nw_RX12 pp_X12_drawn (Nat.le_of_ble_eq_true rfl) dL_law_1295 rfl (NM_X12_drawn am_ob168 h_11) (fun r_12 m_12 h_12 hB_12 => ?_)
  exact l_same G h_12.1 dL_law_1298 (by decide) (kk m_12 hB_12 h_12.2)
theorem l_image (G : am_G F cL_law RL) (X : lawS F b L xs) (hdF : am_d F = 1300) (hlimF : am_lim F 200) (hi : 0 ≤ i ∧ i + 6 ≤ L) (hB : am_Bt m) (hR : Rel m) (kk : ∀ n2, am_Bt n2 → Rel n2 → am_Z F 1385 [] (l_loc i) n2 200) : am_Z F 1303 [] (l_loc i) m 200 := by
  refine z_aload_n (nx := 1304) (a := 1) G rfl (Or.inl rfl) dL_law_1303 rfl ?_
  refine z_arg (nx := 1309) (i := i) (k := 1) G X rfl rfl hi (by omega) dL_law_1304 dL_law_1305 dL_law_1306 dL_law_1307 dL_law_1308 rfl rfl rfl rfl rfl ?_
  have hJ := (j_image (sc xs (i + 1))) m hR (fun r1 r2 m2 => r1 = r2 ∧ Rel m2) (fun r m2 h => ⟨rfl, h⟩)
  refine l_call (nx := 1312) (zs := [0, sc xs (i + 1)]) (as := [(0, sc xs (i + 1))]) (z := 0) (ci := 11) (st := []) G hdF hlimF hB (by decide) rfl am_ob0 SS_X11_image (am_ta (am_ti am_tn)) (Nat.le_of_ble_eq_true rfl) (Nat.le_of_ble_eq_true rfl) ml_RL_167 iw_X11_image vw_X11_image cw_X11_image nw_RX11 pp_X11_image (Nat.le_of_ble_eq_true rfl) dL_law_1309 rfl (NM_X11_image am_ob0 hJ) (fun r_11 m_11 h_11 hB_11 => ?_)
  refine z_aload_n (nx := 1313) (a := 2) G rfl (Or.inl rfl) dL_law_1312 rfl ?_
  refine z_arg (nx := 1318) (i := i) (k := 1) G X rfl rfl hi (by omega) dL_law_1313 dL_law_1314 dL_law_1315 dL_law_1316 dL_law_1317 rfl rfl rfl rfl rfl ?_
  refine l_call (nx := 1321) (zs := [168, sc xs (i + 1)]) (as := [(0, sc xs (i + 1))]) (z := 168) (ci := 12) (st := [(0, r_11)]) G hdF hlimF hB_11 (by decide) rfl am_ob168 SS_X12_image (am_ta (am_ti am_tn)) (Nat.le_of_ble_eq_true rfl) (Nat.le_of_ble_eq_true rfl) ml_RL_170 iw_X12_image vw_X12_image cw_X12_image nw_RX12 pp_X12_image (Nat.le_of_ble_eq_true rfl) dL_law_1318 rfl (NM_X12_image am_ob168 h_11) (fun r_12 m_12 h_12 hB_12 => ?_)
  exact l_same G h_12.1 dL_law_1321 (by decide) (kk m_12 hB_12 h_12.2)
theorem l_back (G : am_G F cL_law RL) (X : lawS F b L xs) (hdF : am_d F = 1300) (hlimF : am_lim F 200) (hi : 0 ≤ i ∧ i + 6 ≤ L) (hB : am_Bt m) (hR : Rel m) (kk : ∀ n2, am_Bt n2 → Rel n2 → am_Z F 1385 [] (l_loc i) n2 200) : am_Z F 1326 [] (l_loc i) m 200 := by
  refine z_aload_n (nx := 1327) (a := 1) G rfl (Or.inl rfl) dL_law_1326 rfl ?_
  refine z_arg (nx := 1332) (i := i) (k := 1) G X rfl rfl hi (by omega) dL_law_1327 dL_law_1328 dL_law_1329 dL_law_1330 dL_law_1331 rfl rfl rfl rfl rfl ?_
  have hJ := (j_back (sc xs (i + 1))) m hR (fun r1 r2 m2 => r1 = r2 ∧ Rel m2) (fun r m2 h => ⟨rfl, h⟩)
  refine l_call (nx := 1335) (zs := [0, sc xs (i + 1)]) (as := [(0, sc xs (i + 1))]) (z := 0) (ci := 11) (st := []) G hdF hlimF hB (by decide) rfl am_ob0 SS_X11_back (am_ta (am_ti am_tn)) (Nat.le_of_ble_eq_true rfl) (Nat.le_of_ble_eq_true rfl) ml_RL_171 iw_X11_back vw_X11_back cw_X11_back nw_RX11 pp_X11_back (Nat.le_of_ble_eq_true rfl) dL_law_1332 rfl (NM_X11_back am_ob0 hJ) (fun r_11 m_11 h_11 hB_11 => ?_)
  refine z_aload_n (nx := 1336) (a := 2) G rfl (Or.inl rfl) dL_law_1335 rfl ?_
  refine z_arg (nx := 1341) (i := i) (k := 1) G X rfl rfl hi (by omega) dL_law_1336 dL_law_1337 dL_law_1338 dL_law_1339 dL_law_1340 rfl rfl rfl rfl rfl ?_
  refine l_call (nx := 1344) (zs := [168, sc xs (i + 1)]) (as := [(0, sc xs (i + 1))]) (z := 168) (ci := 12) (st := [(0, r_11)]) G hdF hlimF hB_11 (by decide) rfl am_ob168 SS_X12_back (am_ta (am_ti am_tn)) (Nat.le_of_ble_eq_true rfl) (Nat.le_of_ble_eq_true rfl) ml_RL_174 iw_X12_back vw_X12_back cw_X12_back nw_RX12 pp_X12_back (Nat.le_of_ble_eq_true rfl) dL_law_1341 rfl (NM_X12_back am_ob168 h_11) (fun r_12 m_12 h_12 hB_12 => ?_)
  exact l_same G h_12.1 dL_law_1344 (by decide) (kk m_12 hB_12 h_12.2)
theorem l_count (G : am_G F cL_law RL) (X : lawS F b L xs) (hdF : am_d F = 1300) (hlimF : am_lim F 200) (hi : 0 ≤ i ∧ i + 6 ≤ L) (hB : am_Bt m) (hR : Rel m) (kk : ∀ n2, am_Bt n2 → Rel n2 → am_Z F 1385 [] (l_loc i) n2 200) : am_Z F 1349 [] (l_loc i) m 200 := by
  refine z_aload_n (nx := 1350) (a := 1) G rfl (Or.inl rfl) dL_law_1349 rfl ?_
  refine z_arg (nx := 1355) (i := i) (k := 1) G X rfl rfl hi (by omega) dL_law_1350 dL_law_1351 dL_law_1352 dL_law_1353 dL_law_1354 rfl rfl rfl rfl rfl ?_
  have hJ := (j_count (sc xs (i + 1))) m hR (fun r1 r2 m2 => r1 = r2 ∧ Rel m2) (fun r m2 h => ⟨rfl, h⟩)
  refine l_call (nx := 1358) (zs := [0, sc xs (i + 1)]) (as := [(0, sc xs (i + 1))]) (z := 0) (ci := 11) (st := []) G hdF hlimF hB (by decide) rfl am_ob0 SS_X11_count (am_ta (am_ti am_tn)) (Nat.le_of_ble_eq_true rfl) (Nat.le_of_ble_eq_true rfl) ml_RL_175 iw_X11_count vw_X11_count cw_X11_count nw_RX11 pp_X11_count (Nat.le_of_ble_eq_true rfl) dL_law_1355 rfl (NM_X11_count am_ob0 hJ) (fun r_11 m_11 h_11 hB_11 => ?_)
  refine z_aload_n (nx := 1359) (a := 2) G rfl (Or.inl rfl) dL_law_1358 rfl ?_
  refine z_arg (nx := 1364) (i := i) (k := 1) G X rfl rfl hi (by omega) dL_law_1359 dL_law_1360 dL_law_1361 dL_law_1362 dL_law_1363 rfl rfl rfl rfl rfl ?_
  refine l_call (nx := 1367) (zs := [168, sc xs (i + 1)]) (as := [(0, sc xs (i + 1))]) (z := 168) (ci := 12) (st := [(0, r_11)]) G hdF hlimF hB_11 (by decide) rfl am_ob168 SS_X12_count (am_ta (am_ti am_tn)) (Nat.le_of_ble_eq_true rfl) (Nat.le_of_ble_eq_true rfl) ml_RL_178 iw_X12_count vw_X12_count cw_X12_count nw_RX12 pp_X12_count (Nat.le_of_ble_eq_true rfl) dL_law_1364 rfl (NM_X12_count am_ob168 h_11) (fun r_12 m_12 h_12 hB_12 => ?_)
  exact l_same G h_12.1 dL_law_1367 (by decide) (kk m_12 hB_12 h_12.2)
theorem l_status (G : am_G F cL_law RL) (X : lawS F b L xs) (hdF : am_d F = 1300) (hlimF : am_lim F 200) (hi : 0 ≤ i ∧ i + 6 ≤ L) (hB : am_Bt m) (hR : Rel m) (kk : ∀ n2, am_Bt n2 → Rel n2 → am_Z F 1385 [] (l_loc i) n2 200) : am_Z F 1372 [] (l_loc i) m 200 := by
  refine z_aload_n (nx := 1373) (a := 1) G rfl (Or.inl rfl) dL_law_1372 rfl ?_
  have hJ := (j_status) m hR (fun r1 r2 m2 => r1 = r2 ∧ Rel m2) (fun r m2 h => ⟨rfl, h⟩)
  refine l_call (nx := 1376) (zs := [0]) (as := []) (z := 0) (ci := 11) (st := []) G hdF hlimF hB (by decide) rfl am_ob0 SS_X11_status (am_ta am_tn) (Nat.le_of_ble_eq_true rfl) (Nat.le_of_ble_eq_true rfl) ml_RL_179 iw_X11_status vw_X11_status cw_X11_status nw_RX11 pp_X11_status (Nat.le_of_ble_eq_true rfl) dL_law_1373 rfl (NM_X11_status am_ob0 hJ) (fun r_11 m_11 h_11 hB_11 => ?_)
  refine z_aload_n (nx := 1377) (a := 2) G rfl (Or.inl rfl) dL_law_1376 rfl ?_
  refine l_call (nx := 1380) (zs := [168]) (as := []) (z := 168) (ci := 12) (st := [(0, r_11)]) G hdF hlimF hB_11 (by decide) rfl am_ob168 SS_X12_status (am_ta am_tn) (Nat.le_of_ble_eq_true rfl) (Nat.le_of_ble_eq_true rfl) ml_RL_182 iw_X12_status vw_X12_status cw_X12_status nw_RX12 pp_X12_status (Nat.le_of_ble_eq_true rfl) dL_law_1377 rfl (NM_X12_status am_ob168 h_11) (fun r_12 m_12 h_12 hB_12 => ?_)
  exact l_same G h_12.1 dL_law_1380 (by decide) (kk m_12 hB_12 h_12.2)
end LAWC
