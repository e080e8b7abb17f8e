/-! THE LAW: its loop, its end. Written by gen_law.py. -/
def l_tg (i : Nat) : Nat := [212, 235, 258, 311, 344, 387, 420, 443, 476, 509, 572, 595, 608, 621, 634, 647, 660, 673, 696, 729, 782, 815, 848, 871, 884, 897, 910, 943, 976, 1009, 1052, 1095, 1158, 1201, 1214, 1237, 1270, 1303, 1326, 1349, 1372].getD i 0
def l_offs : Array Int := #[179, 202, 225, 278, 311, 354, 387, 410, 443, 476, 539, 562, 575, 588, 601, 614, 627, 640, 663, 696, 749, 782, 815, 838, 851, 864, 877, 910, 943, 976, 1019, 1062, 1125, 1168, 1181, 1204, 1237, 1270, 1293, 1316, 1339]
theorem l_tgs : ∀ i : Nat, i ≤ 40 → ∃ off, l_offs[i]? = some off ∧ ((33 : Nat) : Int) + off = (l_tg i : Int) := by
  intro i hi
  match i, hi with
  | 0, _ => exact ⟨179, rfl, by decide⟩
  | 1, _ => exact ⟨202, rfl, by decide⟩
  | 2, _ => exact ⟨225, rfl, by decide⟩
  | 3, _ => exact ⟨278, rfl, by decide⟩
  | 4, _ => exact ⟨311, rfl, by decide⟩
  | 5, _ => exact ⟨354, rfl, by decide⟩
  | 6, _ => exact ⟨387, rfl, by decide⟩
  | 7, _ => exact ⟨410, rfl, by decide⟩
  | 8, _ => exact ⟨443, rfl, by decide⟩
  | 9, _ => exact ⟨476, rfl, by decide⟩
  | 10, _ => exact ⟨539, rfl, by decide⟩
  | 11, _ => exact ⟨562, rfl, by decide⟩
  | 12, _ => exact ⟨575, rfl, by decide⟩
  | 13, _ => exact ⟨588, rfl, by decide⟩
  | 14, _ => exact ⟨601, rfl, by decide⟩
  | 15, _ => exact ⟨614, rfl, by decide⟩
  | 16, _ => exact ⟨627, rfl, by decide⟩
  | 17, _ => exact ⟨640, rfl, by decide⟩
  | 18, _ => exact ⟨663, rfl, by decide⟩
  | 19, _ => exact ⟨696, rfl, by decide⟩
  | 20, _ => exact ⟨749, rfl, by decide⟩
  | 21, _ => exact ⟨782, rfl, by decide⟩
  | 22, _ => exact ⟨815, rfl, by decide⟩
  | 23, _ => exact ⟨838, rfl, by decide⟩
  | 24, _ => exact ⟨851, rfl, by decide⟩
  | 25, _ => exact ⟨864, rfl, by decide⟩
  | 26, _ => exact ⟨877, rfl, by decide⟩
  | 27, _ => exact ⟨910, rfl, by decide⟩
  | 28, _ => exact ⟨943, rfl, by decide⟩
  | 29, _ => exact ⟨976, rfl, by decide⟩
  | 30, _ => exact ⟨1019, rfl, by decide⟩
  | 31, _ => exact ⟨1062, rfl, by decide⟩
  | 32, _ => exact ⟨1125, rfl, by decide⟩
  | 33, _ => exact ⟨1168, rfl, by decide⟩
  | 34, _ => exact ⟨1181, rfl, by decide⟩
  | 35, _ => exact ⟨1204, rfl, by decide⟩
  | 36, _ => exact ⟨1237, rfl, by decide⟩
  | 37, _ => exact ⟨1270, rfl, by decide⟩
  | 38, _ => exact ⟨1293, rfl, by decide⟩
  | 39, _ => exact ⟨1316, rfl, by decide⟩
  | 40, _ => exact ⟨1339, rfl, by decide⟩
  | q + 41, h => exact absurd h (by omega)
section LAWL
variable {F : am_F} {b L : Nat} {xs : Nat → Int32}
theorem l_case (G : am_G F cL_law RL) (X : lawS F b L xs) (hdF : am_d F = 1300) (hlimF : am_lim F 200) {i : Int} {m : am_M} (hi : 0 ≤ i ∧ i + 6 ≤ L) (hB : am_Bt m) (hR : Rel m) (kk : ∀ m', am_Bt m' → Rel m' → am_Z F 1385 [] (l_loc i) m' 200) : ∀ j : Nat, j ≤ 40 → am_Z F (l_tg j) [] (l_loc i) m 200 := by
  intro j hj
  match j, hj with
  | 0, _ => exact l_word G X hdF hlimF hi hB hR kk
  | 1, _ => exact l_lengthOf G X hdF hlimF hi hB hR kk
  | 2, _ => exact l_rule G X hdF hlimF hi hB hR kk
  | 3, _ => exact l_of G X hdF hlimF hi hB hR kk
  | 4, _ => exact l_clash G X hdF hlimF hi hB hR kk
  | 5, _ => exact l_often G X hdF hlimF hi hB hR kk
  | 6, _ => exact l_person G X hdF hlimF hi hB hR kk
  | 7, _ => exact l_breath G X hdF hlimF hi hB hR kk
  | 8, _ => exact l_terms G X hdF hlimF hi hB hR kk
  | 9, _ => exact l_feed G X hdF hlimF hi hB hR kk
  | 10, _ => exact l_end G X hdF hlimF hi hB hR kk
  | 11, _ => exact l_row G X hdF hlimF hi hB hR kk
  | 12, _ => exact l_coughs G X hdF hlimF hi hB hR kk
  | 13, _ => exact l_law G X hdF hlimF hi hB hR kk
  | 14, _ => exact l_orders G X hdF hlimF hi hB hR kk
  | 15, _ => exact l_fault G X hdF hlimF hi hB hR kk
  | 16, _ => exact l_stopped G X hdF hlimF hi hB hR kk
  | 17, _ => exact l_force G X hdF hlimF hi hB hR kk
  | 18, _ => exact l_say G X hdF hlimF hi hB hR kk
  | 19, _ => exact l_pray G X hdF hlimF hi hB hR kk
  | 20, _ => exact l_at G X hdF hlimF hi hB hR kk
  | 21, _ => exact l_rank G X hdF hlimF hi hB hR kk
  | 22, _ => exact l_order G X hdF hlimF hi hB hR kk
  | 23, _ => exact l_dawn G X hdF hlimF hi hB hR kk
  | 24, _ => exact l_undo G X hdF hlimF hi hB hR kk
  | 25, _ => exact l_sweep G X hdF hlimF hi hB hR kk
  | 26, _ => exact l_code G X hdF hlimF hi hB hR kk
  | 27, _ => exact l_bundle G X hdF hlimF hi hB hR kk
  | 28, _ => exact l_cover G X hdF hlimF hi hB hR kk
  | 29, _ => exact l_when G X hdF hlimF hi hB hR kk
  | 30, _ => exact l_longest G X hdF hlimF hi hB hR kk
  | 31, _ => exact l_keep G X hdF hlimF hi hB hR kk
  | 32, _ => exact l_answer G X hdF hlimF hi hB hR kk
  | 33, _ => exact l_forget G X hdF hlimF hi hB hR kk
  | 34, _ => exact l_hidden G X hdF hlimF hi hB hR kk
  | 35, _ => exact l_season G X hdF hlimF hi hB hR kk
  | 36, _ => exact l_drawn G X hdF hlimF hi hB hR kk
  | 37, _ => exact l_image G X hdF hlimF hi hB hR kk
  | 38, _ => exact l_back G X hdF hlimF hi hB hR kk
  | 39, _ => exact l_count G X hdF hlimF hi hB hR kk
  | 40, _ => exact l_status G X hdF hlimF hi hB hR kk
  | q + 41, h => exact absurd h (by omega)
theorem l_loop (G : am_G F cL_law RL) (X : lawS F b L xs) (hdF : am_d F = 1300) (hlimF : am_lim F 200) (hend : ∀ loc m, am_Bt m → am_Z F 1391 [] loc m 200) : ∀ (N : Nat) (i : Int) (m : am_M), (L : Int) - i < N → 0 ≤ i → i ≤ L + 5 → am_Bt m → Rel m → am_Z F 18 [] (l_loc i) m 200 := by
  have hL : L ≤ 3072 := by
    obtain ⟨p, l, e, R, s, mm, args, below, meth, c, Q, E, n0, cnt, d⟩ := F
    exact X.2.2.2.2
  intro N
  induction N with
  | zero =>
    intro i m h1 h2 h3 hB hR
    refine z_iload_n (nx := 19) (a := 3) (x := i) G rfl dL_law_18 rfl ?_
    refine z_aload_n (nx := 20) (a := 0) G rfl (Or.inr rfl) dL_law_19 rfl ?_
    refine z_slen (nx := 21) G X dL_law_20 rfl ?_
    refine z_bipush (nx := 23) (z := 6) G (R32c rfl) (by decide +kernel) dL_law_21 rfl ?_
    refine z_isub (nx := 24) G dL_law_23 rfl ?_
    rw [w32_of (by omega) (by omega)]
    exact z_icmp_gt (nx := 27) (tgt := 1391) G dL_law_24 (by decide) rfl (fun _ => hend _ m hB) (fun z => absurd (by omega) z)
  | succ N ih =>
    intro i m h1 h2 h3 hB hR
    refine z_iload_n (nx := 19) (a := 3) (x := i) G rfl dL_law_18 rfl ?_
    refine z_aload_n (nx := 20) (a := 0) G rfl (Or.inr rfl) dL_law_19 rfl ?_
    refine z_slen (nx := 21) G X dL_law_20 rfl ?_
    refine z_bipush (nx := 23) (z := 6) G (R32c rfl) (by decide +kernel) dL_law_21 rfl ?_
    refine z_isub (nx := 24) G dL_law_23 rfl ?_
    rw [w32_of (by omega) (by omega)]
    refine z_icmp_gt (nx := 27) (tgt := 1391) G dL_law_24 (by decide) rfl (fun _ => hend _ m hB) (fun hle => ?_)
    have next : ∀ m', am_Bt m' → Rel m' → am_Z F 1385 [] (l_loc i) m' 200 := fun m' hB' hR' => by
      refine z_iinc (nx := 1388) (a := 3) (x := i) G rfl (fun v hv => by cases hv; decide) dL_law_1385 rfl ?_
      refine z_goto (tgt := 18) G dL_law_1388 (by decide) ?_
      rw [w32_of (by omega) (by omega)]
      exact ih (i + 6) m' (by omega) (by omega) (by omega) hB' hR'
    refine z_aload_n (nx := 28) (a := 0) G rfl (Or.inr rfl) dL_law_27 rfl ?_
    refine z_iload_n (nx := 29) (a := 3) (x := i) G rfl dL_law_28 rfl ?_
    refine z_sld (nx := 30) G X h2 (by omega) dL_law_29 rfl ?_
    refine z_bipush (nx := 32) (z := 63) G (R32c rfl) (by decide +kernel) dL_law_30 rfl ?_
    refine z_iand (nx := 33) G dL_law_32 rfl ?_
    exact z_table (lo := 0) (hi := 40) (dflt := 1352) (offs := l_offs) G dL_law_33 l_tg 1385 (fun j hj => l_tgs j (by omega)) (by decide) (fun j hj _ => l_case G X hdF hlimF ⟨h2, by omega⟩ hB hR next j (by omega)) (fun _ => next m hB hR)
end LAWL
