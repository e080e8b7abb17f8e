/-! THE BEGINNING: what holds when both are made. -/
def ew_s : List ew_E → Int → Option (List (Int × Int))
  | [], _ => none
  | (some n, _, _, _) :: l, o => if o = (n : Int) then (if 20 ≤ (am_sh n).1 ∧ (am_sh n).1 ≤ 23 then some [] else none) else ew_s l o
  | (none, a, b, c) :: l, o => if o = a then (ew_s l o).map (fun t => (b, c) :: t) else ew_s l o
def ew_k : List (Int × Int) → Int → Int
  | [], _ => 0
  | (b, c) :: t, k => if k = b then c else ew_k t k
/-- an array of numbers, all its places at once -/
theorem ew_sm {m0 : am_M} : ∀ {l : List ew_E} {o : Int} {t : List (Int × Int)}, ew_s l o = some t → ∀ k, ew_m m0 l o k = ew_k t k
  | [], o, t, h, k => by cases h
  | (some n, a, b, c) :: l, o, t, h, k => by
    unfold ew_s at h
    show am_fr (ew_m m0 l) n o k = ew_k t k
    unfold am_fr
    by_cases q : o = (n : Int)
    · rw [if_pos q] at h ⊢
      by_cases q2 : 20 ≤ (am_sh n).1 ∧ (am_sh n).1 ≤ 23
      · rw [if_pos q2] at h
        cases h
        have key : ∀ sh : Nat × Nat, 20 ≤ sh.1 → sh.1 ≤ 23 → am_ct sh k.toNat ≠ 2 := by
          rintro ⟨kd, len⟩ g1 g2
          have g1 : 20 ≤ kd := g1
          have g2 : kd ≤ 23 := g2
          rw [am_ctA g1]
          by_cases c1 : kd < 23
          · rw [if_pos c1]; decide
          · rw [if_neg c1, if_pos (by omega)]; decide
        have e : am_ct (am_sh n) k.toNat ≠ 2 := key _ q2.1 q2.2
        rw [if_neg e]
        rfl
      · rw [if_neg q2] at h; cases h
    · rw [if_neg q] at h ⊢
      exact ew_sm h k
  | (none, a, b, c) :: l, o, t, h, k => by
    unfold ew_s at h
    show am_st (ew_m m0 l) a b c o k = ew_k t k
    unfold am_st
    by_cases q : o = a
    · rw [if_pos q] at h
      cases e : ew_s l o with
      | none => rw [e] at h; cases h
      | some t' =>
        rw [e] at h
        cases h
        show _ = if k = b then c else ew_k t' k
        by_cases q2 : k = b
        · rw [if_pos ⟨q, q2⟩, if_pos q2]
        · rw [if_neg (fun z => q2 z.2), if_neg q2]
          exact ew_sm e k
    · rw [if_neg q] at h
      rw [if_neg (fun z => q z.1)]
      exact ew_sm h k
def bg_e1 : List ew_E := EV_X11 0 1 [(some 0, 0, 0, 0)]
def bg_ev : List ew_E := EV_X12 168 169 ((some 168, 0, 0, 0) :: bg_e1)
theorem bg_ok11 : OK_X11 0 1 [(some 0, 0, 0, 0)] = true := by decide +kernel
theorem bg_ok12 : OK_X12 168 169 ((some 168, 0, 0, 0) :: bg_e1) = true := by decide +kernel
theorem bg_170 : ew_s bg_ev 170 = some [(369, -1), (361, 3), (360, 1)] := by decide +kernel
theorem bg_wd : ∀ q ∈ wd_L, ew_g bg_ev q.1 1 = some q.2 := by decide +kernel
theorem bg_wb : ∀ k : Nat, k < 133 → ew_g bg_ev 174 k = some (am_wb.getD k 0) := by decide +kernel
theorem bg_bt : ∀ o : Nat, o < 200 → ((am_sh o).1 < 20 ∨ 24 ≤ (am_sh o).1) → ∀ k, k < (am_sh o).2 → am_ct (am_sh o) k = 2 → ew_g bg_ev o k = some (am_rfv o k) := by decide +kernel
section STA
variable {m0 m : am_M}
theorem bg_c (hm : m = ew_m m0 bg_ev) {o k v : Int} (h : ew_g bg_ev o k = some v) : m o k = v := by rw [hm]; exact ew_gm h
theorem bg_z (hm : m = ew_m m0 bg_ev) {o : Int} (h : ew_s bg_ev o = some []) (k : Int) : m o k = 0 := by rw [hm]; exact ew_sm h k
theorem bg_rk {r w cap : Int} (hrs : rs r w cap) (h1 : m r 1 = w) (h2 : m r 2 = 0) : rk m r w cap := ⟨hrs, h1, by omega, by rw [h2, Int.zero_mul]; exact hrs.2.2.2.2.1⟩
theorem bg_RF {A : Int → Int} {r w cap n0 base : Int} (hrs : rs r w cap) (h1 : m r 1 = w) (h2 : m r 2 = 0) (h3 : A n0 = 0) : am_RF m r w cap A n0 base := ⟨bg_rk hrs h1 h2, h2.trans h3.symm, fun x x0 x1 => by rw [h3, Int.zero_mul] at x1; omega⟩
theorem bg_rs : rs 2 1 10 ∧ rs 4 4 64 ∧ rs 6 1 6 ∧ rs 8 2 20 ∧ rs 10 3 18 ∧ rs 13 7 168 ∧ rs 129 1 400 ∧ rs 148 1 16 ∧ rs 164 4 24 ∧ rs 133 7 84 := by
  unfold rs
  decide +kernel
/-- the flat row at the beginning -/
theorem bg_A (hm : m = ew_m m0 bg_ev) : m 170 360 = 1 ∧ m 170 361 = 3 ∧ m 170 369 = -1 ∧ ∀ x, x ≠ 360 → x ≠ 361 → x ≠ 369 → m 170 x = 0 := by
  have h : ∀ x, m 170 x = ew_k [(369, -1), (361, 3), (360, 1)] x := fun x => by rw [hm]; exact ew_sm bg_170 x
  refine ⟨by rw [h]; rfl, by rw [h]; rfl, by rw [h]; rfl, fun x a b c => ?_⟩
  rw [h, ew_k, if_neg c, ew_k, if_neg b, ew_k, if_neg a]
  rfl
theorem bg_bk (hm : m = ew_m m0 bg_ev) : bk_P m 1 (m 170) := by
  obtain ⟨a0, a1, a9, az⟩ := bg_A hm
  obtain ⟨r1, r2, r3, r4, r5, -⟩ := bg_rs
  refine ⟨bg_RF r1 (bg_c hm (by decide +kernel)) (bg_c hm (by decide +kernel)) (az _ (by omega) (by omega) (by omega)), bg_RF r2 (bg_c hm (by decide +kernel)) (bg_c hm (by decide +kernel)) (az _ (by omega) (by omega) (by omega)), bg_RF r3 (bg_c hm (by decide +kernel)) (bg_c hm (by decide +kernel)) (az _ (by omega) (by omega) (by omega)), bg_RF r4 (bg_c hm (by decide +kernel)) (bg_c hm (by decide +kernel)) (az _ (by omega) (by omega) (by omega)), bg_RF r5 (bg_c hm (by decide +kernel)) (bg_c hm (by decide +kernel)) (az _ (by omega) (by omega) (by omega)), fun i j i0 i1 j0 j1 => ?_, fun i i0 i1 => ?_, ⟨?_, ?_, ?_⟩, ⟨?_, ?_⟩, fun t cs t0 t1 => ?_⟩
  · rw [show (1 : Int) + 14 = 15 by omega, bg_z hm (o := 15) (by decide +kernel), az _ (by omega) (by omega) (by omega)]
    exact ⟨fun z => absurd z (bit_0 j), fun z => absurd z (by decide)⟩
  · rw [show (1 : Int) + 14 = 15 by omega, show (1 : Int) + 15 = 16 by omega, bg_z hm (o := 15) (by decide +kernel), bg_z hm (o := 16) (by decide +kernel), az _ (by omega) (by omega) (by omega)]
    omega
  · rw [show (1 : Int) + 16 = 17 by omega, a0]; exact bg_c hm (by decide +kernel)
  · rw [show (1 : Int) + 16 = 17 by omega, a1]; exact bg_c hm (by decide +kernel)
  · rw [show (1 : Int) + 16 = 17 by omega, az 362 (by omega) (by omega) (by omega)]; exact bg_c hm (by decide +kernel)
  · rw [az 368 (by omega) (by omega) (by omega)]; exact bg_c hm (by decide +kernel)
  · rw [a9]; exact bg_c hm (by decide +kernel)
  · rw [az 368 (by omega) (by omega) (by omega)] at t1; omega
theorem bg_wf (hm : m = ew_m m0 bg_ev) : wf_A 16 (m 170) ∧ wf_H (m 170) := by
  obtain ⟨a0, a1, a9, az⟩ := bg_A hm
  have z : ∀ x, x ≠ 360 → x ≠ 361 → x ≠ 369 → m 170 x = 0 := az
  refine ⟨⟨⟨⟨?_, ?_, fun i i0 i1 => ?_⟩, ⟨?_, ?_, fun i i0 i1 => ?_⟩, ⟨?_, ?_, fun i i0 i1 => ?_⟩, ⟨?_, ?_, fun i i0 i1 => ?_⟩, ⟨?_, ?_, fun i i0 i1 => ?_⟩, fun i j i0 i1 j0 j1 => ?_, fun i i0 i1 => ?_, ?_, ?_, ?_, ?_, ?_⟩, ⟨?_, ?_, fun i i0 i1 => ?_⟩, ⟨?_, ?_, fun t t0 t1 => ?_⟩, fun x x0 x1 => ?_⟩, fun p p0 p1 => ?_⟩
  · rw [z 363 (by omega) (by omega) (by omega)]; omega
  · rw [z 363 (by omega) (by omega) (by omega)]; omega
  · rw [z 363 (by omega) (by omega) (by omega)] at i1; omega
  · rw [z 364 (by omega) (by omega) (by omega)]; omega
  · rw [z 364 (by omega) (by omega) (by omega)]; omega
  · rw [z 364 (by omega) (by omega) (by omega)] at i1; omega
  · rw [z 365 (by omega) (by omega) (by omega)]; omega
  · rw [z 365 (by omega) (by omega) (by omega)]; omega
  · rw [z 365 (by omega) (by omega) (by omega)] at i1; omega
  · rw [z 366 (by omega) (by omega) (by omega)]; omega
  · rw [z 366 (by omega) (by omega) (by omega)]; omega
  · rw [z 366 (by omega) (by omega) (by omega)] at i1; omega
  · rw [z 367 (by omega) (by omega) (by omega)]; omega
  · rw [z 367 (by omega) (by omega) (by omega)]; omega
  · rw [z 367 (by omega) (by omega) (by omega)] at i1; omega
  · rw [z (244 + 8 * i + j) (by omega) (by omega) (by omega), z (244 + 8 * j + i) (by omega) (by omega) (by omega)]
    exact ⟨by omega, rfl, fun _ => rfl⟩
  · rw [z (308 + i) (by omega) (by omega) (by omega)]; omega
  · rw [a0]; omega
  · rw [a1]; omega
  · rw [z 362 (by omega) (by omega) (by omega)]; omega
  · rw [z 368 (by omega) (by omega) (by omega)]; omega
  · rw [z 368 (by omega) (by omega) (by omega), a9]; omega
  · rw [z 168 (by omega) (by omega) (by omega)]; omega
  · rw [z 169 (by omega) (by omega) (by omega)]; omega
  · rw [z 168 (by omega) (by omega) (by omega)] at i1; omega
  · rw [z 368 (by omega) (by omega) (by omega)]; omega
  · rw [z 368 (by omega) (by omega) (by omega), a9]; omega
  · rw [z 368 (by omega) (by omega) (by omega)] at t1; omega
  · by_cases c0 : x = 360
    · rw [c0, a0]; omega
    · by_cases c1 : x = 361
      · rw [c1, a1]; omega
      · by_cases c9 : x = 369
        · rw [c9, a9]; omega
        · rw [z x c0 c1 c9]; omega
  · rw [z 168 (by omega) (by omega) (by omega)] at p1; omega
theorem bg_Rel (hm : m = ew_m m0 bg_ev) : Rel m := by
  obtain ⟨a0, a1, a9, az⟩ := bg_A hm
  obtain ⟨-, -, -, -, -, r6, r7, r8, r9, r10⟩ := bg_rs
  have im : ∀ k, (k = 0 ∨ k = 1) → im_P m k := fun k hk => by
    have e1 := bg_z hm (o := 128) (by decide +kernel) k
    have e2 := bg_z hm (o := 172) (by decide +kernel) k
    exact ⟨by rw [e1, e2], Or.inl e2, fun h => by omega⟩
  have c13 : m 168 13 = 0 := bg_c hm (by decide +kernel)
  have c38 : m 168 38 = 0 := bg_c hm (by decide +kernel)
  have c58 : m 168 58 = 0 := bg_c hm (by decide +kernel)
  refine ⟨⟨bg_bk hm, ⟨bg_RF r6 (bg_c hm (by decide +kernel)) (bg_c hm (by decide +kernel)) (az _ (by omega) (by omega) (by omega)), ?_⟩, (bg_wf hm).1, (bg_wf hm).2⟩, ⟨im 0 (Or.inl rfl), im 1 (Or.inr rfl)⟩, ⟨bg_rk r7 (bg_c hm (by decide +kernel)) (bg_c hm (by decide +kernel)), ?_, by omega, fun x x0 x1 => by omega⟩, ⟨?_, ?_, ?_, ?_⟩, fun j _ => ?_, ⟨bg_rk r8 (bg_c hm (by decide +kernel)) (bg_c hm (by decide +kernel)), ?_, by omega, fun j j0 j1 => by omega⟩, ⟨bg_rk r9 (bg_c hm (by decide +kernel)) (bg_c hm (by decide +kernel)), ?_, by omega, fun p p0 p1 => by omega⟩, fun q hq => bg_c hm (bg_wd q hq), ⟨bg_rk r10 (bg_c hm (by decide +kernel)) (bg_c hm (by decide +kernel)), fun k k0 k1 => ?_, fun k k0 k1 => bg_z hm (by decide +kernel) k⟩⟩
  · rw [az 169 (by omega) (by omega) (by omega)]; exact bg_c hm (by decide +kernel)
  · rw [c13]; exact bg_c hm (by decide +kernel)
  · rw [bg_c hm (o := 0) (k := 17) (v := 0) (by decide +kernel), bg_c hm (o := 168) (k := 0) (v := 0) (by decide +kernel)]
  · rw [bg_c hm (o := 0) (k := 18) (v := 0) (by decide +kernel), bg_c hm (o := 168) (k := 6) (v := 0) (by decide +kernel)]
  · rw [bg_c hm (o := 0) (k := 19) (v := -1) (by decide +kernel), bg_c hm (o := 168) (k := 48) (v := -1) (by decide +kernel)]
  · rw [bg_c hm (o := 135) (k := 6) (v := -1) (by decide +kernel), bg_c hm (o := 168) (k := 14) (v := -1) (by decide +kernel)]
  · rw [bg_z hm (o := 167) (by decide +kernel), bg_z hm (o := 169) (by decide +kernel)]
  · rw [c38]; exact bg_c hm (by decide +kernel)
  · rw [c58]; exact bg_c hm (by decide +kernel)
  · obtain ⟨n, rfl⟩ : ∃ n : Nat, k = n := ⟨k.toNat, by omega⟩
    rw [Int.toNat_natCast]
    exact bg_c hm (bg_wb n (by omega))
theorem bg_Bt (hm : m = ew_m m0 bg_ev) : am_Bt m := by
  intro o ho k hk hc
  by_cases q : (am_sh o).1 < 20 ∨ 24 ≤ (am_sh o).1
  · exact bg_c hm (bg_bt o ho q k hk hc)
  · exfalso
    revert hc q
    obtain ⟨kd, len⟩ := am_sh o
    intro hc q
    have q' : ¬ (kd < 20 ∨ 24 ≤ kd) := q
    rw [am_ctA (by omega)] at hc
    by_cases c1 : kd < 23
    · rw [if_pos c1] at hc; cases hc
    · rw [if_neg c1, if_pos (by omega)] at hc; cases hc
end STA
