/-! THE METHODS, as predicates: M_f args K m: called with these arguments and this memory, method f returns, with an answer and a memory of which K holds (by a program, out of the bytecode). Loops: an invariant with a number that falls. -/
/-- the string constants: lengths, letters -/
def am_sln (k : Int) : Int := (am_slen k.toNat : Int)
def am_sc (k i : Int) : Int := am_sch k.toNat i.toNat
def M_X0_term (v0 : Int) (v1 : Int) (K : am_KK) (m : am_M) : Prop :=
  ((v1 ≠ 0) →
  ((v1 ≤ 0) →
  K (-1) m) ∧ (¬ (v1 ≤ 0) →
  (((am_len (am_rfv v0 8)) ≤ v1) →
  K (-1) m) ∧ (¬ ((am_len (am_rfv v0 8)) ≤ v1) →
  ((0 : Int) ≤ v1 ∧ v1 < am_len (am_rfv v0 8)) ∧
  K (m (am_rfv v0 8) v1) m))) ∧ (¬ (v1 ≠ 0) →
  K (m (am_rfv v0 5) 1) m)
def N_X0_term : am_PT := fun zs K m => match zs with
  | [v0, v1] => am_ob v0 0 ∧ M_X0_term v0 v1 K m
  | _ => False
def M_X0_setTerm (v0 : Int) (v1 : Int) (v2 : Int) (K : am_KK) (m : am_M) : Prop :=
  ((v1 ≠ 0) →
  ((v1 ≤ 0) →
  K 0 m) ∧ (¬ (v1 ≤ 0) →
  (((am_len (am_rfv v0 8)) ≤ v1) →
  K 0 m) ∧ (¬ ((am_len (am_rfv v0 8)) ≤ v1) →
  ((0 : Int) ≤ v1 ∧ v1 < am_len (am_rfv v0 8)) ∧
  ∀ m_1 : am_M, m_1 = am_st m (am_rfv v0 8) v1 v2 →
  K 0 m_1))) ∧ (¬ (v1 ≠ 0) →
  ∀ m_2 : am_M, m_2 = am_st m (am_rfv v0 5) 1 v2 →
  K 0 m_2)
def N_X0_setTerm : am_PT := fun zs K m => match zs with
  | [v0, v1, v2] => am_ob v0 0 ∧ M_X0_setTerm v0 v1 v2 K m
  | _ => False
def M_X11_within (v0 : Int) (v1 : Int) (v2 : Int) (K : am_KK) (m : am_M) : Prop :=
  ((v0 < v1) →
  K 0 m) ∧ (¬ (v0 < v1) →
  ((v2 < v0) →
  K 0 m) ∧ (¬ (v2 < v0) →
  K 1 m))
def N_X11_within : am_PT := fun zs K m => match zs with
  | [v0, v1, v2] => M_X11_within v0 v1 v2 K m
  | _ => False
def M_X11_isThing (v0 : Int) (K : am_KK) (m : am_M) : Prop :=
  M_X11_within v0 0 7 (fun r_1 m_2 =>
  K r_1 m_2) m
def N_X11_isThing : am_PT := fun zs K m => match zs with
  | [v0] => M_X11_isThing v0 K m
  | _ => False
def M_X0_setClash (v0 : Int) (v1 : Int) (v2 : Int) (v3 : Int) (K : am_KK) (m : am_M) : Prop :=
  M_X11_isThing v1 (fun r_1 m_2 =>
  ((r_1 = 0) →
  K (-1) m_2) ∧ (¬ (r_1 = 0) →
  M_X11_isThing v2 (fun r_4 m_5 =>
  ((r_4 ≠ 0) →
  ((0 : Int) ≤ v1 ∧ v1 < am_len (am_rfv v0 6)) ∧
  ∀ v4_7 : Int, v4_7 = am_and (am_shr (m_5 (am_rfv v0 6) v1) v2) 1 →
  ((v4_7 = v3) →
  K v4_7 m_5) ∧ (¬ (v4_7 = v3) →
  ((0 : Int) ≤ v1 ∧ v1 < am_len (am_rfv v0 6)) ∧
  ((0 : Int) ≤ v1 ∧ v1 < am_len (am_rfv v0 6)) ∧
  ∀ m_8 : am_M, m_8 = am_st m_5 (am_rfv v0 6) v1 (am_xor (m_5 (am_rfv v0 6) v1) (am_shl 1 v2)) →
  ((0 : Int) ≤ v2 ∧ v2 < am_len (am_rfv v0 6)) ∧
  ((0 : Int) ≤ v2 ∧ v2 < am_len (am_rfv v0 6)) ∧
  ∀ m_9 : am_M, m_9 = am_st m_8 (am_rfv v0 6) v2 (am_xor (m_8 (am_rfv v0 6) v2) (am_shl 1 v1)) →
  K v4_7 m_9)) ∧ (¬ (r_4 ≠ 0) →
  K (-1) m_5)) m_2)) m
def N_X0_setClash : am_PT := fun zs K m => match zs with
  | [v0, v1, v2, v3] => am_ob v0 0 ∧ M_X0_setClash v0 v1 v2 v3 K m
  | _ => False
def M_X0_keptOffBy (v0 : Int) (v1 : Int) (K : am_KK) (m : am_M) : Prop :=
  M_X11_isThing v1 (fun r_1 m_2 =>
  ((r_1 = 0) →
  K 0 m_2) ∧ (¬ (r_1 = 0) →
  ((0 : Int) ≤ v1 ∧ v1 < am_len (am_rfv v0 6)) ∧
  K (am_or (m_2 (am_rfv v0 6) v1) (am_shl 1 v1)) m_2)) m
def N_X0_keptOffBy : am_PT := fun zs K m => match zs with
  | [v0, v1] => am_ob v0 0 ∧ M_X0_keptOffBy v0 v1 K m
  | _ => False
def M_X7_takeFrom (v0 : Int) (v1 : Int) (K : am_KK) (m : am_M) : Prop :=
  (((m v1 1) ≠ (m v0 1)) →
  K 0 m) ∧ (¬ ((m v1 1) ≠ (m v0 1)) →
  (((am_len (am_rfv v0 0)) < (w32 ((m v1 2) * (m v0 1)))) →
  K 0 m) ∧ (¬ ((am_len (am_rfv v0 0)) < (w32 ((m v1 2) * (m v0 1)))) →
  ((0 : Int) ≤ 0 ∧ (0 : Int) ≤ 0 ∧ (0 : Int) ≤ (w32 ((m v1 2) * (m v0 1))) ∧ (0 : Int) + (w32 ((m v1 2) * (m v0 1))) ≤ am_len (am_rfv v1 0) ∧ (0 : Int) + (w32 ((m v1 2) * (m v0 1))) ≤ am_len (am_rfv v0 0)) ∧
  ∀ m_1 : am_M, m_1 = am_cp m (am_rfv v1 0) 0 (am_rfv v0 0) 0 (w32 ((m v1 2) * (m v0 1))) →
  ∀ m_2 : am_M, m_2 = am_st m_1 v0 2 (m_1 v1 2) →
  K 0 m_2))
def N_X7_takeFrom : am_PT := fun zs K m => match zs with
  | [v0, v1] => am_ob v0 7 ∧ am_ob v1 7 ∧ M_X7_takeFrom v0 v1 K m
  | _ => False
def M_X4_takeFrom (v0 : Int) (v1 : Int) (K : am_KK) (m : am_M) : Prop :=
  ∀ m_1 : am_M, m_1 = am_st m v0 1 (am_min (m v1 1) (am_len (am_rfv v0 0))) →
  ((0 : Int) ≤ 0 ∧ (0 : Int) ≤ 0 ∧ (0 : Int) ≤ (m_1 v0 1) ∧ (0 : Int) + (m_1 v0 1) ≤ am_len (am_rfv v1 0) ∧ (0 : Int) + (m_1 v0 1) ≤ am_len (am_rfv v0 0)) ∧
  ∀ m_2 : am_M, m_2 = am_cp m_1 (am_rfv v1 0) 0 (am_rfv v0 0) 0 (m_1 v0 1) →
  M_X7_takeFrom (am_rfv v0 2) (am_rfv v1 2) (fun _ m_4 =>
  K 0 m_4) m_2
def N_X4_takeFrom : am_PT := fun zs K m => match zs with
  | [v0, v1] => am_ob v0 4 ∧ am_ob v1 4 ∧ M_X4_takeFrom v0 v1 K m
  | _ => False
def M_X0_addLaw (v0 : Int) (v1 : Int) (K : am_KK) (m : am_M) : Prop :=
  (((m v0 10) < (am_len (am_rfv v0 9))) →
  ((0 : Int) ≤ (m v0 10) ∧ (m v0 10) < am_len (am_rfv v0 9)) ∧
  M_X4_takeFrom (am_rfv (am_rfv v0 9) (m v0 10)) v1 (fun _ m_3 =>
  ∀ m_4 : am_M, m_4 = am_st m_3 v0 10 (w32 ((m_3 v0 10) + 1)) →
  K (w32 ((m_4 v0 10) - 1)) m_4) m) ∧ (¬ ((m v0 10) < (am_len (am_rfv v0 9))) →
  K (-1) m)
def N_X0_addLaw : am_PT := fun zs K m => match zs with
  | [v0, v1] => am_ob v0 0 ∧ am_ob v1 4 ∧ M_X0_addLaw v0 v1 K m
  | _ => False
def M_X0_ruling_J1 (K : am_KK) (m : am_M) : Prop :=
  K (-1) m
def M_X0_ruling (v0 : Int) (K : am_KK) (m : am_M) : Prop :=
  (((m v0 11) < 0) →
  M_X0_ruling_J1 K m) ∧ (¬ ((m v0 11) < 0) →
  (((m v0 10) ≤ (m v0 11)) →
  M_X0_ruling_J1 K m) ∧ (¬ ((m v0 10) ≤ (m v0 11)) →
  (((am_len (am_rfv v0 9)) ≤ (m v0 11)) →
  M_X0_ruling_J1 K m) ∧ (¬ ((am_len (am_rfv v0 9)) ≤ (m v0 11)) →
  ((0 : Int) ≤ (m v0 11) ∧ (m v0 11) < am_len (am_rfv v0 9)) ∧
  K (am_rfv (am_rfv v0 9) (m v0 11)) m)))
def N_X0_ruling : am_PT := fun zs K m => match zs with
  | [v0] => am_ob v0 0 ∧ M_X0_ruling v0 K m
  | _ => False
def M_X7_get (v0 : Int) (v1 : Int) (v2 : Int) (K : am_KK) (m : am_M) : Prop :=
  ((v1 < 0) →
  K (-1) m) ∧ (¬ (v1 < 0) →
  (((m v0 2) ≤ v1) →
  K (-1) m) ∧ (¬ ((m v0 2) ≤ v1) →
  ((v2 < 0) →
  K (-1) m) ∧ (¬ (v2 < 0) →
  (((m v0 1) ≤ v2) →
  K (-1) m) ∧ (¬ ((m v0 1) ≤ v2) →
  ((0 : Int) ≤ (w32 ((w32 (v1 * (m v0 1))) + v2)) ∧ (w32 ((w32 (v1 * (m v0 1))) + v2)) < am_len (am_rfv v0 0)) ∧
  K (m (am_rfv v0 0) (w32 ((w32 (v1 * (m v0 1))) + v2))) m))))
def N_X7_get : am_PT := fun zs K m => match zs with
  | [v0, v1, v2] => am_ob v0 7 ∧ M_X7_get v0 v1 v2 K m
  | _ => False
def M_X0_coverCost_J1 (v0 : Int) (v1 : Int) (v2 : Int) (v3 : Int) (v4 : Int) (v5 : Int) (C8 : Int → Int → Int → am_M → Prop) (K : am_KK) (m : am_M) : Prop :=
  ∀ v5_1 : Int, v5_1 = w32 (v5 + 1) →
  C8 v3 v4 v5_1 m
def M_X0_coverCost_L1B (v0 : Int) (v1 : Int) (v2 : Int) (v3 : Int) (v4 : Int) (v5 : Int) (C8 : Int → Int → Int → am_M → Prop) (K : am_KK) (m : am_M) : Prop :=
  (((m (am_rfv v0 3) 2) ≤ v5) →
  (((am_and v3 v2) ≠ v2) →
  K (-1) m) ∧ (¬ ((am_and v3 v2) ≠ v2) →
  K v4 m)) ∧ (¬ ((m (am_rfv v0 3) 2) ≤ v5) →
  (((am_and (am_shr v1 v5) 1) ≠ 1) →
  M_X0_coverCost_J1 v0 v1 v2 v3 v4 v5 C8 K m) ∧ (¬ ((am_and (am_shr v1 v5) 1) ≠ 1) →
  M_X7_get (am_rfv v0 3) v5 0 (fun r_2 m_3 =>
  ∀ v3_4 : Int, v3_4 = am_or v3 r_2 →
  M_X7_get (am_rfv v0 3) v5 1 (fun r_5 m_6 =>
  ∀ v4_7 : Int, v4_7 = w32 (v4 + (w32 ((w32 (r_5 * 16)) + 1))) →
  M_X0_coverCost_J1 v0 v1 v2 v3_4 v4_7 v5 C8 K m_6) m_3) m))
def M_X0_coverCost_L1 (v0 : Int) (v1 : Int) (v2 : Int) (v3 : Int) (v4 : Int) (v5 : Int) (K : am_KK) (m : am_M) : Prop :=
  ∃ I : Nat → Int → Int → Int → am_M → Prop, (∃ j, I j v3 v4 v5 m) ∧ ∀ j v3 v4 v5 m, I j v3 v4 v5 m → M_X0_coverCost_L1B v0 v1 v2 v3 v4 v5 (fun v3' v4' v5' m' => ∃ j', j' < j ∧ I j' v3' v4' v5' m') K m
def M_X0_coverCost (v0 : Int) (v1 : Int) (v2 : Int) (K : am_KK) (m : am_M) : Prop :=
  M_X0_coverCost_L1 v0 v1 v2 0 0 0 K m
def N_X0_coverCost : am_PT := fun zs K m => match zs with
  | [v0, v1, v2] => am_ob v0 0 ∧ M_X0_coverCost v0 v1 v2 K m
  | _ => False
def M_X0_farthestAnswer_L1B (v0 : Int) (v1 : Int) (v2 : Int) (C4 : Int → Int → am_M → Prop) (K : am_KK) (m : am_M) : Prop :=
  (((m (am_rfv v0 4) 2) ≤ v2) →
  K v1 m) ∧ (¬ ((m (am_rfv v0 4) 2) ≤ v2) →
  M_X7_get (am_rfv v0 4) v2 0 (fun r_1 m_2 =>
  ∀ v1_3 : Int, v1_3 = am_max v1 r_1 →
  ∀ v2_4 : Int, v2_4 = w32 (v2 + 1) →
  C4 v1_3 v2_4 m_2) m)
def M_X0_farthestAnswer_L1 (v0 : Int) (v1 : Int) (v2 : Int) (K : am_KK) (m : am_M) : Prop :=
  ∃ I : Nat → Int → Int → am_M → Prop, (∃ j, I j v1 v2 m) ∧ ∀ j v1 v2 m, I j v1 v2 m → M_X0_farthestAnswer_L1B v0 v1 v2 (fun v1' v2' m' => ∃ j', j' < j ∧ I j' v1' v2' m') K m
def M_X0_farthestAnswer (v0 : Int) (K : am_KK) (m : am_M) : Prop :=
  M_X0_farthestAnswer_L1 v0 0 0 K m
def N_X0_farthestAnswer : am_PT := fun zs K m => match zs with
  | [v0] => am_ob v0 0 ∧ M_X0_farthestAnswer v0 K m
  | _ => False
def M_X0_answersAre_J1 (v0 : Int) (v1 : Int) (v2 : Int) (v3 : Int) (C2 : Int → am_M → Prop) (K : am_KK) (m : am_M) : Prop :=
  ∀ v3_1 : Int, v3_1 = w32 (v3 + 1) →
  C2 v3_1 m
def M_X0_answersAre_L1B (v0 : Int) (v1 : Int) (v2 : Int) (v3 : Int) (C2 : Int → am_M → Prop) (K : am_KK) (m : am_M) : Prop :=
  (((m (am_rfv v0 4) 2) ≤ v3) →
  K 1 m) ∧ (¬ ((m (am_rfv v0 4) 2) ≤ v3) →
  M_X7_get (am_rfv v0 4) v3 0 (fun r_2 m_3 =>
  ((r_2 ≠ v1) →
  M_X0_answersAre_J1 v0 v1 v2 v3 C2 K m_3) ∧ (¬ (r_2 ≠ v1) →
  M_X7_get (am_rfv v0 4) v3 1 (fun r_4 m_5 =>
  M_X7_get (am_rfv v0 4) v3 2 (fun r_6 m_7 =>
  (((am_and (am_shr v2 r_4) 1) = r_6) →
  M_X0_answersAre_J1 v0 v1 v2 v3 C2 K m_7) ∧ (¬ ((am_and (am_shr v2 r_4) 1) = r_6) →
  K 0 m_7)) m_5) m_3)) m)
def M_X0_answersAre_L1 (v0 : Int) (v1 : Int) (v2 : Int) (v3 : Int) (K : am_KK) (m : am_M) : Prop :=
  ∃ I : Nat → Int → am_M → Prop, (∃ j, I j v3 m) ∧ ∀ j v3 m, I j v3 m → M_X0_answersAre_L1B v0 v1 v2 v3 (fun v3' m' => ∃ j', j' < j ∧ I j' v3' m') K m
def M_X0_answersAre (v0 : Int) (v1 : Int) (v2 : Int) (K : am_KK) (m : am_M) : Prop :=
  M_X0_answersAre_L1 v0 v1 v2 0 K m
def N_X0_answersAre : am_PT := fun zs K m => match zs with
  | [v0, v1, v2] => am_ob v0 0 ∧ M_X0_answersAre v0 v1 v2 K m
  | _ => False
def M_X9_takeFrom (v0 : Int) (v1 : Int) (K : am_KK) (m : am_M) : Prop :=
  M_X7_takeFrom (am_rfv v0 0) (am_rfv v1 0) (fun _ m_2 =>
  ∀ m_3 : am_M, m_3 = am_st m_2 v0 1 (m_2 v1 1) →
  K 0 m_3) m
def N_X9_takeFrom : am_PT := fun zs K m => match zs with
  | [v0, v1] => am_ob v0 9 ∧ am_ob v1 9 ∧ M_X9_takeFrom v0 v1 K m
  | _ => False
def M_X0_takeFrom_L1B (v0 : Int) (v1 : Int) (v2 : Int) (C132 : Int → am_M → Prop) (K : am_KK) (m : am_M) : Prop :=
  (((m v0 10) ≤ v2) →
  ∀ m_1 : am_M, m_1 = am_st m v0 11 (m v1 11) →
  K 0 m_1) ∧ (¬ ((m v0 10) ≤ v2) →
  ((0 : Int) ≤ v2 ∧ v2 < am_len (am_rfv v0 9)) ∧
  ((0 : Int) ≤ v2 ∧ v2 < am_len (am_rfv v1 9)) ∧
  M_X4_takeFrom (am_rfv (am_rfv v0 9) v2) (am_rfv (am_rfv v1 9) v2) (fun _ m_5 =>
  ∀ v2_6 : Int, v2_6 = w32 (v2 + 1) →
  C132 v2_6 m_5) m)
def M_X0_takeFrom_L1 (v0 : Int) (v1 : Int) (v2 : Int) (K : am_KK) (m : am_M) : Prop :=
  ∃ I : Nat → Int → am_M → Prop, (∃ j, I j v2 m) ∧ ∀ j v2 m, I j v2 m → M_X0_takeFrom_L1B v0 v1 v2 (fun v2' m' => ∃ j', j' < j ∧ I j' v2' m') K m
def M_X0_takeFrom (v0 : Int) (v1 : Int) (K : am_KK) (m : am_M) : Prop :=
  M_X7_takeFrom (am_rfv v0 0) (am_rfv v1 0) (fun _ m_8 =>
  M_X7_takeFrom (am_rfv v0 1) (am_rfv v1 1) (fun _ m_10 =>
  M_X7_takeFrom (am_rfv v0 2) (am_rfv v1 2) (fun _ m_12 =>
  M_X7_takeFrom (am_rfv v0 3) (am_rfv v1 3) (fun _ m_14 =>
  M_X7_takeFrom (am_rfv v0 4) (am_rfv v1 4) (fun _ m_16 =>
  M_X9_takeFrom (am_rfv v0 5) (am_rfv v1 5) (fun _ m_18 =>
  ((0 : Int) ≤ 0 ∧ (0 : Int) ≤ 0 ∧ (0 : Int) ≤ 8 ∧ (0 : Int) + 8 ≤ am_len (am_rfv v1 6) ∧ (0 : Int) + 8 ≤ am_len (am_rfv v0 6)) ∧
  ∀ m_19 : am_M, m_19 = am_cp m_18 (am_rfv v1 6) 0 (am_rfv v0 6) 0 8 →
  ((0 : Int) ≤ 0 ∧ (0 : Int) ≤ 0 ∧ (0 : Int) ≤ 8 ∧ (0 : Int) + 8 ≤ am_len (am_rfv v1 7) ∧ (0 : Int) + 8 ≤ am_len (am_rfv v0 7)) ∧
  ∀ m_20 : am_M, m_20 = am_cp m_19 (am_rfv v1 7) 0 (am_rfv v0 7) 0 8 →
  ((0 : Int) ≤ 0 ∧ (0 : Int) ≤ 0 ∧ (0 : Int) ≤ (am_len (am_rfv v0 8)) ∧ (0 : Int) + (am_len (am_rfv v0 8)) ≤ am_len (am_rfv v1 8) ∧ (0 : Int) + (am_len (am_rfv v0 8)) ≤ am_len (am_rfv v0 8)) ∧
  ∀ m_21 : am_M, m_21 = am_cp m_20 (am_rfv v1 8) 0 (am_rfv v0 8) 0 (am_len (am_rfv v0 8)) →
  ∀ m_22 : am_M, m_22 = am_st m_21 v0 10 (am_min (m_21 v1 10) (am_len (am_rfv v0 9))) →
  M_X0_takeFrom_L1 v0 v1 0 K m_22) m_16) m_14) m_12) m_10) m_8) m
def N_X0_takeFrom : am_PT := fun zs K m => match zs with
  | [v0, v1] => am_ob v0 0 ∧ am_ob v1 0 ∧ M_X0_takeFrom v0 v1 K m
  | _ => False
def M_J6_bitCount_0f7a4 (v0 : Int) (K : am_KK) (m : am_M) : Prop :=
  ∀ v0_1 : Int, v0_1 = w32 (v0 - (am_and (am_ushr v0 1) 1431655765)) →
  ∀ v0_2 : Int, v0_2 = w32 ((am_and v0_1 858993459) + (am_and (am_ushr v0_1 2) 858993459)) →
  ∀ v0_3 : Int, v0_3 = am_and (w32 (v0_2 + (am_ushr v0_2 4))) 252645135 →
  ∀ v0_4 : Int, v0_4 = w32 (v0_3 + (am_ushr v0_3 8)) →
  ∀ v0_5 : Int, v0_5 = w32 (v0_4 + (am_ushr v0_4 16)) →
  K (am_and v0_5 63) m
def N_J6_bitCount_0f7a4 : am_PT := fun zs K m => match zs with
  | [v0] => M_J6_bitCount_0f7a4 v0 K m
  | _ => False
def M_X1_takeLetters_J1 (v0 : Int) (v1 : Int) (v2 : Int) (v3 : Int) (C38 : Int → am_M → Prop) (K : am_KK) (m : am_M) : Prop :=
  ∀ v3_1 : Int, v3_1 = w32 (v3 + 1) →
  C38 v3_1 m
def M_X1_takeLetters_L1B (v0 : Int) (v1 : Int) (v2 : Int) (v3 : Int) (C38 : Int → am_M → Prop) (K : am_KK) (m : am_M) : Prop :=
  (((m (am_rfv v1 0) 2) ≤ v3) →
  K 1 m) ∧ (¬ ((m (am_rfv v1 0) 2) ≤ v3) →
  (((am_and (am_shr v2 v3) 1) ≠ 1) →
  M_X1_takeLetters_J1 v0 v1 v2 v3 C38 K m) ∧ (¬ ((am_and (am_shr v2 v3) 1) ≠ 1) →
  (((am_len (am_rfv v0 2)) ≤ (m v0 3)) →
  M_X1_takeLetters_J1 v0 v1 v2 v3 C38 K m) ∧ (¬ ((am_len (am_rfv v0 2)) ≤ (m v0 3)) →
  M_X7_get (am_rfv v1 0) v3 0 (fun r_2 m_3 =>
  ((0 : Int) ≤ (m v0 3) ∧ (m v0 3) < am_len (am_rfv v0 2)) ∧
  ∀ m_4 : am_M, m_4 = am_st m_3 (am_rfv v0 2) (m v0 3) r_2 →
  ∀ m_5 : am_M, m_5 = am_st m_4 v0 3 (w32 ((m_4 v0 3) + 1)) →
  M_X1_takeLetters_J1 v0 v1 v2 v3 C38 K m_5) m)))
def M_X1_takeLetters_L1 (v0 : Int) (v1 : Int) (v2 : Int) (v3 : Int) (K : am_KK) (m : am_M) : Prop :=
  ∃ I : Nat → Int → am_M → Prop, (∃ j, I j v3 m) ∧ ∀ j v3 m, I j v3 m → M_X1_takeLetters_L1B v0 v1 v2 v3 (fun v3' m' => ∃ j', j' < j ∧ I j' v3' m') K m
def M_X1_takeLetters (v0 : Int) (v1 : Int) (v2 : Int) (K : am_KK) (m : am_M) : Prop :=
  ∀ m_6 : am_M, m_6 = am_st m v0 3 0 →
  ((v2 < 0) →
  K 0 m_6) ∧ (¬ (v2 < 0) →
  (((am_shl 1 (m_6 (am_rfv v1 0) 2)) ≤ v2) →
  K 0 m_6) ∧ (¬ ((am_shl 1 (m_6 (am_rfv v1 0) 2)) ≤ v2) →
  M_J6_bitCount_0f7a4 v2 (fun r_7 m_8 =>
  M_X11_within r_7 2 3 (fun r_9 m_10 =>
  ((r_9 ≠ 0) →
  M_X1_takeLetters_L1 v0 v1 v2 0 K m_10) ∧ (¬ (r_9 ≠ 0) →
  K 0 m_10)) m_8) m_6))
def N_X1_takeLetters : am_PT := fun zs K m => match zs with
  | [v0, v1, v2] => am_ob v0 1 ∧ am_ob v1 0 ∧ M_X1_takeLetters v0 v1 v2 K m
  | _ => False
def M_X1_takeAsked_J1 (v0 : Int) (v1 : Int) (v2 : Int) (C7 : Int → am_M → Prop) (K : am_KK) (m : am_M) : Prop :=
  ∀ v2_1 : Int, v2_1 = w32 (v2 + 1) →
  C7 v2_1 m
def M_X1_takeAsked_L1B (v0 : Int) (v1 : Int) (v2 : Int) (C7 : Int → am_M → Prop) (K : am_KK) (m : am_M) : Prop :=
  ((8 ≤ v2) →
  K 1 m) ∧ (¬ (8 ≤ v2) →
  ((0 : Int) ≤ v2 ∧ v2 < am_len (am_rfv v1 7)) ∧
  (((m (am_rfv v1 7) v2) ≤ 0) →
  M_X1_takeAsked_J1 v0 v1 v2 C7 K m) ∧ (¬ ((m (am_rfv v1 7) v2) ≤ 0) →
  (((m v0 1) < 6) →
  ((0 : Int) ≤ (m v0 1) ∧ (m v0 1) < am_len (am_rfv v0 0)) ∧
  ∀ m_2 : am_M, m_2 = am_st m (am_rfv v0 0) (m v0 1) v2 →
  ∀ m_3 : am_M, m_3 = am_st m_2 v0 1 (w32 ((m_2 v0 1) + 1)) →
  M_X1_takeAsked_J1 v0 v1 v2 C7 K m_3) ∧ (¬ ((m v0 1) < 6) →
  K 0 m)))
def M_X1_takeAsked_L1 (v0 : Int) (v1 : Int) (v2 : Int) (K : am_KK) (m : am_M) : Prop :=
  ∃ I : Nat → Int → am_M → Prop, (∃ j, I j v2 m) ∧ ∀ j v2 m, I j v2 m → M_X1_takeAsked_L1B v0 v1 v2 (fun v2' m' => ∃ j', j' < j ∧ I j' v2' m') K m
def M_X1_takeAsked (v0 : Int) (v1 : Int) (K : am_KK) (m : am_M) : Prop :=
  ∀ m_4 : am_M, m_4 = am_st m v0 1 0 →
  M_X1_takeAsked_L1 v0 v1 0 K m_4
def N_X1_takeAsked : am_PT := fun zs K m => match zs with
  | [v0, v1] => am_ob v0 1 ∧ am_ob v1 0 ∧ M_X1_takeAsked v0 v1 K m
  | _ => False
def M_X1_weightOf_J1 (v0 : Int) (v1 : Int) (v2 : Int) (v3 : Int) (v4 : Int) (C5 : Int → Int → am_M → Prop) (K : am_KK) (m : am_M) : Prop :=
  ∀ v4_1 : Int, v4_1 = w32 (v4 + 1) →
  C5 v3 v4_1 m
def M_X1_weightOf_L1B (v0 : Int) (v1 : Int) (v2 : Int) (v3 : Int) (v4 : Int) (C5 : Int → Int → am_M → Prop) (K : am_KK) (m : am_M) : Prop :=
  (((m v0 1) ≤ v4) →
  K v3 m) ∧ (¬ ((m v0 1) ≤ v4) →
  ((6 ≤ v4) →
  K v3 m) ∧ (¬ (6 ≤ v4) →
  (((am_and (am_shr v2 v4) 1) ≠ 1) →
  M_X1_weightOf_J1 v0 v1 v2 v3 v4 C5 K m) ∧ (¬ ((am_and (am_shr v2 v4) 1) ≠ 1) →
  ((0 : Int) ≤ v4 ∧ v4 < am_len (am_rfv v0 0)) ∧
  M_X11_isThing (m (am_rfv v0 0) v4) (fun r_2 m_3 =>
  ((r_2 = 0) →
  M_X1_weightOf_J1 v0 v1 v2 v3 v4 C5 K m_3) ∧ (¬ (r_2 = 0) →
  ((0 : Int) ≤ v4 ∧ v4 < am_len (am_rfv v0 0)) ∧
  ((0 : Int) ≤ (m_3 (am_rfv v0 0) v4) ∧ (m_3 (am_rfv v0 0) v4) < am_len (am_rfv v1 7)) ∧
  ∀ v3_5 : Int, v3_5 = w32 (v3 + (m_3 (am_rfv v1 7) (m_3 (am_rfv v0 0) v4))) →
  M_X1_weightOf_J1 v0 v1 v2 v3_5 v4 C5 K m_3)) m)))
def M_X1_weightOf_L1 (v0 : Int) (v1 : Int) (v2 : Int) (v3 : Int) (v4 : Int) (K : am_KK) (m : am_M) : Prop :=
  ∃ I : Nat → Int → Int → am_M → Prop, (∃ j, I j v3 v4 m) ∧ ∀ j v3 v4 m, I j v3 v4 m → M_X1_weightOf_L1B v0 v1 v2 v3 v4 (fun v3' v4' m' => ∃ j', j' < j ∧ I j' v3' v4' m') K m
def M_X1_weightOf (v0 : Int) (v1 : Int) (v2 : Int) (K : am_KK) (m : am_M) : Prop :=
  M_X1_weightOf_L1 v0 v1 v2 0 0 K m
def N_X1_weightOf : am_PT := fun zs K m => match zs with
  | [v0, v1, v2] => am_ob v0 1 ∧ am_ob v1 0 ∧ M_X1_weightOf v0 v1 v2 K m
  | _ => False
def M_X1_clearLengths_L1B (v0 : Int) (v1 : Int) (v2 : Int) (C2 : Int → am_M → Prop) (K : am_KK) (m : am_M) : Prop :=
  ((6 ≤ v2) →
  K 0 m) ∧ (¬ (6 ≤ v2) →
  ((0 : Int) ≤ (w32 ((w32 (v1 * 6)) + v2)) ∧ (w32 ((w32 (v1 * 6)) + v2)) < am_len (am_rfv v0 6)) ∧
  ∀ m_1 : am_M, m_1 = am_st m (am_rfv v0 6) (w32 ((w32 (v1 * 6)) + v2)) 0 →
  ∀ v2_2 : Int, v2_2 = w32 (v2 + 1) →
  C2 v2_2 m_1)
def M_X1_clearLengths_L1 (v0 : Int) (v1 : Int) (v2 : Int) (K : am_KK) (m : am_M) : Prop :=
  ∃ I : Nat → Int → am_M → Prop, (∃ j, I j v2 m) ∧ ∀ j v2 m, I j v2 m → M_X1_clearLengths_L1B v0 v1 v2 (fun v2' m' => ∃ j', j' < j ∧ I j' v2' m') K m
def M_X1_clearLengths (v0 : Int) (v1 : Int) (K : am_KK) (m : am_M) : Prop :=
  M_X1_clearLengths_L1 v0 v1 0 K m
def N_X1_clearLengths : am_PT := fun zs K m => match zs with
  | [v0, v1] => am_ob v0 1 ∧ M_X1_clearLengths v0 v1 K m
  | _ => False
def M_X1_isPartOf (v0 : Int) (v1 : Int) (K : am_KK) (m : am_M) : Prop :=
  (((am_and v0 (am_xor v1 (-1))) ≠ 0) →
  K 0 m) ∧ (¬ ((am_and v0 (am_xor v1 (-1))) ≠ 0) →
  K 1 m)
def N_X1_isPartOf : am_PT := fun zs K m => match zs with
  | [v0, v1] => M_X1_isPartOf v0 v1 K m
  | _ => False
def M_X1_isSet (v0 : Int) (K : am_KK) (m : am_M) : Prop :=
  M_X11_within v0 0 63 (fun r_1 m_2 =>
  K r_1 m_2) m
def N_X1_isSet : am_PT := fun zs K m => match zs with
  | [v0] => M_X1_isSet v0 K m
  | _ => False
def M_X1_isTrialAhead_L1B (v0 : Int) (v1 : Int) (v2 : Int) (C2 : Int → am_M → Prop) (K : am_KK) (m : am_M) : Prop :=
  ((6 ≤ v2) →
  K 0 m) ∧ (¬ (6 ≤ v2) →
  ((0 : Int) ≤ v2 ∧ v2 < am_len (am_rfv v0 7)) ∧
  ((0 : Int) ≤ (w32 ((w32 (v1 * 6)) + v2)) ∧ (w32 ((w32 (v1 * 6)) + v2)) < am_len (am_rfv v0 6)) ∧
  (((m (am_rfv v0 7) v2) = (m (am_rfv v0 6) (w32 ((w32 (v1 * 6)) + v2)))) →
  ∀ v2_1 : Int, v2_1 = w32 (v2 + 1) →
  C2 v2_1 m) ∧ (¬ ((m (am_rfv v0 7) v2) = (m (am_rfv v0 6) (w32 ((w32 (v1 * 6)) + v2)))) →
  ((0 : Int) ≤ v2 ∧ v2 < am_len (am_rfv v0 7)) ∧
  ((0 : Int) ≤ (w32 ((w32 (v1 * 6)) + v2)) ∧ (w32 ((w32 (v1 * 6)) + v2)) < am_len (am_rfv v0 6)) ∧
  (((m (am_rfv v0 6) (w32 ((w32 (v1 * 6)) + v2))) ≤ (m (am_rfv v0 7) v2)) →
  K 0 m) ∧ (¬ ((m (am_rfv v0 6) (w32 ((w32 (v1 * 6)) + v2))) ≤ (m (am_rfv v0 7) v2)) →
  K 1 m)))
def M_X1_isTrialAhead_L1 (v0 : Int) (v1 : Int) (v2 : Int) (K : am_KK) (m : am_M) : Prop :=
  ∃ I : Nat → Int → am_M → Prop, (∃ j, I j v2 m) ∧ ∀ j v2 m, I j v2 m → M_X1_isTrialAhead_L1B v0 v1 v2 (fun v2' m' => ∃ j', j' < j ∧ I j' v2' m') K m
def M_X1_isTrialAhead (v0 : Int) (v1 : Int) (K : am_KK) (m : am_M) : Prop :=
  M_X1_isTrialAhead_L1 v0 v1 0 K m
def N_X1_isTrialAhead : am_PT := fun zs K m => match zs with
  | [v0, v1] => am_ob v0 1 ∧ M_X1_isTrialAhead v0 v1 K m
  | _ => False
def M_X1_tryShares_J7 (v0 : Int) (v1 : Int) (v5 : Int) (K : am_KK) (m : am_M) : Prop :=
  ((0 : Int) ≤ v1 ∧ v1 < am_len (am_rfv v0 5)) ∧
  ∀ m_1 : am_M, m_1 = am_st m (am_rfv v0 5) v1 v5 →
  ((0 : Int) ≤ 0 ∧ (0 : Int) ≤ (w32 (v1 * 6)) ∧ (0 : Int) ≤ 6 ∧ (0 : Int) + 6 ≤ am_len (am_rfv v0 7) ∧ ((w32 (v1 * 6)) : Int) + 6 ≤ am_len (am_rfv v0 6)) ∧
  ∀ m_2 : am_M, m_2 = am_cp m_1 (am_rfv v0 7) 0 (am_rfv v0 6) (w32 (v1 * 6)) 6 →
  K 0 m_2
def M_X1_tryShares_J6 (v0 : Int) (v1 : Int) (v2 : Int) (v3 : Int) (v4 : Int) (v5 : Int) (v6 : Int) (s0 : Int) (s1 : Int) (s2 : Int) (C130 : Int → am_M → Prop) (K : am_KK) (m : am_M) : Prop :=
  ((0 : Int) ≤ s1 ∧ s1 < am_len s0) ∧
  ∀ m_3 : am_M, m_3 = am_st m s0 s1 s2 →
  ∀ v6_4 : Int, v6_4 = w32 (v6 + 1) →
  C130 v6_4 m_3
def M_X1_tryShares_J5 (v0 : Int) (v1 : Int) (v2 : Int) (v3 : Int) (v4 : Int) (v5 : Int) (v6 : Int) (v7 : Int) (v8 : Int) (s0 : Int) (C130 : Int → am_M → Prop) (K : am_KK) (m : am_M) : Prop :=
  ((s0 = 0) →
  M_X1_tryShares_J6 v0 v1 v2 v3 v4 v5 v6 (am_rfv v0 7) v6 0 C130 K m) ∧ (¬ (s0 = 0) →
  ((0 : Int) ≤ (w32 ((w32 (v8 * 6)) + v6)) ∧ (w32 ((w32 (v8 * 6)) + v6)) < am_len (am_rfv v0 6)) ∧
  ((0 : Int) ≤ v7 ∧ v7 < am_len (am_rfv v0 2)) ∧
  M_X1_tryShares_J6 v0 v1 v2 v3 v4 v5 v6 (am_rfv v0 7) v6 (w32 ((m (am_rfv v0 6) (w32 ((w32 (v8 * 6)) + v6))) + (m (am_rfv v0 2) v7))) C130 K m)
def M_X1_tryShares_J4 (v0 : Int) (v1 : Int) (v2 : Int) (v3 : Int) (v4 : Int) (v5 : Int) (v6 : Int) (v7 : Int) (s0 : Int) (C130 : Int → am_M → Prop) (K : am_KK) (m : am_M) : Prop :=
  (((am_and (am_shr v1 v6) 1) ≠ 1) →
  M_X1_tryShares_J5 v0 v1 v2 v3 v4 v5 v6 v7 s0 0 C130 K m) ∧ (¬ ((am_and (am_shr v1 v6) 1) ≠ 1) →
  M_X1_tryShares_J5 v0 v1 v2 v3 v4 v5 v6 v7 s0 1 C130 K m)
def M_X1_tryShares_J3 (v0 : Int) (v1 : Int) (v2 : Int) (v3 : Int) (v4 : Int) (v5 : Int) (v6 : Int) (s0 : Int) (C130 : Int → am_M → Prop) (K : am_KK) (m : am_M) : Prop :=
  ((s0 ≠ 0) →
  ((s0 ≠ 1) →
  M_X1_tryShares_J4 v0 v1 v2 v3 v4 v5 v6 s0 v4 C130 K m) ∧ (¬ (s0 ≠ 1) →
  M_X1_tryShares_J4 v0 v1 v2 v3 v4 v5 v6 s0 v3 C130 K m)) ∧ (¬ (s0 ≠ 0) →
  M_X1_tryShares_J4 v0 v1 v2 v3 v4 v5 v6 s0 v2 C130 K m)
def M_X1_tryShares_L1B (v0 : Int) (v1 : Int) (v2 : Int) (v3 : Int) (v4 : Int) (v5 : Int) (v6 : Int) (C130 : Int → am_M → Prop) (K : am_KK) (m : am_M) : Prop :=
  ((6 ≤ v6) →
  ((0 : Int) ≤ v1 ∧ v1 < am_len (am_rfv v0 5)) ∧
  (((m (am_rfv v0 5) v1) = (-1)) →
  M_X1_tryShares_J7 v0 v1 v5 K m) ∧ (¬ ((m (am_rfv v0 5) v1) = (-1)) →
  ((0 : Int) ≤ v1 ∧ v1 < am_len (am_rfv v0 5)) ∧
  ((v5 < (m (am_rfv v0 5) v1)) →
  M_X1_tryShares_J7 v0 v1 v5 K m) ∧ (¬ (v5 < (m (am_rfv v0 5) v1)) →
  M_X1_isTrialAhead v0 v1 (fun r_5 m_6 =>
  ((r_5 = 0) →
  K 0 m_6) ∧ (¬ (r_5 = 0) →
  M_X1_tryShares_J7 v0 v1 v5 K m_6)) m))) ∧ (¬ (6 ≤ v6) →
  (((am_and (am_shr v2 v6) 1) ≠ 1) →
  (((am_and (am_shr v3 v6) 1) ≠ 1) →
  M_X1_tryShares_J3 v0 v1 v2 v3 v4 v5 v6 2 C130 K m) ∧ (¬ ((am_and (am_shr v3 v6) 1) ≠ 1) →
  M_X1_tryShares_J3 v0 v1 v2 v3 v4 v5 v6 1 C130 K m)) ∧ (¬ ((am_and (am_shr v2 v6) 1) ≠ 1) →
  M_X1_tryShares_J3 v0 v1 v2 v3 v4 v5 v6 0 C130 K m))
def M_X1_tryShares_L1 (v0 : Int) (v1 : Int) (v2 : Int) (v3 : Int) (v4 : Int) (v5 : Int) (v6 : Int) (K : am_KK) (m : am_M) : Prop :=
  ∃ I : Nat → Int → am_M → Prop, (∃ j, I j v6 m) ∧ ∀ j v6 m, I j v6 m → M_X1_tryShares_L1B v0 v1 v2 v3 v4 v5 v6 (fun v6' m' => ∃ j', j' < j ∧ I j' v6' m') K m
def M_X1_tryShares_J2 (v0 : Int) (v1 : Int) (v2 : Int) (v3 : Int) (v4 : Int) (v5 : Int) (K : am_KK) (m : am_M) : Prop :=
  M_X1_tryShares_L1 v0 v1 v2 v3 v4 v5 0 K m
def M_X1_tryShares_J1 (v0 : Int) (v1 : Int) (v2 : Int) (v3 : Int) (v4 : Int) (s0 : Int) (s1 : Int) (K : am_KK) (m : am_M) : Prop :=
  ∀ v5_8 : Int, v5_8 = w32 (s0 + s1) →
  ((0 : Int) ≤ v1 ∧ v1 < am_len (am_rfv v0 5)) ∧
  (((m (am_rfv v0 5) v1) = (-1)) →
  M_X1_tryShares_J2 v0 v1 v2 v3 v4 v5_8 K m) ∧ (¬ ((m (am_rfv v0 5) v1) = (-1)) →
  ((0 : Int) ≤ v1 ∧ v1 < am_len (am_rfv v0 5)) ∧
  ((v5_8 ≤ (m (am_rfv v0 5) v1)) →
  M_X1_tryShares_J2 v0 v1 v2 v3 v4 v5_8 K m) ∧ (¬ (v5_8 ≤ (m (am_rfv v0 5) v1)) →
  K 0 m))
def M_X1_tryShares (v0 : Int) (v1 : Int) (v2 : Int) (v3 : Int) (v4 : Int) (K : am_KK) (m : am_M) : Prop :=
  M_X1_isSet v1 (fun r_9 m_10 =>
  ((r_9 = 0) →
  K 0 m_10) ∧ (¬ (r_9 = 0) →
  M_X1_isSet v2 (fun r_12 m_13 =>
  ((r_12 = 0) →
  K 0 m_13) ∧ (¬ (r_12 = 0) →
  M_X1_isSet v3 (fun r_15 m_16 =>
  ((r_15 = 0) →
  K 0 m_16) ∧ (¬ (r_15 = 0) →
  M_X1_isSet v4 (fun r_18 m_19 =>
  ((r_18 ≠ 0) →
  ((0 : Int) ≤ v2 ∧ v2 < am_len (am_rfv v0 5)) ∧
  ((0 : Int) ≤ 0 ∧ 0 < am_len (am_rfv v0 2)) ∧
  ((0 : Int) ≤ v2 ∧ v2 < am_len (am_rfv v0 4)) ∧
  ((0 : Int) ≤ v3 ∧ v3 < am_len (am_rfv v0 5)) ∧
  ((0 : Int) ≤ 1 ∧ 1 < am_len (am_rfv v0 2)) ∧
  ((0 : Int) ≤ v3 ∧ v3 < am_len (am_rfv v0 4)) ∧
  ((0 : Int) ≤ v4 ∧ v4 < am_len (am_rfv v0 5)) ∧
  ((v4 ≠ 0) →
  ((0 : Int) ≤ 2 ∧ 2 < am_len (am_rfv v0 2)) ∧
  ((0 : Int) ≤ v4 ∧ v4 < am_len (am_rfv v0 4)) ∧
  M_X1_tryShares_J1 v0 v1 v2 v3 v4 (w32 ((w32 ((w32 ((w32 ((m_19 (am_rfv v0 5) v2) + (w32 ((m_19 (am_rfv v0 2) 0) * (m_19 (am_rfv v0 4) v2))))) + (m_19 (am_rfv v0 5) v3))) + (w32 ((m_19 (am_rfv v0 2) 1) * (m_19 (am_rfv v0 4) v3))))) + (m_19 (am_rfv v0 5) v4))) (w32 ((m_19 (am_rfv v0 2) 2) * (m_19 (am_rfv v0 4) v4))) K m_19) ∧ (¬ (v4 ≠ 0) →
  M_X1_tryShares_J1 v0 v1 v2 v3 v4 (w32 ((w32 ((w32 ((w32 ((m_19 (am_rfv v0 5) v2) + (w32 ((m_19 (am_rfv v0 2) 0) * (m_19 (am_rfv v0 4) v2))))) + (m_19 (am_rfv v0 5) v3))) + (w32 ((m_19 (am_rfv v0 2) 1) * (m_19 (am_rfv v0 4) v3))))) + (m_19 (am_rfv v0 5) v4))) 0 K m_19)) ∧ (¬ (r_18 ≠ 0) →
  K 0 m_19)) m_16)) m_13)) m_10)) m
def N_X1_tryShares : am_PT := fun zs K m => match zs with
  | [v0, v1, v2, v3, v4] => am_ob v0 1 ∧ M_X1_tryShares v0 v1 v2 v3 v4 K m
  | _ => False
def M_X1_share_J3 (v0 : Int) (v1 : Int) (v2 : Int) (C9 : Int → am_M → Prop) (K : am_KK) (m : am_M) : Prop :=
  ∀ v2_1 : Int, v2_1 = w32 (v2 + 1) →
  C9 v2_1 m
def M_X1_share_J2 (v0 : Int) (v1 : Int) (v2 : Int) (v3 : Int) (C16 : Int → am_M → Prop) (C9 : Int → am_M → Prop) (K : am_KK) (m : am_M) : Prop :=
  ∀ v3_2 : Int, v3_2 = w32 (v3 + 1) →
  C16 v3_2 m
def M_X1_share_J1 (v0 : Int) (v1 : Int) (v2 : Int) (v3 : Int) (v4 : Int) (C16 : Int → am_M → Prop) (C9 : Int → am_M → Prop) (K : am_KK) (m : am_M) : Prop :=
  M_X1_tryShares v0 v1 v2 v3 v4 (fun _ m_4 =>
  M_X1_share_J2 v0 v1 v2 v3 C16 C9 K m_4) m
def M_X1_share_L2B (v0 : Int) (v1 : Int) (v2 : Int) (v3 : Int) (C16 : Int → am_M → Prop) (C9 : Int → am_M → Prop) (K : am_KK) (m : am_M) : Prop :=
  ((v1 ≤ v3) →
  M_X1_share_J3 v0 v1 v2 C9 K m) ∧ (¬ (v1 ≤ v3) →
  M_X1_isPartOf v2 v1 (fun r_5 m_6 =>
  ((r_5 = 0) →
  M_X1_share_J3 v0 v1 v2 C9 K m_6) ∧ (¬ (r_5 = 0) →
  ∀ v4_8 : Int, v4_8 = am_and (am_and v1 (am_xor v2 (-1))) (am_xor v3 (-1)) →
  M_X1_isPartOf v3 (am_and v1 (am_xor v2 (-1))) (fun r_9 m_10 =>
  ((r_9 = 0) →
  M_X1_share_J2 v0 v1 v2 v3 C16 C9 K m_10) ∧ (¬ (r_9 = 0) →
  ((v4_8 = v1) →
  M_X1_share_J2 v0 v1 v2 v3 C16 C9 K m_10) ∧ (¬ (v4_8 = v1) →
  ((v4_8 = 0) →
  M_X1_share_J1 v0 v1 v2 v3 v4_8 C16 C9 K m_10) ∧ (¬ (v4_8 = 0) →
  (((m_10 v0 3) ≠ 3) →
  M_X1_share_J2 v0 v1 v2 v3 C16 C9 K m_10) ∧ (¬ ((m_10 v0 3) ≠ 3) →
  M_X1_share_J1 v0 v1 v2 v3 v4_8 C16 C9 K m_10))))) m_6)) m)
def M_X1_share_L2 (v0 : Int) (v1 : Int) (v2 : Int) (v3 : Int) (C9 : Int → am_M → Prop) (K : am_KK) (m : am_M) : Prop :=
  ∃ I : Nat → Int → am_M → Prop, (∃ j, I j v3 m) ∧ ∀ j v3 m, I j v3 m → M_X1_share_L2B v0 v1 v2 v3 (fun v3' m' => ∃ j', j' < j ∧ I j' v3' m') C9 K m
def M_X1_share_L1B (v0 : Int) (v1 : Int) (v2 : Int) (C9 : Int → am_M → Prop) (K : am_KK) (m : am_M) : Prop :=
  ((v1 ≤ v2) →
  K 0 m) ∧ (¬ (v1 ≤ v2) →
  M_X1_share_L2 v0 v1 v2 0 C9 K m)
def M_X1_share_L1 (v0 : Int) (v1 : Int) (v2 : Int) (K : am_KK) (m : am_M) : Prop :=
  ∃ I : Nat → Int → am_M → Prop, (∃ j, I j v2 m) ∧ ∀ j v2 m, I j v2 m → M_X1_share_L1B v0 v1 v2 (fun v2' m' => ∃ j', j' < j ∧ I j' v2' m') K m
def M_X1_share (v0 : Int) (v1 : Int) (K : am_KK) (m : am_M) : Prop :=
  ((0 : Int) ≤ v1 ∧ v1 < am_len (am_rfv v0 5)) ∧
  ∀ m_12 : am_M, m_12 = am_st m (am_rfv v0 5) v1 (-1) →
  M_X1_share_L1 v0 v1 0 K m_12
def N_X1_share : am_PT := fun zs K m => match zs with
  | [v0, v1] => am_ob v0 1 ∧ M_X1_share v0 v1 K m
  | _ => False
def M_X1_shortestLetter_L1B (v0 : Int) (v1 : Int) (v2 : Int) (C9 : Int → Int → am_M → Prop) (K : am_KK) (m : am_M) : Prop :=
  (((m v0 3) ≤ v2) →
  K v1 m) ∧ (¬ ((m v0 3) ≤ v2) →
  (((am_len (am_rfv v0 2)) ≤ v2) →
  K v1 m) ∧ (¬ ((am_len (am_rfv v0 2)) ≤ v2) →
  ((0 : Int) ≤ v2 ∧ v2 < am_len (am_rfv v0 2)) ∧
  ∀ v1_1 : Int, v1_1 = am_min v1 (m (am_rfv v0 2) v2) →
  ∀ v2_2 : Int, v2_2 = w32 (v2 + 1) →
  C9 v1_1 v2_2 m))
def M_X1_shortestLetter_L1 (v0 : Int) (v1 : Int) (v2 : Int) (K : am_KK) (m : am_M) : Prop :=
  ∃ I : Nat → Int → Int → am_M → Prop, (∃ j, I j v1 v2 m) ∧ ∀ j v1 v2 m, I j v1 v2 m → M_X1_shortestLetter_L1B v0 v1 v2 (fun v1' v2' m' => ∃ j', j' < j ∧ I j' v1' v2' m') K m
def M_X1_shortestLetter (v0 : Int) (K : am_KK) (m : am_M) : Prop :=
  ((0 : Int) ≤ 0 ∧ 0 < am_len (am_rfv v0 2)) ∧
  ∀ v1_3 : Int, v1_3 = m (am_rfv v0 2) 0 →
  M_X1_shortestLetter_L1 v0 v1_3 1 K m
def N_X1_shortestLetter : am_PT := fun zs K m => match zs with
  | [v0] => am_ob v0 1 ∧ M_X1_shortestLetter v0 K m
  | _ => False
def M_X1_find_J2 (v0 : Int) (K : am_KK) (m : am_M) : Prop :=
  (((m v0 1) ≠ 1) →
  K 1 m) ∧ (¬ ((m v0 1) ≠ 1) →
  M_X1_shortestLetter v0 (fun r_1 m_2 =>
  ((0 : Int) ≤ 6 ∧ 6 < am_len (am_rfv v0 6)) ∧
  ∀ m_3 : am_M, m_3 = am_st m_2 (am_rfv v0 6) 6 r_1 →
  ((0 : Int) ≤ 1 ∧ 1 < am_len (am_rfv v0 4)) ∧
  M_X1_shortestLetter v0 (fun r_4 m_5 =>
  ((0 : Int) ≤ 1 ∧ 1 < am_len (am_rfv v0 5)) ∧
  ∀ m_6 : am_M, m_6 = am_st m_5 (am_rfv v0 5) 1 (w32 ((m_3 (am_rfv v0 4) 1) * r_4)) →
  K 1 m_6) m_3) m)
def M_X1_find_J1 (v0 : Int) (v1 : Int) (v3 : Int) (C21 : Int → am_M → Prop) (K : am_KK) (m : am_M) : Prop :=
  ∀ v3_7 : Int, v3_7 = w32 (v3 + 1) →
  C21 v3_7 m
def M_X1_find_L1B (v0 : Int) (v1 : Int) (v3 : Int) (C21 : Int → am_M → Prop) (K : am_KK) (m : am_M) : Prop :=
  (((am_shl 1 (m v0 1)) ≤ v3) →
  M_X1_find_J2 v0 K m) ∧ (¬ ((am_shl 1 (m v0 1)) ≤ v3) →
  ((64 ≤ v3) →
  M_X1_find_J2 v0 K m) ∧ (¬ (64 ≤ v3) →
  M_X1_weightOf v0 v1 v3 (fun r_8 m_9 =>
  ((0 : Int) ≤ v3 ∧ v3 < am_len (am_rfv v0 4)) ∧
  ∀ m_10 : am_M, m_10 = am_st m_9 (am_rfv v0 4) v3 r_8 →
  ((0 : Int) ≤ v3 ∧ v3 < am_len (am_rfv v0 5)) ∧
  ∀ m_11 : am_M, m_11 = am_st m_10 (am_rfv v0 5) v3 0 →
  M_X1_clearLengths v0 v3 (fun _ m_13 =>
  M_J6_bitCount_0f7a4 v3 (fun r_14 m_15 =>
  ((r_14 ≤ 1) →
  M_X1_find_J1 v0 v1 v3 C21 K m_15) ∧ (¬ (r_14 ≤ 1) →
  M_X1_share v0 v3 (fun _ m_17 =>
  M_X1_find_J1 v0 v1 v3 C21 K m_17) m_15)) m_13) m_11) m))
def M_X1_find_L1 (v0 : Int) (v1 : Int) (v3 : Int) (K : am_KK) (m : am_M) : Prop :=
  ∃ I : Nat → Int → am_M → Prop, (∃ j, I j v3 m) ∧ ∀ j v3 m, I j v3 m → M_X1_find_L1B v0 v1 v3 (fun v3' m' => ∃ j', j' < j ∧ I j' v3' m') K m
def M_X1_find (v0 : Int) (v1 : Int) (v2 : Int) (K : am_KK) (m : am_M) : Prop :=
  M_X1_takeLetters v0 v1 v2 (fun r_18 m_19 =>
  ((r_18 = 0) →
  K 0 m_19) ∧ (¬ (r_18 = 0) →
  M_X1_takeAsked v0 v1 (fun r_21 m_22 =>
  ((r_21 ≠ 0) →
  M_X1_find_L1 v0 v1 0 K m_22) ∧ (¬ (r_21 ≠ 0) →
  K 0 m_22)) m_19)) m
def N_X1_find : am_PT := fun zs K m => match zs with
  | [v0, v1, v2] => am_ob v0 1 ∧ am_ob v1 0 ∧ M_X1_find v0 v1 v2 K m
  | _ => False
def M_X1_total (v0 : Int) (K : am_KK) (m : am_M) : Prop :=
  M_X11_within (m v0 1) 0 6 (fun r_1 m_2 =>
  ((r_1 = 0) →
  K (-1) m_2) ∧ (¬ (r_1 = 0) →
  ((0 : Int) ≤ (w32 ((am_shl 1 (m_2 v0 1)) - 1)) ∧ (w32 ((am_shl 1 (m_2 v0 1)) - 1)) < am_len (am_rfv v0 5)) ∧
  K (m_2 (am_rfv v0 5) (w32 ((am_shl 1 (m_2 v0 1)) - 1))) m_2)) m
def N_X1_total : am_PT := fun zs K m => match zs with
  | [v0] => am_ob v0 1 ∧ M_X1_total v0 K m
  | _ => False
def M_X1_lengthFor_L1B (v0 : Int) (v1 : Int) (v2 : Int) (C2 : Int → am_M → Prop) (K : am_KK) (m : am_M) : Prop :=
  (((m v0 1) ≤ v2) →
  K (-1) m) ∧ (¬ ((m v0 1) ≤ v2) →
  ((6 < (m v0 1)) →
  K (-1) m) ∧ (¬ (6 < (m v0 1)) →
  ((0 : Int) ≤ v2 ∧ v2 < am_len (am_rfv v0 0)) ∧
  (((m (am_rfv v0 0) v2) ≠ v1) →
  ∀ v2_1 : Int, v2_1 = w32 (v2 + 1) →
  C2 v2_1 m) ∧ (¬ ((m (am_rfv v0 0) v2) ≠ v1) →
  ((0 : Int) ≤ (w32 ((w32 ((w32 ((am_shl 1 (m v0 1)) - 1)) * 6)) + v2)) ∧ (w32 ((w32 ((w32 ((am_shl 1 (m v0 1)) - 1)) * 6)) + v2)) < am_len (am_rfv v0 6)) ∧
  K (m (am_rfv v0 6) (w32 ((w32 ((w32 ((am_shl 1 (m v0 1)) - 1)) * 6)) + v2))) m)))
def M_X1_lengthFor_L1 (v0 : Int) (v1 : Int) (v2 : Int) (K : am_KK) (m : am_M) : Prop :=
  ∃ I : Nat → Int → am_M → Prop, (∃ j, I j v2 m) ∧ ∀ j v2 m, I j v2 m → M_X1_lengthFor_L1B v0 v1 v2 (fun v2' m' => ∃ j', j' < j ∧ I j' v2' m') K m
def M_X1_lengthFor (v0 : Int) (v1 : Int) (K : am_KK) (m : am_M) : Prop :=
  M_X1_lengthFor_L1 v0 v1 0 K m
def N_X1_lengthFor : am_PT := fun zs K m => match zs with
  | [v0, v1] => am_ob v0 1 ∧ M_X1_lengthFor v0 v1 K m
  | _ => False
def M_X9_waits (v0 : Int) (v1 : Int) (K : am_KK) (m : am_M) : Prop :=
  M_X7_get (am_rfv v0 0) v1 5 (fun r_1 m_2 =>
  ((r_1 ≠ 0) →
  K 0 m_2) ∧ (¬ (r_1 ≠ 0) →
  K 1 m_2)) m
def N_X9_waits : am_PT := fun zs K m => match zs with
  | [v0, v1] => am_ob v0 9 ∧ M_X9_waits v0 v1 K m
  | _ => False
def M_X2_isForeseen (v0 : Int) (v1 : Int) (K : am_KK) (m : am_M) : Prop :=
  M_X11_within v0 0 23 (fun r_1 m_2 =>
  ((r_1 = 0) →
  K 0 m_2) ∧ (¬ (r_1 = 0) →
  M_X11_within v1 0 20 (fun r_4 m_5 =>
  ((r_4 = 0) →
  K 0 m_5) ∧ (¬ (r_4 = 0) →
  K 1 m_5)) m_2)) m
def N_X2_isForeseen : am_PT := fun zs K m => match zs with
  | [v0, v1] => M_X2_isForeseen v0 v1 K m
  | _ => False
def M_X3_look (v0 : Int) (v1 : Int) (v2 : Int) (v3 : Int) (v4 : Int) (K : am_KK) (m : am_M) : Prop :=
  M_X7_get (am_rfv v2 0) v3 2 (fun r_1 m_2 =>
  ((0 : Int) ≤ 0 ∧ 0 < am_len (am_rfv v0 0)) ∧
  ∀ m_3 : am_M, m_3 = am_st m_2 (am_rfv v0 0) 0 r_1 →
  M_X7_get (am_rfv v2 0) v3 3 (fun r_4 m_5 =>
  ((0 : Int) ≤ 1 ∧ 1 < am_len (am_rfv v0 0)) ∧
  ∀ m_6 : am_M, m_6 = am_st m_5 (am_rfv v0 0) 1 r_4 →
  M_X7_get (am_rfv v2 0) v3 0 (fun r_7 m_8 =>
  ((0 : Int) ≤ 2 ∧ 2 < am_len (am_rfv v0 0)) ∧
  ∀ m_9 : am_M, m_9 = am_st m_8 (am_rfv v0 0) 2 r_7 →
  ((0 : Int) ≤ 2 ∧ 2 < am_len (am_rfv v0 0)) ∧
  M_X7_get (am_rfv v1 2) (m_9 (am_rfv v0 0) 2) 0 (fun r_10 m_11 =>
  ((0 : Int) ≤ 3 ∧ 3 < am_len (am_rfv v0 0)) ∧
  ∀ m_12 : am_M, m_12 = am_st m_11 (am_rfv v0 0) 3 r_10 →
  M_X7_get (am_rfv v2 0) v3 1 (fun r_13 m_14 =>
  ((0 : Int) ≤ 4 ∧ 4 < am_len (am_rfv v0 0)) ∧
  ∀ m_15 : am_M, m_15 = am_st m_14 (am_rfv v0 0) 4 r_13 →
  M_X7_get (am_rfv v2 0) v3 4 (fun r_16 m_17 =>
  ((0 : Int) ≤ 5 ∧ 5 < am_len (am_rfv v0 0)) ∧
  ∀ m_18 : am_M, m_18 = am_st m_17 (am_rfv v0 0) 5 (w32 (v4 - r_16)) →
  ((0 : Int) ≤ 6 ∧ 6 < am_len (am_rfv v0 0)) ∧
  ∀ m_19 : am_M, m_19 = am_st m_18 (am_rfv v0 0) 6 v4 →
  M_X0_term v1 3 (fun r_20 m_21 =>
  ((0 : Int) ≤ 7 ∧ 7 < am_len (am_rfv v0 0)) ∧
  ∀ m_22 : am_M, m_22 = am_st m_21 (am_rfv v0 0) 7 r_20 →
  K 0 m_22) m_19) m_15) m_12) m_9) m_6) m_3) m
def N_X3_look : am_PT := fun zs K m => match zs with
  | [v0, v1, v2, v3, v4] => am_ob v0 3 ∧ am_ob v1 0 ∧ am_ob v2 9 ∧ M_X3_look v0 v1 v2 v3 v4 K m
  | _ => False
def M_X6_join_J4 (K : am_KK) (m : am_M) : Prop :=
  K (-2000000000) m
def M_X6_join_J3 (v5 : Int) (K : am_KK) (m : am_M) : Prop :=
  ((0 < (am_cmp v5 1000000000)) →
  M_X6_join_J4 K m) ∧ (¬ (0 < (am_cmp v5 1000000000)) →
  ((0 ≤ (am_cmp v5 (-1000000000))) →
  K (am_l2i v5) m) ∧ (¬ (0 ≤ (am_cmp v5 (-1000000000))) →
  M_X6_join_J4 K m))
def M_X6_join_J2 (s0 : Int) (K : am_KK) (m : am_M) : Prop :=
  M_X6_join_J3 s0 K m
def M_X6_join_J1 (s0 : Int) (K : am_KK) (m : am_M) : Prop :=
  M_X6_join_J3 s0 K m
def M_X6_join (v0 : Int) (v1 : Int) (v3 : Int) (K : am_KK) (m : am_M) : Prop :=
  (v0 = 5 →
  ((0 ≤ (am_cmp v1 v3)) →
  K 0 m) ∧ (¬ (0 ≤ (am_cmp v1 v3)) →
  K 1 m)) ∧ (v0 = 6 →
  (((am_cmp v1 v3) ≤ 0) →
  K 0 m) ∧ (¬ ((am_cmp v1 v3) ≤ 0) →
  K 1 m)) ∧ (v0 = 7 →
  (((am_cmp v1 v3) ≠ 0) →
  K 0 m) ∧ (¬ ((am_cmp v1 v3) ≠ 0) →
  K 1 m)) ∧ (v0 = 8 →
  ∀ v5_1 : Int, v5_1 = w64 (v1 + v3) →
  M_X6_join_J3 v5_1 K m) ∧ (v0 = 9 →
  ∀ v5_2 : Int, v5_2 = w64 (v1 - v3) →
  M_X6_join_J3 v5_2 K m) ∧ (v0 = 10 →
  ∀ v5_3 : Int, v5_3 = w64 (v1 * v3) →
  M_X6_join_J3 v5_3 K m) ∧ (v0 = 11 →
  (((am_cmp v3 0) ≠ 0) →
  ((v3 : Int) ≠ 0) ∧
  M_X6_join_J1 (w64 (Int.tdiv v1 v3)) K m) ∧ (¬ ((am_cmp v3 0) ≠ 0) →
  M_X6_join_J1 (-2000000000) K m)) ∧ (v0 = 12 →
  (((am_cmp v3 0) ≠ 0) →
  ((v3 : Int) ≠ 0) ∧
  M_X6_join_J2 (w64 (Int.tmod v1 v3)) K m) ∧ (¬ ((am_cmp v3 0) ≠ 0) →
  M_X6_join_J2 (-2000000000) K m)) ∧ (v0 < 5 ∨ 12 < v0 →
  M_X6_join_J3 (-2000000000) K m)
def N_X6_join : am_PT := fun zs K m => match zs with
  | [v0, v1, v3] => M_X6_join v0 v1 v3 K m
  | _ => False
def M_X6_value_J8 (v0 : Int) (v1 : Int) (v4 : Int) (v6 : Int) (v7 : Int) (v8 : Int) (C56 : Int → Int → am_M → Prop) (K : am_KK) (m : am_M) : Prop :=
  ∀ v8_1 : Int, v8_1 = w32 (v8 + 1) →
  C56 v7 v8_1 m
def M_X6_value_J7 (v0 : Int) (v1 : Int) (v4 : Int) (v6 : Int) (v7 : Int) (v8 : Int) (s0 : Int) (C56 : Int → Int → am_M → Prop) (K : am_KK) (m : am_M) : Prop :=
  ((s0 ≠ (-2000000000)) →
  ((0 : Int) ≤ (w32 (v7 - 1)) ∧ (w32 (v7 - 1)) < am_len (am_rfv v0 0)) ∧
  ∀ m_2 : am_M, m_2 = am_st m (am_rfv v0 0) (w32 (v7 - 1)) s0 →
  M_X6_value_J8 v0 v1 v4 v6 v7 v8 C56 K m_2) ∧ (¬ (s0 ≠ (-2000000000)) →
  K (-2000000000) m)
def M_X6_value_J6 (v0 : Int) (v1 : Int) (v4 : Int) (v6 : Int) (v7 : Int) (v8 : Int) (v10 : Int) (s0 : Int) (s1 : Int) (C56 : Int → Int → am_M → Prop) (K : am_KK) (m : am_M) : Prop :=
  ((s0 ≠ s1) →
  ∀ v7_3 : Int, v7_3 = w32 (v7 + (-1)) →
  M_X6_value_J8 v0 v1 v4 v6 v7_3 v8 C56 K m) ∧ (¬ (s0 ≠ s1) →
  ∀ v8_4 : Int, v8_4 = w32 (v8 + v10) →
  M_X6_value_J8 v0 v1 v4 v6 v7 v8_4 C56 K m)
def M_X6_value_J5 (v0 : Int) (v1 : Int) (v4 : Int) (v6 : Int) (v7 : Int) (v8 : Int) (v9 : Int) (v10 : Int) (C56 : Int → Int → am_M → Prop) (K : am_KK) (m : am_M) : Prop :=
  ((0 : Int) ≤ (w32 (v7 - 1)) ∧ (w32 (v7 - 1)) < am_len (am_rfv v0 0)) ∧
  ((v9 ≠ 4) →
  M_X6_value_J6 v0 v1 v4 v6 v7 v8 v10 (m (am_rfv v0 0) (w32 (v7 - 1))) 0 C56 K m) ∧ (¬ (v9 ≠ 4) →
  M_X6_value_J6 v0 v1 v4 v6 v7 v8 v10 (m (am_rfv v0 0) (w32 (v7 - 1))) 1 C56 K m)
def M_X6_value_J4 (v0 : Int) (v1 : Int) (v4 : Int) (v6 : Int) (v7 : Int) (v8 : Int) (s0 : Int) (s1 : Int) (s2 : Int) (C56 : Int → Int → am_M → Prop) (K : am_KK) (m : am_M) : Prop :=
  ((0 : Int) ≤ s1 ∧ s1 < am_len s0) ∧
  ∀ m_5 : am_M, m_5 = am_st m s0 s1 s2 →
  ∀ v7_6 : Int, v7_6 = w32 (v7 + 1) →
  M_X6_value_J8 v0 v1 v4 v6 v7_6 v8 C56 K m_5
def M_X6_value_J3 (v0 : Int) (v1 : Int) (v4 : Int) (v6 : Int) (v7 : Int) (v8 : Int) (v9 : Int) (v10 : Int) (C56 : Int → Int → am_M → Prop) (K : am_KK) (m : am_M) : Prop :=
  ((v9 ≠ 0) →
  ((0 : Int) ≤ v10 ∧ v10 < am_len v4) ∧
  M_X6_value_J4 v0 v1 v4 v6 v7 v8 (am_rfv v0 0) v7 (m v4 v10) C56 K m) ∧ (¬ (v9 ≠ 0) →
  M_X6_value_J4 v0 v1 v4 v6 v7 v8 (am_rfv v0 0) v7 v10 C56 K m)
def M_X6_value_J2 (K : am_KK) (m : am_M) : Prop :=
  K (-2000000000) m
def M_X6_value_J1 (v0 : Int) (v1 : Int) (v4 : Int) (v6 : Int) (v7 : Int) (v8 : Int) (v9 : Int) (v10 : Int) (C56 : Int → Int → am_M → Prop) (K : am_KK) (m : am_M) : Prop :=
  (((am_len (am_rfv v0 0)) ≤ v7) →
  M_X6_value_J2 K m) ∧ (¬ ((am_len (am_rfv v0 0)) ≤ v7) →
  ((v9 ≠ 1) →
  M_X6_value_J3 v0 v1 v4 v6 v7 v8 v9 v10 C56 K m) ∧ (¬ (v9 ≠ 1) →
  ((v10 < (am_len v4)) →
  M_X6_value_J3 v0 v1 v4 v6 v7 v8 v9 v10 C56 K m) ∧ (¬ (v10 < (am_len v4)) →
  M_X6_value_J2 K m)))
def M_X6_value_L1B (v0 : Int) (v1 : Int) (v4 : Int) (v6 : Int) (v7 : Int) (v8 : Int) (C56 : Int → Int → am_M → Prop) (K : am_KK) (m : am_M) : Prop :=
  ((v6 ≤ v8) →
  ((v7 ≠ 1) →
  K (-2000000000) m) ∧ (¬ (v7 ≠ 1) →
  ((0 : Int) ≤ 0 ∧ 0 < am_len (am_rfv v0 0)) ∧
  K (m (am_rfv v0 0) 0) m)) ∧ (¬ (v6 ≤ v8) →
  ((0 : Int) ≤ v8 ∧ v8 < am_len (am_rfv v1 0)) ∧
  ∀ v9_7 : Int, v9_7 = w32 (Int.tdiv (m (am_rfv v1 0) v8) 2048) →
  ((0 : Int) ≤ v8 ∧ v8 < am_len (am_rfv v1 0)) ∧
  ∀ v10_8 : Int, v10_8 = w32 (Int.tmod (m (am_rfv v1 0) v8) 2048) →
  ((v9_7 = 0) →
  M_X6_value_J1 v0 v1 v4 v6 v7 v8 v9_7 v10_8 C56 K m) ∧ (¬ (v9_7 = 0) →
  ((v9_7 ≠ 1) →
  ((1 ≤ v7) →
  ((v9_7 ≠ 2) →
  ((v9_7 = 3) →
  M_X6_value_J5 v0 v1 v4 v6 v7 v8 v9_7 v10_8 C56 K m) ∧ (¬ (v9_7 = 3) →
  ((v9_7 ≠ 4) →
  ∀ v7_9 : Int, v7_9 = w32 (v7 + (-1)) →
  ((1 ≤ v7_9) →
  ((0 : Int) ≤ (w32 (v7_9 - 1)) ∧ (w32 (v7_9 - 1)) < am_len (am_rfv v0 0)) ∧
  ((0 : Int) ≤ v7_9 ∧ v7_9 < am_len (am_rfv v0 0)) ∧
  M_X6_join v9_7 (m (am_rfv v0 0) (w32 (v7_9 - 1))) (m (am_rfv v0 0) v7_9) (fun r_10 m_11 =>
  M_X6_value_J7 v0 v1 v4 v6 v7_9 v8 r_10 C56 K m_11) m) ∧ (¬ (1 ≤ v7_9) →
  M_X6_value_J7 v0 v1 v4 v6 v7_9 v8 (-2000000000) C56 K m)) ∧ (¬ (v9_7 ≠ 4) →
  M_X6_value_J5 v0 v1 v4 v6 v7 v8 v9_7 v10_8 C56 K m))) ∧ (¬ (v9_7 ≠ 2) →
  ((0 : Int) ≤ (w32 (v7 - 1)) ∧ (w32 (v7 - 1)) < am_len (am_rfv v0 0)) ∧
  ((0 : Int) ≤ (w32 (v7 - 1)) ∧ (w32 (v7 - 1)) < am_len (am_rfv v0 0)) ∧
  ∀ m_12 : am_M, m_12 = am_st m (am_rfv v0 0) (w32 (v7 - 1)) (w32 (1 - (m (am_rfv v0 0) (w32 (v7 - 1))))) →
  M_X6_value_J8 v0 v1 v4 v6 v7 v8 C56 K m_12)) ∧ (¬ (1 ≤ v7) →
  K (-2000000000) m)) ∧ (¬ (v9_7 ≠ 1) →
  M_X6_value_J1 v0 v1 v4 v6 v7 v8 v9_7 v10_8 C56 K m)))
def M_X6_value_L1 (v0 : Int) (v1 : Int) (v4 : Int) (v6 : Int) (v7 : Int) (v8 : Int) (K : am_KK) (m : am_M) : Prop :=
  ∃ I : Nat → Int → Int → am_M → Prop, (∃ j, I j v7 v8 m) ∧ ∀ j v7 v8 m, I j v7 v8 m → M_X6_value_L1B v0 v1 v4 v6 v7 v8 (fun v7' v8' m' => ∃ j', j' < j ∧ I j' v7' v8' m') K m
def M_X6_value (v0 : Int) (v1 : Int) (v2 : Int) (v3 : Int) (v4 : Int) (K : am_KK) (m : am_M) : Prop :=
  M_X7_get (am_rfv v1 2) v2 (w32 (2 + v3)) (fun r_13 m_14 =>
  M_X7_get (am_rfv v1 2) v2 (w32 ((w32 (2 + v3)) + 1)) (fun r_15 m_16 =>
  ∀ v6_17 : Int, v6_17 = am_min r_15 (m_16 v1 1) →
  ((r_13 < 0) →
  K 1 m_16) ∧ (¬ (r_13 < 0) →
  ((r_13 < v6_17) →
  M_X6_value_L1 v0 v1 v4 v6_17 0 r_13 K m_16) ∧ (¬ (r_13 < v6_17) →
  K 1 m_16))) m_14) m
def N_X6_value : am_PT := fun zs K m => match zs with
  | [v0, v1, v2, v3, v4] => am_ob v0 6 ∧ am_ob v1 4 ∧ am_ar v4 20 ∧ M_X6_value v0 v1 v2 v3 v4 K m
  | _ => False
def M_X3_tells_J1 (v0 : Int) (v2 : Int) (v3 : Int) (v4 : Int) (v5 : Int) (v6 : Int) (v7 : Int) (C25 : Int → am_M → Prop) (K : am_KK) (m : am_M) : Prop :=
  ∀ v7_1 : Int, v7_1 = w32 (v7 + (-1)) →
  C25 v7_1 m
def M_X3_tells_L1B (v0 : Int) (v2 : Int) (v3 : Int) (v4 : Int) (v5 : Int) (v6 : Int) (v7 : Int) (C25 : Int → am_M → Prop) (K : am_KK) (m : am_M) : Prop :=
  ((v7 < 0) →
  K v3 m) ∧ (¬ (v7 < 0) →
  (am_ob v6 4) ∧
  M_X7_get (am_rfv v6 2) v7 0 (fun r_3 m_4 =>
  ((r_3 ≠ v2) →
  M_X3_tells_J1 v0 v2 v3 v4 v5 v6 v7 C25 K m_4) ∧ (¬ (r_3 ≠ v2) →
  M_X6_value (am_rfv v0 1) v6 v7 3 (am_rfv v0 0) (fun r_5 m_6 =>
  ((r_5 ≠ 1) →
  M_X3_tells_J1 v0 v2 v3 v4 v5 v6 v7 C25 K m_6) ∧ (¬ (r_5 ≠ 1) →
  M_X6_value (am_rfv v0 1) v6 v7 0 (am_rfv v0 0) (fun r_7 m_8 =>
  ((r_7 = (-2000000000)) →
  M_X3_tells_J1 v0 v2 v3 v4 v5 v6 v7 C25 K m_8) ∧ (¬ (r_7 = (-2000000000)) →
  K (am_max v4 (am_min v5 r_7)) m_8)) m_6)) m_4)) m)
def M_X3_tells_L1 (v0 : Int) (v2 : Int) (v3 : Int) (v4 : Int) (v5 : Int) (v6 : Int) (v7 : Int) (K : am_KK) (m : am_M) : Prop :=
  ∃ I : Nat → Int → am_M → Prop, (∃ j, I j v7 m) ∧ ∀ j v7 m, I j v7 m → M_X3_tells_L1B v0 v2 v3 v4 v5 v6 v7 (fun v7' m' => ∃ j', j' < j ∧ I j' v7' m') K m
def M_X3_tells (v0 : Int) (v1 : Int) (v2 : Int) (v3 : Int) (v4 : Int) (v5 : Int) (K : am_KK) (m : am_M) : Prop :=
  M_X0_ruling v1 (fun r_9 m_10 =>
  ((0 ≤ r_9) →
  (am_ob r_9 4) ∧
  ∀ v7_12 : Int, v7_12 = w32 ((m_10 (am_rfv r_9 2) 2) - 1) →
  M_X3_tells_L1 v0 v2 v3 v4 v5 r_9 v7_12 K m_10) ∧ (¬ (0 ≤ r_9) →
  K v3 m_10)) m
def N_X3_tells : am_PT := fun zs K m => match zs with
  | [v0, v1, v2, v3, v4, v5] => am_ob v0 3 ∧ am_ob v1 0 ∧ M_X3_tells v0 v1 v2 v3 v4 v5 K m
  | _ => False
def M_X2_foresee_J2 (s0 : Int) (s1 : Int) (s2 : Int) (K : am_KK) (m : am_M) : Prop :=
  ((0 : Int) ≤ s1 ∧ s1 < am_len s0) ∧
  ∀ m_1 : am_M, m_1 = am_st m s0 s1 s2 →
  K 0 m_1
def M_X2_foresee_J1 (v0 : Int) (v1 : Int) (v2 : Int) (v3 : Int) (v4 : Int) (s0 : Int) (K : am_KK) (m : am_M) : Prop :=
  M_X7_get (am_rfv v2 0) v3 2 (fun r_2 m_3 =>
  ((s0 = 0) →
  M_X3_tells (am_rfv v0 1) v1 0 r_2 (-9999) 9999 (fun r_4 m_5 =>
  M_X2_foresee_J2 (am_rfv v0 0) (w32 ((w32 (v4 * 24)) + v3)) r_4 K m_5) m_3) ∧ (¬ (s0 = 0) →
  M_X2_foresee_J2 (am_rfv v0 0) (w32 ((w32 (v4 * 24)) + v3)) 1000000 K m_3)) m
def M_X2_foresee (v0 : Int) (v1 : Int) (v2 : Int) (v3 : Int) (v4 : Int) (v5 : Int) (K : am_KK) (m : am_M) : Prop :=
  M_X2_isForeseen v3 v4 (fun r_6 m_7 =>
  ((r_6 ≠ 0) →
  M_X3_look (am_rfv v0 1) v1 v2 v3 v5 (fun _ m_10 =>
  M_X3_tells (am_rfv v0 1) v1 2 0 0 1 (fun r_11 m_12 =>
  ((r_11 ≠ 1) →
  M_X2_foresee_J1 v0 v1 v2 v3 v4 0 K m_12) ∧ (¬ (r_11 ≠ 1) →
  M_X2_foresee_J1 v0 v1 v2 v3 v4 1 K m_12)) m_10) m_7) ∧ (¬ (r_6 ≠ 0) →
  K 0 m_7)) m
def N_X2_foresee : am_PT := fun zs K m => match zs with
  | [v0, v1, v2, v3, v4, v5] => am_ob v0 2 ∧ am_ob v1 0 ∧ am_ob v2 9 ∧ M_X2_foresee v0 v1 v2 v3 v4 v5 K m
  | _ => False
def M_X2_foreseeAll_J1 (v0 : Int) (v1 : Int) (v2 : Int) (v3 : Int) (v4 : Int) (v5 : Int) (C12 : Int → am_M → Prop) (C3 : Int → am_M → Prop) (K : am_KK) (m : am_M) : Prop :=
  ∀ v5_1 : Int, v5_1 = w32 (v5 + 1) →
  C12 v5_1 m
def M_X2_foreseeAll_L2B (v0 : Int) (v1 : Int) (v2 : Int) (v3 : Int) (v4 : Int) (v5 : Int) (C12 : Int → am_M → Prop) (C3 : Int → am_M → Prop) (K : am_KK) (m : am_M) : Prop :=
  (((m (am_rfv v2 0) 2) ≤ v5) →
  ∀ v4_2 : Int, v4_2 = w32 (v4 + 1) →
  C3 v4_2 m) ∧ (¬ ((m (am_rfv v2 0) 2) ≤ v5) →
  M_X9_waits v2 v5 (fun r_3 m_4 =>
  ((r_3 = 0) →
  M_X2_foreseeAll_J1 v0 v1 v2 v3 v4 v5 C12 C3 K m_4) ∧ (¬ (r_3 = 0) →
  M_X2_foresee v0 v1 v2 v5 v4 (w32 ((m_4 v2 1) + v4)) (fun _ m_7 =>
  M_X2_foreseeAll_J1 v0 v1 v2 v3 v4 v5 C12 C3 K m_7) m_4)) m)
def M_X2_foreseeAll_L2 (v0 : Int) (v1 : Int) (v2 : Int) (v3 : Int) (v4 : Int) (v5 : Int) (C3 : Int → am_M → Prop) (K : am_KK) (m : am_M) : Prop :=
  ∃ I : Nat → Int → am_M → Prop, (∃ j, I j v5 m) ∧ ∀ j v5 m, I j v5 m → M_X2_foreseeAll_L2B v0 v1 v2 v3 v4 v5 (fun v5' m' => ∃ j', j' < j ∧ I j' v5' m') C3 K m
def M_X2_foreseeAll_L1B (v0 : Int) (v1 : Int) (v2 : Int) (v3 : Int) (v4 : Int) (C3 : Int → am_M → Prop) (K : am_KK) (m : am_M) : Prop :=
  ((v3 < v4) →
  K 0 m) ∧ (¬ (v3 < v4) →
  M_X2_foreseeAll_L2 v0 v1 v2 v3 v4 0 C3 K m)
def M_X2_foreseeAll_L1 (v0 : Int) (v1 : Int) (v2 : Int) (v3 : Int) (v4 : Int) (K : am_KK) (m : am_M) : Prop :=
  ∃ I : Nat → Int → am_M → Prop, (∃ j, I j v4 m) ∧ ∀ j v4 m, I j v4 m → M_X2_foreseeAll_L1B v0 v1 v2 v3 v4 (fun v4' m' => ∃ j', j' < j ∧ I j' v4' m') K m
def M_X2_foreseeAll (v0 : Int) (v1 : Int) (v2 : Int) (v3 : Int) (K : am_KK) (m : am_M) : Prop :=
  M_X2_foreseeAll_L1 v0 v1 v2 v3 1 K m
def N_X2_foreseeAll : am_PT := fun zs K m => match zs with
  | [v0, v1, v2, v3] => am_ob v0 2 ∧ am_ob v1 0 ∧ am_ob v2 9 ∧ M_X2_foreseeAll v0 v1 v2 v3 K m
  | _ => False
def M_X2_lowest_J1 (v0 : Int) (v1 : Int) (v2 : Int) (v3 : Int) (v4 : Int) (v5 : Int) (C9 : Int → Int → Int → am_M → Prop) (K : am_KK) (m : am_M) : Prop :=
  ∀ v5_1 : Int, v5_1 = w32 (v5 + 1) →
  C9 v3 v4 v5_1 m
def M_X2_lowest_L1B (v0 : Int) (v1 : Int) (v2 : Int) (v3 : Int) (v4 : Int) (v5 : Int) (C9 : Int → Int → Int → am_M → Prop) (K : am_KK) (m : am_M) : Prop :=
  (((m (am_rfv v1 0) 2) ≤ v5) →
  K v3 m) ∧ (¬ ((m (am_rfv v1 0) 2) ≤ v5) →
  M_X2_isForeseen v5 v2 (fun r_2 m_3 =>
  ((r_2 = 0) →
  K v3 m_3) ∧ (¬ (r_2 = 0) →
  ((0 : Int) ≤ (w32 ((w32 (v2 * 24)) + v5)) ∧ (w32 ((w32 (v2 * 24)) + v5)) < am_len (am_rfv v0 0)) ∧
  ∀ v6_5 : Int, v6_5 = m_3 (am_rfv v0 0) (w32 ((w32 (v2 * 24)) + v5)) →
  ((v4 ≤ v6_5) →
  M_X2_lowest_J1 v0 v1 v2 v3 v4 v5 C9 K m_3) ∧ (¬ (v4 ≤ v6_5) →
  M_X9_waits v1 v5 (fun r_6 m_7 =>
  ((r_6 = 0) →
  M_X2_lowest_J1 v0 v1 v2 v3 v4 v5 C9 K m_7) ∧ (¬ (r_6 = 0) →
  M_X2_lowest_J1 v0 v1 v2 v5 v6_5 v5 C9 K m_7)) m_3))) m)
def M_X2_lowest_L1 (v0 : Int) (v1 : Int) (v2 : Int) (v3 : Int) (v4 : Int) (v5 : Int) (K : am_KK) (m : am_M) : Prop :=
  ∃ I : Nat → Int → Int → Int → am_M → Prop, (∃ j, I j v3 v4 v5 m) ∧ ∀ j v3 v4 v5 m, I j v3 v4 v5 m → M_X2_lowest_L1B v0 v1 v2 v3 v4 v5 (fun v3' v4' v5' m' => ∃ j', j' < j ∧ I j' v3' v4' v5' m') K m
def M_X2_lowest (v0 : Int) (v1 : Int) (v2 : Int) (K : am_KK) (m : am_M) : Prop :=
  M_X2_lowest_L1 v0 v1 v2 (-1) 1000000 0 K m
def N_X2_lowest : am_PT := fun zs K m => match zs with
  | [v0, v1, v2] => am_ob v0 2 ∧ am_ob v1 9 ∧ M_X2_lowest v0 v1 v2 K m
  | _ => False
def M_X2_isKeptOff_J1 (v0 : Int) (v1 : Int) (v3 : Int) (v4 : Int) (C17 : Int → am_M → Prop) (K : am_KK) (m : am_M) : Prop :=
  ∀ v4_1 : Int, v4_1 = w32 (v4 + 1) →
  C17 v4_1 m
def M_X2_isKeptOff_L1B (v0 : Int) (v1 : Int) (v3 : Int) (v4 : Int) (C17 : Int → am_M → Prop) (K : am_KK) (m : am_M) : Prop :=
  (((m (am_rfv v1 0) 2) ≤ v4) →
  K 0 m) ∧ (¬ ((m (am_rfv v1 0) 2) ≤ v4) →
  M_X7_get (am_rfv v1 0) v4 5 (fun r_2 m_3 =>
  ((r_2 ≠ 1) →
  M_X2_isKeptOff_J1 v0 v1 v3 v4 C17 K m_3) ∧ (¬ (r_2 ≠ 1) →
  M_X7_get (am_rfv v1 0) v4 1 (fun r_4 m_5 =>
  (((am_and (am_shr v3 r_4) 1) ≠ 1) →
  M_X2_isKeptOff_J1 v0 v1 v3 v4 C17 K m_5) ∧ (¬ ((am_and (am_shr v3 r_4) 1) ≠ 1) →
  M_X7_get (am_rfv v1 0) v4 6 (fun r_6 m_7 =>
  M_X0_term v0 2 (fun r_8 m_9 =>
  ((r_8 ≤ (w32 ((m_5 v1 1) - r_6))) →
  M_X2_isKeptOff_J1 v0 v1 v3 v4 C17 K m_9) ∧ (¬ (r_8 ≤ (w32 ((m_5 v1 1) - r_6))) →
  K 1 m_9)) m_7) m_5)) m_3)) m)
def M_X2_isKeptOff_L1 (v0 : Int) (v1 : Int) (v3 : Int) (v4 : Int) (K : am_KK) (m : am_M) : Prop :=
  ∃ I : Nat → Int → am_M → Prop, (∃ j, I j v4 m) ∧ ∀ j v4 m, I j v4 m → M_X2_isKeptOff_L1B v0 v1 v3 v4 (fun v4' m' => ∃ j', j' < j ∧ I j' v4' m') K m
def M_X2_isKeptOff (v0 : Int) (v1 : Int) (v2 : Int) (K : am_KK) (m : am_M) : Prop :=
  M_X7_get (am_rfv v1 0) v2 1 (fun r_10 m_11 =>
  M_X0_keptOffBy v0 r_10 (fun r_12 m_13 =>
  M_X2_isKeptOff_L1 v0 v1 r_12 0 K m_13) m_11) m
def N_X2_isKeptOff : am_PT := fun zs K m => match zs with
  | [v0, v1, v2] => am_ob v0 0 ∧ am_ob v1 9 ∧ M_X2_isKeptOff v0 v1 v2 K m
  | _ => False
def M_X7_set (v0 : Int) (v1 : Int) (v2 : Int) (v3 : Int) (K : am_KK) (m : am_M) : Prop :=
  ((v1 < 0) →
  K 0 m) ∧ (¬ (v1 < 0) →
  (((m v0 2) ≤ v1) →
  K 0 m) ∧ (¬ ((m v0 2) ≤ v1) →
  ((v2 < 0) →
  K 0 m) ∧ (¬ (v2 < 0) →
  (((m v0 1) ≤ v2) →
  K 0 m) ∧ (¬ ((m v0 1) ≤ v2) →
  ((0 : Int) ≤ (w32 ((w32 (v1 * (m v0 1))) + v2)) ∧ (w32 ((w32 (v1 * (m v0 1))) + v2)) < am_len (am_rfv v0 0)) ∧
  ∀ m_1 : am_M, m_1 = am_st m (am_rfv v0 0) (w32 ((w32 (v1 * (m v0 1))) + v2)) v3 →
  K 0 m_1))))
def N_X7_set : am_PT := fun zs K m => match zs with
  | [v0, v1, v2, v3] => am_ob v0 7 ∧ M_X7_set v0 v1 v2 v3 K m
  | _ => False
def M_X2_hear_J2 (v0 : Int) (v1 : Int) (v2 : Int) (v3 : Int) (v4 : Int) (v5 : Int) (C26 : Int → Int → am_M → Prop) (K : am_KK) (m : am_M) : Prop :=
  ∀ v5_1 : Int, v5_1 = w32 (v5 + 1) →
  C26 v4 v5_1 m
def M_X2_hear_J1 (v0 : Int) (v1 : Int) (v2 : Int) (v3 : Int) (v4 : Int) (v5 : Int) (v6 : Int) (v7 : Int) (s0 : Int) (s1 : Int) (s2 : Int) (s3 : Int) (C26 : Int → Int → am_M → Prop) (K : am_KK) (m : am_M) : Prop :=
  M_X7_set s0 s1 s2 s3 (fun _ m_3 =>
  M_X7_set (am_rfv v2 0) v6 6 (m_3 v2 1) (fun _ m_5 =>
  ∀ m_6 : am_M, m_6 = am_st m_5 v0 2 (am_or (m_5 v0 2) (am_shl 1 v6)) →
  ((v7 ≠ 0) →
  M_X2_hear_J2 v0 v1 v2 v3 v4 v5 C26 K m_6) ∧ (¬ (v7 ≠ 0) →
  ∀ v4_7 : Int, v4_7 = w32 (v4 + 1) →
  M_X7_get (am_rfv v2 0) v6 1 (fun r_8 m_9 =>
  ∀ m_10 : am_M, m_10 = am_st m_9 v0 3 (am_or (m_6 v0 3) (am_shl 1 r_8)) →
  M_X2_hear_J2 v0 v1 v2 v3 v4_7 v5 C26 K m_10) m_6)) m_3) m
def M_X2_hear_L1B (v0 : Int) (v1 : Int) (v2 : Int) (v3 : Int) (v4 : Int) (v5 : Int) (C26 : Int → Int → am_M → Prop) (K : am_KK) (m : am_M) : Prop :=
  M_X0_term v1 1 (fun r_11 m_12 =>
  ((r_11 ≤ v5) →
  K v4 m_12) ∧ (¬ (r_11 ≤ v5) →
  M_X2_lowest v0 v2 v3 (fun r_13 m_14 =>
  ((r_13 ≠ (-1)) →
  M_X2_isKeptOff v1 v2 r_13 (fun r_15 m_16 =>
  ((r_15 = 0) →
  M_X2_hear_J1 v0 v1 v2 v3 v4 v5 r_13 r_15 (am_rfv v2 0) r_13 5 1 C26 K m_16) ∧ (¬ (r_15 = 0) →
  M_X2_hear_J1 v0 v1 v2 v3 v4 v5 r_13 r_15 (am_rfv v2 0) r_13 5 2 C26 K m_16)) m_14) ∧ (¬ (r_13 ≠ (-1)) →
  K v4 m_14)) m_12)) m
def M_X2_hear_L1 (v0 : Int) (v1 : Int) (v2 : Int) (v3 : Int) (v4 : Int) (v5 : Int) (K : am_KK) (m : am_M) : Prop :=
  ∃ I : Nat → Int → Int → am_M → Prop, (∃ j, I j v4 v5 m) ∧ ∀ j v4 v5 m, I j v4 v5 m → M_X2_hear_L1B v0 v1 v2 v3 v4 v5 (fun v4' v5' m' => ∃ j', j' < j ∧ I j' v4' v5' m') K m
def M_X2_hear (v0 : Int) (v1 : Int) (v2 : Int) (v3 : Int) (K : am_KK) (m : am_M) : Prop :=
  ∀ m_18 : am_M, m_18 = am_st m v0 2 0 →
  ∀ m_19 : am_M, m_19 = am_st m_18 v0 3 0 →
  ∀ m_20 : am_M, m_20 = am_st m_19 v2 1 (w32 ((m_19 v2 1) + 1)) →
  M_X2_hear_L1 v0 v1 v2 v3 0 0 K m_20
def N_X2_hear : am_PT := fun zs K m => match zs with
  | [v0, v1, v2, v3] => am_ob v0 2 ∧ am_ob v1 0 ∧ am_ob v2 9 ∧ M_X2_hear v0 v1 v2 v3 K m
  | _ => False
def M_X3_rankTold (v0 : Int) (v1 : Int) (K : am_KK) (m : am_M) : Prop :=
  ((0 : Int) ≤ 0 ∧ 0 < am_len (am_rfv v0 0)) ∧
  M_X3_tells v0 v1 0 (m (am_rfv v0 0) 0) (-9999) 9999 (fun r_1 m_2 =>
  K r_1 m_2) m
def N_X3_rankTold : am_PT := fun zs K m => match zs with
  | [v0, v1] => am_ob v0 3 ∧ am_ob v1 0 ∧ M_X3_rankTold v0 v1 K m
  | _ => False
def M_X3_breathOf (v0 : Int) (v1 : Int) (v2 : Int) (v3 : Int) (K : am_KK) (m : am_M) : Prop :=
  ((0 : Int) ≤ 0 ∧ 0 < am_len (am_rfv v0 0)) ∧
  ∀ m_1 : am_M, m_1 = am_st m (am_rfv v0 0) 0 (-1) →
  ((0 : Int) ≤ 1 ∧ 1 < am_len (am_rfv v0 0)) ∧
  ∀ m_2 : am_M, m_2 = am_st m_1 (am_rfv v0 0) 1 (-1) →
  ((0 : Int) ≤ 2 ∧ 2 < am_len (am_rfv v0 0)) ∧
  ∀ m_3 : am_M, m_3 = am_st m_2 (am_rfv v0 0) 2 v2 →
  M_X7_get (am_rfv v1 2) v2 0 (fun r_4 m_5 =>
  ((0 : Int) ≤ 3 ∧ 3 < am_len (am_rfv v0 0)) ∧
  ∀ m_6 : am_M, m_6 = am_st m_5 (am_rfv v0 0) 3 r_4 →
  ((0 : Int) ≤ 4 ∧ 4 < am_len (am_rfv v0 0)) ∧
  ∀ m_7 : am_M, m_7 = am_st m_6 (am_rfv v0 0) 4 (-1) →
  ((0 : Int) ≤ 5 ∧ 5 < am_len (am_rfv v0 0)) ∧
  ∀ m_8 : am_M, m_8 = am_st m_7 (am_rfv v0 0) 5 (-1) →
  ((0 : Int) ≤ 6 ∧ 6 < am_len (am_rfv v0 0)) ∧
  ∀ m_9 : am_M, m_9 = am_st m_8 (am_rfv v0 0) 6 v3 →
  M_X0_term v1 3 (fun r_10 m_11 =>
  ((0 : Int) ≤ 7 ∧ 7 < am_len (am_rfv v0 0)) ∧
  ∀ m_12 : am_M, m_12 = am_st m_11 (am_rfv v0 0) 7 r_10 →
  M_X3_tells v0 v1 1 99 0 99 (fun r_13 m_14 =>
  K r_13 m_14) m_12) m_9) m_3
def N_X3_breathOf : am_PT := fun zs K m => match zs with
  | [v0, v1, v2, v3] => am_ob v0 3 ∧ am_ob v1 0 ∧ M_X3_breathOf v0 v1 v2 v3 K m
  | _ => False
def M_X4_add (v0 : Int) (v1 : Int) (K : am_KK) (m : am_M) : Prop :=
  (((am_len (am_rfv v0 0)) ≤ (m v0 1)) →
  K 0 m) ∧ (¬ ((am_len (am_rfv v0 0)) ≤ (m v0 1)) →
  ((0 : Int) ≤ (m v0 1) ∧ (m v0 1) < am_len (am_rfv v0 0)) ∧
  ∀ m_1 : am_M, m_1 = am_st m (am_rfv v0 0) (m v0 1) v1 →
  ∀ m_2 : am_M, m_2 = am_st m_1 v0 1 (w32 ((m_1 v0 1) + 1)) →
  K 0 m_2)
def N_X4_add : am_PT := fun zs K m => match zs with
  | [v0, v1] => am_ob v0 4 ∧ M_X4_add v0 v1 K m
  | _ => False
def M_X4_mark (v0 : Int) (v1 : Int) (K : am_KK) (m : am_M) : Prop :=
  M_X7_set (am_rfv v0 2) (w32 ((m (am_rfv v0 2) 2) - 1)) (w32 (2 + v1)) (m v0 1) (fun _ m_2 =>
  K 0 m_2) m
def N_X4_mark : am_PT := fun zs K m => match zs with
  | [v0, v1] => am_ob v0 4 ∧ M_X4_mark v0 v1 K m
  | _ => False
def M_X4_skipFrom (v0 : Int) (v1 : Int) (K : am_KK) (m : am_M) : Prop :=
  ((v1 < 0) →
  K 0 m) ∧ (¬ (v1 < 0) →
  (((m v0 1) ≤ v1) →
  K 0 m) ∧ (¬ ((m v0 1) ≤ v1) →
  ((0 : Int) ≤ v1 ∧ v1 < am_len (am_rfv v0 0)) ∧
  ((0 : Int) ≤ v1 ∧ v1 < am_len (am_rfv v0 0)) ∧
  ∀ m_1 : am_M, m_1 = am_st m (am_rfv v0 0) v1 (w32 ((m (am_rfv v0 0) v1) + (w32 ((w32 ((m v0 1) - v1)) - 1)))) →
  K 0 m_1))
def N_X4_skipFrom : am_PT := fun zs K m => match zs with
  | [v0, v1] => am_ob v0 4 ∧ M_X4_skipFrom v0 v1 K m
  | _ => False
def M_X7_cut (v0 : Int) (v1 : Int) (K : am_KK) (m : am_M) : Prop :=
  ((v1 < 0) →
  K 0 m) ∧ (¬ (v1 < 0) →
  (((m v0 2) ≤ v1) →
  K 0 m) ∧ (¬ ((m v0 2) ≤ v1) →
  ∀ m_1 : am_M, m_1 = am_st m v0 2 v1 →
  K 0 m_1))
def N_X7_cut : am_PT := fun zs K m => match zs with
  | [v0, v1] => am_ob v0 7 ∧ M_X7_cut v0 v1 K m
  | _ => False
def M_X4_clear (v0 : Int) (K : am_KK) (m : am_M) : Prop :=
  ∀ m_1 : am_M, m_1 = am_st m v0 1 0 →
  M_X7_cut (am_rfv v0 2) 0 (fun _ m_3 =>
  K 0 m_3) m_1
def N_X4_clear : am_PT := fun zs K m => match zs with
  | [v0] => am_ob v0 4 ∧ M_X4_clear v0 K m
  | _ => False
def M_X5_kindOf_J1 (v0 : Int) (K : am_KK) (m : am_M) : Prop :=
  ((v0 < 48) →
  K 0 m) ∧ (¬ (v0 < 48) →
  ((57 < v0) →
  K 0 m) ∧ (¬ (57 < v0) →
  K 1 m))
def M_X5_kindOf (v0 : Int) (K : am_KK) (m : am_M) : Prop :=
  ((v0 < 97) →
  M_X5_kindOf_J1 v0 K m) ∧ (¬ (v0 < 97) →
  ((122 < v0) →
  M_X5_kindOf_J1 v0 K m) ∧ (¬ (122 < v0) →
  K 2 m))
def N_X5_kindOf : am_PT := fun zs K m => match zs with
  | [v0] => M_X5_kindOf v0 K m
  | _ => False
def M_X5_advance_L2B (v0 : Int) (v1 : Int) (C88 : am_M → Prop) (K : am_KK) (m : am_M) : Prop :=
  ((v1 = 0) →
  K 0 m) ∧ (¬ (v1 = 0) →
  (((m (am_rfv v0 0) 2) ≤ (m v0 4)) →
  K 0 m) ∧ (¬ ((m (am_rfv v0 0) 2) ≤ (m v0 4)) →
  M_X7_get (am_rfv v0 0) (m v0 4) 0 (fun r_1 m_2 =>
  M_X5_kindOf r_1 (fun r_3 m_4 =>
  ((r_3 ≠ v1) →
  K 0 m_4) ∧ (¬ (r_3 ≠ v1) →
  ∀ m_5 : am_M, m_5 = am_st m_4 v0 4 (w32 ((m_4 v0 4) + 1)) →
  C88 m_5)) m_2) m))
def M_X5_advance_L2 (v0 : Int) (v1 : Int) (K : am_KK) (m : am_M) : Prop :=
  ∃ I : Nat → am_M → Prop, (∃ j, I j  m) ∧ ∀ j  m, I j  m → M_X5_advance_L2B v0 v1 (fun  m' => ∃ j', j' < j ∧ I j'  m') K m
def M_X5_advance_J1 (v0 : Int) (K : am_KK) (m : am_M) : Prop :=
  M_X7_get (am_rfv v0 0) (m v0 3) 0 (fun r_6 m_7 =>
  M_X5_kindOf r_6 (fun r_8 m_9 =>
  ∀ m_10 : am_M, m_10 = am_st m_9 v0 4 (am_min (w32 ((m_9 v0 3) + 1)) (m_9 (am_rfv v0 0) 2)) →
  M_X5_advance_L2 v0 r_8 K m_10) m_7) m
def M_X5_advance_L1B (v0 : Int) (C8 : am_M → Prop) (K : am_KK) (m : am_M) : Prop :=
  (((m (am_rfv v0 0) 2) ≤ (m v0 3)) →
  M_X5_advance_J1 v0 K m) ∧ (¬ ((m (am_rfv v0 0) 2) ≤ (m v0 3)) →
  M_X7_get (am_rfv v0 0) (m v0 3) 0 (fun r_11 m_12 =>
  ((r_11 ≠ 32) →
  M_X5_advance_J1 v0 K m_12) ∧ (¬ (r_11 ≠ 32) →
  ∀ m_13 : am_M, m_13 = am_st m_12 v0 3 (w32 ((m_12 v0 3) + 1)) →
  C8 m_13)) m)
def M_X5_advance_L1 (v0 : Int) (K : am_KK) (m : am_M) : Prop :=
  ∃ I : Nat → am_M → Prop, (∃ j, I j  m) ∧ ∀ j  m, I j  m → M_X5_advance_L1B v0 (fun  m' => ∃ j', j' < j ∧ I j'  m') K m
def M_X5_advance (v0 : Int) (K : am_KK) (m : am_M) : Prop :=
  ∀ m_14 : am_M, m_14 = am_st m v0 3 (m v0 4) →
  M_X5_advance_L1 v0 K m_14
def N_X5_advance : am_PT := fun zs K m => match zs with
  | [v0] => am_ob v0 5 ∧ M_X5_advance v0 K m
  | _ => False
def M_X5_is_L1B (v0 : Int) (v1 : Int) (v2 : Int) (C20 : Int → am_M → Prop) (K : am_KK) (m : am_M) : Prop :=
  (((am_sln v1) ≤ v2) →
  K 1 m) ∧ (¬ ((am_sln v1) ≤ v2) →
  M_X7_get (am_rfv v0 0) (w32 ((m v0 3) + v2)) 0 (fun r_1 m_2 =>
  ((0 : Int) ≤ v2 ∧ v2 < am_sln v1) ∧
  ((r_1 = (am_sc v1 v2)) →
  ∀ v2_3 : Int, v2_3 = w32 (v2 + 1) →
  C20 v2_3 m_2) ∧ (¬ (r_1 = (am_sc v1 v2)) →
  K 0 m_2)) m)
def M_X5_is_L1 (v0 : Int) (v1 : Int) (v2 : Int) (K : am_KK) (m : am_M) : Prop :=
  ∃ I : Nat → Int → am_M → Prop, (∃ j, I j v2 m) ∧ ∀ j v2 m, I j v2 m → M_X5_is_L1B v0 v1 v2 (fun v2' m' => ∃ j', j' < j ∧ I j' v2' m') K m
def M_X5_is (v0 : Int) (v1 : Int) (K : am_KK) (m : am_M) : Prop :=
  (((w32 ((m v0 4) - (m v0 3))) = (am_sln v1)) →
  M_X5_is_L1 v0 v1 0 K m) ∧ (¬ ((w32 ((m v0 4) - (m v0 3))) = (am_sln v1)) →
  K 0 m)
def N_X5_is : am_PT := fun zs K m => match zs with
  | [v0, v1] => am_ob v0 5 ∧ (0 ≤ v1 ∧ v1 < 38) ∧ M_X5_is v0 v1 K m
  | _ => False
def M_X5_clauseKind (v0 : Int) (K : am_KK) (m : am_M) : Prop :=
  (((m v0 2) = 0) →
  M_X5_is v0 2 (fun r_1 m_2 =>
  ((r_1 = 0) →
  M_X5_is v0 3 (fun r_4 m_5 =>
  ((r_4 = 0) →
  M_X5_is v0 4 (fun r_7 m_8 =>
  ((r_7 = 0) →
  K (-1) m_8) ∧ (¬ (r_7 = 0) →
  K 2 m_8)) m_5) ∧ (¬ (r_4 = 0) →
  K 1 m_5)) m_2) ∧ (¬ (r_1 = 0) →
  K 0 m_2)) m) ∧ (¬ ((m v0 2) = 0) →
  M_X5_is v0 0 (fun r_10 m_11 =>
  ((r_10 = 0) →
  M_X5_is v0 1 (fun r_13 m_14 =>
  ((r_13 = 0) →
  K (-1) m_14) ∧ (¬ (r_13 = 0) →
  K 4 m_14)) m_11) ∧ (¬ (r_10 = 0) →
  K 3 m_11)) m)
def N_X5_clauseKind : am_PT := fun zs K m => match zs with
  | [v0] => am_ob v0 5 ∧ M_X5_clauseKind v0 K m
  | _ => False
def M_X7_open (v0 : Int) (K : am_KK) (m : am_M) : Prop :=
  (((w32 ((w32 ((m v0 2) + 1)) * (m v0 1))) ≤ (am_len (am_rfv v0 0))) →
  ∀ m_1 : am_M, m_1 = am_st m v0 2 (w32 ((m v0 2) + 1)) →
  K (w32 ((m_1 v0 2) - 1)) m_1) ∧ (¬ ((w32 ((w32 ((m v0 2) + 1)) * (m v0 1))) ≤ (am_len (am_rfv v0 0))) →
  K (-1) m)
def N_X7_open : am_PT := fun zs K m => match zs with
  | [v0] => am_ob v0 7 ∧ M_X7_open v0 K m
  | _ => False
def M_X5_fail (v0 : Int) (K : am_KK) (m : am_M) : Prop :=
  ∀ m_1 : am_M, m_1 = am_st m v0 6 (m v0 3) →
  K 0 m_1
def N_X5_fail : am_PT := fun zs K m => match zs with
  | [v0] => am_ob v0 5 ∧ M_X5_fail v0 K m
  | _ => False
def M_X5_pass (v0 : Int) (v1 : Int) (K : am_KK) (m : am_M) : Prop :=
  M_X5_is v0 v1 (fun r_1 m_2 =>
  ((r_1 ≠ 0) →
  M_X5_advance v0 (fun _ m_5 =>
  K 1 m_5) m_2) ∧ (¬ (r_1 ≠ 0) →
  M_X5_fail v0 (fun r_6 m_7 =>
  K r_6 m_7) m_2)) m
def N_X5_pass : am_PT := fun zs K m => match zs with
  | [v0, v1] => am_ob v0 5 ∧ (0 ≤ v1 ∧ v1 < 38) ∧ M_X5_pass v0 v1 K m
  | _ => False
def M_X5_openBracket (v0 : Int) (v1 : Int) (K : am_KK) (m : am_M) : Prop :=
  ((v1 < 8) →
  M_X5_advance v0 (fun _ m_2 =>
  K 1 m_2) m) ∧ (¬ (v1 < 8) →
  M_X5_fail v0 (fun r_3 m_4 =>
  K r_3 m_4) m)
def N_X5_openBracket : am_PT := fun zs K m => match zs with
  | [v0, v1] => am_ob v0 5 ∧ M_X5_openBracket v0 v1 K m
  | _ => False
def M_X5_number_J1 (v1 : Int) (v2 : Int) (v3 : Int) (K : am_KK) (m : am_M) : Prop :=
  M_X11_within v3 v1 v2 (fun r_1 m_2 =>
  ((r_1 = 0) →
  K (-1) m_2) ∧ (¬ (r_1 = 0) →
  K v3 m_2)) m
def M_X5_number_L1B (v0 : Int) (v1 : Int) (v2 : Int) (v3 : Int) (v4 : Int) (C29 : Int → Int → am_M → Prop) (K : am_KK) (m : am_M) : Prop :=
  (((m v0 4) ≤ v4) →
  M_X5_number_J1 v1 v2 v3 K m) ∧ (¬ ((m v0 4) ≤ v4) →
  ((v2 < v3) →
  M_X5_number_J1 v1 v2 v3 K m) ∧ (¬ (v2 < v3) →
  M_X7_get (am_rfv v0 0) v4 0 (fun r_4 m_5 =>
  ∀ v3_6 : Int, v3_6 = w32 ((w32 ((w32 (v3 * 10)) + r_4)) - 48) →
  ∀ v4_7 : Int, v4_7 = w32 (v4 + 1) →
  C29 v3_6 v4_7 m_5) m))
def M_X5_number_L1 (v0 : Int) (v1 : Int) (v2 : Int) (v3 : Int) (v4 : Int) (K : am_KK) (m : am_M) : Prop :=
  ∃ I : Nat → Int → Int → am_M → Prop, (∃ j, I j v3 v4 m) ∧ ∀ j v3 v4 m, I j v3 v4 m → M_X5_number_L1B v0 v1 v2 v3 v4 (fun v3' v4' m' => ∃ j', j' < j ∧ I j' v3' v4' m') K m
def M_X5_number (v0 : Int) (v1 : Int) (v2 : Int) (K : am_KK) (m : am_M) : Prop :=
  M_X7_get (am_rfv v0 0) (m v0 3) 0 (fun r_8 m_9 =>
  M_X5_kindOf r_8 (fun r_10 m_11 =>
  ((r_10 = 1) →
  ∀ v4_12 : Int, v4_12 = m_11 v0 3 →
  M_X5_number_L1 v0 v1 v2 0 v4_12 K m_11) ∧ (¬ (r_10 = 1) →
  K (-1) m_11)) m_9) m
def N_X5_number : am_PT := fun zs K m => match zs with
  | [v0, v1, v2] => am_ob v0 5 ∧ M_X5_number v0 v1 v2 K m
  | _ => False
def M_X5_orderFact (v0 : Int) (K : am_KK) (m : am_M) : Prop :=
  M_X5_is v0 9 (fun r_1 m_2 =>
  ((r_1 = 0) →
  M_X5_is v0 10 (fun r_4 m_5 =>
  ((r_4 = 0) →
  M_X5_is v0 11 (fun r_7 m_8 =>
  ((r_7 = 0) →
  M_X5_is v0 12 (fun r_10 m_11 =>
  ((r_10 = 0) →
  M_X5_is v0 13 (fun r_13 m_14 =>
  ((r_13 = 0) →
  M_X5_is v0 14 (fun r_16 m_17 =>
  ((r_16 = 0) →
  K (-1) m_17) ∧ (¬ (r_16 = 0) →
  K 16 m_17)) m_14) ∧ (¬ (r_13 = 0) →
  K 8 m_14)) m_11) ∧ (¬ (r_10 = 0) →
  K 3 m_11)) m_8) ∧ (¬ (r_7 = 0) →
  K 2 m_8)) m_5) ∧ (¬ (r_4 = 0) →
  K 1 m_5)) m_2) ∧ (¬ (r_1 = 0) →
  K 0 m_2)) m
def N_X5_orderFact : am_PT := fun zs K m => match zs with
  | [v0] => am_ob v0 5 ∧ M_X5_orderFact v0 K m
  | _ => False
def M_X5_lawFact (v0 : Int) (K : am_KK) (m : am_M) : Prop :=
  M_X5_is v0 15 (fun r_1 m_2 =>
  ((r_1 = 0) →
  M_X5_is v0 16 (fun r_4 m_5 =>
  ((r_4 = 0) →
  M_X5_is v0 17 (fun r_7 m_8 =>
  ((r_7 = 0) →
  M_X5_is v0 18 (fun r_10 m_11 =>
  ((r_10 = 0) →
  M_X5_is v0 19 (fun r_13 m_14 =>
  ((r_13 = 0) →
  M_X5_is v0 20 (fun r_16 m_17 =>
  ((r_16 = 0) →
  M_X5_is v0 9 (fun r_19 m_20 =>
  ((r_19 = 0) →
  M_X5_is v0 21 (fun r_22 m_23 =>
  ((r_22 = 0) →
  K (-1) m_23) ∧ (¬ (r_22 = 0) →
  K 7 m_23)) m_20) ∧ (¬ (r_19 = 0) →
  K 6 m_20)) m_17) ∧ (¬ (r_16 = 0) →
  K 5 m_17)) m_14) ∧ (¬ (r_13 = 0) →
  K 4 m_14)) m_11) ∧ (¬ (r_10 = 0) →
  K 3 m_11)) m_8) ∧ (¬ (r_7 = 0) →
  K 2 m_8)) m_5) ∧ (¬ (r_4 = 0) →
  K 1 m_5)) m_2) ∧ (¬ (r_1 = 0) →
  K 0 m_2)) m
def N_X5_lawFact : am_PT := fun zs K m => match zs with
  | [v0] => am_ob v0 5 ∧ M_X5_lawFact v0 K m
  | _ => False
def M_X5_sum_J2 (R : Nat → am_PT) (v0 : Int) (v1 : Int) (v2 : Int) (s0 : Int) (C12 : Int → am_M → Prop) (K : am_KK) (m : am_M) : Prop :=
  M_X5_advance v0 (fun _ m_2 =>
  R 1 [v0, v1] (fun r_3 m_4 =>
  ((r_3 ≠ 0) →
  M_X4_add (am_rfv v0 1) (w32 (s0 * 2048)) (fun _ m_7 =>
  ∀ v2_8 : Int, v2_8 = w32 (v2 + 1) →
  C12 v2_8 m_7) m_4) ∧ (¬ (r_3 ≠ 0) →
  K 0 m_4)) m_2) m
def M_X5_sum_J1 (R : Nat → am_PT) (v0 : Int) (v1 : Int) (v2 : Int) (C12 : Int → am_M → Prop) (K : am_KK) (m : am_M) : Prop :=
  M_X5_is v0 25 (fun r_9 m_10 =>
  ((r_9 = 0) →
  M_X5_sum_J2 R v0 v1 v2 9 C12 K m_10) ∧ (¬ (r_9 = 0) →
  M_X5_sum_J2 R v0 v1 v2 8 C12 K m_10)) m
def M_X5_sum_L1B (R : Nat → am_PT) (v0 : Int) (v1 : Int) (v2 : Int) (C12 : Int → am_M → Prop) (K : am_KK) (m : am_M) : Prop :=
  ((400 ≤ v2) →
  K 1 m) ∧ (¬ (400 ≤ v2) →
  M_X5_is v0 25 (fun r_12 m_13 =>
  ((r_12 ≠ 0) →
  M_X5_sum_J1 R v0 v1 v2 C12 K m_13) ∧ (¬ (r_12 ≠ 0) →
  M_X5_is v0 26 (fun r_15 m_16 =>
  ((r_15 = 0) →
  K 1 m_16) ∧ (¬ (r_15 = 0) →
  M_X5_sum_J1 R v0 v1 v2 C12 K m_16)) m_13)) m)
def M_X5_sum_L1 (R : Nat → am_PT) (v0 : Int) (v1 : Int) (v2 : Int) (K : am_KK) (m : am_M) : Prop :=
  ∃ I : Nat → Int → am_M → Prop, (∃ j, I j v2 m) ∧ ∀ j v2 m, I j v2 m → M_X5_sum_L1B R v0 v1 v2 (fun v2' m' => ∃ j', j' < j ∧ I j' v2' m') K m
def M_X5_sum (R : Nat → am_PT) (v0 : Int) (v1 : Int) (K : am_KK) (m : am_M) : Prop :=
  R 1 [v0, v1] (fun r_18 m_19 =>
  ((r_18 ≠ 0) →
  M_X5_sum_L1 R v0 v1 0 K m_19) ∧ (¬ (r_18 ≠ 0) →
  K 0 m_19)) m
def N_X5_sum (R : Nat → am_PT) : am_PT := fun zs K m => match zs with
  | [v0, v1] => am_ob v0 5 ∧ M_X5_sum R v0 v1 K m
  | _ => False
def M_X5_term_J2 (R : Nat → am_PT) (v0 : Int) (v1 : Int) (v2 : Int) (s0 : Int) (C12 : Int → am_M → Prop) (K : am_KK) (m : am_M) : Prop :=
  M_X5_advance v0 (fun _ m_2 =>
  R 2 [v0, v1] (fun r_3 m_4 =>
  ((r_3 ≠ 0) →
  M_X4_add (am_rfv v0 1) (w32 (s0 * 2048)) (fun _ m_7 =>
  ∀ v2_8 : Int, v2_8 = w32 (v2 + 1) →
  C12 v2_8 m_7) m_4) ∧ (¬ (r_3 ≠ 0) →
  K 0 m_4)) m_2) m
def M_X5_term_J1 (R : Nat → am_PT) (v0 : Int) (v1 : Int) (v2 : Int) (C12 : Int → am_M → Prop) (K : am_KK) (m : am_M) : Prop :=
  M_X5_is v0 22 (fun r_9 m_10 =>
  ((r_9 = 0) →
  M_X5_is v0 23 (fun r_12 m_13 =>
  ((r_12 = 0) →
  M_X5_term_J2 R v0 v1 v2 12 C12 K m_13) ∧ (¬ (r_12 = 0) →
  M_X5_term_J2 R v0 v1 v2 11 C12 K m_13)) m_10) ∧ (¬ (r_9 = 0) →
  M_X5_term_J2 R v0 v1 v2 10 C12 K m_10)) m
def M_X5_term_L1B (R : Nat → am_PT) (v0 : Int) (v1 : Int) (v2 : Int) (C12 : Int → am_M → Prop) (K : am_KK) (m : am_M) : Prop :=
  ((400 ≤ v2) →
  K 1 m) ∧ (¬ (400 ≤ v2) →
  M_X5_is v0 22 (fun r_15 m_16 =>
  ((r_15 ≠ 0) →
  M_X5_term_J1 R v0 v1 v2 C12 K m_16) ∧ (¬ (r_15 ≠ 0) →
  M_X5_is v0 23 (fun r_18 m_19 =>
  ((r_18 ≠ 0) →
  M_X5_term_J1 R v0 v1 v2 C12 K m_19) ∧ (¬ (r_18 ≠ 0) →
  M_X5_is v0 24 (fun r_21 m_22 =>
  ((r_21 = 0) →
  K 1 m_22) ∧ (¬ (r_21 = 0) →
  M_X5_term_J1 R v0 v1 v2 C12 K m_22)) m_19)) m_16)) m)
def M_X5_term_L1 (R : Nat → am_PT) (v0 : Int) (v1 : Int) (v2 : Int) (K : am_KK) (m : am_M) : Prop :=
  ∃ I : Nat → Int → am_M → Prop, (∃ j, I j v2 m) ∧ ∀ j v2 m, I j v2 m → M_X5_term_L1B R v0 v1 v2 (fun v2' m' => ∃ j', j' < j ∧ I j' v2' m') K m
def M_X5_term (R : Nat → am_PT) (v0 : Int) (v1 : Int) (K : am_KK) (m : am_M) : Prop :=
  R 2 [v0, v1] (fun r_24 m_25 =>
  ((r_24 ≠ 0) →
  M_X5_term_L1 R v0 v1 0 K m_25) ∧ (¬ (r_24 ≠ 0) →
  K 0 m_25)) m
def N_X5_term (R : Nat → am_PT) : am_PT := fun zs K m => match zs with
  | [v0, v1] => am_ob v0 5 ∧ M_X5_term R v0 v1 K m
  | _ => False
def M_X5_part_J5 (R : Nat → am_PT) (s0 : Int) (s1 : Int) (K : am_KK) (m : am_M) : Prop :=
  M_X4_add s0 s1 (fun _ m_2 =>
  K 1 m_2) m
def M_X5_part_J4 (R : Nat → am_PT) (v0 : Int) (v2 : Int) (v3 : Int) (K : am_KK) (m : am_M) : Prop :=
  ((v3 ≠ (-1)) →
  M_X5_part_J5 R (am_rfv v0 1) (w32 (2048 + v3)) K m) ∧ (¬ (v3 ≠ (-1)) →
  M_X5_part_J5 R (am_rfv v0 1) (w32 (0 + v2)) K m)
def M_X5_part_J3 (R : Nat → am_PT) (v0 : Int) (K : am_KK) (m : am_M) : Prop :=
  M_X5_fail v0 (fun r_3 m_4 =>
  K r_3 m_4) m
def M_X5_part_J2 (R : Nat → am_PT) (v0 : Int) (v2 : Int) (v3 : Int) (K : am_KK) (m : am_M) : Prop :=
  (((m v0 5) < 50) →
  ∀ m_6 : am_M, m_6 = am_st m v0 5 (w32 ((m v0 5) + 1)) →
  M_X5_advance v0 (fun _ m_8 =>
  ((v3 < 8) →
  M_X5_part_J4 R v0 v2 v3 K m_8) ∧ (¬ (v3 < 8) →
  M_X5_number v0 0 7 (fun r_9 m_10 =>
  ((r_9 ≠ (-1)) →
  ∀ v3_11 : Int, v3_11 = w32 (v3 + r_9) →
  M_X5_advance v0 (fun _ m_13 =>
  M_X5_part_J4 R v0 v2 v3_11 K m_13) m_10) ∧ (¬ (r_9 ≠ (-1)) →
  M_X5_fail v0 (fun r_14 m_15 =>
  K r_14 m_15) m_10)) m_8)) m_6) ∧ (¬ ((m v0 5) < 50) →
  M_X5_part_J3 R v0 K m)
def M_X5_part_J1 (R : Nat → am_PT) (v0 : Int) (v2 : Int) (s0 : Int) (K : am_KK) (m : am_M) : Prop :=
  ((v2 ≠ (-1)) →
  M_X5_part_J2 R v0 v2 s0 K m) ∧ (¬ (v2 ≠ (-1)) →
  ((s0 = (-1)) →
  M_X5_part_J3 R v0 K m) ∧ (¬ (s0 = (-1)) →
  M_X5_part_J2 R v0 v2 s0 K m))
def M_X5_part (R : Nat → am_PT) (v0 : Int) (v1 : Int) (K : am_KK) (m : am_M) : Prop :=
  M_X5_is v0 7 (fun r_17 m_18 =>
  ((r_17 = 0) →
  M_X5_number v0 0 1000 (fun r_20 m_21 =>
  ((r_20 = (-1)) →
  (((m_21 v0 2) = 0) →
  M_X5_lawFact v0 (fun r_22 m_23 =>
  M_X5_part_J1 R v0 r_20 r_22 K m_23) m_21) ∧ (¬ ((m_21 v0 2) = 0) →
  M_X5_orderFact v0 (fun r_24 m_25 =>
  M_X5_part_J1 R v0 r_20 r_24 K m_25) m_21)) ∧ (¬ (r_20 = (-1)) →
  M_X5_part_J1 R v0 r_20 (-1) K m_21)) m_18) ∧ (¬ (r_17 = 0) →
  M_X5_openBracket v0 v1 (fun r_26 m_27 =>
  ((r_26 = 0) →
  K 0 m_27) ∧ (¬ (r_26 = 0) →
  R 0 [v0, w32 (v1 + 1)] (fun r_29 m_30 =>
  ((r_29 = 0) →
  K 0 m_30) ∧ (¬ (r_29 = 0) →
  M_X5_pass v0 8 (fun r_32 m_33 =>
  ((r_32 = 0) →
  K 0 m_33) ∧ (¬ (r_32 = 0) →
  K 1 m_33)) m_30)) m_27)) m_18)) m
def N_X5_part (R : Nat → am_PT) : am_PT := fun zs K m => match zs with
  | [v0, v1] => am_ob v0 5 ∧ M_X5_part R v0 v1 K m
  | _ => False
def R_X5_sum : Nat → Nat → am_PT
  | 0, _ => fun _ _ _ => False
  | k + 1, i => match i with
    | 0 => N_X5_sum (R_X5_sum k)
    | 1 => N_X5_term (R_X5_sum k)
    | 2 => N_X5_part (R_X5_sum k)
    | _ => fun _ _ _ => False
def M_X5_sums_J5 (v0 : Int) (v2 : Int) (v3 : Int) (C26 : Int → am_M → Prop) (K : am_KK) (m : am_M) : Prop :=
  ∀ v3_1 : Int, v3_1 = w32 (v3 + 1) →
  C26 v3_1 m
def M_X5_sums_J4 (v0 : Int) (v2 : Int) (v3 : Int) (C26 : Int → am_M → Prop) (K : am_KK) (m : am_M) : Prop :=
  R_X5_sum 301 0 [v0, 0] (fun r_2 m_3 =>
  ((r_2 ≠ 0) →
  M_X5_sums_J5 v0 v2 v3 C26 K m_3) ∧ (¬ (r_2 ≠ 0) →
  K 0 m_3)) m
def M_X5_sums_J3 (v0 : Int) (v2 : Int) (v3 : Int) (s0 : Int) (s1 : Int) (C26 : Int → am_M → Prop) (K : am_KK) (m : am_M) : Prop :=
  M_X5_pass s0 s1 (fun r_5 m_6 =>
  ((r_5 ≠ 0) →
  M_X5_sums_J4 v0 v2 v3 C26 K m_6) ∧ (¬ (r_5 ≠ 0) →
  K 0 m_6)) m
def M_X5_sums_L1B (v0 : Int) (v2 : Int) (v3 : Int) (C26 : Int → am_M → Prop) (K : am_KK) (m : am_M) : Prop :=
  ((3 ≤ v3) →
  M_X4_mark (am_rfv v0 1) 3 (fun _ m_9 =>
  K 1 m_9) m) ∧ (¬ (3 ≤ v3) →
  M_X4_mark (am_rfv v0 1) v3 (fun _ m_11 =>
  ((v2 ≤ v3) →
  M_X5_sums_J5 v0 v2 v3 C26 K m_11) ∧ (¬ (v2 ≤ v3) →
  ((v3 ≤ 0) →
  M_X5_sums_J4 v0 v2 v3 C26 K m_11) ∧ (¬ (v3 ≤ 0) →
  ((v3 ≠ 1) →
  M_X5_sums_J3 v0 v2 v3 v0 6 C26 K m_11) ∧ (¬ (v3 ≠ 1) →
  M_X5_sums_J3 v0 v2 v3 v0 5 C26 K m_11)))) m)
def M_X5_sums_L1 (v0 : Int) (v2 : Int) (v3 : Int) (K : am_KK) (m : am_M) : Prop :=
  ∃ I : Nat → Int → am_M → Prop, (∃ j, I j v3 m) ∧ ∀ j v3 m, I j v3 m → M_X5_sums_L1B v0 v2 v3 (fun v3' m' => ∃ j', j' < j ∧ I j' v3' m') K m
def M_X5_sums_J2 (v0 : Int) (s0 : Int) (K : am_KK) (m : am_M) : Prop :=
  M_X5_sums_L1 v0 s0 0 K m
def M_X5_sums_J1 (v0 : Int) (K : am_KK) (m : am_M) : Prop :=
  M_X5_sums_J2 v0 1 K m
def M_X5_sums (v0 : Int) (v1 : Int) (K : am_KK) (m : am_M) : Prop :=
  ((v1 ≠ 3) →
  ((v1 = 0) →
  M_X5_sums_J1 v0 K m) ∧ (¬ (v1 = 0) →
  ((v1 ≠ 1) →
  M_X5_sums_J2 v0 0 K m) ∧ (¬ (v1 ≠ 1) →
  M_X5_sums_J1 v0 K m))) ∧ (¬ (v1 ≠ 3) →
  M_X5_sums_J2 v0 3 K m)
def N_X5_sums : am_PT := fun zs K m => match zs with
  | [v0, v1] => am_ob v0 5 ∧ M_X5_sums v0 v1 K m
  | _ => False
def M_X5_test_L1B (R : Nat → am_PT) (v0 : Int) (v1 : Int) (v2 : Int) (C12 : Int → am_M → Prop) (K : am_KK) (m : am_M) : Prop :=
  ((400 ≤ v2) →
  K 1 m) ∧ (¬ (400 ≤ v2) →
  M_X5_is v0 36 (fun r_1 m_2 =>
  ((r_1 = 0) →
  K 1 m_2) ∧ (¬ (r_1 = 0) →
  ∀ v3_4 : Int, v3_4 = m_2 (am_rfv v0 1) 1 →
  M_X4_add (am_rfv v0 1) 8192 (fun _ m_6 =>
  M_X5_advance v0 (fun _ m_8 =>
  R 1 [v0, v1] (fun r_9 m_10 =>
  ((r_9 ≠ 0) →
  M_X4_skipFrom (am_rfv v0 1) v3_4 (fun _ m_13 =>
  ∀ v2_14 : Int, v2_14 = w32 (v2 + 1) →
  C12 v2_14 m_13) m_10) ∧ (¬ (r_9 ≠ 0) →
  K 0 m_10)) m_8) m_6) m_2)) m)
def M_X5_test_L1 (R : Nat → am_PT) (v0 : Int) (v1 : Int) (v2 : Int) (K : am_KK) (m : am_M) : Prop :=
  ∃ I : Nat → Int → am_M → Prop, (∃ j, I j v2 m) ∧ ∀ j v2 m, I j v2 m → M_X5_test_L1B R v0 v1 v2 (fun v2' m' => ∃ j', j' < j ∧ I j' v2' m') K m
def M_X5_test (R : Nat → am_PT) (v0 : Int) (v1 : Int) (K : am_KK) (m : am_M) : Prop :=
  R 1 [v0, v1] (fun r_15 m_16 =>
  ((r_15 ≠ 0) →
  M_X5_test_L1 R v0 v1 0 K m_16) ∧ (¬ (r_15 ≠ 0) →
  K 0 m_16)) m
def N_X5_test (R : Nat → am_PT) : am_PT := fun zs K m => match zs with
  | [v0, v1] => am_ob v0 5 ∧ M_X5_test R v0 v1 K m
  | _ => False
def M_X5_both_L1B (R : Nat → am_PT) (v0 : Int) (v1 : Int) (v2 : Int) (C12 : Int → am_M → Prop) (K : am_KK) (m : am_M) : Prop :=
  ((400 ≤ v2) →
  K 1 m) ∧ (¬ (400 ≤ v2) →
  M_X5_is v0 35 (fun r_1 m_2 =>
  ((r_1 = 0) →
  K 1 m_2) ∧ (¬ (r_1 = 0) →
  ∀ v3_4 : Int, v3_4 = m_2 (am_rfv v0 1) 1 →
  M_X4_add (am_rfv v0 1) 6144 (fun _ m_6 =>
  M_X5_advance v0 (fun _ m_8 =>
  R 2 [v0, v1] (fun r_9 m_10 =>
  ((r_9 ≠ 0) →
  M_X4_skipFrom (am_rfv v0 1) v3_4 (fun _ m_13 =>
  ∀ v2_14 : Int, v2_14 = w32 (v2 + 1) →
  C12 v2_14 m_13) m_10) ∧ (¬ (r_9 ≠ 0) →
  K 0 m_10)) m_8) m_6) m_2)) m)
def M_X5_both_L1 (R : Nat → am_PT) (v0 : Int) (v1 : Int) (v2 : Int) (K : am_KK) (m : am_M) : Prop :=
  ∃ I : Nat → Int → am_M → Prop, (∃ j, I j v2 m) ∧ ∀ j v2 m, I j v2 m → M_X5_both_L1B R v0 v1 v2 (fun v2' m' => ∃ j', j' < j ∧ I j' v2' m') K m
def M_X5_both (R : Nat → am_PT) (v0 : Int) (v1 : Int) (K : am_KK) (m : am_M) : Prop :=
  R 2 [v0, v1] (fun r_15 m_16 =>
  ((r_15 ≠ 0) →
  M_X5_both_L1 R v0 v1 0 K m_16) ∧ (¬ (r_15 ≠ 0) →
  K 0 m_16)) m
def N_X5_both (R : Nat → am_PT) : am_PT := fun zs K m => match zs with
  | [v0, v1] => am_ob v0 5 ∧ M_X5_both R v0 v1 K m
  | _ => False
def M_X5_plain_J3 (R : Nat → am_PT) (v0 : Int) (v2 : Int) (K : am_KK) (m : am_M) : Prop :=
  (((w32 (Int.tmod v2 2)) ≠ 1) →
  K 1 m) ∧ (¬ ((w32 (Int.tmod v2 2)) ≠ 1) →
  M_X4_add (am_rfv v0 1) 4096 (fun _ m_2 =>
  K 1 m_2) m)
def M_X5_plain_J2 (R : Nat → am_PT) (v0 : Int) (v1 : Int) (v2 : Int) (s0 : Int) (K : am_KK) (m : am_M) : Prop :=
  ((s0 ≠ (-1)) →
  M_X5_advance v0 (fun _ m_4 =>
  R_X5_sum 301 0 [v0, v1] (fun r_5 m_6 =>
  ((r_5 ≠ 0) →
  M_X4_add (am_rfv v0 1) (w32 (s0 * 2048)) (fun _ m_9 =>
  M_X5_plain_J3 R v0 v2 K m_9) m_6) ∧ (¬ (r_5 ≠ 0) →
  K 0 m_6)) m_4) m) ∧ (¬ (s0 ≠ (-1)) →
  M_X5_fail v0 (fun r_10 m_11 =>
  K r_10 m_11) m)
def M_X5_plain_J1 (R : Nat → am_PT) (v0 : Int) (v1 : Int) (v2 : Int) (K : am_KK) (m : am_M) : Prop :=
  M_X5_is v0 30 (fun r_13 m_14 =>
  ((r_13 = 0) →
  R_X5_sum 301 0 [v0, v1] (fun r_16 m_17 =>
  ((r_16 ≠ 0) →
  M_X5_is v0 32 (fun r_19 m_20 =>
  ((r_19 = 0) →
  M_X5_is v0 33 (fun r_22 m_23 =>
  ((r_22 = 0) →
  M_X5_is v0 34 (fun r_25 m_26 =>
  ((r_25 = 0) →
  M_X5_plain_J2 R v0 v1 v2 (-1) K m_26) ∧ (¬ (r_25 = 0) →
  M_X5_plain_J2 R v0 v1 v2 7 K m_26)) m_23) ∧ (¬ (r_22 = 0) →
  M_X5_plain_J2 R v0 v1 v2 6 K m_23)) m_20) ∧ (¬ (r_19 = 0) →
  M_X5_plain_J2 R v0 v1 v2 5 K m_20)) m_17) ∧ (¬ (r_16 ≠ 0) →
  K 0 m_17)) m_14) ∧ (¬ (r_13 = 0) →
  M_X5_openBracket v0 v1 (fun r_28 m_29 =>
  ((r_28 = 0) →
  K 0 m_29) ∧ (¬ (r_28 = 0) →
  R 0 [v0, w32 (v1 + 1)] (fun r_31 m_32 =>
  ((r_31 = 0) →
  K 0 m_32) ∧ (¬ (r_31 = 0) →
  M_X5_pass v0 31 (fun r_34 m_35 =>
  ((r_34 ≠ 0) →
  M_X5_plain_J3 R v0 v2 K m_35) ∧ (¬ (r_34 ≠ 0) →
  K 0 m_35)) m_32)) m_29)) m_14)) m
def M_X5_plain_L1B (R : Nat → am_PT) (v0 : Int) (v1 : Int) (v2 : Int) (C2 : Int → am_M → Prop) (K : am_KK) (m : am_M) : Prop :=
  ((400 ≤ v2) →
  M_X5_plain_J1 R v0 v1 v2 K m) ∧ (¬ (400 ≤ v2) →
  M_X5_is v0 29 (fun r_37 m_38 =>
  ((r_37 = 0) →
  M_X5_plain_J1 R v0 v1 v2 K m_38) ∧ (¬ (r_37 = 0) →
  ∀ v2_40 : Int, v2_40 = w32 (v2 + 1) →
  M_X5_advance v0 (fun _ m_42 =>
  C2 v2_40 m_42) m_38)) m)
def M_X5_plain_L1 (R : Nat → am_PT) (v0 : Int) (v1 : Int) (v2 : Int) (K : am_KK) (m : am_M) : Prop :=
  ∃ I : Nat → Int → am_M → Prop, (∃ j, I j v2 m) ∧ ∀ j v2 m, I j v2 m → M_X5_plain_L1B R v0 v1 v2 (fun v2' m' => ∃ j', j' < j ∧ I j' v2' m') K m
def M_X5_plain (R : Nat → am_PT) (v0 : Int) (v1 : Int) (K : am_KK) (m : am_M) : Prop :=
  M_X5_plain_L1 R v0 v1 0 K m
def N_X5_plain (R : Nat → am_PT) : am_PT := fun zs K m => match zs with
  | [v0, v1] => am_ob v0 5 ∧ M_X5_plain R v0 v1 K m
  | _ => False
def R_X5_test : Nat → Nat → am_PT
  | 0, _ => fun _ _ _ => False
  | k + 1, i => match i with
    | 0 => N_X5_test (R_X5_test k)
    | 1 => N_X5_both (R_X5_test k)
    | 2 => N_X5_plain (R_X5_test k)
    | _ => fun _ _ _ => False
def M_X5_clause_J3 (v0 : Int) (K : am_KK) (m : am_M) : Prop :=
  M_X4_mark (am_rfv v0 1) 4 (fun _ m_2 =>
  K 1 m_2) m
def M_X5_clause_J2 (v0 : Int) (K : am_KK) (m : am_M) : Prop :=
  M_X5_is v0 28 (fun r_3 m_4 =>
  ((r_3 = 0) →
  M_X5_clause_J3 v0 K m_4) ∧ (¬ (r_3 = 0) →
  M_X5_advance v0 (fun _ m_7 =>
  R_X5_test 301 0 [v0, 0] (fun r_8 m_9 =>
  ((r_8 ≠ 0) →
  M_X5_clause_J3 v0 K m_9) ∧ (¬ (r_8 ≠ 0) →
  K 0 m_9)) m_7) m_4)) m
def M_X5_clause_J1 (v0 : Int) (v1 : Int) (s0 : Int) (K : am_KK) (m : am_M) : Prop :=
  ((s0 ≠ (-1)) →
  M_X7_set (am_rfv (am_rfv v0 1) 2) s0 0 v1 (fun _ m_12 =>
  M_X7_set (am_rfv (am_rfv v0 1) 2) s0 1 1 (fun _ m_14 =>
  M_X5_advance v0 (fun _ m_16 =>
  M_X5_sums v0 v1 (fun r_17 m_18 =>
  ((r_17 ≠ 0) →
  (((m_18 v0 2) = 0) →
  M_X5_clause_J2 v0 K m_18) ∧ (¬ ((m_18 v0 2) = 0) →
  M_X5_is v0 27 (fun r_20 m_21 =>
  ((r_20 = 0) →
  M_X5_clause_J2 v0 K m_21) ∧ (¬ (r_20 = 0) →
  M_X5_advance v0 (fun _ m_24 =>
  M_X5_number v0 1 20 (fun r_25 m_26 =>
  ((r_25 ≠ (-1)) →
  M_X7_set (am_rfv (am_rfv v0 1) 2) s0 1 r_25 (fun _ m_28 =>
  M_X5_advance v0 (fun _ m_30 =>
  M_X5_clause_J2 v0 K m_30) m_28) m_26) ∧ (¬ (r_25 ≠ (-1)) →
  M_X5_fail v0 (fun r_31 m_32 =>
  K r_31 m_32) m_26)) m_24) m_21)) m_18)) ∧ (¬ (r_17 ≠ 0) →
  K 0 m_18)) m_16) m_14) m_12) m) ∧ (¬ (s0 ≠ (-1)) →
  M_X5_fail v0 (fun r_34 m_35 =>
  K r_34 m_35) m)
def M_X5_clause (v0 : Int) (K : am_KK) (m : am_M) : Prop :=
  M_X5_clauseKind v0 (fun r_37 m_38 =>
  ((r_37 ≠ (-1)) →
  M_X7_open (am_rfv (am_rfv v0 1) 2) (fun r_39 m_40 =>
  M_X5_clause_J1 v0 r_37 r_39 K m_40) m_38) ∧ (¬ (r_37 ≠ (-1)) →
  M_X5_clause_J1 v0 r_37 (-1) K m_38)) m
def N_X5_clause : am_PT := fun zs K m => match zs with
  | [v0] => am_ob v0 5 ∧ M_X5_clause v0 K m
  | _ => False
def M_X5_read_L1B (v0 : Int) (v2 : Int) (C33 : Int → am_M → Prop) (K : am_KK) (m : am_M) : Prop :=
  ((400 ≤ v2) →
  M_X5_fail v0 (fun r_1 m_2 =>
  K r_1 m_2) m) ∧ (¬ (400 ≤ v2) →
  M_X5_clause v0 (fun r_4 m_5 =>
  ((r_4 ≠ 0) →
  (((m_5 v0 3) < (m_5 (am_rfv v0 0) 2)) →
  M_X5_is v0 37 (fun r_7 m_8 =>
  ((r_7 ≠ 0) →
  M_X5_advance v0 (fun _ m_11 =>
  ∀ v2_12 : Int, v2_12 = w32 (v2 + 1) →
  C33 v2_12 m_11) m_8) ∧ (¬ (r_7 ≠ 0) →
  M_X5_fail v0 (fun r_13 m_14 =>
  K r_13 m_14) m_8)) m_5) ∧ (¬ ((m_5 v0 3) < (m_5 (am_rfv v0 0) 2)) →
  K 1 m_5)) ∧ (¬ (r_4 ≠ 0) →
  K 0 m_5)) m)
def M_X5_read_L1 (v0 : Int) (v2 : Int) (K : am_KK) (m : am_M) : Prop :=
  ∃ I : Nat → Int → am_M → Prop, (∃ j, I j v2 m) ∧ ∀ j v2 m, I j v2 m → M_X5_read_L1B v0 v2 (fun v2' m' => ∃ j', j' < j ∧ I j' v2' m') K m
def M_X5_read (v0 : Int) (v1 : Int) (K : am_KK) (m : am_M) : Prop :=
  ∀ m_16 : am_M, m_16 = am_st m v0 2 v1 →
  ∀ m_17 : am_M, m_17 = am_st m_16 v0 4 0 →
  ∀ m_18 : am_M, m_18 = am_st m_17 v0 5 0 →
  ∀ m_19 : am_M, m_19 = am_st m_18 v0 6 (-1) →
  M_X4_clear (am_rfv v0 1) (fun _ m_21 =>
  M_X5_advance v0 (fun _ m_23 =>
  M_X5_read_L1 v0 0 K m_23) m_21) m_19
def N_X5_read : am_PT := fun zs K m => match zs with
  | [v0, v1] => am_ob v0 5 ∧ (v1 = 0 ∨ v1 = 1) ∧ M_X5_read v0 v1 K m
  | _ => False
def M_X7_has (v0 : Int) (v1 : Int) (K : am_KK) (m : am_M) : Prop :=
  ((v1 < 0) →
  K 0 m) ∧ (¬ (v1 < 0) →
  (((m v0 2) ≤ v1) →
  K 0 m) ∧ (¬ ((m v0 2) ≤ v1) →
  K 1 m))
def N_X7_has : am_PT := fun zs K m => match zs with
  | [v0, v1] => am_ob v0 7 ∧ M_X7_has v0 v1 K m
  | _ => False
def M_X7_dropFirst (v0 : Int) (K : am_KK) (m : am_M) : Prop :=
  (((m v0 2) ≤ 0) →
  K 0 m) ∧ (¬ ((m v0 2) ≤ 0) →
  ∀ m_1 : am_M, m_1 = am_st m v0 2 (w32 ((m v0 2) - 1)) →
  ((0 : Int) ≤ (m_1 v0 1) ∧ (0 : Int) ≤ 0 ∧ (0 : Int) ≤ (w32 ((m_1 v0 2) * (m_1 v0 1))) ∧ ((m_1 v0 1) : Int) + (w32 ((m_1 v0 2) * (m_1 v0 1))) ≤ am_len (am_rfv v0 0) ∧ (0 : Int) + (w32 ((m_1 v0 2) * (m_1 v0 1))) ≤ am_len (am_rfv v0 0)) ∧
  ∀ m_2 : am_M, m_2 = am_cp m_1 (am_rfv v0 0) (m_1 v0 1) (am_rfv v0 0) 0 (w32 ((m_1 v0 2) * (m_1 v0 1))) →
  K 0 m_2)
def N_X7_dropFirst : am_PT := fun zs K m => match zs with
  | [v0] => am_ob v0 7 ∧ M_X7_dropFirst v0 K m
  | _ => False
def M_X7_copyRow (v0 : Int) (v1 : Int) (v2 : Int) (K : am_KK) (m : am_M) : Prop :=
  M_X7_has v0 v1 (fun r_1 m_2 =>
  ((r_1 = 0) →
  K 0 m_2) ∧ (¬ (r_1 = 0) →
  M_X7_has v0 v2 (fun r_4 m_5 =>
  ((r_4 = 0) →
  K 0 m_5) ∧ (¬ (r_4 = 0) →
  ((0 : Int) ≤ (w32 (v1 * (m_5 v0 1))) ∧ (0 : Int) ≤ (w32 (v2 * (m_5 v0 1))) ∧ (0 : Int) ≤ (m_5 v0 1) ∧ ((w32 (v1 * (m_5 v0 1))) : Int) + (m_5 v0 1) ≤ am_len (am_rfv v0 0) ∧ ((w32 (v2 * (m_5 v0 1))) : Int) + (m_5 v0 1) ≤ am_len (am_rfv v0 0)) ∧
  ∀ m_7 : am_M, m_7 = am_cp m_5 (am_rfv v0 0) (w32 (v1 * (m_5 v0 1))) (am_rfv v0 0) (w32 (v2 * (m_5 v0 1))) (m_5 v0 1) →
  K 0 m_7)) m_2)) m
def N_X7_copyRow : am_PT := fun zs K m => match zs with
  | [v0, v1, v2] => am_ob v0 7 ∧ M_X7_copyRow v0 v1 v2 K m
  | _ => False
def M_X8_begin_L2B (v0 : Int) (v2 : Int) (v3 : Int) (v4 : Int) (C31 : Int → am_M → Prop) (C15 : Int → am_M → Prop) (K : am_KK) (m : am_M) : Prop :=
  ((3 < v4) →
  ∀ v3_1 : Int, v3_1 = w32 (v3 + 1) →
  C15 v3_1 m) ∧ (¬ (3 < v4) →
  M_X7_set (am_rfv v0 0) v3 v4 0 (fun _ m_3 =>
  ∀ v4_4 : Int, v4_4 = w32 (v4 + 1) →
  C31 v4_4 m_3) m)
def M_X8_begin_L2 (v0 : Int) (v2 : Int) (v3 : Int) (v4 : Int) (C15 : Int → am_M → Prop) (K : am_KK) (m : am_M) : Prop :=
  ∃ I : Nat → Int → am_M → Prop, (∃ j, I j v4 m) ∧ ∀ j v4 m, I j v4 m → M_X8_begin_L2B v0 v2 v3 v4 (fun v4' m' => ∃ j', j' < j ∧ I j' v4' m') C15 K m
def M_X8_begin_L1B (v0 : Int) (v2 : Int) (v3 : Int) (C15 : Int → am_M → Prop) (K : am_KK) (m : am_M) : Prop :=
  ((v2 ≤ v3) →
  K 0 m) ∧ (¬ (v2 ≤ v3) →
  M_X7_open (am_rfv v0 0) (fun r_5 m_6 =>
  M_X8_begin_L2 v0 v2 v3 0 C15 K m_6) m)
def M_X8_begin_L1 (v0 : Int) (v2 : Int) (v3 : Int) (K : am_KK) (m : am_M) : Prop :=
  ∃ I : Nat → Int → am_M → Prop, (∃ j, I j v3 m) ∧ ∀ j v3 m, I j v3 m → M_X8_begin_L1B v0 v2 v3 (fun v3' m' => ∃ j', j' < j ∧ I j' v3' m') K m
def M_X8_begin (v0 : Int) (v1 : Int) (v2 : Int) (K : am_KK) (m : am_M) : Prop :=
  ∀ m_7 : am_M, m_7 = am_st m v0 1 v1 →
  M_X7_cut (am_rfv v0 0) 0 (fun _ m_9 =>
  M_X8_begin_L1 v0 v2 0 K m_9) m_7
def N_X8_begin : am_PT := fun zs K m => match zs with
  | [v0, v1, v2] => am_ob v0 8 ∧ M_X8_begin v0 v1 v2 K m
  | _ => False
def M_X8_draw (v0 : Int) (v1 : Int) (K : am_KK) (m : am_M) : Prop :=
  ∀ m_1 : am_M, m_1 = am_st m v0 1 (w32 (Int.tmod (w32 ((w32 ((m v0 1) * 1103)) + 12345)) 1000003)) →
  ((v1 ≤ 0) →
  K 0 m_1) ∧ (¬ (v1 ≤ 0) →
  ((v1 : Int) ≠ 0) ∧
  K (w32 (Int.tmod (m_1 v0 1) v1)) m_1)
def N_X8_draw : am_PT := fun zs K m => match zs with
  | [v0, v1] => am_ob v0 8 ∧ M_X8_draw v0 v1 K m
  | _ => False
def M_X8_add (v0 : Int) (v1 : Int) (v2 : Int) (K : am_KK) (m : am_M) : Prop :=
  M_X7_get (am_rfv v0 0) v1 v2 (fun r_1 m_2 =>
  M_X7_set (am_rfv v0 0) v1 v2 (w32 (r_1 + 1)) (fun _ m_4 =>
  K 0 m_4) m_2) m
def N_X8_add : am_PT := fun zs K m => match zs with
  | [v0, v1, v2] => am_ob v0 8 ∧ M_X8_add v0 v1 v2 K m
  | _ => False
def M_X8_noteSaid (v0 : Int) (v1 : Int) (K : am_KK) (m : am_M) : Prop :=
  M_X8_add v0 v1 0 (fun _ m_2 =>
  K 0 m_2) m
def N_X8_noteSaid : am_PT := fun zs K m => match zs with
  | [v0, v1] => am_ob v0 8 ∧ M_X8_noteSaid v0 v1 K m
  | _ => False
def M_X8_noteStanding_J1 (v0 : Int) (v1 : Int) (v2 : Int) (s0 : Int) (s1 : Int) (s2 : Int) (C2 : Int → am_M → Prop) (K : am_KK) (m : am_M) : Prop :=
  M_X8_add s0 s1 s2 (fun _ m_2 =>
  ∀ v2_3 : Int, v2_3 = w32 (v2 + 1) →
  C2 v2_3 m_2) m
def M_X8_noteStanding_L1B (v0 : Int) (v1 : Int) (v2 : Int) (C2 : Int → am_M → Prop) (K : am_KK) (m : am_M) : Prop :=
  (((m (am_rfv v1 0) 2) ≤ v2) →
  K 0 m) ∧ (¬ ((m (am_rfv v1 0) 2) ≤ v2) →
  M_X7_get (am_rfv v1 0) v2 5 (fun r_4 m_5 =>
  M_X7_get (am_rfv v1 0) v2 0 (fun r_6 m_7 =>
  ((r_4 ≠ 0) →
  M_X8_noteStanding_J1 v0 v1 v2 v0 r_6 r_4 C2 K m_7) ∧ (¬ (r_4 ≠ 0) →
  M_X8_noteStanding_J1 v0 v1 v2 v0 r_6 3 C2 K m_7)) m_5) m)
def M_X8_noteStanding_L1 (v0 : Int) (v1 : Int) (v2 : Int) (K : am_KK) (m : am_M) : Prop :=
  ∃ I : Nat → Int → am_M → Prop, (∃ j, I j v2 m) ∧ ∀ j v2 m, I j v2 m → M_X8_noteStanding_L1B v0 v1 v2 (fun v2' m' => ∃ j', j' < j ∧ I j' v2' m') K m
def M_X8_noteStanding (v0 : Int) (v1 : Int) (K : am_KK) (m : am_M) : Prop :=
  M_X8_noteStanding_L1 v0 v1 0 K m
def N_X8_noteStanding : am_PT := fun zs K m => match zs with
  | [v0, v1] => am_ob v0 8 ∧ am_ob v1 9 ∧ M_X8_noteStanding v0 v1 K m
  | _ => False
def M_X8_tally (v0 : Int) (v1 : Int) (v2 : Int) (K : am_KK) (m : am_M) : Prop :=
  M_X7_get (am_rfv v0 0) v1 v2 (fun r_1 m_2 =>
  K r_1 m_2) m
def N_X8_tally : am_PT := fun zs K m => match zs with
  | [v0, v1, v2] => am_ob v0 8 ∧ M_X8_tally v0 v1 v2 K m
  | _ => False
def M_X9_waiting_J1 (v0 : Int) (v1 : Int) (v2 : Int) (C4 : Int → Int → am_M → Prop) (K : am_KK) (m : am_M) : Prop :=
  ∀ v2_1 : Int, v2_1 = w32 (v2 + 1) →
  C4 v1 v2_1 m
def M_X9_waiting_L1B (v0 : Int) (v1 : Int) (v2 : Int) (C4 : Int → Int → am_M → Prop) (K : am_KK) (m : am_M) : Prop :=
  (((m (am_rfv v0 0) 2) ≤ v2) →
  K v1 m) ∧ (¬ ((m (am_rfv v0 0) 2) ≤ v2) →
  M_X9_waits v0 v2 (fun r_2 m_3 =>
  ((r_2 = 0) →
  M_X9_waiting_J1 v0 v1 v2 C4 K m_3) ∧ (¬ (r_2 = 0) →
  ∀ v1_5 : Int, v1_5 = w32 (v1 + 1) →
  M_X9_waiting_J1 v0 v1_5 v2 C4 K m_3)) m)
def M_X9_waiting_L1 (v0 : Int) (v1 : Int) (v2 : Int) (K : am_KK) (m : am_M) : Prop :=
  ∃ I : Nat → Int → Int → am_M → Prop, (∃ j, I j v1 v2 m) ∧ ∀ j v1 v2 m, I j v1 v2 m → M_X9_waiting_L1B v0 v1 v2 (fun v1' v2' m' => ∃ j', j' < j ∧ I j' v1' v2' m') K m
def M_X9_waiting (v0 : Int) (K : am_KK) (m : am_M) : Prop :=
  M_X9_waiting_L1 v0 0 0 K m
def N_X9_waiting : am_PT := fun zs K m => match zs with
  | [v0] => am_ob v0 9 ∧ M_X9_waiting v0 K m
  | _ => False
def M_X9_grantedFor_J1 (v0 : Int) (v1 : Int) (v2 : Int) (v3 : Int) (C4 : Int → Int → am_M → Prop) (K : am_KK) (m : am_M) : Prop :=
  ∀ v3_1 : Int, v3_1 = w32 (v3 + 1) →
  C4 v2 v3_1 m
def M_X9_grantedFor_L1B (v0 : Int) (v1 : Int) (v2 : Int) (v3 : Int) (C4 : Int → Int → am_M → Prop) (K : am_KK) (m : am_M) : Prop :=
  (((m (am_rfv v0 0) 2) ≤ v3) →
  K v2 m) ∧ (¬ ((m (am_rfv v0 0) 2) ≤ v3) →
  M_X7_get (am_rfv v0 0) v3 5 (fun r_2 m_3 =>
  ((r_2 ≠ 1) →
  M_X9_grantedFor_J1 v0 v1 v2 v3 C4 K m_3) ∧ (¬ (r_2 ≠ 1) →
  M_X7_get (am_rfv v0 0) v3 1 (fun r_4 m_5 =>
  ((r_4 ≠ v1) →
  M_X9_grantedFor_J1 v0 v1 v2 v3 C4 K m_5) ∧ (¬ (r_4 ≠ v1) →
  ∀ v2_6 : Int, v2_6 = w32 (v2 + 1) →
  M_X9_grantedFor_J1 v0 v1 v2_6 v3 C4 K m_5)) m_3)) m)
def M_X9_grantedFor_L1 (v0 : Int) (v1 : Int) (v2 : Int) (v3 : Int) (K : am_KK) (m : am_M) : Prop :=
  ∃ I : Nat → Int → Int → am_M → Prop, (∃ j, I j v2 v3 m) ∧ ∀ j v2 v3 m, I j v2 v3 m → M_X9_grantedFor_L1B v0 v1 v2 v3 (fun v2' v3' m' => ∃ j', j' < j ∧ I j' v2' v3' m') K m
def M_X9_grantedFor (v0 : Int) (v1 : Int) (K : am_KK) (m : am_M) : Prop :=
  M_X9_grantedFor_L1 v0 v1 0 0 K m
def N_X9_grantedFor : am_PT := fun zs K m => match zs with
  | [v0, v1] => am_ob v0 9 ∧ M_X9_grantedFor v0 v1 K m
  | _ => False
def M_X9_utter (v0 : Int) (v1 : Int) (v2 : Int) (v3 : Int) (v4 : Int) (K : am_KK) (m : am_M) : Prop :=
  M_X7_open (am_rfv v0 0) (fun r_1 m_2 =>
  M_X7_set (am_rfv v0 0) r_1 0 v1 (fun _ m_4 =>
  M_X7_set (am_rfv v0 0) r_1 1 v2 (fun _ m_6 =>
  M_X7_set (am_rfv v0 0) r_1 2 v3 (fun _ m_8 =>
  M_X7_set (am_rfv v0 0) r_1 3 v4 (fun _ m_10 =>
  M_X7_set (am_rfv v0 0) r_1 4 (m_10 v0 1) (fun _ m_12 =>
  M_X7_set (am_rfv v0 0) r_1 5 0 (fun _ m_14 =>
  M_X7_set (am_rfv v0 0) r_1 6 (-1) (fun _ m_16 =>
  K r_1 m_16) m_14) m_12) m_10) m_8) m_6) m_4) m_2) m
def N_X9_utter : am_PT := fun zs K m => match zs with
  | [v0, v1, v2, v3, v4] => am_ob v0 9 ∧ M_X9_utter v0 v1 v2 v3 v4 K m
  | _ => False
def M_X9_takeBackDawn_J1 (v0 : Int) (v1 : Int) (v2 : Int) (C2 : Int → am_M → Prop) (K : am_KK) (m : am_M) : Prop :=
  ∀ v2_1 : Int, v2_1 = w32 (v2 + 1) →
  C2 v2_1 m
def M_X9_takeBackDawn_L1B (v0 : Int) (v1 : Int) (v2 : Int) (C2 : Int → am_M → Prop) (K : am_KK) (m : am_M) : Prop :=
  (((m (am_rfv v0 0) 2) ≤ v2) →
  ∀ m_2 : am_M, m_2 = am_st m v0 1 (w32 ((m v0 1) - 1)) →
  K 0 m_2) ∧ (¬ ((m (am_rfv v0 0) 2) ≤ v2) →
  (((am_and (am_shr v1 v2) 1) ≠ 1) →
  M_X9_takeBackDawn_J1 v0 v1 v2 C2 K m) ∧ (¬ ((am_and (am_shr v1 v2) 1) ≠ 1) →
  M_X7_set (am_rfv v0 0) v2 5 0 (fun _ m_4 =>
  M_X7_set (am_rfv v0 0) v2 6 (-1) (fun _ m_6 =>
  M_X9_takeBackDawn_J1 v0 v1 v2 C2 K m_6) m_4) m))
def M_X9_takeBackDawn_L1 (v0 : Int) (v1 : Int) (v2 : Int) (K : am_KK) (m : am_M) : Prop :=
  ∃ I : Nat → Int → am_M → Prop, (∃ j, I j v2 m) ∧ ∀ j v2 m, I j v2 m → M_X9_takeBackDawn_L1B v0 v1 v2 (fun v2' m' => ∃ j', j' < j ∧ I j' v2' m') K m
def M_X9_takeBackDawn (v0 : Int) (v1 : Int) (K : am_KK) (m : am_M) : Prop :=
  M_X9_takeBackDawn_L1 v0 v1 0 K m
def N_X9_takeBackDawn : am_PT := fun zs K m => match zs with
  | [v0, v1] => am_ob v0 9 ∧ M_X9_takeBackDawn v0 v1 K m
  | _ => False
def M_X9_dropHeard_J1 (v0 : Int) (v1 : Int) (v2 : Int) (C4 : Int → Int → am_M → Prop) (K : am_KK) (m : am_M) : Prop :=
  ∀ v2_1 : Int, v2_1 = w32 (v2 + 1) →
  C4 v1 v2_1 m
def M_X9_dropHeard_L1B (v0 : Int) (v1 : Int) (v2 : Int) (C4 : Int → Int → am_M → Prop) (K : am_KK) (m : am_M) : Prop :=
  (((m (am_rfv v0 0) 2) ≤ v2) →
  ∀ v2_2 : Int, v2_2 = w32 ((m (am_rfv v0 0) 2) - v1) →
  M_X7_cut (am_rfv v0 0) v1 (fun _ m_4 =>
  K v2_2 m_4) m) ∧ (¬ ((m (am_rfv v0 0) 2) ≤ v2) →
  M_X9_waits v0 v2 (fun r_5 m_6 =>
  ((r_5 = 0) →
  M_X9_dropHeard_J1 v0 v1 v2 C4 K m_6) ∧ (¬ (r_5 = 0) →
  M_X7_copyRow (am_rfv v0 0) v2 v1 (fun _ m_9 =>
  ∀ v1_10 : Int, v1_10 = w32 (v1 + 1) →
  M_X9_dropHeard_J1 v0 v1_10 v2 C4 K m_9) m_6)) m)
def M_X9_dropHeard_L1 (v0 : Int) (v1 : Int) (v2 : Int) (K : am_KK) (m : am_M) : Prop :=
  ∃ I : Nat → Int → Int → am_M → Prop, (∃ j, I j v1 v2 m) ∧ ∀ j v1 v2 m, I j v1 v2 m → M_X9_dropHeard_L1B v0 v1 v2 (fun v1' v2' m' => ∃ j', j' < j ∧ I j' v1' v2' m') K m
def M_X9_dropHeard (v0 : Int) (K : am_KK) (m : am_M) : Prop :=
  M_X9_dropHeard_L1 v0 0 0 K m
def N_X9_dropHeard : am_PT := fun zs K m => match zs with
  | [v0] => am_ob v0 9 ∧ M_X9_dropHeard v0 K m
  | _ => False
def M_X10_weigh_J1 (v0 : Int) (v1 : Int) (v2 : Int) (v3 : Int) (v5 : Int) (C5 : Int → Int → am_M → Prop) (K : am_KK) (m : am_M) : Prop :=
  ∀ v5_1 : Int, v5_1 = w32 (v5 + 1) →
  C5 v3 v5_1 m
def M_X10_weigh_L1B (v0 : Int) (v1 : Int) (v2 : Int) (v3 : Int) (v5 : Int) (C5 : Int → Int → am_M → Prop) (K : am_KK) (m : am_M) : Prop :=
  ((3 < v5) →
  K v3 m) ∧ (¬ (3 < v5) →
  M_X7_get (am_rfv v1 1) v2 v5 (fun r_2 m_3 =>
  M_X11_isThing (w32 (r_2 - 10)) (fun r_4 m_5 =>
  ((r_4 = 0) →
  ((r_2 = (-1)) →
  M_X10_weigh_J1 v0 v1 v2 v3 v5 C5 K m_5) ∧ (¬ (r_2 = (-1)) →
  M_X7_get (am_rfv v1 0) r_2 0 (fun r_7 m_8 =>
  ∀ v3_9 : Int, v3_9 = w64 (v3 + (w64 (r_7 * 10000))) →
  M_X10_weigh_J1 v0 v1 v2 v3_9 v5 C5 K m_8) m_5)) ∧ (¬ (r_4 = 0) →
  ((0 : Int) ≤ (w32 (r_2 - 10)) ∧ (w32 (r_2 - 10)) < am_len (am_rfv v0 0)) ∧
  (((am_cmp (m_5 (am_rfv v0 0) (w32 (r_2 - 10))) (-1)) ≠ 0) →
  ((0 : Int) ≤ (w32 (r_2 - 10)) ∧ (w32 (r_2 - 10)) < am_len (am_rfv v0 0)) ∧
  ∀ v3_10 : Int, v3_10 = w64 (v3 + (m_5 (am_rfv v0 0) (w32 (r_2 - 10)))) →
  M_X10_weigh_J1 v0 v1 v2 v3_10 v5 C5 K m_5) ∧ (¬ ((am_cmp (m_5 (am_rfv v0 0) (w32 (r_2 - 10))) (-1)) ≠ 0) →
  K (-1) m_5))) m_3) m)
def M_X10_weigh_L1 (v0 : Int) (v1 : Int) (v2 : Int) (v3 : Int) (v5 : Int) (K : am_KK) (m : am_M) : Prop :=
  ∃ I : Nat → Int → Int → am_M → Prop, (∃ j, I j v3 v5 m) ∧ ∀ j v3 v5 m, I j v3 v5 m → M_X10_weigh_L1B v0 v1 v2 v3 v5 (fun v3' v5' m' => ∃ j', j' < j ∧ I j' v3' v5' m') K m
def M_X10_weigh (v0 : Int) (v1 : Int) (v2 : Int) (K : am_KK) (m : am_M) : Prop :=
  M_X10_weigh_L1 v0 v1 v2 1 1 K m
def N_X10_weigh : am_PT := fun zs K m => match zs with
  | [v0, v1, v2] => am_ob v0 10 ∧ am_ob v1 0 ∧ M_X10_weigh v0 v1 v2 K m
  | _ => False
def M_X10_improve_J1 (v0 : Int) (v3 : Int) (v4 : Int) (K : am_KK) (m : am_M) : Prop :=
  ((0 : Int) ≤ v3 ∧ v3 < am_len (am_rfv v0 0)) ∧
  ∀ m_1 : am_M, m_1 = am_st m (am_rfv v0 0) v3 v4 →
  K 0 m_1
def M_X10_improve (v0 : Int) (v1 : Int) (v2 : Int) (K : am_KK) (m : am_M) : Prop :=
  M_X7_get (am_rfv v1 1) v2 0 (fun r_2 m_3 =>
  M_X10_weigh v0 v1 v2 (fun r_4 m_5 =>
  M_X11_isThing r_2 (fun r_6 m_7 =>
  ((r_6 = 0) →
  K 0 m_7) ∧ (¬ (r_6 = 0) →
  (((am_cmp r_4 (-1)) = 0) →
  K 0 m_7) ∧ (¬ ((am_cmp r_4 (-1)) = 0) →
  ((0 : Int) ≤ r_2 ∧ r_2 < am_len (am_rfv v0 0)) ∧
  (((am_cmp (m_7 (am_rfv v0 0) r_2) (-1)) = 0) →
  M_X10_improve_J1 v0 r_2 r_4 K m_7) ∧ (¬ ((am_cmp (m_7 (am_rfv v0 0) r_2) (-1)) = 0) →
  ((0 : Int) ≤ r_2 ∧ r_2 < am_len (am_rfv v0 0)) ∧
  ((0 ≤ (am_cmp r_4 (m_7 (am_rfv v0 0) r_2))) →
  K 0 m_7) ∧ (¬ (0 ≤ (am_cmp r_4 (m_7 (am_rfv v0 0) r_2))) →
  M_X10_improve_J1 v0 r_2 r_4 K m_7))))) m_5) m_3) m
def N_X10_improve : am_PT := fun zs K m => match zs with
  | [v0, v1, v2] => am_ob v0 10 ∧ am_ob v1 0 ∧ M_X10_improve v0 v1 v2 K m
  | _ => False
def M_X10_wordsIn (v0 : Int) (v1 : Int) (K : am_KK) (m : am_M) : Prop :=
  ((v1 ≠ (-1)) →
  M_X11_isThing (w32 (v1 - 10)) (fun r_1 m_2 =>
  ((r_1 = 0) →
  K 1 m_2) ∧ (¬ (r_1 = 0) →
  ((0 : Int) ≤ (w32 (v1 - 10)) ∧ (w32 (v1 - 10)) < am_len (am_rfv v0 2)) ∧
  K (m_2 (am_rfv v0 2) (w32 (v1 - 10))) m_2)) m) ∧ (¬ (v1 ≠ (-1)) →
  K 0 m)
def N_X10_wordsIn : am_PT := fun zs K m => match zs with
  | [v0, v1] => am_ob v0 10 ∧ M_X10_wordsIn v0 v1 K m
  | _ => False
def M_X10_countWords_L1B (v0 : Int) (v1 : Int) (v2 : Int) (v3 : Int) (v4 : Int) (C5 : Int → Int → am_M → Prop) (K : am_KK) (m : am_M) : Prop :=
  ((3 < v4) →
  K v3 m) ∧ (¬ (3 < v4) →
  M_X7_get (am_rfv v1 1) v2 v4 (fun r_1 m_2 =>
  M_X10_wordsIn v0 r_1 (fun r_3 m_4 =>
  ∀ v3_5 : Int, v3_5 = w32 (v3 + r_3) →
  ∀ v4_6 : Int, v4_6 = w32 (v4 + 1) →
  C5 v3_5 v4_6 m_4) m_2) m)
def M_X10_countWords_L1 (v0 : Int) (v1 : Int) (v2 : Int) (v3 : Int) (v4 : Int) (K : am_KK) (m : am_M) : Prop :=
  ∃ I : Nat → Int → Int → am_M → Prop, (∃ j, I j v3 v4 m) ∧ ∀ j v3 v4 m, I j v3 v4 m → M_X10_countWords_L1B v0 v1 v2 v3 v4 (fun v3' v4' m' => ∃ j', j' < j ∧ I j' v3' v4' m') K m
def M_X10_countWords (v0 : Int) (v1 : Int) (v2 : Int) (K : am_KK) (m : am_M) : Prop :=
  M_X10_countWords_L1 v0 v1 v2 0 1 K m
def N_X10_countWords : am_PT := fun zs K m => match zs with
  | [v0, v1, v2] => am_ob v0 10 ∧ am_ob v1 0 ∧ M_X10_countWords v0 v1 v2 K m
  | _ => False
def M_X10_find_L6B (v0 : Int) (v1 : Int) (v2 : Int) (v3 : Int) (C159 : Int → am_M → Prop) (C151 : Int → am_M → Prop) (K : am_KK) (m : am_M) : Prop :=
  ((8 ≤ v3) →
  ∀ v2_1 : Int, v2_1 = w32 (v2 + 1) →
  C151 v2_1 m) ∧ (¬ (8 ≤ v3) →
  ((0 : Int) ≤ v3 ∧ v3 < am_len (am_rfv v0 1)) ∧
  M_X10_countWords v0 v1 (m (am_rfv v0 1) v3) (fun r_2 m_3 =>
  ((0 : Int) ≤ v3 ∧ v3 < am_len (am_rfv v0 2)) ∧
  ∀ m_4 : am_M, m_4 = am_st m_3 (am_rfv v0 2) v3 r_2 →
  ∀ v3_5 : Int, v3_5 = w32 (v3 + 1) →
  C159 v3_5 m_4) m)
def M_X10_find_L6 (v0 : Int) (v1 : Int) (v2 : Int) (v3 : Int) (C151 : Int → am_M → Prop) (K : am_KK) (m : am_M) : Prop :=
  ∃ I : Nat → Int → am_M → Prop, (∃ j, I j v3 m) ∧ ∀ j v3 m, I j v3 m → M_X10_find_L6B v0 v1 v2 v3 (fun v3' m' => ∃ j', j' < j ∧ I j' v3' m') C151 K m
def M_X10_find_L5B (v0 : Int) (v1 : Int) (v2 : Int) (C151 : Int → am_M → Prop) (K : am_KK) (m : am_M) : Prop :=
  ((8 ≤ v2) →
  K 0 m) ∧ (¬ (8 ≤ v2) →
  M_X10_find_L6 v0 v1 v2 0 C151 K m)
def M_X10_find_L5 (v0 : Int) (v1 : Int) (v2 : Int) (K : am_KK) (m : am_M) : Prop :=
  ∃ I : Nat → Int → am_M → Prop, (∃ j, I j v2 m) ∧ ∀ j v2 m, I j v2 m → M_X10_find_L5B v0 v1 v2 (fun v2' m' => ∃ j', j' < j ∧ I j' v2' m') K m
def M_X10_find_J1 (v0 : Int) (v1 : Int) (v2 : Int) (C86 : Int → am_M → Prop) (K : am_KK) (m : am_M) : Prop :=
  ∀ v2_6 : Int, v2_6 = w32 (v2 + (-1)) →
  C86 v2_6 m
def M_X10_find_L4B (v0 : Int) (v1 : Int) (v2 : Int) (C86 : Int → am_M → Prop) (K : am_KK) (m : am_M) : Prop :=
  ((v2 < 0) →
  M_X10_find_L5 v0 v1 0 K m) ∧ (¬ (v2 < 0) →
  M_X7_get (am_rfv v1 1) v2 0 (fun r_7 m_8 =>
  M_X11_isThing r_7 (fun r_9 m_10 =>
  ((r_9 = 0) →
  M_X10_find_J1 v0 v1 v2 C86 K m_10) ∧ (¬ (r_9 = 0) →
  ((0 : Int) ≤ r_7 ∧ r_7 < am_len (am_rfv v0 0)) ∧
  (((am_cmp (m_10 (am_rfv v0 0) r_7) (-1)) = 0) →
  M_X10_find_J1 v0 v1 v2 C86 K m_10) ∧ (¬ ((am_cmp (m_10 (am_rfv v0 0) r_7) (-1)) = 0) →
  ((0 : Int) ≤ r_7 ∧ r_7 < am_len (am_rfv v0 0)) ∧
  M_X10_weigh v0 v1 v2 (fun r_12 m_13 =>
  (((am_cmp (m_10 (am_rfv v0 0) r_7) r_12) ≠ 0) →
  M_X10_find_J1 v0 v1 v2 C86 K m_13) ∧ (¬ ((am_cmp (m_10 (am_rfv v0 0) r_7) r_12) ≠ 0) →
  ((0 : Int) ≤ r_7 ∧ r_7 < am_len (am_rfv v0 1)) ∧
  ∀ m_14 : am_M, m_14 = am_st m_13 (am_rfv v0 1) r_7 v2 →
  M_X10_find_J1 v0 v1 v2 C86 K m_14)) m_10))) m_8) m)
def M_X10_find_L4 (v0 : Int) (v1 : Int) (v2 : Int) (K : am_KK) (m : am_M) : Prop :=
  ∃ I : Nat → Int → am_M → Prop, (∃ j, I j v2 m) ∧ ∀ j v2 m, I j v2 m → M_X10_find_L4B v0 v1 v2 (fun v2' m' => ∃ j', j' < j ∧ I j' v2' m') K m
def M_X10_find_L3B (v0 : Int) (v1 : Int) (v2 : Int) (v3 : Int) (C47 : Int → am_M → Prop) (C39 : Int → am_M → Prop) (K : am_KK) (m : am_M) : Prop :=
  (((m (am_rfv v1 1) 2) ≤ v3) →
  ∀ v2_15 : Int, v2_15 = w32 (v2 + 1) →
  C39 v2_15 m) ∧ (¬ ((m (am_rfv v1 1) 2) ≤ v3) →
  M_X10_improve v0 v1 v3 (fun _ m_17 =>
  ∀ v3_18 : Int, v3_18 = w32 (v3 + 1) →
  C47 v3_18 m_17) m)
def M_X10_find_L3 (v0 : Int) (v1 : Int) (v2 : Int) (v3 : Int) (C39 : Int → am_M → Prop) (K : am_KK) (m : am_M) : Prop :=
  ∃ I : Nat → Int → am_M → Prop, (∃ j, I j v3 m) ∧ ∀ j v3 m, I j v3 m → M_X10_find_L3B v0 v1 v2 v3 (fun v3' m' => ∃ j', j' < j ∧ I j' v3' m') C39 K m
def M_X10_find_L2B (v0 : Int) (v1 : Int) (v2 : Int) (C39 : Int → am_M → Prop) (K : am_KK) (m : am_M) : Prop :=
  ((8 ≤ v2) →
  ∀ v2_19 : Int, v2_19 = w32 ((m (am_rfv v1 1) 2) - 1) →
  M_X10_find_L4 v0 v1 v2_19 K m) ∧ (¬ (8 ≤ v2) →
  M_X10_find_L3 v0 v1 v2 0 C39 K m)
def M_X10_find_L2 (v0 : Int) (v1 : Int) (v2 : Int) (K : am_KK) (m : am_M) : Prop :=
  ∃ I : Nat → Int → am_M → Prop, (∃ j, I j v2 m) ∧ ∀ j v2 m, I j v2 m → M_X10_find_L2B v0 v1 v2 (fun v2' m' => ∃ j', j' < j ∧ I j' v2' m') K m
def M_X10_find_L1B (v0 : Int) (v1 : Int) (v2 : Int) (C2 : Int → am_M → Prop) (K : am_KK) (m : am_M) : Prop :=
  ((8 ≤ v2) →
  M_X10_find_L2 v0 v1 0 K m) ∧ (¬ (8 ≤ v2) →
  ((0 : Int) ≤ v2 ∧ v2 < am_len (am_rfv v0 0)) ∧
  ∀ m_20 : am_M, m_20 = am_st m (am_rfv v0 0) v2 (-1) →
  ((0 : Int) ≤ v2 ∧ v2 < am_len (am_rfv v0 1)) ∧
  ∀ m_21 : am_M, m_21 = am_st m_20 (am_rfv v0 1) v2 (-1) →
  ((0 : Int) ≤ v2 ∧ v2 < am_len (am_rfv v0 2)) ∧
  ∀ m_22 : am_M, m_22 = am_st m_21 (am_rfv v0 2) v2 0 →
  ∀ v2_23 : Int, v2_23 = w32 (v2 + 1) →
  C2 v2_23 m_22)
def M_X10_find_L1 (v0 : Int) (v1 : Int) (v2 : Int) (K : am_KK) (m : am_M) : Prop :=
  ∃ I : Nat → Int → am_M → Prop, (∃ j, I j v2 m) ∧ ∀ j v2 m, I j v2 m → M_X10_find_L1B v0 v1 v2 (fun v2' m' => ∃ j', j' < j ∧ I j' v2' m') K m
def M_X10_find (v0 : Int) (v1 : Int) (K : am_KK) (m : am_M) : Prop :=
  M_X10_find_L1 v0 v1 0 K m
def N_X10_find : am_PT := fun zs K m => match zs with
  | [v0, v1] => am_ob v0 10 ∧ am_ob v1 0 ∧ M_X10_find v0 v1 K m
  | _ => False
def M_X10_lengthFor (v0 : Int) (v1 : Int) (K : am_KK) (m : am_M) : Prop :=
  M_X11_isThing v1 (fun r_1 m_2 =>
  ((r_1 = 0) →
  K (-1) m_2) ∧ (¬ (r_1 = 0) →
  ((0 : Int) ≤ v1 ∧ v1 < am_len (am_rfv v0 0)) ∧
  (((am_cmp (m_2 (am_rfv v0 0) v1) (-1)) = 0) →
  K (-1) m_2) ∧ (¬ ((am_cmp (m_2 (am_rfv v0 0) v1) (-1)) = 0) →
  ((0 : Int) ≤ v1 ∧ v1 < am_len (am_rfv v0 0)) ∧
  K (am_l2i (w64 (Int.tdiv (m_2 (am_rfv v0 0) v1) 10000))) m_2))) m
def N_X10_lengthFor : am_PT := fun zs K m => match zs with
  | [v0, v1] => am_ob v0 10 ∧ M_X10_lengthFor v0 v1 K m
  | _ => False
def M_X10_rulesFor (v0 : Int) (v1 : Int) (K : am_KK) (m : am_M) : Prop :=
  M_X11_isThing v1 (fun r_1 m_2 =>
  ((r_1 = 0) →
  K (-1) m_2) ∧ (¬ (r_1 = 0) →
  ((0 : Int) ≤ v1 ∧ v1 < am_len (am_rfv v0 0)) ∧
  (((am_cmp (m_2 (am_rfv v0 0) v1) (-1)) = 0) →
  K (-1) m_2) ∧ (¬ ((am_cmp (m_2 (am_rfv v0 0) v1) (-1)) = 0) →
  ((0 : Int) ≤ v1 ∧ v1 < am_len (am_rfv v0 0)) ∧
  K (am_l2i (w64 (Int.tmod (m_2 (am_rfv v0 0) v1) 10000))) m_2))) m
def N_X10_rulesFor : am_PT := fun zs K m => match zs with
  | [v0, v1] => am_ob v0 10 ∧ M_X10_rulesFor v0 v1 K m
  | _ => False
def M_X10_wordsFor (v0 : Int) (v1 : Int) (K : am_KK) (m : am_M) : Prop :=
  M_X11_isThing v1 (fun r_1 m_2 =>
  ((r_1 = 0) →
  K (-1) m_2) ∧ (¬ (r_1 = 0) →
  ((0 : Int) ≤ v1 ∧ v1 < am_len (am_rfv v0 0)) ∧
  (((am_cmp (m_2 (am_rfv v0 0) v1) (-1)) = 0) →
  K (-1) m_2) ∧ (¬ ((am_cmp (m_2 (am_rfv v0 0) v1) (-1)) = 0) →
  ((0 : Int) ≤ v1 ∧ v1 < am_len (am_rfv v0 2)) ∧
  K (m_2 (am_rfv v0 2) v1) m_2))) m
def N_X10_wordsFor : am_PT := fun zs K m => match zs with
  | [v0, v1] => am_ob v0 10 ∧ M_X10_wordsFor v0 v1 K m
  | _ => False
def M_X10_wordAt_J1 (v0 : Int) (v1 : Int) (v5 : Int) (v6 : Int) (v7 : Int) (v8 : Int) (C27 : Int → Int → Int → am_M → Prop) (K : am_KK) (m : am_M) : Prop :=
  M_X7_get (am_rfv v1 1) v7 v8 (fun r_1 m_2 =>
  ∀ v6_3 : Int, v6_3 = w32 (v6 + 1) →
  C27 r_1 v5 v6_3 m_2) m
def M_X10_wordAt_L2B (v0 : Int) (v1 : Int) (v5 : Int) (v6 : Int) (v7 : Int) (v8 : Int) (C60 : Int → Int → am_M → Prop) (C27 : Int → Int → Int → am_M → Prop) (K : am_KK) (m : am_M) : Prop :=
  ((3 ≤ v8) →
  M_X10_wordAt_J1 v0 v1 v5 v6 v7 v8 C27 K m) ∧ (¬ (3 ≤ v8) →
  M_X7_get (am_rfv v1 1) v7 v8 (fun r_4 m_5 =>
  M_X10_wordsIn v0 r_4 (fun r_6 m_7 =>
  ((v5 < r_6) →
  M_X10_wordAt_J1 v0 v1 v5 v6 v7 v8 C27 K m_7) ∧ (¬ (v5 < r_6) →
  M_X7_get (am_rfv v1 1) v7 v8 (fun r_8 m_9 =>
  M_X10_wordsIn v0 r_8 (fun r_10 m_11 =>
  ∀ v5_12 : Int, v5_12 = w32 (v5 - r_10) →
  ∀ v8_13 : Int, v8_13 = w32 (v8 + 1) →
  C60 v5_12 v8_13 m_11) m_9) m_7)) m_5) m)
def M_X10_wordAt_L2 (v0 : Int) (v1 : Int) (v5 : Int) (v6 : Int) (v7 : Int) (v8 : Int) (C27 : Int → Int → Int → am_M → Prop) (K : am_KK) (m : am_M) : Prop :=
  ∃ I : Nat → Int → Int → am_M → Prop, (∃ j, I j v5 v8 m) ∧ ∀ j v5 v8 m, I j v5 v8 m → M_X10_wordAt_L2B v0 v1 v5 v6 v7 v8 (fun v5' v8' m' => ∃ j', j' < j ∧ I j' v5' v8' m') C27 K m
def M_X10_wordAt_L1B (v0 : Int) (v1 : Int) (v4 : Int) (v5 : Int) (v6 : Int) (C27 : Int → Int → Int → am_M → Prop) (K : am_KK) (m : am_M) : Prop :=
  ((8 < v6) →
  K v4 m) ∧ (¬ (8 < v6) →
  M_X11_isThing (w32 (v4 - 10)) (fun r_14 m_15 =>
  ((r_14 = 0) →
  K v4 m_15) ∧ (¬ (r_14 = 0) →
  ((0 : Int) ≤ (w32 (v4 - 10)) ∧ (w32 (v4 - 10)) < am_len (am_rfv v0 1)) ∧
  ∀ v7_17 : Int, v7_17 = m_15 (am_rfv v0 1) (w32 (v4 - 10)) →
  M_X10_wordAt_L2 v0 v1 v5 v6 v7_17 1 C27 K m_15)) m)
def M_X10_wordAt_L1 (v0 : Int) (v1 : Int) (v4 : Int) (v5 : Int) (v6 : Int) (K : am_KK) (m : am_M) : Prop :=
  ∃ I : Nat → Int → Int → Int → am_M → Prop, (∃ j, I j v4 v5 v6 m) ∧ ∀ j v4 v5 v6 m, I j v4 v5 v6 m → M_X10_wordAt_L1B v0 v1 v4 v5 v6 (fun v4' v5' v6' m' => ∃ j', j' < j ∧ I j' v4' v5' v6' m') K m
def M_X10_wordAt (v0 : Int) (v1 : Int) (v2 : Int) (v3 : Int) (K : am_KK) (m : am_M) : Prop :=
  ((v3 < 0) →
  K (-1) m) ∧ (¬ (v3 < 0) →
  M_X10_wordsFor v0 v2 (fun r_18 m_19 =>
  ((v3 < r_18) →
  ∀ v4_20 : Int, v4_20 = w32 (v2 + 10) →
  M_X10_wordAt_L1 v0 v1 v4_20 v3 0 K m_19) ∧ (¬ (v3 < r_18) →
  K (-1) m_19)) m)
def N_X10_wordAt : am_PT := fun zs K m => match zs with
  | [v0, v1, v2, v3] => am_ob v0 10 ∧ am_ob v1 0 ∧ M_X10_wordAt v0 v1 v2 v3 K m
  | _ => False
def M_X11_refuse (v0 : Int) (v1 : Int) (K : am_KK) (m : am_M) : Prop :=
  ∀ m_1 : am_M, m_1 = am_st m v0 17 v1 →
  M_X11_within (w32 (-v1)) 1 (w32 ((am_len (am_rfv v0 16)) - 1)) (fun r_2 m_3 =>
  ((r_2 = 0) →
  K v1 m_3) ∧ (¬ (r_2 = 0) →
  ((0 : Int) ≤ (w32 (-v1)) ∧ (w32 (-v1)) < am_len (am_rfv v0 16)) ∧
  ((0 : Int) ≤ (w32 (-v1)) ∧ (w32 (-v1)) < am_len (am_rfv v0 16)) ∧
  ∀ m_5 : am_M, m_5 = am_st m_3 (am_rfv v0 16) (w32 (-v1)) (w32 ((m_3 (am_rfv v0 16) (w32 (-v1))) + 1)) →
  K v1 m_5)) m_1
def N_X11_refuse : am_PT := fun zs K m => match zs with
  | [v0, v1] => am_ob v0 11 ∧ M_X11_refuse v0 v1 K m
  | _ => False
def M_X11_fine (v0 : Int) (v1 : Int) (K : am_KK) (m : am_M) : Prop :=
  ∀ m_1 : am_M, m_1 = am_st m v0 17 0 →
  K v1 m_1
def N_X11_fine : am_PT := fun zs K m => match zs with
  | [v0, v1] => am_ob v0 11 ∧ M_X11_fine v0 v1 K m
  | _ => False
def M_X11_word (v0 : Int) (v1 : Int) (K : am_KK) (m : am_M) : Prop :=
  M_X11_within v1 1 9 (fun r_1 m_2 =>
  ((r_1 ≠ 0) →
  M_X7_open (am_rfv (am_rfv v0 0) 0) (fun r_4 m_5 =>
  ((r_4 ≠ (-1)) →
  M_X7_set (am_rfv (am_rfv v0 0) 0) r_4 0 v1 (fun _ m_7 =>
  M_X11_fine v0 r_4 (fun r_8 m_9 =>
  K r_8 m_9) m_7) m_5) ∧ (¬ (r_4 ≠ (-1)) →
  M_X11_refuse v0 (-5) (fun r_10 m_11 =>
  K r_10 m_11) m_5)) m_2) ∧ (¬ (r_1 ≠ 0) →
  M_X11_refuse v0 (-1) (fun r_12 m_13 =>
  K r_12 m_13) m_2)) m
def N_X11_word : am_PT := fun zs K m => match zs with
  | [v0, v1] => am_ob v0 11 ∧ M_X11_word v0 v1 K m
  | _ => False
def M_X11_lengthOf (v0 : Int) (v1 : Int) (K : am_KK) (m : am_M) : Prop :=
  M_X7_get (am_rfv (am_rfv v0 0) 0) v1 0 (fun r_1 m_2 =>
  K r_1 m_2) m
def N_X11_lengthOf : am_PT := fun zs K m => match zs with
  | [v0, v1] => am_ob v0 11 ∧ M_X11_lengthOf v0 v1 K m
  | _ => False
def M_X11_lacksWord (v0 : Int) (v1 : Int) (K : am_KK) (m : am_M) : Prop :=
  M_X11_within v1 0 9 (fun r_1 m_2 =>
  ((r_1 = 0) →
  K 0 m_2) ∧ (¬ (r_1 = 0) →
  M_X7_has (am_rfv (am_rfv v0 0) 0) v1 (fun r_4 m_5 =>
  ((r_4 ≠ 0) →
  K 0 m_5) ∧ (¬ (r_4 ≠ 0) →
  K 1 m_5)) m_2)) m
def N_X11_lacksWord : am_PT := fun zs K m => match zs with
  | [v0, v1] => am_ob v0 11 ∧ M_X11_lacksWord v0 v1 K m
  | _ => False
def M_X11_rule_J3 (v0 : Int) (K : am_KK) (m : am_M) : Prop :=
  M_X11_refuse v0 (-2) (fun r_1 m_2 =>
  K r_1 m_2) m
def M_X11_rule_J2 (v0 : Int) (v1 : Int) (v2 : Int) (v3 : Int) (v4 : Int) (K : am_KK) (m : am_M) : Prop :=
  M_X11_lacksWord v0 v2 (fun r_3 m_4 =>
  ((r_3 ≠ 0) →
  M_X11_rule_J3 v0 K m_4) ∧ (¬ (r_3 ≠ 0) →
  M_X11_lacksWord v0 v3 (fun r_6 m_7 =>
  ((r_6 ≠ 0) →
  M_X11_rule_J3 v0 K m_7) ∧ (¬ (r_6 ≠ 0) →
  M_X11_lacksWord v0 v4 (fun r_9 m_10 =>
  ((r_9 = 0) →
  M_X7_open (am_rfv (am_rfv v0 0) 1) (fun r_12 m_13 =>
  ((r_12 ≠ (-1)) →
  M_X7_set (am_rfv (am_rfv v0 0) 1) r_12 0 v1 (fun _ m_15 =>
  M_X7_set (am_rfv (am_rfv v0 0) 1) r_12 1 v2 (fun _ m_17 =>
  M_X7_set (am_rfv (am_rfv v0 0) 1) r_12 2 v3 (fun _ m_19 =>
  M_X7_set (am_rfv (am_rfv v0 0) 1) r_12 3 v4 (fun _ m_21 =>
  M_X11_fine v0 r_12 (fun r_22 m_23 =>
  K r_22 m_23) m_21) m_19) m_17) m_15) m_13) ∧ (¬ (r_12 ≠ (-1)) →
  M_X11_refuse v0 (-5) (fun r_24 m_25 =>
  K r_24 m_25) m_13)) m_10) ∧ (¬ (r_9 = 0) →
  M_X11_rule_J3 v0 K m_10)) m_7)) m_4)) m
def M_X11_rule_J1 (v0 : Int) (K : am_KK) (m : am_M) : Prop :=
  M_X11_refuse v0 (-1) (fun r_26 m_27 =>
  K r_26 m_27) m
def M_X11_rule (v0 : Int) (v1 : Int) (v2 : Int) (v3 : Int) (v4 : Int) (K : am_KK) (m : am_M) : Prop :=
  M_X11_isThing v1 (fun r_28 m_29 =>
  ((r_28 = 0) →
  M_X11_rule_J1 v0 K m_29) ∧ (¬ (r_28 = 0) →
  M_X11_within v2 0 17 (fun r_31 m_32 =>
  ((r_31 = 0) →
  M_X11_rule_J1 v0 K m_32) ∧ (¬ (r_31 = 0) →
  M_X11_within v3 (-1) 17 (fun r_34 m_35 =>
  ((r_34 = 0) →
  M_X11_rule_J1 v0 K m_35) ∧ (¬ (r_34 = 0) →
  M_X11_within v4 (-1) 17 (fun r_37 m_38 =>
  ((r_37 = 0) →
  M_X11_rule_J1 v0 K m_38) ∧ (¬ (r_37 = 0) →
  ((v3 ≠ (-1)) →
  M_X11_rule_J2 v0 v1 v2 v3 v4 K m_38) ∧ (¬ (v3 ≠ (-1)) →
  ((v4 = (-1)) →
  M_X11_rule_J2 v0 v1 v2 v3 v4 K m_38) ∧ (¬ (v4 = (-1)) →
  M_X11_rule_J1 v0 K m_38)))) m_35)) m_32)) m_29)) m
def N_X11_rule : am_PT := fun zs K m => match zs with
  | [v0, v1, v2, v3, v4] => am_ob v0 11 ∧ M_X11_rule v0 v1 v2 v3 v4 K m
  | _ => False
def M_X11_of (v0 : Int) (v1 : Int) (v2 : Int) (K : am_KK) (m : am_M) : Prop :=
  M_X7_get (am_rfv (am_rfv v0 0) 1) v1 v2 (fun r_1 m_2 =>
  K r_1 m_2) m
def N_X11_of : am_PT := fun zs K m => match zs with
  | [v0, v1, v2] => am_ob v0 11 ∧ M_X11_of v0 v1 v2 K m
  | _ => False
def M_X11_clash_J1 (v0 : Int) (K : am_KK) (m : am_M) : Prop :=
  M_X11_refuse v0 (-1) (fun r_1 m_2 =>
  K r_1 m_2) m
def M_X11_clash (v0 : Int) (v1 : Int) (v2 : Int) (v3 : Int) (K : am_KK) (m : am_M) : Prop :=
  M_X11_isThing v1 (fun r_3 m_4 =>
  ((r_3 = 0) →
  M_X11_clash_J1 v0 K m_4) ∧ (¬ (r_3 = 0) →
  M_X11_isThing v2 (fun r_6 m_7 =>
  ((r_6 = 0) →
  M_X11_clash_J1 v0 K m_7) ∧ (¬ (r_6 = 0) →
  ((v1 = v2) →
  M_X11_clash_J1 v0 K m_7) ∧ (¬ (v1 = v2) →
  M_X11_within v3 0 1 (fun r_9 m_10 =>
  ((r_9 ≠ 0) →
  M_X0_setClash (am_rfv v0 0) v1 v2 v3 (fun r_12 m_13 =>
  M_X11_fine v0 r_12 (fun r_14 m_15 =>
  K r_14 m_15) m_13) m_10) ∧ (¬ (r_9 ≠ 0) →
  M_X11_clash_J1 v0 K m_10)) m_7))) m_4)) m
def N_X11_clash : am_PT := fun zs K m => match zs with
  | [v0, v1, v2, v3] => am_ob v0 11 ∧ M_X11_clash v0 v1 v2 v3 K m
  | _ => False
def M_X11_often_J1 (v0 : Int) (K : am_KK) (m : am_M) : Prop :=
  M_X11_refuse v0 (-1) (fun r_1 m_2 =>
  K r_1 m_2) m
def M_X11_often (v0 : Int) (v1 : Int) (v2 : Int) (K : am_KK) (m : am_M) : Prop :=
  M_X11_isThing v1 (fun r_3 m_4 =>
  ((r_3 = 0) →
  M_X11_often_J1 v0 K m_4) ∧ (¬ (r_3 = 0) →
  M_X11_within v2 0 99 (fun r_6 m_7 =>
  ((r_6 ≠ 0) →
  ((0 : Int) ≤ v1 ∧ v1 < am_len (am_rfv (am_rfv v0 0) 7)) ∧
  ∀ v3_9 : Int, v3_9 = m_7 (am_rfv (am_rfv v0 0) 7) v1 →
  ((0 : Int) ≤ v1 ∧ v1 < am_len (am_rfv (am_rfv v0 0) 7)) ∧
  ∀ m_10 : am_M, m_10 = am_st m_7 (am_rfv (am_rfv v0 0) 7) v1 v2 →
  M_X11_fine v0 v3_9 (fun r_11 m_12 =>
  K r_11 m_12) m_10) ∧ (¬ (r_6 ≠ 0) →
  M_X11_often_J1 v0 K m_7)) m_4)) m
def N_X11_often : am_PT := fun zs K m => match zs with
  | [v0, v1, v2] => am_ob v0 11 ∧ M_X11_often v0 v1 v2 K m
  | _ => False
def M_X11_person (v0 : Int) (v1 : Int) (K : am_KK) (m : am_M) : Prop :=
  M_X11_within v1 0 99 (fun r_1 m_2 =>
  ((r_1 ≠ 0) →
  M_X7_open (am_rfv (am_rfv v0 0) 2) (fun r_4 m_5 =>
  ((r_4 ≠ (-1)) →
  M_X7_set (am_rfv (am_rfv v0 0) 2) r_4 0 v1 (fun _ m_7 =>
  M_X11_fine v0 r_4 (fun r_8 m_9 =>
  K r_8 m_9) m_7) m_5) ∧ (¬ (r_4 ≠ (-1)) →
  M_X11_refuse v0 (-5) (fun r_10 m_11 =>
  K r_10 m_11) m_5)) m_2) ∧ (¬ (r_1 ≠ 0) →
  M_X11_refuse v0 (-1) (fun r_12 m_13 =>
  K r_12 m_13) m_2)) m
def N_X11_person : am_PT := fun zs K m => match zs with
  | [v0, v1] => am_ob v0 11 ∧ M_X11_person v0 v1 K m
  | _ => False
def M_X11_breath_J1 (v0 : Int) (v1 : Int) (v2 : Int) (K : am_KK) (m : am_M) : Prop :=
  M_X7_get (am_rfv (am_rfv v0 0) 2) v1 v2 (fun r_1 m_2 =>
  K r_1 m_2) m
def M_X11_breath (v0 : Int) (v1 : Int) (v2 : Int) (K : am_KK) (m : am_M) : Prop :=
  ((v2 ≠ 1) →
  M_X11_breath_J1 v0 v1 v2 K m) ∧ (¬ (v2 ≠ 1) →
  M_X7_has (am_rfv (am_rfv v0 0) 2) v1 (fun r_3 m_4 =>
  ((r_3 = 0) →
  M_X11_breath_J1 v0 v1 v2 K m_4) ∧ (¬ (r_3 = 0) →
  M_X3_breathOf (am_rfv v0 6) (am_rfv v0 0) v1 (m_4 (am_rfv (am_rfv v0 0) 5) 1) (fun r_6 m_7 =>
  K r_6 m_7) m_4)) m)
def N_X11_breath : am_PT := fun zs K m => match zs with
  | [v0, v1, v2] => am_ob v0 11 ∧ M_X11_breath v0 v1 v2 K m
  | _ => False
def M_X11_lowestTerm (v0 : Int) (K : am_KK) (m : am_M) : Prop :=
  ((v0 ≠ 1) →
  K 0 m) ∧ (¬ (v0 ≠ 1) →
  K 1 m)
def N_X11_lowestTerm : am_PT := fun zs K m => match zs with
  | [v0] => M_X11_lowestTerm v0 K m
  | _ => False
def M_X11_highestTerm (v0 : Int) (K : am_KK) (m : am_M) : Prop :=
  ((v0 ≠ 0) →
  ((v0 ≠ 1) →
  ((v0 ≠ 2) →
  K 9 m) ∧ (¬ (v0 ≠ 2) →
  K 30 m)) ∧ (¬ (v0 ≠ 1) →
  K 4 m)) ∧ (¬ (v0 ≠ 0) →
  K 999 m)
def N_X11_highestTerm : am_PT := fun zs K m => match zs with
  | [v0] => M_X11_highestTerm v0 K m
  | _ => False
def M_X11_terms_J1 (v0 : Int) (K : am_KK) (m : am_M) : Prop :=
  M_X11_refuse v0 (-1) (fun r_1 m_2 =>
  K r_1 m_2) m
def M_X11_terms (v0 : Int) (v1 : Int) (v2 : Int) (K : am_KK) (m : am_M) : Prop :=
  M_X11_within v1 0 3 (fun r_3 m_4 =>
  ((r_3 = 0) →
  M_X11_terms_J1 v0 K m_4) ∧ (¬ (r_3 = 0) →
  M_X11_lowestTerm v1 (fun r_6 m_7 =>
  M_X11_highestTerm v1 (fun r_8 m_9 =>
  M_X11_within v2 r_6 r_8 (fun r_10 m_11 =>
  ((r_10 ≠ 0) →
  M_X0_term (am_rfv v0 0) v1 (fun r_13 m_14 =>
  M_X0_setTerm (am_rfv v0 0) v1 v2 (fun _ m_16 =>
  M_X7_cut (am_rfv v0 10) 0 (fun _ m_18 =>
  M_X11_fine v0 r_13 (fun r_19 m_20 =>
  K r_19 m_20) m_18) m_16) m_14) m_11) ∧ (¬ (r_10 ≠ 0) →
  M_X11_terms_J1 v0 K m_11)) m_9) m_7) m_4)) m
def N_X11_terms : am_PT := fun zs K m => match zs with
  | [v0, v1, v2] => am_ob v0 11 ∧ M_X11_terms v0 v1 v2 K m
  | _ => False
def M_X11_feedNumber_L1B (v0 : Int) (v1 : Int) (v2 : Int) (C3 : Int → am_M → Prop) (K : am_KK) (m : am_M) : Prop :=
  ((v2 < 0) →
  K 0 m) ∧ (¬ (v2 < 0) →
  M_X7_open (am_rfv v0 3) (fun r_1 m_2 =>
  M_X7_set (am_rfv v0 3) r_1 0 (am_and (am_shr v1 v2) 255) (fun _ m_4 =>
  ∀ v2_5 : Int, v2_5 = w32 (v2 + (-8)) →
  C3 v2_5 m_4) m_2) m)
def M_X11_feedNumber_L1 (v0 : Int) (v1 : Int) (v2 : Int) (K : am_KK) (m : am_M) : Prop :=
  ∃ I : Nat → Int → am_M → Prop, (∃ j, I j v2 m) ∧ ∀ j v2 m, I j v2 m → M_X11_feedNumber_L1B v0 v1 v2 (fun v2' m' => ∃ j', j' < j ∧ I j' v2' m') K m
def M_X11_feedNumber (v0 : Int) (v1 : Int) (K : am_KK) (m : am_M) : Prop :=
  M_X11_feedNumber_L1 v0 v1 24 K m
def N_X11_feedNumber : am_PT := fun zs K m => match zs with
  | [v0, v1] => am_ob v0 11 ∧ M_X11_feedNumber v0 v1 K m
  | _ => False
def M_X11_feed (v0 : Int) (v1 : Int) (v2 : Int) (v3 : Int) (v4 : Int) (v5 : Int) (K : am_KK) (m : am_M) : Prop :=
  (((m (am_rfv v0 3) 2) ≤ 380) →
  M_X11_feedNumber v0 v1 (fun _ m_2 =>
  M_X11_feedNumber v0 v2 (fun _ m_4 =>
  M_X11_feedNumber v0 v3 (fun _ m_6 =>
  M_X11_feedNumber v0 v4 (fun _ m_8 =>
  M_X11_feedNumber v0 v5 (fun _ m_10 =>
  K (m_10 (am_rfv v0 3) 2) m_10) m_8) m_6) m_4) m_2) m) ∧ (¬ ((m (am_rfv v0 3) 2) ≤ 380) →
  K (-1) m)
def N_X11_feed : am_PT := fun zs K m => match zs with
  | [v0, v1, v2, v3, v4, v5] => am_ob v0 11 ∧ M_X11_feed v0 v1 v2 v3 v4 v5 K m
  | _ => False
def M_X11_end (v0 : Int) (v1 : Int) (K : am_KK) (m : am_M) : Prop :=
  M_X11_within v1 0 (m (am_rfv v0 3) 2) (fun r_1 m_2 =>
  ((r_1 ≠ 0) →
  M_X7_cut (am_rfv v0 3) v1 (fun _ m_5 =>
  K v1 m_5) m_2) ∧ (¬ (r_1 ≠ 0) →
  K (-1) m_2)) m
def N_X11_end : am_PT := fun zs K m => match zs with
  | [v0, v1] => am_ob v0 11 ∧ M_X11_end v0 v1 K m
  | _ => False
def M_X11_tryPrayer (v0 : Int) (v1 : Int) (v2 : Int) (v3 : Int) (v4 : Int) (v5 : Int) (K : am_KK) (m : am_M) : Prop :=
  M_X11_isThing v3 (fun r_1 m_2 =>
  ((r_1 = 0) →
  K (-1) m_2) ∧ (¬ (r_1 = 0) →
  M_X11_within v4 1 99 (fun r_4 m_5 =>
  ((r_4 = 0) →
  K (-1) m_5) ∧ (¬ (r_4 = 0) →
  M_X11_within v5 1 6 (fun r_7 m_8 =>
  ((r_7 ≠ 0) →
  M_X7_has (am_rfv (am_rfv v0 0) 2) v2 (fun r_10 m_11 =>
  ((r_10 ≠ 0) →
  M_X3_breathOf (am_rfv v0 6) (am_rfv v0 0) v2 (m_11 v1 1) (fun r_13 m_14 =>
  ((v4 ≤ r_13) →
  (((m_14 (am_rfv v1 0) 2) < 16) →
  M_X9_utter v1 v2 v3 v4 v5 (fun r_15 m_16 =>
  K 0 m_16) m_14) ∧ (¬ ((m_14 (am_rfv v1 0) 2) < 16) →
  K (-5) m_14)) ∧ (¬ (v4 ≤ r_13) →
  K (-3) m_14)) m_11) ∧ (¬ (r_10 ≠ 0) →
  K (-2) m_11)) m_8) ∧ (¬ (r_7 ≠ 0) →
  K (-1) m_8)) m_5)) m_2)) m
def N_X11_tryPrayer : am_PT := fun zs K m => match zs with
  | [v0, v1, v2, v3, v4, v5] => am_ob v0 11 ∧ am_ob v1 9 ∧ M_X11_tryPrayer v0 v1 v2 v3 v4 v5 K m
  | _ => False
def M_X11_row_J1 (v0 : Int) (v1 : Int) (v2 : Int) (C26 : Int → Int → am_M → Prop) (K : am_KK) (m : am_M) : Prop :=
  ∀ v2_1 : Int, v2_1 = w32 (v2 + 3) →
  C26 v1 v2_1 m
def M_X11_row_L1B (v0 : Int) (v1 : Int) (v2 : Int) (C26 : Int → Int → am_M → Prop) (K : am_KK) (m : am_M) : Prop :=
  (((m (am_rfv v0 3) 2) ≤ v2) →
  M_X7_cut (am_rfv v0 3) 0 (fun _ m_3 =>
  M_X7_cut (am_rfv v0 10) 0 (fun _ m_5 =>
  M_X11_fine v0 v1 (fun r_6 m_7 =>
  K r_6 m_7) m_5) m_3) m) ∧ (¬ ((m (am_rfv v0 3) 2) ≤ v2) →
  M_X7_get (am_rfv v0 3) v2 0 (fun r_8 m_9 =>
  M_X7_get (am_rfv v0 3) (w32 (v2 + 1)) 0 (fun r_10 m_11 =>
  M_X7_get (am_rfv v0 3) (w32 (v2 + 2)) 0 (fun r_12 m_13 =>
  M_X11_tryPrayer v0 (am_rfv (am_rfv v0 0) 5) r_8 r_10 r_12 1 (fun r_14 m_15 =>
  ((r_14 ≠ 0) →
  ∀ m_16 : am_M, m_16 = am_st m_15 v0 18 (w32 ((m_15 v0 18) + 1)) →
  M_X11_row_J1 v0 v1 v2 C26 K m_16) ∧ (¬ (r_14 ≠ 0) →
  ∀ v1_17 : Int, v1_17 = w32 (v1 + 1) →
  M_X11_row_J1 v0 v1_17 v2 C26 K m_15)) m_13) m_11) m_9) m)
def M_X11_row_L1 (v0 : Int) (v1 : Int) (v2 : Int) (K : am_KK) (m : am_M) : Prop :=
  ∃ I : Nat → Int → Int → am_M → Prop, (∃ j, I j v1 v2 m) ∧ ∀ j v1 v2 m, I j v1 v2 m → M_X11_row_L1B v0 v1 v2 (fun v1' v2' m' => ∃ j', j' < j ∧ I j' v1' v2' m') K m
def M_X11_row (v0 : Int) (K : am_KK) (m : am_M) : Prop :=
  (((m (am_rfv v0 3) 2) ≠ 0) →
  ∀ m_18 : am_M, m_18 = am_st m v0 18 0 →
  M_X11_row_L1 v0 0 0 K m_18) ∧ (¬ ((m (am_rfv v0 3) 2) ≠ 0) →
  M_X11_refuse v0 (-6) (fun r_19 m_20 =>
  K r_19 m_20) m)
def N_X11_row : am_PT := fun zs K m => match zs with
  | [v0] => am_ob v0 11 ∧ M_X11_row v0 K m
  | _ => False
def M_X11_coughs (v0 : Int) (K : am_KK) (m : am_M) : Prop :=
  K (m v0 18) m
def N_X11_coughs : am_PT := fun zs K m => match zs with
  | [v0] => am_ob v0 11 ∧ M_X11_coughs v0 K m
  | _ => False
def M_X11_law (v0 : Int) (K : am_KK) (m : am_M) : Prop :=
  (((m (am_rfv v0 0) 10) < (am_len (am_rfv (am_rfv v0 0) 9))) →
  M_X5_read (am_rfv v0 5) 0 (fun r_1 m_2 =>
  M_X7_cut (am_rfv v0 3) 0 (fun _ m_5 =>
  ((r_1 = 0) →
  M_X11_refuse v0 (-6) (fun r_6 m_7 =>
  K r_6 m_7) m_5) ∧ (¬ (r_1 = 0) →
  M_X0_addLaw (am_rfv v0 0) (am_rfv v0 4) (fun r_8 m_9 =>
  M_X11_fine v0 r_8 (fun r_10 m_11 =>
  K r_10 m_11) m_9) m_5)) m_2) m) ∧ (¬ ((m (am_rfv v0 0) 10) < (am_len (am_rfv (am_rfv v0 0) 9))) →
  M_X7_cut (am_rfv v0 3) 0 (fun _ m_13 =>
  M_X11_refuse v0 (-5) (fun r_14 m_15 =>
  K r_14 m_15) m_13) m)
def N_X11_law : am_PT := fun zs K m => match zs with
  | [v0] => am_ob v0 11 ∧ M_X11_law v0 K m
  | _ => False
def M_X11_lookAround_L1B (v0 : Int) (v2 : Int) (C60 : Int → am_M → Prop) (K : am_KK) (m : am_M) : Prop :=
  ((8 ≤ v2) →
  K 0 m) ∧ (¬ (8 ≤ v2) →
  M_X10_lengthFor (am_rfv v0 12) v2 (fun r_1 m_2 =>
  ((0 : Int) ≤ (w32 (8 + v2)) ∧ (w32 (8 + v2)) < am_len (am_rfv v0 15)) ∧
  ∀ m_3 : am_M, m_3 = am_st m_2 (am_rfv v0 15) (w32 (8 + v2)) r_1 →
  M_X9_grantedFor (am_rfv (am_rfv v0 0) 5) v2 (fun r_4 m_5 =>
  ((0 : Int) ≤ (w32 (16 + v2)) ∧ (w32 (16 + v2)) < am_len (am_rfv v0 15)) ∧
  ∀ m_6 : am_M, m_6 = am_st m_5 (am_rfv v0 15) (w32 (16 + v2)) r_4 →
  ∀ v2_7 : Int, v2_7 = w32 (v2 + 1) →
  C60 v2_7 m_6) m_3) m)
def M_X11_lookAround_L1 (v0 : Int) (v2 : Int) (K : am_KK) (m : am_M) : Prop :=
  ∃ I : Nat → Int → am_M → Prop, (∃ j, I j v2 m) ∧ ∀ j v2 m, I j v2 m → M_X11_lookAround_L1B v0 v2 (fun v2' m' => ∃ j', j' < j ∧ I j' v2' m') K m
def M_X11_lookAround (v0 : Int) (v1 : Int) (K : am_KK) (m : am_M) : Prop :=
  ((0 : Int) ≤ 0 ∧ 0 < am_len (am_rfv v0 15)) ∧
  ∀ m_8 : am_M, m_8 = am_st m (am_rfv v0 15) 0 (m (am_rfv (am_rfv v0 0) 5) 1) →
  ((0 : Int) ≤ 1 ∧ 1 < am_len (am_rfv v0 15)) ∧
  ∀ m_9 : am_M, m_9 = am_st m_8 (am_rfv v0 15) 1 (m_8 (am_rfv (am_rfv (am_rfv v0 0) 5) 0) 2) →
  M_X9_waiting (am_rfv (am_rfv v0 0) 5) (fun r_10 m_11 =>
  ((0 : Int) ≤ 2 ∧ 2 < am_len (am_rfv v0 15)) ∧
  ∀ m_12 : am_M, m_12 = am_st m_11 (am_rfv v0 15) 2 r_10 →
  ((0 : Int) ≤ 3 ∧ 3 < am_len (am_rfv v0 15)) ∧
  ∀ m_13 : am_M, m_13 = am_st m_12 (am_rfv v0 15) 3 v1 →
  M_X11_lookAround_L1 v0 0 K m_13) m_9
def N_X11_lookAround : am_PT := fun zs K m => match zs with
  | [v0, v1] => am_ob v0 11 ∧ M_X11_lookAround v0 v1 K m
  | _ => False
def M_X11_noteDeed_J1 (v0 : Int) (v1 : Int) (K : am_KK) (m : am_M) : Prop :=
  M_X7_open (am_rfv v0 10) (fun r_1 m_2 =>
  M_X7_set (am_rfv v0 10) r_1 0 v1 (fun _ m_4 =>
  K 0 m_4) m_2) m
def M_X11_noteDeed (v0 : Int) (v1 : Int) (K : am_KK) (m : am_M) : Prop :=
  (((m (am_rfv v0 10) 2) < 16) →
  M_X11_noteDeed_J1 v0 v1 K m) ∧ (¬ ((m (am_rfv v0 10) 2) < 16) →
  M_X7_dropFirst (am_rfv v0 10) (fun _ m_6 =>
  M_X11_noteDeed_J1 v0 v1 K m_6) m)
def N_X11_noteDeed : am_PT := fun zs K m => match zs with
  | [v0, v1] => am_ob v0 11 ∧ M_X11_noteDeed v0 v1 K m
  | _ => False
def M_X11_tryDawn (v0 : Int) (K : am_KK) (m : am_M) : Prop :=
  (((m (am_rfv (am_rfv v0 0) 5) 1) < 999) →
  M_X2_foreseeAll (am_rfv v0 7) (am_rfv v0 0) (am_rfv (am_rfv v0 0) 5) 1 (fun _ m_2 =>
  M_X2_hear (am_rfv v0 7) (am_rfv v0 0) (am_rfv (am_rfv v0 0) 5) 1 (fun r_3 m_4 =>
  M_X11_noteDeed v0 (w32 ((w32 ((m_4 (am_rfv v0 7) 2) * 2)) + 1)) (fun _ m_6 =>
  K r_3 m_6) m_4) m_2) m) ∧ (¬ ((m (am_rfv (am_rfv v0 0) 5) 1) < 999) →
  K (-3) m)
def N_X11_tryDawn : am_PT := fun zs K m => match zs with
  | [v0] => am_ob v0 11 ∧ M_X11_tryDawn v0 K m
  | _ => False
def M_X11_runOnce_J1 (v5 : Int) (K : am_KK) (m : am_M) : Prop :=
  ((v5 = 0) →
  K v5 m) ∧ (¬ (v5 = 0) →
  ((v5 ≠ (-5)) →
  K (-3) m) ∧ (¬ (v5 ≠ (-5)) →
  K v5 m))
def M_X11_runOnce (v0 : Int) (v1 : Int) (K : am_KK) (m : am_M) : Prop :=
  M_X7_get (am_rfv (am_rfv v0 4) 2) v1 0 (fun r_1 m_2 =>
  ((r_1 ≠ 4) →
  M_X6_value (am_rfv (am_rfv v0 6) 1) (am_rfv v0 4) v1 0 (am_rfv v0 15) (fun r_3 m_4 =>
  M_X6_value (am_rfv (am_rfv v0 6) 1) (am_rfv v0 4) v1 1 (am_rfv v0 15) (fun r_5 m_6 =>
  M_X6_value (am_rfv (am_rfv v0 6) 1) (am_rfv v0 4) v1 2 (am_rfv v0 15) (fun r_7 m_8 =>
  ((r_3 = (-2000000000)) →
  K (-3) m_8) ∧ (¬ (r_3 = (-2000000000)) →
  ((r_5 = (-2000000000)) →
  K (-3) m_8) ∧ (¬ (r_5 = (-2000000000)) →
  ((r_7 ≠ (-2000000000)) →
  M_X11_tryPrayer v0 (am_rfv (am_rfv v0 0) 5) r_3 r_5 r_7 1 (fun r_9 m_10 =>
  ((r_9 ≠ 0) →
  M_X11_runOnce_J1 r_9 K m_10) ∧ (¬ (r_9 ≠ 0) →
  M_X11_noteDeed v0 0 (fun _ m_12 =>
  M_X11_runOnce_J1 r_9 K m_12) m_10)) m_8) ∧ (¬ (r_7 ≠ (-2000000000)) →
  K (-3) m_8)))) m_6) m_4) m_2) ∧ (¬ (r_1 ≠ 4) →
  M_X11_tryDawn v0 (fun r_13 m_14 =>
  K (am_min r_13 0) m_14) m_2)) m
def N_X11_runOnce : am_PT := fun zs K m => match zs with
  | [v0, v1] => am_ob v0 11 ∧ M_X11_runOnce v0 v1 K m
  | _ => False
def M_X11_orders_J1 (v0 : Int) (v2 : Int) (v3 : Int) (v4 : Int) (C90 : Int → Int → am_M → Prop) (C73 : Int → Int → am_M → Prop) (K : am_KK) (m : am_M) : Prop :=
  ∀ v4_1 : Int, v4_1 = w32 (v4 + 1) →
  C90 v2 v4_1 m
def M_X11_orders_L2B (v0 : Int) (v2 : Int) (v3 : Int) (v4 : Int) (C90 : Int → Int → am_M → Prop) (C73 : Int → Int → am_M → Prop) (K : am_KK) (m : am_M) : Prop :=
  M_X7_get (am_rfv (am_rfv v0 4) 2) v3 1 (fun r_2 m_3 =>
  ((r_2 ≤ v4) →
  ∀ v3_4 : Int, v3_4 = w32 (v3 + 1) →
  C73 v2 v3_4 m_3) ∧ (¬ (r_2 ≤ v4) →
  M_X11_lookAround v0 v2 (fun _ m_6 =>
  M_X6_value (am_rfv (am_rfv v0 6) 1) (am_rfv v0 4) v3 3 (am_rfv v0 15) (fun r_7 m_8 =>
  ((r_7 = 1) →
  M_X11_runOnce v0 v3 (fun r_9 m_10 =>
  ((r_9 = 0) →
  ∀ v2_11 : Int, v2_11 = w32 (v2 + 1) →
  M_X11_orders_J1 v0 v2_11 v3 v4 C90 C73 K m_10) ∧ (¬ (r_9 = 0) →
  M_X9_takeFrom (am_rfv (am_rfv v0 0) 5) (am_rfv v0 9) (fun _ m_13 =>
  M_X7_takeFrom (am_rfv v0 10) (am_rfv v0 11) (fun _ m_15 =>
  ∀ m_16 : am_M, m_16 = am_st m_15 v0 19 v3 →
  M_X11_refuse v0 r_9 (fun r_17 m_18 =>
  K r_17 m_18) m_16) m_13) m_10)) m_8) ∧ (¬ (r_7 = 1) →
  M_X11_orders_J1 v0 v2 v3 v4 C90 C73 K m_8)) m_6) m_3)) m
def M_X11_orders_L2 (v0 : Int) (v2 : Int) (v3 : Int) (v4 : Int) (C73 : Int → Int → am_M → Prop) (K : am_KK) (m : am_M) : Prop :=
  ∃ I : Nat → Int → Int → am_M → Prop, (∃ j, I j v2 v4 m) ∧ ∀ j v2 v4 m, I j v2 v4 m → M_X11_orders_L2B v0 v2 v3 v4 (fun v2' v4' m' => ∃ j', j' < j ∧ I j' v2' v4' m') C73 K m
def M_X11_orders_L1B (v0 : Int) (v2 : Int) (v3 : Int) (C73 : Int → Int → am_M → Prop) (K : am_KK) (m : am_M) : Prop :=
  (((m (am_rfv (am_rfv v0 4) 2) 2) ≤ v3) →
  M_X11_fine v0 v2 (fun r_19 m_20 =>
  K r_19 m_20) m) ∧ (¬ ((m (am_rfv (am_rfv v0 4) 2) 2) ≤ v3) →
  M_X11_orders_L2 v0 v2 v3 0 C73 K m)
def M_X11_orders_L1 (v0 : Int) (v2 : Int) (v3 : Int) (K : am_KK) (m : am_M) : Prop :=
  ∃ I : Nat → Int → Int → am_M → Prop, (∃ j, I j v2 v3 m) ∧ ∀ j v2 v3 m, I j v2 v3 m → M_X11_orders_L1B v0 v2 v3 (fun v2' v3' m' => ∃ j', j' < j ∧ I j' v2' v3' m') K m
def M_X11_orders (v0 : Int) (K : am_KK) (m : am_M) : Prop :=
  M_X5_read (am_rfv v0 5) 1 (fun r_21 m_22 =>
  M_X7_cut (am_rfv v0 3) 0 (fun _ m_25 =>
  ∀ m_26 : am_M, m_26 = am_st m_25 v0 19 (-1) →
  ((r_21 ≠ 0) →
  M_X9_takeFrom (am_rfv v0 9) (am_rfv (am_rfv v0 0) 5) (fun _ m_28 =>
  M_X7_takeFrom (am_rfv v0 11) (am_rfv v0 10) (fun _ m_30 =>
  M_X10_find (am_rfv v0 12) (am_rfv v0 0) (fun _ m_32 =>
  M_X11_orders_L1 v0 0 0 K m_32) m_30) m_28) m_26) ∧ (¬ (r_21 ≠ 0) →
  M_X11_refuse v0 (-6) (fun r_33 m_34 =>
  K r_33 m_34) m_26)) m_22) m
def N_X11_orders : am_PT := fun zs K m => match zs with
  | [v0] => am_ob v0 11 ∧ M_X11_orders v0 K m
  | _ => False
def M_X11_fault (v0 : Int) (K : am_KK) (m : am_M) : Prop :=
  K (m (am_rfv v0 5) 6) m
def N_X11_fault : am_PT := fun zs K m => match zs with
  | [v0] => am_ob v0 11 ∧ M_X11_fault v0 K m
  | _ => False
def M_X11_stopped (v0 : Int) (K : am_KK) (m : am_M) : Prop :=
  K (m v0 19) m
def N_X11_stopped : am_PT := fun zs K m => match zs with
  | [v0] => am_ob v0 11 ∧ M_X11_stopped v0 K m
  | _ => False
def M_X11_force (v0 : Int) (v1 : Int) (K : am_KK) (m : am_M) : Prop :=
  M_X11_within v1 (-1) (w32 ((m (am_rfv v0 0) 10) - 1)) (fun r_1 m_2 =>
  ((r_1 ≠ 0) →
  ∀ v2_4 : Int, v2_4 = m_2 (am_rfv v0 0) 11 →
  ∀ m_5 : am_M, m_5 = am_st m_2 (am_rfv v0 0) 11 v1 →
  M_X11_fine v0 v2_4 (fun r_6 m_7 =>
  K r_6 m_7) m_5) ∧ (¬ (r_1 ≠ 0) →
  M_X11_refuse v0 (-2) (fun r_8 m_9 =>
  K r_8 m_9) m_2)) m
def N_X11_force : am_PT := fun zs K m => match zs with
  | [v0, v1] => am_ob v0 11 ∧ M_X11_force v0 v1 K m
  | _ => False
def M_X11_say (v0 : Int) (v1 : Int) (v2 : Int) (K : am_KK) (m : am_M) : Prop :=
  M_X11_isThing v1 (fun r_1 m_2 =>
  ((r_1 = 0) →
  K (-1) m_2) ∧ (¬ (r_1 = 0) →
  ((0 ≤ v2) →
  M_X10_find (am_rfv v0 12) (am_rfv v0 0) (fun _ m_5 =>
  ((v2 ≠ 0) →
  ((v2 ≠ 1) →
  ((v2 ≠ 2) →
  M_X10_wordAt (am_rfv v0 12) (am_rfv v0 0) v1 (w32 (v2 - 3)) (fun r_6 m_7 =>
  K r_6 m_7) m_5) ∧ (¬ (v2 ≠ 2) →
  M_X10_rulesFor (am_rfv v0 12) v1 (fun r_8 m_9 =>
  K r_8 m_9) m_5)) ∧ (¬ (v2 ≠ 1) →
  M_X10_wordsFor (am_rfv v0 12) v1 (fun r_10 m_11 =>
  K r_10 m_11) m_5)) ∧ (¬ (v2 ≠ 0) →
  M_X10_lengthFor (am_rfv v0 12) v1 (fun r_12 m_13 =>
  K r_12 m_13) m_5)) m_2) ∧ (¬ (0 ≤ v2) →
  K (-1) m_2))) m
def N_X11_say : am_PT := fun zs K m => match zs with
  | [v0, v1, v2] => am_ob v0 11 ∧ M_X11_say v0 v1 v2 K m
  | _ => False
def M_X11_pray (v0 : Int) (v1 : Int) (v2 : Int) (v3 : Int) (v4 : Int) (K : am_KK) (m : am_M) : Prop :=
  M_X11_tryPrayer v0 (am_rfv (am_rfv v0 0) 5) v1 v2 v3 v4 (fun r_1 m_2 =>
  ((r_1 = 0) →
  M_X11_noteDeed v0 0 (fun _ m_4 =>
  M_X11_fine v0 (w32 ((m_4 (am_rfv (am_rfv (am_rfv v0 0) 5) 0) 2) - 1)) (fun r_5 m_6 =>
  K r_5 m_6) m_4) m_2) ∧ (¬ (r_1 = 0) →
  M_X11_refuse v0 r_1 (fun r_7 m_8 =>
  K r_7 m_8) m_2)) m
def N_X11_pray : am_PT := fun zs K m => match zs with
  | [v0, v1, v2, v3, v4] => am_ob v0 11 ∧ M_X11_pray v0 v1 v2 v3 v4 K m
  | _ => False
def M_X11_at (v0 : Int) (v1 : Int) (v2 : Int) (K : am_KK) (m : am_M) : Prop :=
  M_X7_get (am_rfv (am_rfv (am_rfv v0 0) 5) 0) v1 v2 (fun r_1 m_2 =>
  K r_1 m_2) m
def N_X11_at : am_PT := fun zs K m => match zs with
  | [v0, v1, v2] => am_ob v0 11 ∧ M_X11_at v0 v1 v2 K m
  | _ => False
def M_X11_rank_J1 (K : am_KK) (m : am_M) : Prop :=
  K (-1000000) m
def M_X11_rank (v0 : Int) (v1 : Int) (v2 : Int) (K : am_KK) (m : am_M) : Prop :=
  M_X9_waits (am_rfv (am_rfv v0 0) 5) v1 (fun r_1 m_2 =>
  ((r_1 = 0) →
  M_X11_rank_J1 K m_2) ∧ (¬ (r_1 = 0) →
  M_X11_within v2 0 1 (fun r_4 m_5 =>
  ((r_4 ≠ 0) →
  M_X3_look (am_rfv v0 6) (am_rfv v0 0) (am_rfv (am_rfv v0 0) 5) v1 (w32 ((m_5 (am_rfv (am_rfv v0 0) 5) 1) + 1)) (fun _ m_8 =>
  ((v2 ≠ 0) →
  M_X3_tells (am_rfv v0 6) (am_rfv v0 0) 2 0 0 1 (fun r_9 m_10 =>
  K r_9 m_10) m_8) ∧ (¬ (v2 ≠ 0) →
  M_X3_rankTold (am_rfv v0 6) (am_rfv v0 0) (fun r_11 m_12 =>
  K r_11 m_12) m_8)) m_5) ∧ (¬ (r_4 ≠ 0) →
  M_X11_rank_J1 K m_5)) m_2)) m
def N_X11_rank : am_PT := fun zs K m => match zs with
  | [v0, v1, v2] => am_ob v0 11 ∧ M_X11_rank v0 v1 v2 K m
  | _ => False
def M_X11_order_J1 (v1 : Int) (v2 : Int) (v3 : Int) (K : am_KK) (m : am_M) : Prop :=
  ((v1 ≠ (-1)) →
  K v3 m) ∧ (¬ (v1 ≠ (-1)) →
  K v2 m)
def M_X11_order_L1B (v0 : Int) (v1 : Int) (v2 : Int) (C39 : Int → am_M → Prop) (K : am_KK) (m : am_M) : Prop :=
  ((16 ≤ v2) →
  ((v1 ≠ (-1)) →
  K (-1) m) ∧ (¬ (v1 ≠ (-1)) →
  K 16 m)) ∧ (¬ (16 ≤ v2) →
  M_X2_lowest (am_rfv v0 7) (am_rfv v0 8) 1 (fun r_1 m_2 =>
  ((r_1 = (-1)) →
  M_X11_order_J1 v1 v2 r_1 K m_2) ∧ (¬ (r_1 = (-1)) →
  ((v2 ≠ v1) →
  M_X7_set (am_rfv (am_rfv v0 8) 0) r_1 5 2 (fun _ m_4 =>
  ∀ v2_5 : Int, v2_5 = w32 (v2 + 1) →
  C39 v2_5 m_4) m_2) ∧ (¬ (v2 ≠ v1) →
  M_X11_order_J1 v1 v2 r_1 K m_2))) m)
def M_X11_order_L1 (v0 : Int) (v1 : Int) (v2 : Int) (K : am_KK) (m : am_M) : Prop :=
  ∃ I : Nat → Int → am_M → Prop, (∃ j, I j v2 m) ∧ ∀ j v2 m, I j v2 m → M_X11_order_L1B v0 v1 v2 (fun v2' m' => ∃ j', j' < j ∧ I j' v2' m') K m
def M_X11_order (v0 : Int) (v1 : Int) (K : am_KK) (m : am_M) : Prop :=
  (((-1) ≤ v1) →
  M_X9_takeFrom (am_rfv v0 8) (am_rfv (am_rfv v0 0) 5) (fun _ m_7 =>
  M_X2_foreseeAll (am_rfv v0 7) (am_rfv v0 0) (am_rfv v0 8) 1 (fun _ m_9 =>
  M_X11_order_L1 v0 v1 0 K m_9) m_7) m) ∧ (¬ ((-1) ≤ v1) →
  K (-1) m)
def N_X11_order : am_PT := fun zs K m => match zs with
  | [v0, v1] => am_ob v0 11 ∧ M_X11_order v0 v1 K m
  | _ => False
def M_X11_dawn (v0 : Int) (K : am_KK) (m : am_M) : Prop :=
  M_X11_tryDawn v0 (fun r_1 m_2 =>
  ((0 ≤ r_1) →
  M_X11_fine v0 r_1 (fun r_3 m_4 =>
  K r_3 m_4) m_2) ∧ (¬ (0 ≤ r_1) →
  M_X11_refuse v0 r_1 (fun r_5 m_6 =>
  K r_5 m_6) m_2)) m
def N_X11_dawn : am_PT := fun zs K m => match zs with
  | [v0] => am_ob v0 11 ∧ M_X11_dawn v0 K m
  | _ => False
def M_X11_undo (v0 : Int) (K : am_KK) (m : am_M) : Prop :=
  (((m (am_rfv v0 10) 2) ≠ 0) →
  M_X7_get (am_rfv v0 10) (w32 ((m (am_rfv v0 10) 2) - 1)) 0 (fun r_1 m_2 =>
  M_X7_cut (am_rfv v0 10) (w32 ((m_2 (am_rfv v0 10) 2) - 1)) (fun _ m_4 =>
  ((r_1 ≠ 0) →
  M_X9_takeBackDawn (am_rfv (am_rfv v0 0) 5) (am_shr r_1 1) (fun _ m_6 =>
  M_X11_fine v0 1 (fun r_7 m_8 =>
  K r_7 m_8) m_6) m_4) ∧ (¬ (r_1 ≠ 0) →
  M_X7_cut (am_rfv (am_rfv (am_rfv v0 0) 5) 0) (w32 ((m_4 (am_rfv (am_rfv (am_rfv v0 0) 5) 0) 2) - 1)) (fun _ m_10 =>
  M_X11_fine v0 0 (fun r_11 m_12 =>
  K r_11 m_12) m_10) m_4)) m_2) m) ∧ (¬ ((m (am_rfv v0 10) 2) ≠ 0) →
  M_X11_refuse v0 (-3) (fun r_13 m_14 =>
  K r_13 m_14) m)
def N_X11_undo : am_PT := fun zs K m => match zs with
  | [v0] => am_ob v0 11 ∧ M_X11_undo v0 K m
  | _ => False
def M_X11_sweep (v0 : Int) (K : am_KK) (m : am_M) : Prop :=
  M_X7_cut (am_rfv v0 10) 0 (fun _ m_2 =>
  M_X9_dropHeard (am_rfv (am_rfv v0 0) 5) (fun r_3 m_4 =>
  K r_3 m_4) m_2) m
def N_X11_sweep : am_PT := fun zs K m => match zs with
  | [v0] => am_ob v0 11 ∧ M_X11_sweep v0 K m
  | _ => False
def M_X11_code (v0 : Int) (v1 : Int) (v2 : Int) (K : am_KK) (m : am_M) : Prop :=
  M_X11_within v2 0 8 (fun r_1 m_2 =>
  ((r_1 = 0) →
  K (-1) m_2) ∧ (¬ (r_1 = 0) →
  M_X1_find (am_rfv v0 13) (am_rfv v0 0) v1 (fun r_4 m_5 =>
  ((r_4 ≠ 0) →
  ((v2 ≠ 0) →
  M_X1_lengthFor (am_rfv v0 13) (w32 (v2 - 1)) (fun r_7 m_8 =>
  K r_7 m_8) m_5) ∧ (¬ (v2 ≠ 0) →
  M_X1_total (am_rfv v0 13) (fun r_9 m_10 =>
  K r_9 m_10) m_5)) ∧ (¬ (r_4 ≠ 0) →
  K (-1) m_5)) m_2)) m
def N_X11_code : am_PT := fun zs K m => match zs with
  | [v0, v1, v2] => am_ob v0 11 ∧ M_X11_code v0 v1 v2 K m
  | _ => False
def M_X11_bundle_J1 (v0 : Int) (K : am_KK) (m : am_M) : Prop :=
  M_X11_refuse v0 (-1) (fun r_1 m_2 =>
  K r_1 m_2) m
def M_X11_bundle (v0 : Int) (v1 : Int) (v2 : Int) (K : am_KK) (m : am_M) : Prop :=
  M_X11_within v1 1 255 (fun r_3 m_4 =>
  ((r_3 = 0) →
  M_X11_bundle_J1 v0 K m_4) ∧ (¬ (r_3 = 0) →
  M_X11_within v2 1 99 (fun r_6 m_7 =>
  ((r_6 ≠ 0) →
  M_X7_open (am_rfv (am_rfv v0 0) 3) (fun r_9 m_10 =>
  ((r_9 ≠ (-1)) →
  M_X7_set (am_rfv (am_rfv v0 0) 3) r_9 0 v1 (fun _ m_12 =>
  M_X7_set (am_rfv (am_rfv v0 0) 3) r_9 1 v2 (fun _ m_14 =>
  M_X11_fine v0 r_9 (fun r_15 m_16 =>
  K r_15 m_16) m_14) m_12) m_10) ∧ (¬ (r_9 ≠ (-1)) →
  M_X11_refuse v0 (-5) (fun r_17 m_18 =>
  K r_17 m_18) m_10)) m_7) ∧ (¬ (r_6 ≠ 0) →
  M_X11_bundle_J1 v0 K m_7)) m_4)) m
def N_X11_bundle : am_PT := fun zs K m => match zs with
  | [v0, v1, v2] => am_ob v0 11 ∧ M_X11_bundle v0 v1 v2 K m
  | _ => False
def M_X11_cover_J2 (v0 : Int) (v1 : Int) (v2 : Int) (v3 : Int) (v4 : Int) (v5 : Int) (C30 : Int → Int → Int → am_M → Prop) (K : am_KK) (m : am_M) : Prop :=
  ∀ v5_1 : Int, v5_1 = w32 (v5 + 1) →
  C30 v3 v4 v5_1 m
def M_X11_cover_J1 (v0 : Int) (v1 : Int) (v2 : Int) (v5 : Int) (v6 : Int) (C30 : Int → Int → Int → am_M → Prop) (K : am_KK) (m : am_M) : Prop :=
  M_X11_cover_J2 v0 v1 v2 v5 v6 v5 C30 K m
def M_X11_cover_L1B (v0 : Int) (v1 : Int) (v2 : Int) (v3 : Int) (v4 : Int) (v5 : Int) (C30 : Int → Int → Int → am_M → Prop) (K : am_KK) (m : am_M) : Prop :=
  (((am_shl 1 (m (am_rfv (am_rfv v0 0) 3) 2)) ≤ v5) →
  ((v3 ≠ (-1)) →
  ((v2 ≠ 0) →
  K v3 m) ∧ (¬ (v2 ≠ 0) →
  K (w32 (Int.tdiv v4 16)) m)) ∧ (¬ (v3 ≠ (-1)) →
  K (-1) m)) ∧ (¬ ((am_shl 1 (m (am_rfv (am_rfv v0 0) 3) 2)) ≤ v5) →
  M_X0_coverCost (am_rfv v0 0) v5 v1 (fun r_2 m_3 =>
  ((r_2 = (-1)) →
  M_X11_cover_J2 v0 v1 v2 v3 v4 v5 C30 K m_3) ∧ (¬ (r_2 = (-1)) →
  ((v3 = (-1)) →
  M_X11_cover_J1 v0 v1 v2 v5 r_2 C30 K m_3) ∧ (¬ (v3 = (-1)) →
  ((v4 ≤ r_2) →
  M_X11_cover_J2 v0 v1 v2 v3 v4 v5 C30 K m_3) ∧ (¬ (v4 ≤ r_2) →
  M_X11_cover_J1 v0 v1 v2 v5 r_2 C30 K m_3)))) m)
def M_X11_cover_L1 (v0 : Int) (v1 : Int) (v2 : Int) (v3 : Int) (v4 : Int) (v5 : Int) (K : am_KK) (m : am_M) : Prop :=
  ∃ I : Nat → Int → Int → Int → am_M → Prop, (∃ j, I j v3 v4 v5 m) ∧ ∀ j v3 v4 v5 m, I j v3 v4 v5 m → M_X11_cover_L1B v0 v1 v2 v3 v4 v5 (fun v3' v4' v5' m' => ∃ j', j' < j ∧ I j' v3' v4' v5' m') K m
def M_X11_cover (v0 : Int) (v1 : Int) (v2 : Int) (K : am_KK) (m : am_M) : Prop :=
  M_X11_within v1 1 255 (fun r_4 m_5 =>
  ((r_4 = 0) →
  K (-1) m_5) ∧ (¬ (r_4 = 0) →
  M_X11_within v2 0 1 (fun r_7 m_8 =>
  ((r_7 ≠ 0) →
  M_X11_cover_L1 v0 v1 v2 (-1) 0 1 K m_8) ∧ (¬ (r_7 ≠ 0) →
  K (-1) m_8)) m_5)) m
def N_X11_cover : am_PT := fun zs K m => match zs with
  | [v0, v1, v2] => am_ob v0 11 ∧ M_X11_cover v0 v1 v2 K m
  | _ => False
def M_X11_when_J2 (v0 : Int) (v1 : Int) (v3 : Int) (s0 : Int) (K : am_KK) (m : am_M) : Prop :=
  ((v3 ≠ 0) →
  K s0 m) ∧ (¬ (v3 ≠ 0) →
  M_X7_get (am_rfv (am_rfv v0 8) 0) v1 6 (fun r_1 m_2 =>
  K r_1 m_2) m)
def M_X11_when_J1 (v0 : Int) (v1 : Int) (v3 : Int) (K : am_KK) (m : am_M) : Prop :=
  M_X9_waits (am_rfv v0 8) v1 (fun r_3 m_4 =>
  ((r_3 = 0) →
  M_X7_get (am_rfv (am_rfv v0 8) 0) v1 5 (fun r_6 m_7 =>
  ((r_6 ≠ 1) →
  M_X11_when_J2 v0 v1 v3 0 K m_7) ∧ (¬ (r_6 ≠ 1) →
  M_X11_when_J2 v0 v1 v3 1 K m_7)) m_4) ∧ (¬ (r_3 = 0) →
  K (-1) m_4)) m
def M_X11_when_L1B (v0 : Int) (v1 : Int) (v2 : Int) (v3 : Int) (v4 : Int) (C52 : Int → am_M → Prop) (K : am_KK) (m : am_M) : Prop :=
  ((v2 ≤ v4) →
  M_X11_when_J1 v0 v1 v3 K m) ∧ (¬ (v2 ≤ v4) →
  M_X9_waits (am_rfv v0 8) v1 (fun r_8 m_9 =>
  ((r_8 = 0) →
  M_X11_when_J1 v0 v1 v3 K m_9) ∧ (¬ (r_8 = 0) →
  ((999 ≤ (m_9 (am_rfv v0 8) 1)) →
  M_X11_when_J1 v0 v1 v3 K m_9) ∧ (¬ (999 ≤ (m_9 (am_rfv v0 8) 1)) →
  M_X2_foreseeAll (am_rfv v0 7) (am_rfv v0 0) (am_rfv v0 8) 1 (fun _ m_12 =>
  M_X2_hear (am_rfv v0 7) (am_rfv v0 0) (am_rfv v0 8) 1 (fun r_13 m_14 =>
  ∀ v4_15 : Int, v4_15 = w32 (v4 + 1) →
  C52 v4_15 m_14) m_12) m_9))) m)
def M_X11_when_L1 (v0 : Int) (v1 : Int) (v2 : Int) (v3 : Int) (v4 : Int) (K : am_KK) (m : am_M) : Prop :=
  ∃ I : Nat → Int → am_M → Prop, (∃ j, I j v4 m) ∧ ∀ j v4 m, I j v4 m → M_X11_when_L1B v0 v1 v2 v3 v4 (fun v4' m' => ∃ j', j' < j ∧ I j' v4' m') K m
def M_X11_when (v0 : Int) (v1 : Int) (v2 : Int) (v3 : Int) (K : am_KK) (m : am_M) : Prop :=
  M_X9_waits (am_rfv (am_rfv v0 0) 5) v1 (fun r_16 m_17 =>
  ((r_16 = 0) →
  K (-1) m_17) ∧ (¬ (r_16 = 0) →
  M_X11_within v2 1 50 (fun r_19 m_20 =>
  ((r_19 = 0) →
  K (-1) m_20) ∧ (¬ (r_19 = 0) →
  M_X11_within v3 0 1 (fun r_22 m_23 =>
  ((r_22 ≠ 0) →
  M_X9_takeFrom (am_rfv v0 8) (am_rfv (am_rfv v0 0) 5) (fun _ m_26 =>
  M_X11_when_L1 v0 v1 v2 v3 0 K m_26) m_23) ∧ (¬ (r_22 ≠ 0) →
  K (-1) m_23)) m_20)) m_17)) m
def N_X11_when : am_PT := fun zs K m => match zs with
  | [v0, v1, v2, v3] => am_ob v0 11 ∧ M_X11_when v0 v1 v2 v3 K m
  | _ => False
def M_X11_longest_L1B (v0 : Int) (v1 : Int) (v2 : Int) (v3 : Int) (v4 : Int) (C92 : Int → am_M → Prop) (K : am_KK) (m : am_M) : Prop :=
  ((v4 ≤ 0) →
  K (-1) m) ∧ (¬ (v4 ≤ 0) →
  M_X9_takeFrom (am_rfv v0 8) (am_rfv (am_rfv v0 0) 5) (fun _ m_2 =>
  M_X9_utter (am_rfv v0 8) v1 v2 v4 v3 (fun r_3 m_4 =>
  M_X2_foresee (am_rfv v0 7) (am_rfv v0 0) (am_rfv v0 8) r_3 1 (w32 ((m_4 (am_rfv v0 8) 1) + 1)) (fun _ m_6 =>
  M_X2_hear (am_rfv v0 7) (am_rfv v0 0) (am_rfv v0 8) 1 (fun r_7 m_8 =>
  M_X7_get (am_rfv (am_rfv v0 8) 0) r_3 5 (fun r_9 m_10 =>
  ((r_9 ≠ 1) →
  ∀ v4_11 : Int, v4_11 = w32 (v4 + (-1)) →
  C92 v4_11 m_10) ∧ (¬ (r_9 ≠ 1) →
  K v4 m_10)) m_8) m_6) m_4) m_2) m)
def M_X11_longest_L1 (v0 : Int) (v1 : Int) (v2 : Int) (v3 : Int) (v4 : Int) (K : am_KK) (m : am_M) : Prop :=
  ∃ I : Nat → Int → am_M → Prop, (∃ j, I j v4 m) ∧ ∀ j v4 m, I j v4 m → M_X11_longest_L1B v0 v1 v2 v3 v4 (fun v4' m' => ∃ j', j' < j ∧ I j' v4' m') K m
def M_X11_longest (v0 : Int) (v1 : Int) (v2 : Int) (v3 : Int) (K : am_KK) (m : am_M) : Prop :=
  M_X7_has (am_rfv (am_rfv v0 0) 2) v1 (fun r_12 m_13 =>
  ((r_12 = 0) →
  K (-1) m_13) ∧ (¬ (r_12 = 0) →
  M_X11_isThing v2 (fun r_15 m_16 =>
  ((r_15 = 0) →
  K (-1) m_16) ∧ (¬ (r_15 = 0) →
  M_X11_within v3 1 6 (fun r_18 m_19 =>
  ((r_18 = 0) →
  K (-1) m_19) ∧ (¬ (r_18 = 0) →
  (((m_19 (am_rfv (am_rfv v0 0) 5) 1) < 999) →
  M_X2_foreseeAll (am_rfv v0 7) (am_rfv v0 0) (am_rfv (am_rfv v0 0) 5) 1 (fun _ m_22 =>
  M_X3_breathOf (am_rfv v0 6) (am_rfv v0 0) v1 (m_22 (am_rfv (am_rfv v0 0) 5) 1) (fun r_23 m_24 =>
  M_X11_longest_L1 v0 v1 v2 v3 r_23 K m_24) m_22) m_19) ∧ (¬ ((m_19 (am_rfv (am_rfv v0 0) 5) 1) < 999) →
  K (-1) m_19))) m_16)) m_13)) m
def N_X11_longest : am_PT := fun zs K m => match zs with
  | [v0, v1, v2, v3] => am_ob v0 11 ∧ M_X11_longest v0 v1 v2 v3 K m
  | _ => False
def M_X11_isGrantedWithin_J1 (v0 : Int) (v1 : Int) (K : am_KK) (m : am_M) : Prop :=
  M_X7_get (am_rfv (am_rfv v0 8) 0) v1 5 (fun r_1 m_2 =>
  ((r_1 ≠ 1) →
  K 0 m_2) ∧ (¬ (r_1 ≠ 1) →
  K 1 m_2)) m
def M_X11_isGrantedWithin_L1B (v0 : Int) (v1 : Int) (v2 : Int) (v3 : Int) (C2 : Int → am_M → Prop) (K : am_KK) (m : am_M) : Prop :=
  ((v2 < v3) →
  M_X11_isGrantedWithin_J1 v0 v1 K m) ∧ (¬ (v2 < v3) →
  M_X9_waits (am_rfv v0 8) v1 (fun r_3 m_4 =>
  ((r_3 = 0) →
  M_X11_isGrantedWithin_J1 v0 v1 K m_4) ∧ (¬ (r_3 = 0) →
  M_X2_hear (am_rfv v0 7) (am_rfv v0 0) (am_rfv v0 8) v3 (fun r_6 m_7 =>
  ∀ v3_8 : Int, v3_8 = w32 (v3 + 1) →
  C2 v3_8 m_7) m_4)) m)
def M_X11_isGrantedWithin_L1 (v0 : Int) (v1 : Int) (v2 : Int) (v3 : Int) (K : am_KK) (m : am_M) : Prop :=
  ∃ I : Nat → Int → am_M → Prop, (∃ j, I j v3 m) ∧ ∀ j v3 m, I j v3 m → M_X11_isGrantedWithin_L1B v0 v1 v2 v3 (fun v3' m' => ∃ j', j' < j ∧ I j' v3' m') K m
def M_X11_isGrantedWithin (v0 : Int) (v1 : Int) (v2 : Int) (K : am_KK) (m : am_M) : Prop :=
  M_X11_isGrantedWithin_L1 v0 v1 v2 1 K m
def N_X11_isGrantedWithin : am_PT := fun zs K m => match zs with
  | [v0, v1, v2] => am_ob v0 11 ∧ M_X11_isGrantedWithin v0 v1 v2 K m
  | _ => False
def M_X11_keep_L3B (v0 : Int) (v1 : Int) (v3 : Int) (v4 : Int) (v5 : Int) (v6 : Int) (v7 : Int) (v8 : Int) (C187 : Int → am_M → Prop) (C163 : Int → am_M → Prop) (K : am_KK) (m : am_M) : Prop :=
  ((v7 ≤ v8) →
  M_X11_isGrantedWithin v0 v1 v6 (fun r_1 m_2 =>
  ((r_1 ≠ 0) →
  ∀ v7_4 : Int, v7_4 = w32 (v7 + 1) →
  C163 v7_4 m_2) ∧ (¬ (r_1 ≠ 0) →
  K v7 m_2)) m) ∧ (¬ (v7 ≤ v8) →
  M_X9_utter (am_rfv v0 8) v3 v4 v5 1 (fun r_5 m_6 =>
  ∀ v8_7 : Int, v8_7 = w32 (v8 + 1) →
  C187 v8_7 m_6) m)
def M_X11_keep_L3 (v0 : Int) (v1 : Int) (v3 : Int) (v4 : Int) (v5 : Int) (v6 : Int) (v7 : Int) (v8 : Int) (C163 : Int → am_M → Prop) (K : am_KK) (m : am_M) : Prop :=
  ∃ I : Nat → Int → am_M → Prop, (∃ j, I j v8 m) ∧ ∀ j v8 m, I j v8 m → M_X11_keep_L3B v0 v1 v3 v4 v5 v6 v7 v8 (fun v8' m' => ∃ j', j' < j ∧ I j' v8' m') C163 K m
def M_X11_keep_L2B (v0 : Int) (v1 : Int) (v3 : Int) (v4 : Int) (v5 : Int) (v6 : Int) (v7 : Int) (C163 : Int → am_M → Prop) (K : am_KK) (m : am_M) : Prop :=
  ((8 < v7) →
  K (-1) m) ∧ (¬ (8 < v7) →
  M_X9_takeFrom (am_rfv v0 8) (am_rfv (am_rfv v0 0) 5) (fun _ m_9 =>
  M_X11_keep_L3 v0 v1 v3 v4 v5 v6 v7 0 C163 K m_9) m)
def M_X11_keep_L2 (v0 : Int) (v1 : Int) (v3 : Int) (v4 : Int) (v5 : Int) (v6 : Int) (v7 : Int) (K : am_KK) (m : am_M) : Prop :=
  ∃ I : Nat → Int → am_M → Prop, (∃ j, I j v7 m) ∧ ∀ j v7 m, I j v7 m → M_X11_keep_L2B v0 v1 v3 v4 v5 v6 v7 (fun v7' m' => ∃ j', j' < j ∧ I j' v7' m') K m
def M_X11_keep_L1B (v0 : Int) (v1 : Int) (v3 : Int) (v4 : Int) (v5 : Int) (v6 : Int) (v7 : Int) (C116 : Int → am_M → Prop) (K : am_KK) (m : am_M) : Prop :=
  ((8 ≤ v7) →
  M_X2_foreseeAll (am_rfv v0 7) (am_rfv v0 0) (am_rfv v0 8) v6 (fun _ m_11 =>
  M_X11_keep_L2 v0 v1 v3 v4 v5 v6 0 K m_11) m) ∧ (¬ (8 ≤ v7) →
  M_X9_utter (am_rfv v0 8) v3 v4 v5 1 (fun r_12 m_13 =>
  ∀ v7_14 : Int, v7_14 = w32 (v7 + 1) →
  C116 v7_14 m_13) m)
def M_X11_keep_L1 (v0 : Int) (v1 : Int) (v3 : Int) (v4 : Int) (v5 : Int) (v6 : Int) (v7 : Int) (K : am_KK) (m : am_M) : Prop :=
  ∃ I : Nat → Int → am_M → Prop, (∃ j, I j v7 m) ∧ ∀ j v7 m, I j v7 m → M_X11_keep_L1B v0 v1 v3 v4 v5 v6 v7 (fun v7' m' => ∃ j', j' < j ∧ I j' v7' m') K m
def M_X11_keep (v0 : Int) (v1 : Int) (v2 : Int) (v3 : Int) (v4 : Int) (v5 : Int) (K : am_KK) (m : am_M) : Prop :=
  M_X9_waits (am_rfv (am_rfv v0 0) 5) v1 (fun r_15 m_16 =>
  ((r_15 = 0) →
  K (-1) m_16) ∧ (¬ (r_15 = 0) →
  M_X11_within v2 1 20 (fun r_18 m_19 =>
  ((r_18 = 0) →
  K (-1) m_19) ∧ (¬ (r_18 = 0) →
  M_X7_has (am_rfv (am_rfv v0 0) 2) v3 (fun r_21 m_22 =>
  ((r_21 = 0) →
  K (-1) m_22) ∧ (¬ (r_21 = 0) →
  M_X11_isThing v4 (fun r_24 m_25 =>
  ((r_24 = 0) →
  K (-1) m_25) ∧ (¬ (r_24 = 0) →
  M_X3_breathOf (am_rfv v0 6) (am_rfv v0 0) v3 (m_25 (am_rfv (am_rfv v0 0) 5) 1) (fun r_27 m_28 =>
  M_X11_within v5 1 r_27 (fun r_29 m_30 =>
  ((r_29 ≠ 0) →
  ∀ v6_32 : Int, v6_32 = am_min v2 (w32 (999 - (m_30 (am_rfv (am_rfv v0 0) 5) 1))) →
  M_X9_takeFrom (am_rfv v0 8) (am_rfv (am_rfv v0 0) 5) (fun _ m_34 =>
  M_X11_keep_L1 v0 v1 v3 v4 v5 v6_32 0 K m_34) m_30) ∧ (¬ (r_29 ≠ 0) →
  K (-1) m_30)) m_28) m_25)) m_22)) m_19)) m_16)) m
def N_X11_keep : am_PT := fun zs K m => match zs with
  | [v0, v1, v2, v3, v4, v5] => am_ob v0 11 ∧ M_X11_keep v0 v1 v2 v3 v4 v5 K m
  | _ => False
def M_X11_answer_J1 (v0 : Int) (K : am_KK) (m : am_M) : Prop :=
  M_X11_refuse v0 (-1) (fun r_1 m_2 =>
  K r_1 m_2) m
def M_X11_answer (v0 : Int) (v1 : Int) (v2 : Int) (v3 : Int) (K : am_KK) (m : am_M) : Prop :=
  M_X11_within v1 1 9 (fun r_3 m_4 =>
  ((r_3 = 0) →
  M_X11_answer_J1 v0 K m_4) ∧ (¬ (r_3 = 0) →
  M_X11_isThing v2 (fun r_6 m_7 =>
  ((r_6 = 0) →
  M_X11_answer_J1 v0 K m_7) ∧ (¬ (r_6 = 0) →
  M_X11_within v3 0 1 (fun r_9 m_10 =>
  ((r_9 ≠ 0) →
  M_X7_open (am_rfv (am_rfv v0 0) 4) (fun r_12 m_13 =>
  ((r_12 ≠ (-1)) →
  M_X7_set (am_rfv (am_rfv v0 0) 4) r_12 0 v1 (fun _ m_15 =>
  M_X7_set (am_rfv (am_rfv v0 0) 4) r_12 1 v2 (fun _ m_17 =>
  M_X7_set (am_rfv (am_rfv v0 0) 4) r_12 2 v3 (fun _ m_19 =>
  M_X11_fine v0 (m_19 (am_rfv (am_rfv v0 0) 4) 2) (fun r_20 m_21 =>
  K r_20 m_21) m_19) m_17) m_15) m_13) ∧ (¬ (r_12 ≠ (-1)) →
  M_X11_refuse v0 (-5) (fun r_22 m_23 =>
  K r_22 m_23) m_13)) m_10) ∧ (¬ (r_9 ≠ 0) →
  M_X11_answer_J1 v0 K m_10)) m_7)) m_4)) m
def N_X11_answer : am_PT := fun zs K m => match zs with
  | [v0, v1, v2, v3] => am_ob v0 11 ∧ M_X11_answer v0 v1 v2 v3 K m
  | _ => False
def M_X11_forget (v0 : Int) (K : am_KK) (m : am_M) : Prop :=
  ∀ v1_1 : Int, v1_1 = m (am_rfv (am_rfv v0 0) 4) 2 →
  M_X7_cut (am_rfv (am_rfv v0 0) 4) 0 (fun _ m_3 =>
  K v1_1 m_3) m
def N_X11_forget : am_PT := fun zs K m => match zs with
  | [v0] => am_ob v0 11 ∧ M_X11_forget v0 K m
  | _ => False
def M_X11_explainsAnswers_J2 (v0 : Int) (v2 : Int) (v4 : Int) (v5 : Int) (v6 : Int) (C47 : Int → am_M → Prop) (K : am_KK) (m : am_M) : Prop :=
  M_X0_answersAre (am_rfv v0 0) v5 v6 (fun r_1 m_2 =>
  ((r_1 ≠ 0) →
  ∀ v5_4 : Int, v5_4 = w32 (v5 + 1) →
  C47 v5_4 m_2) ∧ (¬ (r_1 ≠ 0) →
  K 0 m_2)) m
def M_X11_explainsAnswers_J1 (v0 : Int) (v2 : Int) (v4 : Int) (v5 : Int) (C47 : Int → am_M → Prop) (K : am_KK) (m : am_M) : Prop :=
  M_X2_hear (am_rfv v0 7) (am_rfv v0 0) (am_rfv v0 8) v5 (fun r_5 m_6 =>
  ∀ v6_7 : Int, v6_7 = m_6 (am_rfv v0 7) 3 →
  M_X11_explainsAnswers_J2 v0 v2 v4 v5 v6_7 C47 K m_6) m
def M_X11_explainsAnswers_L1B (v0 : Int) (v2 : Int) (v4 : Int) (v5 : Int) (C47 : Int → am_M → Prop) (K : am_KK) (m : am_M) : Prop :=
  ((9 < v5) →
  K 1 m) ∧ (¬ (9 < v5) →
  ((v2 < v5) →
  M_X11_explainsAnswers_J2 v0 v2 v4 v5 0 C47 K m) ∧ (¬ (v2 < v5) →
  M_X9_waits (am_rfv v0 8) v4 (fun r_8 m_9 =>
  ((r_8 = 0) →
  M_X11_explainsAnswers_J1 v0 v2 v4 v5 C47 K m_9) ∧ (¬ (r_8 = 0) →
  M_X2_foresee (am_rfv v0 7) (am_rfv v0 0) (am_rfv v0 8) v4 v5 (w32 ((m_9 (am_rfv v0 8) 1) + 1)) (fun _ m_12 =>
  M_X11_explainsAnswers_J1 v0 v2 v4 v5 C47 K m_12) m_9)) m))
def M_X11_explainsAnswers_L1 (v0 : Int) (v2 : Int) (v4 : Int) (v5 : Int) (K : am_KK) (m : am_M) : Prop :=
  ∃ I : Nat → Int → am_M → Prop, (∃ j, I j v5 m) ∧ ∀ j v5 m, I j v5 m → M_X11_explainsAnswers_L1B v0 v2 v4 v5 (fun v5' m' => ∃ j', j' < j ∧ I j' v5' m') K m
def M_X11_explainsAnswers (v0 : Int) (v1 : Int) (v2 : Int) (K : am_KK) (m : am_M) : Prop :=
  M_X9_takeFrom (am_rfv v0 8) (am_rfv (am_rfv v0 0) 5) (fun _ m_14 =>
  M_X9_utter (am_rfv v0 8) (w32 (Int.tdiv v1 240)) (w32 (Int.tmod (w32 (Int.tdiv v1 30)) 8)) (w32 ((w32 (Int.tmod v1 30)) + 1)) 1 (fun r_15 m_16 =>
  M_X11_explainsAnswers_L1 v0 v2 r_15 1 K m_16) m_14) m
def N_X11_explainsAnswers : am_PT := fun zs K m => match zs with
  | [v0, v1, v2] => am_ob v0 11 ∧ M_X11_explainsAnswers v0 v1 v2 K m
  | _ => False
def M_X11_hidden_J1 (v0 : Int) (v1 : Int) (v2 : Int) (v3 : Int) (v4 : Int) (C56 : Int → Int → am_M → Prop) (K : am_KK) (m : am_M) : Prop :=
  ∀ v4_1 : Int, v4_1 = w32 (v4 + 1) →
  C56 v3 v4_1 m
def M_X11_hidden_L1B (v0 : Int) (v1 : Int) (v2 : Int) (v3 : Int) (v4 : Int) (C56 : Int → Int → am_M → Prop) (K : am_KK) (m : am_M) : Prop :=
  (((w32 ((w32 ((m (am_rfv (am_rfv v0 0) 2) 2) * 8)) * 30)) ≤ v4) →
  ((v1 ≠ (-1)) →
  K (-1) m) ∧ (¬ (v1 ≠ (-1)) →
  K v3 m)) ∧ (¬ ((w32 ((w32 ((m (am_rfv (am_rfv v0 0) 2) 2) * 8)) * 30)) ≤ v4) →
  M_X11_explainsAnswers v0 v4 v2 (fun r_2 m_3 =>
  ((r_2 = 0) →
  M_X11_hidden_J1 v0 v1 v2 v3 v4 C56 K m_3) ∧ (¬ (r_2 = 0) →
  ((v3 ≠ v1) →
  ∀ v3_5 : Int, v3_5 = w32 (v3 + 1) →
  M_X11_hidden_J1 v0 v1 v2 v3_5 v4 C56 K m_3) ∧ (¬ (v3 ≠ v1) →
  K v4 m_3))) m)
def M_X11_hidden_L1 (v0 : Int) (v1 : Int) (v2 : Int) (v3 : Int) (v4 : Int) (K : am_KK) (m : am_M) : Prop :=
  ∃ I : Nat → Int → Int → am_M → Prop, (∃ j, I j v3 v4 m) ∧ ∀ j v3 v4 m, I j v3 v4 m → M_X11_hidden_L1B v0 v1 v2 v3 v4 (fun v3' v4' m' => ∃ j', j' < j ∧ I j' v3' v4' m') K m
def M_X11_hidden (v0 : Int) (v1 : Int) (K : am_KK) (m : am_M) : Prop :=
  (((-1) ≤ v1) →
  M_X0_farthestAnswer (am_rfv v0 0) (fun r_6 m_7 =>
  ∀ v2_8 : Int, v2_8 = am_min r_6 (w32 (999 - (m_7 (am_rfv (am_rfv v0 0) 5) 1))) →
  M_X2_foreseeAll (am_rfv v0 7) (am_rfv v0 0) (am_rfv (am_rfv v0 0) 5) v2_8 (fun _ m_10 =>
  M_X11_hidden_L1 v0 v1 v2_8 0 0 K m_10) m_7) m) ∧ (¬ ((-1) ≤ v1) →
  K (-1) m)
def N_X11_hidden : am_PT := fun zs K m => match zs with
  | [v0, v1] => am_ob v0 11 ∧ M_X11_hidden v0 v1 K m
  | _ => False
def M_X11_sayWhatIsDrawn (v0 : Int) (K : am_KK) (m : am_M) : Prop :=
  M_X8_draw (am_rfv v0 14) (m (am_rfv (am_rfv v0 0) 2) 2) (fun r_1 m_2 =>
  M_X8_draw (am_rfv v0 14) 8 (fun r_3 m_4 =>
  M_X8_draw (am_rfv v0 14) 40 (fun r_5 m_6 =>
  ∀ v3_7 : Int, v3_7 = w32 (r_5 + 1) →
  M_X11_tryPrayer v0 (am_rfv v0 8) r_1 r_3 v3_7 1 (fun r_8 m_9 =>
  ((r_8 ≠ 0) →
  K 0 m_9) ∧ (¬ (r_8 ≠ 0) →
  M_X8_noteSaid (am_rfv v0 14) r_1 (fun _ m_11 =>
  K 0 m_11) m_9)) m_6) m_4) m_2) m
def N_X11_sayWhatIsDrawn : am_PT := fun zs K m => match zs with
  | [v0] => am_ob v0 11 ∧ M_X11_sayWhatIsDrawn v0 K m
  | _ => False
def M_X11_season_J2 (v0 : Int) (v3 : Int) (K : am_KK) (m : am_M) : Prop :=
  M_X8_noteStanding (am_rfv v0 14) (am_rfv v0 8) (fun _ m_2 =>
  M_X11_fine v0 v3 (fun r_3 m_4 =>
  K r_3 m_4) m_2) m
def M_X11_season_L1B (v0 : Int) (v2 : Int) (v3 : Int) (v4 : Int) (C84 : Int → Int → am_M → Prop) (K : am_KK) (m : am_M) : Prop :=
  ((v2 ≤ v4) →
  M_X11_season_J2 v0 v3 K m) ∧ (¬ (v2 ≤ v4) →
  M_X11_sayWhatIsDrawn v0 (fun _ m_6 =>
  (((m_6 (am_rfv v0 8) 1) < 999) →
  M_X2_foreseeAll (am_rfv v0 7) (am_rfv v0 0) (am_rfv v0 8) 1 (fun _ m_8 =>
  M_X2_hear (am_rfv v0 7) (am_rfv v0 0) (am_rfv v0 8) 1 (fun r_9 m_10 =>
  ∀ v3_11 : Int, v3_11 = w32 (v3 + r_9) →
  ∀ v4_12 : Int, v4_12 = w32 (v4 + 1) →
  C84 v3_11 v4_12 m_10) m_8) m_6) ∧ (¬ ((m_6 (am_rfv v0 8) 1) < 999) →
  M_X11_season_J2 v0 v3 K m_6)) m)
def M_X11_season_L1 (v0 : Int) (v2 : Int) (v3 : Int) (v4 : Int) (K : am_KK) (m : am_M) : Prop :=
  ∃ I : Nat → Int → Int → am_M → Prop, (∃ j, I j v3 v4 m) ∧ ∀ j v3 v4 m, I j v3 v4 m → M_X11_season_L1B v0 v2 v3 v4 (fun v3' v4' m' => ∃ j', j' < j ∧ I j' v3' v4' m') K m
def M_X11_season_J1 (v0 : Int) (K : am_KK) (m : am_M) : Prop :=
  M_X11_refuse v0 (-1) (fun r_13 m_14 =>
  K r_13 m_14) m
def M_X11_season (v0 : Int) (v1 : Int) (v2 : Int) (K : am_KK) (m : am_M) : Prop :=
  M_X11_within v1 0 1000000 (fun r_15 m_16 =>
  ((r_15 = 0) →
  M_X11_season_J1 v0 K m_16) ∧ (¬ (r_15 = 0) →
  M_X11_within v2 1 60 (fun r_18 m_19 =>
  ((r_18 ≠ 0) →
  (((m_19 (am_rfv (am_rfv v0 0) 2) 2) ≠ 0) →
  M_X8_begin (am_rfv v0 14) v1 (m_19 (am_rfv (am_rfv v0 0) 2) 2) (fun _ m_22 =>
  M_X9_takeFrom (am_rfv v0 8) (am_rfv (am_rfv v0 0) 5) (fun _ m_24 =>
  M_X11_season_L1 v0 v2 0 0 K m_24) m_22) m_19) ∧ (¬ ((m_19 (am_rfv (am_rfv v0 0) 2) 2) ≠ 0) →
  M_X11_refuse v0 (-3) (fun r_25 m_26 =>
  K r_25 m_26) m_19)) ∧ (¬ (r_18 ≠ 0) →
  M_X11_season_J1 v0 K m_19)) m_16)) m
def N_X11_season : am_PT := fun zs K m => match zs with
  | [v0, v1, v2] => am_ob v0 11 ∧ M_X11_season v0 v1 v2 K m
  | _ => False
def M_X11_drawn (v0 : Int) (v1 : Int) (v2 : Int) (K : am_KK) (m : am_M) : Prop :=
  M_X8_tally (am_rfv v0 14) v1 v2 (fun r_1 m_2 =>
  K r_1 m_2) m
def N_X11_drawn : am_PT := fun zs K m => match zs with
  | [v0, v1, v2] => am_ob v0 11 ∧ M_X11_drawn v0 v1 v2 K m
  | _ => False
def M_X11_image (v0 : Int) (v1 : Int) (K : am_KK) (m : am_M) : Prop :=
  M_X11_within v1 0 (w32 ((am_len (am_rfv v0 1)) - 1)) (fun r_1 m_2 =>
  ((r_1 ≠ 0) →
  ((0 : Int) ≤ v1 ∧ v1 < am_len (am_rfv v0 1)) ∧
  M_X0_takeFrom (am_rfv (am_rfv v0 1) v1) (am_rfv v0 0) (fun _ m_6 =>
  ((0 : Int) ≤ v1 ∧ v1 < am_len (am_rfv v0 2)) ∧
  ∀ m_7 : am_M, m_7 = am_st m_6 (am_rfv v0 2) v1 1 →
  M_X11_fine v0 0 (fun r_8 m_9 =>
  K r_8 m_9) m_7) m_2) ∧ (¬ (r_1 ≠ 0) →
  M_X11_refuse v0 (-1) (fun r_10 m_11 =>
  K r_10 m_11) m_2)) m
def N_X11_image : am_PT := fun zs K m => match zs with
  | [v0, v1] => am_ob v0 11 ∧ M_X11_image v0 v1 K m
  | _ => False
def M_X11_back (v0 : Int) (v1 : Int) (K : am_KK) (m : am_M) : Prop :=
  M_X11_within v1 0 (w32 ((am_len (am_rfv v0 1)) - 1)) (fun r_1 m_2 =>
  ((r_1 ≠ 0) →
  ((0 : Int) ≤ v1 ∧ v1 < am_len (am_rfv v0 2)) ∧
  (((m_2 (am_rfv v0 2) v1) ≠ 0) →
  ((0 : Int) ≤ v1 ∧ v1 < am_len (am_rfv v0 1)) ∧
  M_X0_takeFrom (am_rfv v0 0) (am_rfv (am_rfv v0 1) v1) (fun _ m_6 =>
  M_X7_cut (am_rfv v0 10) 0 (fun _ m_8 =>
  M_X11_fine v0 0 (fun r_9 m_10 =>
  K r_9 m_10) m_8) m_6) m_2) ∧ (¬ ((m_2 (am_rfv v0 2) v1) ≠ 0) →
  M_X11_refuse v0 (-2) (fun r_11 m_12 =>
  K r_11 m_12) m_2)) ∧ (¬ (r_1 ≠ 0) →
  M_X11_refuse v0 (-1) (fun r_13 m_14 =>
  K r_13 m_14) m_2)) m
def N_X11_back : am_PT := fun zs K m => match zs with
  | [v0, v1] => am_ob v0 11 ∧ M_X11_back v0 v1 K m
  | _ => False
def M_X11_count (v0 : Int) (v1 : Int) (K : am_KK) (m : am_M) : Prop :=
  (v1 = 0 →
  K (m (am_rfv (am_rfv v0 0) 0) 2) m) ∧ (v1 = 1 →
  K (m (am_rfv (am_rfv v0 0) 1) 2) m) ∧ (v1 = 2 →
  K (m (am_rfv (am_rfv v0 0) 2) 2) m) ∧ (v1 = 3 →
  K (m (am_rfv (am_rfv (am_rfv v0 0) 5) 0) 2) m) ∧ (v1 = 4 →
  M_X9_waiting (am_rfv (am_rfv v0 0) 5) (fun r_1 m_2 =>
  K r_1 m_2) m) ∧ (v1 = 5 →
  K (m (am_rfv (am_rfv v0 0) 3) 2) m) ∧ (v1 = 6 →
  K (m (am_rfv (am_rfv v0 0) 4) 2) m) ∧ (v1 = 7 →
  K (m (am_rfv v0 0) 10) m) ∧ (v1 = 8 →
  K (m (am_rfv v0 10) 2) m) ∧ (v1 = 9 →
  K (m (am_rfv v0 3) 2) m) ∧ (v1 = 10 →
  ((0 : Int) ≤ 1 ∧ 1 < am_len (am_rfv v0 16)) ∧
  K (m (am_rfv v0 16) 1) m) ∧ (v1 = 11 →
  ((0 : Int) ≤ 2 ∧ 2 < am_len (am_rfv v0 16)) ∧
  K (m (am_rfv v0 16) 2) m) ∧ (v1 = 12 →
  ((0 : Int) ≤ 3 ∧ 3 < am_len (am_rfv v0 16)) ∧
  K (m (am_rfv v0 16) 3) m) ∧ (v1 = 13 →
  ((0 : Int) ≤ 5 ∧ 5 < am_len (am_rfv v0 16)) ∧
  K (m (am_rfv v0 16) 5) m) ∧ (v1 = 14 →
  ((0 : Int) ≤ 6 ∧ 6 < am_len (am_rfv v0 16)) ∧
  K (m (am_rfv v0 16) 6) m) ∧ (v1 = 15 →
  K (m (am_rfv v0 0) 11) m) ∧ (v1 < 0 ∨ 15 < v1 →
  M_X11_within v1 16 19 (fun r_3 m_4 =>
  ((r_3 = 0) →
  K (-1) m_4) ∧ (¬ (r_3 = 0) →
  M_X0_term (am_rfv v0 0) (w32 (v1 - 16)) (fun r_6 m_7 =>
  K r_6 m_7) m_4)) m)
def N_X11_count : am_PT := fun zs K m => match zs with
  | [v0, v1] => am_ob v0 11 ∧ M_X11_count v0 v1 K m
  | _ => False
def M_X11_status (v0 : Int) (K : am_KK) (m : am_M) : Prop :=
  K (m v0 17) m
def N_X11_status : am_PT := fun zs K m => match zs with
  | [v0] => am_ob v0 11 ∧ M_X11_status v0 K m
  | _ => False
def M_X12_lies (v0 : Int) (v1 : Int) (v2 : Int) (K : am_KK) (m : am_M) : Prop :=
  ((v0 < v1) →
  K 0 m) ∧ (¬ (v0 < v1) →
  ((v2 < v0) →
  K 0 m) ∧ (¬ (v2 < v0) →
  K 1 m))
def N_X12_lies : am_PT := fun zs K m => match zs with
  | [v0, v1, v2] => M_X12_lies v0 v1 v2 K m
  | _ => False
def M_X12_refuses (v0 : Int) (v1 : Int) (K : am_KK) (m : am_M) : Prop :=
  ∀ m_1 : am_M, m_1 = am_st m v0 0 v1 →
  ((0 : Int) ≤ (w32 (-v1)) ∧ (w32 (-v1)) < am_len (am_rfv v0 1)) ∧
  ((0 : Int) ≤ (w32 (-v1)) ∧ (w32 (-v1)) < am_len (am_rfv v0 1)) ∧
  ∀ m_2 : am_M, m_2 = am_st m_1 (am_rfv v0 1) (w32 (-v1)) (w32 ((m_1 (am_rfv v0 1) (w32 (-v1))) + 1)) →
  K v1 m_2
def N_X12_refuses : am_PT := fun zs K m => match zs with
  | [v0, v1] => am_ob v0 12 ∧ M_X12_refuses v0 v1 K m
  | _ => False
def M_X12_good (v0 : Int) (v1 : Int) (K : am_KK) (m : am_M) : Prop :=
  ∀ m_1 : am_M, m_1 = am_st m v0 0 0 →
  K v1 m_1
def N_X12_good : am_PT := fun zs K m => match zs with
  | [v0, v1] => am_ob v0 12 ∧ M_X12_good v0 v1 K m
  | _ => False
def M_X12_settled (v0 : Int) (v1 : Int) (K : am_KK) (m : am_M) : Prop :=
  ∀ m_1 : am_M, m_1 = am_st m v0 38 0 →
  M_X12_good v0 v1 (fun r_2 m_3 =>
  K r_2 m_3) m_1
def N_X12_settled : am_PT := fun zs K m => match zs with
  | [v0, v1] => am_ob v0 12 ∧ M_X12_settled v0 v1 K m
  | _ => False
def M_X12_isIn (v0 : Int) (v1 : Int) (K : am_KK) (m : am_M) : Prop :=
  (((am_and (am_shr v0 v1) 1) ≠ 1) →
  K 0 m) ∧ (¬ ((am_and (am_shr v0 v1) 1) ≠ 1) →
  K 1 m)
def N_X12_isIn : am_PT := fun zs K m => match zs with
  | [v0, v1] => M_X12_isIn v0 v1 K m
  | _ => False
def M_X12_ones_L1B (v0 : Int) (v1 : Int) (v2 : Int) (C4 : Int → Int → am_M → Prop) (K : am_KK) (m : am_M) : Prop :=
  ((10 ≤ v2) →
  K v1 m) ∧ (¬ (10 ≤ v2) →
  ∀ v1_1 : Int, v1_1 = w32 (v1 + (am_and (am_shr v0 v2) 1)) →
  ∀ v2_2 : Int, v2_2 = w32 (v2 + 1) →
  C4 v1_1 v2_2 m)
def M_X12_ones_L1 (v0 : Int) (v1 : Int) (v2 : Int) (K : am_KK) (m : am_M) : Prop :=
  ∃ I : Nat → Int → Int → am_M → Prop, (∃ j, I j v1 v2 m) ∧ ∀ j v1 v2 m, I j v1 v2 m → M_X12_ones_L1B v0 v1 v2 (fun v1' v2' m' => ∃ j', j' < j ∧ I j' v1' v2' m') K m
def M_X12_ones (v0 : Int) (K : am_KK) (m : am_M) : Prop :=
  M_X12_ones_L1 v0 0 0 K m
def N_X12_ones : am_PT := fun zs K m => match zs with
  | [v0] => M_X12_ones v0 K m
  | _ => False
def M_X12_laysAside_L1B (v0 : Int) (v1 : Int) (v2 : Int) (C2 : Int → am_M → Prop) (K : am_KK) (m : am_M) : Prop :=
  ((170 ≤ v2) →
  K 0 m) ∧ (¬ (170 ≤ v2) →
  ((0 : Int) ≤ v2 ∧ v2 < am_len (am_rfv v0 2)) ∧
  ((0 : Int) ≤ (w32 ((w32 (170 * v1)) + v2)) ∧ (w32 ((w32 (170 * v1)) + v2)) < am_len (am_rfv v0 5)) ∧
  ∀ m_1 : am_M, m_1 = am_st m (am_rfv v0 5) (w32 ((w32 (170 * v1)) + v2)) (m (am_rfv v0 2) v2) →
  ∀ v2_2 : Int, v2_2 = w32 (v2 + 1) →
  C2 v2_2 m_1)
def M_X12_laysAside_L1 (v0 : Int) (v1 : Int) (v2 : Int) (K : am_KK) (m : am_M) : Prop :=
  ∃ I : Nat → Int → am_M → Prop, (∃ j, I j v2 m) ∧ ∀ j v2 m, I j v2 m → M_X12_laysAside_L1B v0 v1 v2 (fun v2' m' => ∃ j', j' < j ∧ I j' v2' m') K m
def M_X12_laysAside (v0 : Int) (v1 : Int) (K : am_KK) (m : am_M) : Prop :=
  M_X12_laysAside_L1 v0 v1 0 K m
def N_X12_laysAside : am_PT := fun zs K m => match zs with
  | [v0, v1] => am_ob v0 12 ∧ M_X12_laysAside v0 v1 K m
  | _ => False
def M_X12_takesBack_L1B (v0 : Int) (v1 : Int) (v2 : Int) (C2 : Int → am_M → Prop) (K : am_KK) (m : am_M) : Prop :=
  ((170 ≤ v2) →
  K 0 m) ∧ (¬ (170 ≤ v2) →
  ((0 : Int) ≤ (w32 ((w32 (170 * v1)) + v2)) ∧ (w32 ((w32 (170 * v1)) + v2)) < am_len (am_rfv v0 5)) ∧
  ((0 : Int) ≤ v2 ∧ v2 < am_len (am_rfv v0 2)) ∧
  ∀ m_1 : am_M, m_1 = am_st m (am_rfv v0 2) v2 (m (am_rfv v0 5) (w32 ((w32 (170 * v1)) + v2))) →
  ∀ v2_2 : Int, v2_2 = w32 (v2 + 1) →
  C2 v2_2 m_1)
def M_X12_takesBack_L1 (v0 : Int) (v1 : Int) (v2 : Int) (K : am_KK) (m : am_M) : Prop :=
  ∃ I : Nat → Int → am_M → Prop, (∃ j, I j v2 m) ∧ ∀ j v2 m, I j v2 m → M_X12_takesBack_L1B v0 v1 v2 (fun v2' m' => ∃ j', j' < j ∧ I j' v2' m') K m
def M_X12_takesBack (v0 : Int) (v1 : Int) (K : am_KK) (m : am_M) : Prop :=
  M_X12_takesBack_L1 v0 v1 0 K m
def N_X12_takesBack : am_PT := fun zs K m => match zs with
  | [v0, v1] => am_ob v0 12 ∧ M_X12_takesBack v0 v1 K m
  | _ => False
def M_X12_image_L1B (v0 : Int) (v1 : Int) (v2 : Int) (C17 : Int → am_M → Prop) (K : am_KK) (m : am_M) : Prop :=
  ((5977 ≤ v2) →
  ((0 : Int) ≤ v1 ∧ v1 < am_len (am_rfv v0 4)) ∧
  ∀ m_1 : am_M, m_1 = am_st m (am_rfv v0 4) v1 1 →
  M_X12_good v0 0 (fun r_2 m_3 =>
  K r_2 m_3) m_1) ∧ (¬ (5977 ≤ v2) →
  ((0 : Int) ≤ v2 ∧ v2 < am_len (am_rfv v0 2)) ∧
  ((0 : Int) ≤ (w32 ((w32 (5977 * v1)) + v2)) ∧ (w32 ((w32 (5977 * v1)) + v2)) < am_len (am_rfv v0 3)) ∧
  ∀ m_4 : am_M, m_4 = am_st m (am_rfv v0 3) (w32 ((w32 (5977 * v1)) + v2)) (m (am_rfv v0 2) v2) →
  ∀ v2_5 : Int, v2_5 = w32 (v2 + 1) →
  C17 v2_5 m_4)
def M_X12_image_L1 (v0 : Int) (v1 : Int) (v2 : Int) (K : am_KK) (m : am_M) : Prop :=
  ∃ I : Nat → Int → am_M → Prop, (∃ j, I j v2 m) ∧ ∀ j v2 m, I j v2 m → M_X12_image_L1B v0 v1 v2 (fun v2' m' => ∃ j', j' < j ∧ I j' v2' m') K m
def M_X12_image (v0 : Int) (v1 : Int) (K : am_KK) (m : am_M) : Prop :=
  M_X12_lies v1 0 1 (fun r_6 m_7 =>
  ((r_6 ≠ 0) →
  M_X12_image_L1 v0 v1 0 K m_7) ∧ (¬ (r_6 ≠ 0) →
  M_X12_refuses v0 (-1) (fun r_9 m_10 =>
  K r_9 m_10) m_7)) m
def N_X12_image : am_PT := fun zs K m => match zs with
  | [v0, v1] => am_ob v0 12 ∧ M_X12_image v0 v1 K m
  | _ => False
def M_X12_back_L1B (v0 : Int) (v1 : Int) (v2 : Int) (C33 : Int → am_M → Prop) (K : am_KK) (m : am_M) : Prop :=
  ((5977 ≤ v2) →
  M_X12_settled v0 0 (fun r_1 m_2 =>
  K r_1 m_2) m) ∧ (¬ (5977 ≤ v2) →
  ((0 : Int) ≤ (w32 ((w32 (5977 * v1)) + v2)) ∧ (w32 ((w32 (5977 * v1)) + v2)) < am_len (am_rfv v0 3)) ∧
  ((0 : Int) ≤ v2 ∧ v2 < am_len (am_rfv v0 2)) ∧
  ∀ m_3 : am_M, m_3 = am_st m (am_rfv v0 2) v2 (m (am_rfv v0 3) (w32 ((w32 (5977 * v1)) + v2))) →
  ∀ v2_4 : Int, v2_4 = w32 (v2 + 1) →
  C33 v2_4 m_3)
def M_X12_back_L1 (v0 : Int) (v1 : Int) (v2 : Int) (K : am_KK) (m : am_M) : Prop :=
  ∃ I : Nat → Int → am_M → Prop, (∃ j, I j v2 m) ∧ ∀ j v2 m, I j v2 m → M_X12_back_L1B v0 v1 v2 (fun v2' m' => ∃ j', j' < j ∧ I j' v2' m') K m
def M_X12_back (v0 : Int) (v1 : Int) (K : am_KK) (m : am_M) : Prop :=
  M_X12_lies v1 0 1 (fun r_5 m_6 =>
  ((r_5 ≠ 0) →
  ((0 : Int) ≤ v1 ∧ v1 < am_len (am_rfv v0 4)) ∧
  (((m_6 (am_rfv v0 4) v1) ≠ 0) →
  M_X12_back_L1 v0 v1 0 K m_6) ∧ (¬ ((m_6 (am_rfv v0 4) v1) ≠ 0) →
  M_X12_refuses v0 (-2) (fun r_8 m_9 =>
  K r_8 m_9) m_6)) ∧ (¬ (r_5 ≠ 0) →
  M_X12_refuses v0 (-1) (fun r_10 m_11 =>
  K r_10 m_11) m_6)) m
def N_X12_back : am_PT := fun zs K m => match zs with
  | [v0, v1] => am_ob v0 12 ∧ M_X12_back v0 v1 K m
  | _ => False
def M_X12_prayers (v0 : Int) (K : am_KK) (m : am_M) : Prop :=
  ((0 : Int) ≤ 168 ∧ 168 < am_len (am_rfv v0 2)) ∧
  K (m (am_rfv v0 2) 168) m
def N_X12_prayers : am_PT := fun zs K m => match zs with
  | [v0] => am_ob v0 12 ∧ M_X12_prayers v0 K m
  | _ => False
def M_X12_isWord (v0 : Int) (v1 : Int) (K : am_KK) (m : am_M) : Prop :=
  ((0 : Int) ≤ 363 ∧ 363 < am_len (am_rfv v0 2)) ∧
  M_X12_lies v1 0 (w32 ((m (am_rfv v0 2) 363) - 1)) (fun r_1 m_2 =>
  K r_1 m_2) m
def N_X12_isWord : am_PT := fun zs K m => match zs with
  | [v0, v1] => am_ob v0 12 ∧ M_X12_isWord v0 v1 K m
  | _ => False
def M_X12_isThing (v0 : Int) (K : am_KK) (m : am_M) : Prop :=
  M_X12_lies v0 0 7 (fun r_1 m_2 =>
  K r_1 m_2) m
def N_X12_isThing : am_PT := fun zs K m => match zs with
  | [v0] => M_X12_isThing v0 K m
  | _ => False
def M_X12_isPerson (v0 : Int) (v1 : Int) (K : am_KK) (m : am_M) : Prop :=
  ((0 : Int) ≤ 365 ∧ 365 < am_len (am_rfv v0 2)) ∧
  M_X12_lies v1 0 (w32 ((m (am_rfv v0 2) 365) - 1)) (fun r_1 m_2 =>
  K r_1 m_2) m
def N_X12_isPerson : am_PT := fun zs K m => match zs with
  | [v0, v1] => am_ob v0 12 ∧ M_X12_isPerson v0 v1 K m
  | _ => False
def M_X12_isPrayer (v0 : Int) (v1 : Int) (K : am_KK) (m : am_M) : Prop :=
  M_X12_prayers v0 (fun r_1 m_2 =>
  M_X12_lies v1 0 (w32 (r_1 - 1)) (fun r_3 m_4 =>
  K r_3 m_4) m_2) m
def N_X12_isPrayer : am_PT := fun zs K m => match zs with
  | [v0, v1] => am_ob v0 12 ∧ M_X12_isPrayer v0 v1 K m
  | _ => False
def M_X12_fact (v0 : Int) (v1 : Int) (v2 : Int) (K : am_KK) (m : am_M) : Prop :=
  ((0 : Int) ≤ (w32 ((w32 (0 + (w32 (7 * v1)))) + v2)) ∧ (w32 ((w32 (0 + (w32 (7 * v1)))) + v2)) < am_len (am_rfv v0 2)) ∧
  K (m (am_rfv v0 2) (w32 ((w32 (0 + (w32 (7 * v1)))) + v2))) m
def N_X12_fact : am_PT := fun zs K m => match zs with
  | [v0, v1, v2] => am_ob v0 12 ∧ M_X12_fact v0 v1 v2 K m
  | _ => False
def M_X12_isWaiting (v0 : Int) (v1 : Int) (K : am_KK) (m : am_M) : Prop :=
  M_X12_isPrayer v0 v1 (fun r_1 m_2 =>
  ((r_1 = 0) →
  K 0 m_2) ∧ (¬ (r_1 = 0) →
  M_X12_fact v0 v1 5 (fun r_4 m_5 =>
  ((r_4 ≠ 0) →
  K 0 m_5) ∧ (¬ (r_4 ≠ 0) →
  K 1 m_5)) m_2)) m
def N_X12_isWaiting : am_PT := fun zs K m => match zs with
  | [v0, v1] => am_ob v0 12 ∧ M_X12_isWaiting v0 v1 K m
  | _ => False
def M_X12_word (v0 : Int) (v1 : Int) (K : am_KK) (m : am_M) : Prop :=
  M_X12_lies v1 1 9 (fun r_1 m_2 =>
  ((r_1 ≠ 0) →
  ((0 : Int) ≤ 363 ∧ 363 < am_len (am_rfv v0 2)) ∧
  ∀ v2_4 : Int, v2_4 = m_2 (am_rfv v0 2) 363 →
  ((v2_4 ≠ 10) →
  ((0 : Int) ≤ (w32 (170 + v2_4)) ∧ (w32 (170 + v2_4)) < am_len (am_rfv v0 2)) ∧
  ∀ m_5 : am_M, m_5 = am_st m_2 (am_rfv v0 2) (w32 (170 + v2_4)) v1 →
  ((0 : Int) ≤ 363 ∧ 363 < am_len (am_rfv v0 2)) ∧
  ((0 : Int) ≤ 363 ∧ 363 < am_len (am_rfv v0 2)) ∧
  ∀ m_6 : am_M, m_6 = am_st m_5 (am_rfv v0 2) 363 (w32 ((m_5 (am_rfv v0 2) 363) + 1)) →
  M_X12_good v0 v2_4 (fun r_7 m_8 =>
  K r_7 m_8) m_6) ∧ (¬ (v2_4 ≠ 10) →
  M_X12_refuses v0 (-5) (fun r_9 m_10 =>
  K r_9 m_10) m_2)) ∧ (¬ (r_1 ≠ 0) →
  M_X12_refuses v0 (-1) (fun r_11 m_12 =>
  K r_11 m_12) m_2)) m
def N_X12_word : am_PT := fun zs K m => match zs with
  | [v0, v1] => am_ob v0 12 ∧ M_X12_word v0 v1 K m
  | _ => False
def M_X12_lengthOf (v0 : Int) (v1 : Int) (K : am_KK) (m : am_M) : Prop :=
  M_X12_isWord v0 v1 (fun r_1 m_2 =>
  ((r_1 = 0) →
  K (-1) m_2) ∧ (¬ (r_1 = 0) →
  ((0 : Int) ≤ (w32 (170 + v1)) ∧ (w32 (170 + v1)) < am_len (am_rfv v0 2)) ∧
  K (m_2 (am_rfv v0 2) (w32 (170 + v1))) m_2)) m
def N_X12_lengthOf : am_PT := fun zs K m => match zs with
  | [v0, v1] => am_ob v0 12 ∧ M_X12_lengthOf v0 v1 K m
  | _ => False
def M_X12_isPart (v0 : Int) (K : am_KK) (m : am_M) : Prop :=
  M_X12_lies v0 0 17 (fun r_1 m_2 =>
  K r_1 m_2) m
def N_X12_isPart : am_PT := fun zs K m => match zs with
  | [v0] => M_X12_isPart v0 K m
  | _ => False
def M_X12_isThere (v0 : Int) (v1 : Int) (K : am_KK) (m : am_M) : Prop :=
  ((v1 = (-1)) →
  K 1 m) ∧ (¬ (v1 = (-1)) →
  ((9 < v1) →
  K 1 m) ∧ (¬ (9 < v1) →
  M_X12_isWord v0 v1 (fun r_1 m_2 =>
  ((r_1 = 0) →
  K 0 m_2) ∧ (¬ (r_1 = 0) →
  K 1 m_2)) m))
def N_X12_isThere : am_PT := fun zs K m => match zs with
  | [v0, v1] => am_ob v0 12 ∧ M_X12_isThere v0 v1 K m
  | _ => False
def M_X12_rule_J4 (v0 : Int) (K : am_KK) (m : am_M) : Prop :=
  M_X12_refuses v0 (-2) (fun r_1 m_2 =>
  K r_1 m_2) m
def M_X12_rule_J3 (v0 : Int) (v1 : Int) (v2 : Int) (v3 : Int) (v4 : Int) (K : am_KK) (m : am_M) : Prop :=
  M_X12_isThere v0 v2 (fun r_3 m_4 =>
  ((r_3 = 0) →
  M_X12_rule_J4 v0 K m_4) ∧ (¬ (r_3 = 0) →
  M_X12_isThere v0 v3 (fun r_6 m_7 =>
  ((r_6 = 0) →
  M_X12_rule_J4 v0 K m_7) ∧ (¬ (r_6 = 0) →
  M_X12_isThere v0 v4 (fun r_9 m_10 =>
  ((r_9 ≠ 0) →
  ((0 : Int) ≤ 364 ∧ 364 < am_len (am_rfv v0 2)) ∧
  ∀ v5_12 : Int, v5_12 = m_10 (am_rfv v0 2) 364 →
  ((v5_12 ≠ 16) →
  ((0 : Int) ≤ (w32 (180 + (w32 (4 * v5_12)))) ∧ (w32 (180 + (w32 (4 * v5_12)))) < am_len (am_rfv v0 2)) ∧
  ∀ m_13 : am_M, m_13 = am_st m_10 (am_rfv v0 2) (w32 (180 + (w32 (4 * v5_12)))) v1 →
  ((0 : Int) ≤ (w32 ((w32 (180 + (w32 (4 * v5_12)))) + 1)) ∧ (w32 ((w32 (180 + (w32 (4 * v5_12)))) + 1)) < am_len (am_rfv v0 2)) ∧
  ∀ m_14 : am_M, m_14 = am_st m_13 (am_rfv v0 2) (w32 ((w32 (180 + (w32 (4 * v5_12)))) + 1)) v2 →
  ((0 : Int) ≤ (w32 ((w32 (180 + (w32 (4 * v5_12)))) + 2)) ∧ (w32 ((w32 (180 + (w32 (4 * v5_12)))) + 2)) < am_len (am_rfv v0 2)) ∧
  ∀ m_15 : am_M, m_15 = am_st m_14 (am_rfv v0 2) (w32 ((w32 (180 + (w32 (4 * v5_12)))) + 2)) v3 →
  ((0 : Int) ≤ (w32 ((w32 (180 + (w32 (4 * v5_12)))) + 3)) ∧ (w32 ((w32 (180 + (w32 (4 * v5_12)))) + 3)) < am_len (am_rfv v0 2)) ∧
  ∀ m_16 : am_M, m_16 = am_st m_15 (am_rfv v0 2) (w32 ((w32 (180 + (w32 (4 * v5_12)))) + 3)) v4 →
  ((0 : Int) ≤ 364 ∧ 364 < am_len (am_rfv v0 2)) ∧
  ((0 : Int) ≤ 364 ∧ 364 < am_len (am_rfv v0 2)) ∧
  ∀ m_17 : am_M, m_17 = am_st m_16 (am_rfv v0 2) 364 (w32 ((m_16 (am_rfv v0 2) 364) + 1)) →
  M_X12_good v0 v5_12 (fun r_18 m_19 =>
  K r_18 m_19) m_17) ∧ (¬ (v5_12 ≠ 16) →
  M_X12_refuses v0 (-5) (fun r_20 m_21 =>
  K r_20 m_21) m_10)) ∧ (¬ (r_9 ≠ 0) →
  M_X12_rule_J4 v0 K m_10)) m_7)) m_4)) m
def M_X12_rule_J2 (v0 : Int) (K : am_KK) (m : am_M) : Prop :=
  M_X12_refuses v0 (-1) (fun r_22 m_23 =>
  K r_22 m_23) m
def M_X12_rule_J1 (v0 : Int) (v1 : Int) (v2 : Int) (v3 : Int) (v4 : Int) (K : am_KK) (m : am_M) : Prop :=
  ((v4 = (-1)) →
  M_X12_rule_J3 v0 v1 v2 v3 v4 K m) ∧ (¬ (v4 = (-1)) →
  ((v3 = (-1)) →
  M_X12_rule_J2 v0 K m) ∧ (¬ (v3 = (-1)) →
  M_X12_isPart v4 (fun r_24 m_25 =>
  ((r_24 ≠ 0) →
  M_X12_rule_J3 v0 v1 v2 v3 v4 K m_25) ∧ (¬ (r_24 ≠ 0) →
  M_X12_rule_J2 v0 K m_25)) m))
def M_X12_rule (v0 : Int) (v1 : Int) (v2 : Int) (v3 : Int) (v4 : Int) (K : am_KK) (m : am_M) : Prop :=
  M_X12_isThing v1 (fun r_27 m_28 =>
  ((r_27 = 0) →
  M_X12_rule_J2 v0 K m_28) ∧ (¬ (r_27 = 0) →
  M_X12_isPart v2 (fun r_30 m_31 =>
  ((r_30 = 0) →
  M_X12_rule_J2 v0 K m_31) ∧ (¬ (r_30 = 0) →
  ((v3 = (-1)) →
  M_X12_rule_J1 v0 v1 v2 v3 v4 K m_31) ∧ (¬ (v3 = (-1)) →
  M_X12_isPart v3 (fun r_33 m_34 =>
  ((r_33 = 0) →
  M_X12_rule_J2 v0 K m_34) ∧ (¬ (r_33 = 0) →
  M_X12_rule_J1 v0 v1 v2 v3 v4 K m_34)) m_31))) m_28)) m
def N_X12_rule : am_PT := fun zs K m => match zs with
  | [v0, v1, v2, v3, v4] => am_ob v0 12 ∧ M_X12_rule v0 v1 v2 v3 v4 K m
  | _ => False
def M_X12_of (v0 : Int) (v1 : Int) (v2 : Int) (K : am_KK) (m : am_M) : Prop :=
  ((0 : Int) ≤ 364 ∧ 364 < am_len (am_rfv v0 2)) ∧
  M_X12_lies v1 0 (w32 ((m (am_rfv v0 2) 364) - 1)) (fun r_1 m_2 =>
  ((r_1 = 0) →
  K (-1) m_2) ∧ (¬ (r_1 = 0) →
  M_X12_lies v2 0 3 (fun r_4 m_5 =>
  ((r_4 = 0) →
  K (-1) m_5) ∧ (¬ (r_4 = 0) →
  ((0 : Int) ≤ (w32 ((w32 (180 + (w32 (4 * v1)))) + v2)) ∧ (w32 ((w32 (180 + (w32 (4 * v1)))) + v2)) < am_len (am_rfv v0 2)) ∧
  K (m_5 (am_rfv v0 2) (w32 ((w32 (180 + (w32 (4 * v1)))) + v2))) m_5)) m_2)) m
def N_X12_of : am_PT := fun zs K m => match zs with
  | [v0, v1, v2] => am_ob v0 12 ∧ M_X12_of v0 v1 v2 K m
  | _ => False
def M_X12_clash_J1 (v0 : Int) (K : am_KK) (m : am_M) : Prop :=
  M_X12_refuses v0 (-1) (fun r_1 m_2 =>
  K r_1 m_2) m
def M_X12_clash (v0 : Int) (v1 : Int) (v2 : Int) (v3 : Int) (K : am_KK) (m : am_M) : Prop :=
  M_X12_isThing v1 (fun r_3 m_4 =>
  ((r_3 = 0) →
  M_X12_clash_J1 v0 K m_4) ∧ (¬ (r_3 = 0) →
  M_X12_isThing v2 (fun r_6 m_7 =>
  ((r_6 = 0) →
  M_X12_clash_J1 v0 K m_7) ∧ (¬ (r_6 = 0) →
  ((v1 = v2) →
  M_X12_clash_J1 v0 K m_7) ∧ (¬ (v1 = v2) →
  M_X12_lies v3 0 1 (fun r_9 m_10 =>
  ((r_9 ≠ 0) →
  ((0 : Int) ≤ (w32 ((w32 (244 + (w32 (8 * v1)))) + v2)) ∧ (w32 ((w32 (244 + (w32 (8 * v1)))) + v2)) < am_len (am_rfv v0 2)) ∧
  ∀ v4_12 : Int, v4_12 = m_10 (am_rfv v0 2) (w32 ((w32 (244 + (w32 (8 * v1)))) + v2)) →
  ((0 : Int) ≤ (w32 ((w32 (244 + (w32 (8 * v1)))) + v2)) ∧ (w32 ((w32 (244 + (w32 (8 * v1)))) + v2)) < am_len (am_rfv v0 2)) ∧
  ∀ m_13 : am_M, m_13 = am_st m_10 (am_rfv v0 2) (w32 ((w32 (244 + (w32 (8 * v1)))) + v2)) v3 →
  ((0 : Int) ≤ (w32 ((w32 (244 + (w32 (8 * v2)))) + v1)) ∧ (w32 ((w32 (244 + (w32 (8 * v2)))) + v1)) < am_len (am_rfv v0 2)) ∧
  ∀ m_14 : am_M, m_14 = am_st m_13 (am_rfv v0 2) (w32 ((w32 (244 + (w32 (8 * v2)))) + v1)) v3 →
  M_X12_good v0 v4_12 (fun r_15 m_16 =>
  K r_15 m_16) m_14) ∧ (¬ (r_9 ≠ 0) →
  M_X12_clash_J1 v0 K m_10)) m_7))) m_4)) m
def N_X12_clash : am_PT := fun zs K m => match zs with
  | [v0, v1, v2, v3] => am_ob v0 12 ∧ M_X12_clash v0 v1 v2 v3 K m
  | _ => False
def M_X12_often_J1 (v0 : Int) (K : am_KK) (m : am_M) : Prop :=
  M_X12_refuses v0 (-1) (fun r_1 m_2 =>
  K r_1 m_2) m
def M_X12_often (v0 : Int) (v1 : Int) (v2 : Int) (K : am_KK) (m : am_M) : Prop :=
  M_X12_isThing v1 (fun r_3 m_4 =>
  ((r_3 = 0) →
  M_X12_often_J1 v0 K m_4) ∧ (¬ (r_3 = 0) →
  M_X12_lies v2 0 99 (fun r_6 m_7 =>
  ((r_6 ≠ 0) →
  ((0 : Int) ≤ (w32 (308 + v1)) ∧ (w32 (308 + v1)) < am_len (am_rfv v0 2)) ∧
  ∀ v3_9 : Int, v3_9 = m_7 (am_rfv v0 2) (w32 (308 + v1)) →
  ((0 : Int) ≤ (w32 (308 + v1)) ∧ (w32 (308 + v1)) < am_len (am_rfv v0 2)) ∧
  ∀ m_10 : am_M, m_10 = am_st m_7 (am_rfv v0 2) (w32 (308 + v1)) v2 →
  M_X12_good v0 v3_9 (fun r_11 m_12 =>
  K r_11 m_12) m_10) ∧ (¬ (r_6 ≠ 0) →
  M_X12_often_J1 v0 K m_7)) m_4)) m
def N_X12_often : am_PT := fun zs K m => match zs with
  | [v0, v1, v2] => am_ob v0 12 ∧ M_X12_often v0 v1 v2 K m
  | _ => False
def M_X12_person (v0 : Int) (v1 : Int) (K : am_KK) (m : am_M) : Prop :=
  M_X12_lies v1 0 99 (fun r_1 m_2 =>
  ((r_1 ≠ 0) →
  ((0 : Int) ≤ 365 ∧ 365 < am_len (am_rfv v0 2)) ∧
  ∀ v2_4 : Int, v2_4 = m_2 (am_rfv v0 2) 365 →
  ((v2_4 ≠ 6) →
  ((0 : Int) ≤ (w32 (316 + v2_4)) ∧ (w32 (316 + v2_4)) < am_len (am_rfv v0 2)) ∧
  ∀ m_5 : am_M, m_5 = am_st m_2 (am_rfv v0 2) (w32 (316 + v2_4)) v1 →
  ((0 : Int) ≤ 365 ∧ 365 < am_len (am_rfv v0 2)) ∧
  ((0 : Int) ≤ 365 ∧ 365 < am_len (am_rfv v0 2)) ∧
  ∀ m_6 : am_M, m_6 = am_st m_5 (am_rfv v0 2) 365 (w32 ((m_5 (am_rfv v0 2) 365) + 1)) →
  M_X12_good v0 v2_4 (fun r_7 m_8 =>
  K r_7 m_8) m_6) ∧ (¬ (v2_4 ≠ 6) →
  M_X12_refuses v0 (-5) (fun r_9 m_10 =>
  K r_9 m_10) m_2)) ∧ (¬ (r_1 ≠ 0) →
  M_X12_refuses v0 (-1) (fun r_11 m_12 =>
  K r_11 m_12) m_2)) m
def N_X12_person : am_PT := fun zs K m => match zs with
  | [v0, v1] => am_ob v0 12 ∧ M_X12_person v0 v1 K m
  | _ => False
def M_X12_isTerm (v0 : Int) (v1 : Int) (K : am_KK) (m : am_M) : Prop :=
  (v0 = 0 →
  M_X12_lies v1 0 999 (fun r_1 m_2 =>
  K r_1 m_2) m) ∧ (v0 = 1 →
  M_X12_lies v1 1 4 (fun r_4 m_5 =>
  K r_4 m_5) m) ∧ (v0 = 2 →
  M_X12_lies v1 0 30 (fun r_7 m_8 =>
  K r_7 m_8) m) ∧ (v0 = 3 →
  M_X12_lies v1 0 9 (fun r_10 m_11 =>
  K r_10 m_11) m) ∧ (v0 < 0 ∨ 3 < v0 →
  K 0 m)
def N_X12_isTerm : am_PT := fun zs K m => match zs with
  | [v0, v1] => M_X12_isTerm v0 v1 K m
  | _ => False
def M_X12_terms_J1 (v0 : Int) (v2 : Int) (s0 : Int) (K : am_KK) (m : am_M) : Prop :=
  ((0 : Int) ≤ s0 ∧ s0 < am_len (am_rfv v0 2)) ∧
  ∀ v4_1 : Int, v4_1 = m (am_rfv v0 2) s0 →
  ((0 : Int) ≤ s0 ∧ s0 < am_len (am_rfv v0 2)) ∧
  ∀ m_2 : am_M, m_2 = am_st m (am_rfv v0 2) s0 v2 →
  M_X12_settled v0 v4_1 (fun r_3 m_4 =>
  K r_3 m_4) m_2
def M_X12_terms (v0 : Int) (v1 : Int) (v2 : Int) (K : am_KK) (m : am_M) : Prop :=
  M_X12_isTerm v1 v2 (fun r_5 m_6 =>
  ((r_5 ≠ 0) →
  ((v1 ≠ 0) →
  M_X12_terms_J1 v0 v2 (w32 ((w32 (360 + v1)) - 1)) K m_6) ∧ (¬ (v1 ≠ 0) →
  M_X12_terms_J1 v0 v2 169 K m_6)) ∧ (¬ (r_5 ≠ 0) →
  M_X12_refuses v0 (-1) (fun r_8 m_9 =>
  K r_8 m_9) m_6)) m
def N_X12_terms : am_PT := fun zs K m => match zs with
  | [v0, v1, v2] => am_ob v0 12 ∧ M_X12_terms v0 v1 v2 K m
  | _ => False
def M_X12_says (v0 : Int) (v1 : Int) (v2 : Int) (v3 : Int) (v4 : Int) (K : am_KK) (m : am_M) : Prop :=
  M_X12_prayers v0 (fun r_1 m_2 =>
  ∀ v5_3 : Int, v5_3 = w32 (0 + (w32 (7 * r_1))) →
  ((0 : Int) ≤ (w32 (v5_3 + 0)) ∧ (w32 (v5_3 + 0)) < am_len (am_rfv v0 2)) ∧
  ∀ m_4 : am_M, m_4 = am_st m_2 (am_rfv v0 2) (w32 (v5_3 + 0)) v1 →
  ((0 : Int) ≤ (w32 (v5_3 + 1)) ∧ (w32 (v5_3 + 1)) < am_len (am_rfv v0 2)) ∧
  ∀ m_5 : am_M, m_5 = am_st m_4 (am_rfv v0 2) (w32 (v5_3 + 1)) v2 →
  ((0 : Int) ≤ (w32 (v5_3 + 2)) ∧ (w32 (v5_3 + 2)) < am_len (am_rfv v0 2)) ∧
  ∀ m_6 : am_M, m_6 = am_st m_5 (am_rfv v0 2) (w32 (v5_3 + 2)) v3 →
  ((0 : Int) ≤ (w32 (v5_3 + 3)) ∧ (w32 (v5_3 + 3)) < am_len (am_rfv v0 2)) ∧
  ∀ m_7 : am_M, m_7 = am_st m_6 (am_rfv v0 2) (w32 (v5_3 + 3)) v4 →
  ((0 : Int) ≤ 169 ∧ 169 < am_len (am_rfv v0 2)) ∧
  ((0 : Int) ≤ (w32 (v5_3 + 4)) ∧ (w32 (v5_3 + 4)) < am_len (am_rfv v0 2)) ∧
  ∀ m_8 : am_M, m_8 = am_st m_7 (am_rfv v0 2) (w32 (v5_3 + 4)) (m_7 (am_rfv v0 2) 169) →
  ((0 : Int) ≤ (w32 (v5_3 + 5)) ∧ (w32 (v5_3 + 5)) < am_len (am_rfv v0 2)) ∧
  ∀ m_9 : am_M, m_9 = am_st m_8 (am_rfv v0 2) (w32 (v5_3 + 5)) 0 →
  ((0 : Int) ≤ (w32 (v5_3 + 6)) ∧ (w32 (v5_3 + 6)) < am_len (am_rfv v0 2)) ∧
  ∀ m_10 : am_M, m_10 = am_st m_9 (am_rfv v0 2) (w32 (v5_3 + 6)) (-1) →
  ((0 : Int) ≤ 168 ∧ 168 < am_len (am_rfv v0 2)) ∧
  ((0 : Int) ≤ 168 ∧ 168 < am_len (am_rfv v0 2)) ∧
  ∀ m_11 : am_M, m_11 = am_st m_10 (am_rfv v0 2) 168 (w32 ((m_10 (am_rfv v0 2) 168) + 1)) →
  K 0 m_11) m
def N_X12_says : am_PT := fun zs K m => match zs with
  | [v0, v1, v2, v3, v4] => am_ob v0 12 ∧ M_X12_says v0 v1 v2 v3 v4 K m
  | _ => False
def M_X12_codeAt (v0 : Int) (v1 : Int) (K : am_KK) (m : am_M) : Prop :=
  (((m v0 23) ≤ v1) →
  K 0 m) ∧ (¬ ((m v0 23) ≤ v1) →
  ((0 : Int) ≤ (w32 (377 + v1)) ∧ (w32 (377 + v1)) < am_len (am_rfv v0 2)) ∧
  K (m (am_rfv v0 2) (w32 (377 + v1))) m)
def N_X12_codeAt : am_PT := fun zs K m => match zs with
  | [v0, v1] => am_ob v0 12 ∧ M_X12_codeAt v0 v1 K m
  | _ => False
def M_X12_sign (v0 : Int) (K : am_KK) (m : am_M) : Prop :=
  K (w32 (100 + v0)) m
def N_X12_sign : am_PT := fun zs K m => match zs with
  | [v0] => M_X12_sign v0 K m
  | _ => False
def M_X12_passes0_J1 (v0 : Int) (s0 : Int) (K : am_KK) (m : am_M) : Prop :=
  ((s0 = 0) →
  K s0 m) ∧ (¬ (s0 = 0) →
  ∀ m_1 : am_M, m_1 = am_st m v0 22 (w32 ((m v0 22) + 1)) →
  K s0 m_1)
def M_X12_passes0 (v0 : Int) (v1 : Int) (K : am_KK) (m : am_M) : Prop :=
  M_X12_codeAt v0 (m v0 22) (fun r_2 m_3 =>
  ((r_2 ≠ v1) →
  M_X12_passes0_J1 v0 0 K m_3) ∧ (¬ (r_2 ≠ v1) →
  M_X12_passes0_J1 v0 1 K m_3)) m
def N_X12_passes0 : am_PT := fun zs K m => match zs with
  | [v0, v1] => am_ob v0 12 ∧ M_X12_passes0 v0 v1 K m
  | _ => False
def M_X12_bounded_J2 (v0 : Int) (v1 : Int) (K : am_KK) (m : am_M) : Prop :=
  (((m v0 24) = 0) →
  K v1 m) ∧ (¬ ((m v0 24) = 0) →
  K 0 m)
def M_X12_bounded_J1 (v0 : Int) (v1 : Int) (K : am_KK) (m : am_M) : Prop :=
  ∀ m_1 : am_M, m_1 = am_st m v0 24 1 →
  M_X12_bounded_J2 v0 v1 K m_1
def M_X12_bounded (v0 : Int) (v1 : Int) (v3 : Int) (K : am_KK) (m : am_M) : Prop :=
  ((v3 = 0) →
  M_X12_bounded_J2 v0 v1 K m) ∧ (¬ (v3 = 0) →
  ((0 < (am_cmp v1 1000000000)) →
  M_X12_bounded_J1 v0 v1 K m) ∧ (¬ (0 < (am_cmp v1 1000000000)) →
  ((0 ≤ (am_cmp v1 (-1000000000))) →
  M_X12_bounded_J2 v0 v1 K m) ∧ (¬ (0 ≤ (am_cmp v1 (-1000000000))) →
  M_X12_bounded_J1 v0 v1 K m)))
def N_X12_bounded : am_PT := fun zs K m => match zs with
  | [v0, v1, v3] => am_ob v0 12 ∧ (v3 = 0 ∨ v3 = 1) ∧ M_X12_bounded v0 v1 v3 K m
  | _ => False
def M_X12_sumOf_J3 (R : Nat → am_PT) (v0 : Int) (v1 : Int) (s0 : Int) (s1 : Int) (C6 : Int → am_M → Prop) (K : am_KK) (m : am_M) : Prop :=
  M_X12_bounded s0 s1 v1 (fun r_1 m_2 =>
  C6 r_1 m_2) m
def M_X12_sumOf_J2 (R : Nat → am_PT) (v0 : Int) (v1 : Int) (v2 : Int) (s0 : Int) (C6 : Int → am_M → Prop) (K : am_KK) (m : am_M) : Prop :=
  ∀ m_3 : am_M, m_3 = am_st m v0 22 (w32 ((m v0 22) + 1)) →
  R 1 [v0, v1] (fun r_4 m_5 =>
  ((s0 = 0) →
  M_X12_sumOf_J3 R v0 v1 v0 (w64 (v2 - r_4)) C6 K m_5) ∧ (¬ (s0 = 0) →
  M_X12_sumOf_J3 R v0 v1 v0 (w64 (v2 + r_4)) C6 K m_5)) m_3
def M_X12_sumOf_J1 (R : Nat → am_PT) (v0 : Int) (v1 : Int) (v2 : Int) (C6 : Int → am_M → Prop) (K : am_KK) (m : am_M) : Prop :=
  M_X12_codeAt v0 (m v0 22) (fun r_6 m_7 =>
  M_X12_sign 43 (fun r_8 m_9 =>
  ((r_6 ≠ r_8) →
  M_X12_sumOf_J2 R v0 v1 v2 0 C6 K m_9) ∧ (¬ (r_6 ≠ r_8) →
  M_X12_sumOf_J2 R v0 v1 v2 1 C6 K m_9)) m_7) m
def M_X12_sumOf_L1B (R : Nat → am_PT) (v0 : Int) (v1 : Int) (v2 : Int) (C6 : Int → am_M → Prop) (K : am_KK) (m : am_M) : Prop :=
  M_X12_codeAt v0 (m v0 22) (fun r_10 m_11 =>
  M_X12_sign 43 (fun r_12 m_13 =>
  ((r_10 = r_12) →
  M_X12_sumOf_J1 R v0 v1 v2 C6 K m_13) ∧ (¬ (r_10 = r_12) →
  M_X12_codeAt v0 (m_13 v0 22) (fun r_14 m_15 =>
  M_X12_sign 45 (fun r_16 m_17 =>
  ((r_14 ≠ r_16) →
  K v2 m_17) ∧ (¬ (r_14 ≠ r_16) →
  M_X12_sumOf_J1 R v0 v1 v2 C6 K m_17)) m_15) m_13)) m_11) m
def M_X12_sumOf_L1 (R : Nat → am_PT) (v0 : Int) (v1 : Int) (v2 : Int) (K : am_KK) (m : am_M) : Prop :=
  ∃ I : Nat → Int → am_M → Prop, (∃ j, I j v2 m) ∧ ∀ j v2 m, I j v2 m → M_X12_sumOf_L1B R v0 v1 v2 (fun v2' m' => ∃ j', j' < j ∧ I j' v2' m') K m
def M_X12_sumOf (R : Nat → am_PT) (v0 : Int) (v1 : Int) (K : am_KK) (m : am_M) : Prop :=
  R 1 [v0, v1] (fun r_18 m_19 =>
  M_X12_sumOf_L1 R v0 v1 r_18 K m_19) m
def N_X12_sumOf (R : Nat → am_PT) : am_PT := fun zs K m => match zs with
  | [v0, v1] => am_ob v0 12 ∧ (v1 = 0 ∨ v1 = 1) ∧ M_X12_sumOf R v0 v1 K m
  | _ => False
def M_X12_termOf_J5 (R : Nat → am_PT) (v0 : Int) (v1 : Int) (s0 : Int) (s1 : Int) (C6 : Int → am_M → Prop) (K : am_KK) (m : am_M) : Prop :=
  M_X12_bounded s0 s1 v1 (fun r_1 m_2 =>
  C6 r_1 m_2) m
def M_X12_termOf_J4 (R : Nat → am_PT) (v0 : Int) (v1 : Int) (v2 : Int) (v4 : Int) (v5 : Int) (C6 : Int → am_M → Prop) (K : am_KK) (m : am_M) : Prop :=
  M_X12_sign 42 (fun r_3 m_4 =>
  ((v4 ≠ r_3) →
  M_X12_sign 47 (fun r_5 m_6 =>
  ((v4 ≠ r_5) →
  ((v5 : Int) ≠ 0) ∧
  M_X12_termOf_J5 R v0 v1 v0 (w64 (Int.tmod v2 v5)) C6 K m_6) ∧ (¬ (v4 ≠ r_5) →
  ((v5 : Int) ≠ 0) ∧
  M_X12_termOf_J5 R v0 v1 v0 (w64 (Int.tdiv v2 v5)) C6 K m_6)) m_4) ∧ (¬ (v4 ≠ r_3) →
  M_X12_termOf_J5 R v0 v1 v0 (w64 (v2 * v5)) C6 K m_4)) m
def M_X12_termOf_J3 (R : Nat → am_PT) (v0 : Int) (v1 : Int) (v2 : Int) (v4 : Int) (s0 : Int) (s1 : Int) (C6 : Int → am_M → Prop) (K : am_KK) (m : am_M) : Prop :=
  ∀ m_7 : am_M, m_7 = am_st m s0 24 s1 →
  M_X12_termOf_J4 R v0 v1 v2 v4 1 C6 K m_7
def M_X12_termOf_J2 (R : Nat → am_PT) (v0 : Int) (v1 : Int) (v2 : Int) (v4 : Int) (s0 : Int) (C6 : Int → am_M → Prop) (K : am_KK) (m : am_M) : Prop :=
  M_X12_termOf_J3 R v0 v1 v2 v4 s0 1 C6 K m
def M_X12_termOf_J1 (R : Nat → am_PT) (v0 : Int) (v1 : Int) (v2 : Int) (C6 : Int → am_M → Prop) (K : am_KK) (m : am_M) : Prop :=
  M_X12_codeAt v0 (m v0 22) (fun r_8 m_9 =>
  ∀ m_10 : am_M, m_10 = am_st m_9 v0 22 (w32 ((m_9 v0 22) + 1)) →
  R 2 [v0, v1] (fun r_11 m_12 =>
  M_X12_sign 42 (fun r_13 m_14 =>
  ((r_8 = r_13) →
  M_X12_termOf_J4 R v0 v1 v2 r_8 r_11 C6 K m_14) ∧ (¬ (r_8 = r_13) →
  (((am_cmp r_11 0) ≠ 0) →
  M_X12_termOf_J4 R v0 v1 v2 r_8 r_11 C6 K m_14) ∧ (¬ ((am_cmp r_11 0) ≠ 0) →
  (((m_14 v0 24) ≠ 0) →
  M_X12_termOf_J2 R v0 v1 v2 r_8 v0 C6 K m_14) ∧ (¬ ((m_14 v0 24) ≠ 0) →
  ((v1 = 0) →
  M_X12_termOf_J3 R v0 v1 v2 r_8 v0 0 C6 K m_14) ∧ (¬ (v1 = 0) →
  M_X12_termOf_J2 R v0 v1 v2 r_8 v0 C6 K m_14))))) m_12) m_10) m
def M_X12_termOf_L1B (R : Nat → am_PT) (v0 : Int) (v1 : Int) (v2 : Int) (C6 : Int → am_M → Prop) (K : am_KK) (m : am_M) : Prop :=
  M_X12_codeAt v0 (m v0 22) (fun r_15 m_16 =>
  M_X12_sign 42 (fun r_17 m_18 =>
  ((r_15 = r_17) →
  M_X12_termOf_J1 R v0 v1 v2 C6 K m_18) ∧ (¬ (r_15 = r_17) →
  M_X12_codeAt v0 (m_18 v0 22) (fun r_19 m_20 =>
  M_X12_sign 47 (fun r_21 m_22 =>
  ((r_19 = r_21) →
  M_X12_termOf_J1 R v0 v1 v2 C6 K m_22) ∧ (¬ (r_19 = r_21) →
  M_X12_codeAt v0 (m_22 v0 22) (fun r_23 m_24 =>
  M_X12_sign 37 (fun r_25 m_26 =>
  ((r_23 ≠ r_25) →
  K v2 m_26) ∧ (¬ (r_23 ≠ r_25) →
  M_X12_termOf_J1 R v0 v1 v2 C6 K m_26)) m_24) m_22)) m_20) m_18)) m_16) m
def M_X12_termOf_L1 (R : Nat → am_PT) (v0 : Int) (v1 : Int) (v2 : Int) (K : am_KK) (m : am_M) : Prop :=
  ∃ I : Nat → Int → am_M → Prop, (∃ j, I j v2 m) ∧ ∀ j v2 m, I j v2 m → M_X12_termOf_L1B R v0 v1 v2 (fun v2' m' => ∃ j', j' < j ∧ I j' v2' m') K m
def M_X12_termOf (R : Nat → am_PT) (v0 : Int) (v1 : Int) (K : am_KK) (m : am_M) : Prop :=
  R 2 [v0, v1] (fun r_27 m_28 =>
  M_X12_termOf_L1 R v0 v1 r_27 K m_28) m
def N_X12_termOf (R : Nat → am_PT) : am_PT := fun zs K m => match zs with
  | [v0, v1] => am_ob v0 12 ∧ (v1 = 0 ∨ v1 = 1) ∧ M_X12_termOf R v0 v1 K m
  | _ => False
def M_X12_partOf_J4 (R : Nat → am_PT) (v0 : Int) (v2 : Int) (v3 : Int) (K : am_KK) (m : am_M) : Prop :=
  ((v2 ≠ 19) →
  ((0 : Int) ≤ v3 ∧ v3 < am_len (am_rfv v0 27)) ∧
  K (m (am_rfv v0 27) v3) m) ∧ (¬ (v2 ≠ 19) →
  ((0 : Int) ≤ v3 ∧ v3 < am_len (am_rfv v0 26)) ∧
  K (m (am_rfv v0 26) v3) m)
def M_X12_partOf_J3 (R : Nat → am_PT) (K : am_KK) (m : am_M) : Prop :=
  K 0 m
def M_X12_partOf_J2 (R : Nat → am_PT) (v0 : Int) (v1 : Int) (v2 : Int) (v3 : Int) (K : am_KK) (m : am_M) : Prop :=
  ((v1 = 0) →
  M_X12_partOf_J3 R K m) ∧ (¬ (v1 = 0) →
  (((m v0 24) = 0) →
  ((v2 = 19) →
  M_X12_partOf_J4 R v0 v2 v3 K m) ∧ (¬ (v2 = 19) →
  ((v2 ≠ 20) →
  ((v2 ≠ 50) →
  ((0 : Int) ≤ (w32 (v2 - (m v0 8))) ∧ (w32 (v2 - (m v0 8))) < am_len (am_rfv v0 25)) ∧
  K (m (am_rfv v0 25) (w32 (v2 - (m v0 8)))) m) ∧ (¬ (v2 ≠ 50) →
  ((0 : Int) ≤ (w32 ((w32 (3177 + (m v0 22))) - 1)) ∧ (w32 ((w32 (3177 + (m v0 22))) - 1)) < am_len (am_rfv v0 2)) ∧
  K (m (am_rfv v0 2) (w32 ((w32 (3177 + (m v0 22))) - 1))) m)) ∧ (¬ (v2 ≠ 20) →
  M_X12_partOf_J4 R v0 v2 v3 K m))) ∧ (¬ ((m v0 24) = 0) →
  M_X12_partOf_J3 R K m))
def M_X12_partOf_J1 (R : Nat → am_PT) (v0 : Int) (v1 : Int) (v2 : Int) (K : am_KK) (m : am_M) : Prop :=
  ((0 : Int) ≤ (w32 (3177 + (m v0 22))) ∧ (w32 (3177 + (m v0 22))) < am_len (am_rfv v0 2)) ∧
  ∀ v3_1 : Int, v3_1 = m (am_rfv v0 2) (w32 (3177 + (m v0 22))) →
  ∀ m_2 : am_M, m_2 = am_st m v0 22 (w32 ((m v0 22) + 1)) →
  M_X12_partOf_J2 R v0 v1 v2 v3_1 K m_2
def M_X12_partOf (R : Nat → am_PT) (v0 : Int) (v1 : Int) (K : am_KK) (m : am_M) : Prop :=
  M_X12_sign 91 (fun r_3 m_4 =>
  M_X12_passes0 v0 r_3 (fun r_5 m_6 =>
  ((r_5 = 0) →
  M_X12_codeAt v0 (m_6 v0 22) (fun r_8 m_9 =>
  ∀ m_10 : am_M, m_10 = am_st m_9 v0 22 (w32 ((m_9 v0 22) + 1)) →
  ((r_8 = 19) →
  M_X12_partOf_J1 R v0 v1 r_8 K m_10) ∧ (¬ (r_8 = 19) →
  ((r_8 ≠ 20) →
  M_X12_partOf_J2 R v0 v1 r_8 0 K m_10) ∧ (¬ (r_8 ≠ 20) →
  M_X12_partOf_J1 R v0 v1 r_8 K m_10))) m_6) ∧ (¬ (r_5 = 0) →
  R 0 [v0, v1] (fun r_11 m_12 =>
  ∀ m_13 : am_M, m_13 = am_st m_12 v0 22 (w32 ((m_12 v0 22) + 1)) →
  K r_11 m_13) m_6)) m_4) m
def N_X12_partOf (R : Nat → am_PT) : am_PT := fun zs K m => match zs with
  | [v0, v1] => am_ob v0 12 ∧ (v1 = 0 ∨ v1 = 1) ∧ M_X12_partOf R v0 v1 K m
  | _ => False
def R_X12_sumOf : Nat → Nat → am_PT
  | 0, _ => fun _ _ _ => False
  | k + 1, i => match i with
    | 0 => N_X12_sumOf (R_X12_sumOf k)
    | 1 => N_X12_termOf (R_X12_sumOf k)
    | 2 => N_X12_partOf (R_X12_sumOf k)
    | _ => fun _ _ _ => False
def M_X12_testOf_J4 (R : Nat → am_PT) (v0 : Int) (v1 : Int) (s0 : Int) (C6 : Int → am_M → Prop) (K : am_KK) (m : am_M) : Prop :=
  C6 s0 m
def M_X12_testOf_J3 (R : Nat → am_PT) (v0 : Int) (v1 : Int) (C6 : Int → am_M → Prop) (K : am_KK) (m : am_M) : Prop :=
  M_X12_testOf_J4 R v0 v1 1 C6 K m
def M_X12_testOf_J2 (R : Nat → am_PT) (v0 : Int) (v1 : Int) (v2 : Int) (s0 : Int) (s1 : Int) (C6 : Int → am_M → Prop) (K : am_KK) (m : am_M) : Prop :=
  R 1 [s0, s1] (fun r_1 m_2 =>
  ((v2 ≠ 0) →
  M_X12_testOf_J3 R v0 v1 C6 K m_2) ∧ (¬ (v2 ≠ 0) →
  ((r_1 = 0) →
  M_X12_testOf_J4 R v0 v1 0 C6 K m_2) ∧ (¬ (r_1 = 0) →
  M_X12_testOf_J3 R v0 v1 C6 K m_2))) m
def M_X12_testOf_J1 (R : Nat → am_PT) (v0 : Int) (v1 : Int) (v2 : Int) (s0 : Int) (C6 : Int → am_M → Prop) (K : am_KK) (m : am_M) : Prop :=
  M_X12_testOf_J2 R v0 v1 v2 s0 0 C6 K m
def M_X12_testOf_L1B (R : Nat → am_PT) (v0 : Int) (v1 : Int) (v2 : Int) (C6 : Int → am_M → Prop) (K : am_KK) (m : am_M) : Prop :=
  M_X12_passes0 v0 5 (fun r_4 m_5 =>
  ((r_4 = 0) →
  ((v2 : Int) = 0 ∨ (v2 : Int) = 1) ∧
  K v2 m_5) ∧ (¬ (r_4 = 0) →
  ((v1 = 0) →
  M_X12_testOf_J1 R v0 v1 v2 v0 C6 K m_5) ∧ (¬ (v1 = 0) →
  ((v2 ≠ 0) →
  M_X12_testOf_J1 R v0 v1 v2 v0 C6 K m_5) ∧ (¬ (v2 ≠ 0) →
  M_X12_testOf_J2 R v0 v1 v2 v0 1 C6 K m_5)))) m
def M_X12_testOf_L1 (R : Nat → am_PT) (v0 : Int) (v1 : Int) (v2 : Int) (K : am_KK) (m : am_M) : Prop :=
  ∃ I : Nat → Int → am_M → Prop, (∃ j, I j v2 m) ∧ ∀ j v2 m, I j v2 m → M_X12_testOf_L1B R v0 v1 v2 (fun v2' m' => ∃ j', j' < j ∧ I j' v2' m') K m
def M_X12_testOf (R : Nat → am_PT) (v0 : Int) (v1 : Int) (K : am_KK) (m : am_M) : Prop :=
  R 1 [v0, v1] (fun r_7 m_8 =>
  M_X12_testOf_L1 R v0 v1 r_7 K m_8) m
def N_X12_testOf (R : Nat → am_PT) : am_PT := fun zs K m => match zs with
  | [v0, v1] => am_ob v0 12 ∧ (v1 = 0 ∨ v1 = 1) ∧ M_X12_testOf R v0 v1 K m
  | _ => False
def M_X12_bothOf_J4 (R : Nat → am_PT) (v0 : Int) (v1 : Int) (s0 : Int) (C6 : Int → am_M → Prop) (K : am_KK) (m : am_M) : Prop :=
  C6 s0 m
def M_X12_bothOf_J3 (R : Nat → am_PT) (v0 : Int) (v1 : Int) (C6 : Int → am_M → Prop) (K : am_KK) (m : am_M) : Prop :=
  M_X12_bothOf_J4 R v0 v1 0 C6 K m
def M_X12_bothOf_J2 (R : Nat → am_PT) (v0 : Int) (v1 : Int) (v2 : Int) (s0 : Int) (s1 : Int) (C6 : Int → am_M → Prop) (K : am_KK) (m : am_M) : Prop :=
  R 2 [s0, s1] (fun r_1 m_2 =>
  ((v2 = 0) →
  M_X12_bothOf_J3 R v0 v1 C6 K m_2) ∧ (¬ (v2 = 0) →
  ((r_1 = 0) →
  M_X12_bothOf_J3 R v0 v1 C6 K m_2) ∧ (¬ (r_1 = 0) →
  M_X12_bothOf_J4 R v0 v1 1 C6 K m_2))) m
def M_X12_bothOf_J1 (R : Nat → am_PT) (v0 : Int) (v1 : Int) (v2 : Int) (s0 : Int) (C6 : Int → am_M → Prop) (K : am_KK) (m : am_M) : Prop :=
  M_X12_bothOf_J2 R v0 v1 v2 s0 0 C6 K m
def M_X12_bothOf_L1B (R : Nat → am_PT) (v0 : Int) (v1 : Int) (v2 : Int) (C6 : Int → am_M → Prop) (K : am_KK) (m : am_M) : Prop :=
  M_X12_passes0 v0 6 (fun r_4 m_5 =>
  ((r_4 = 0) →
  ((v2 : Int) = 0 ∨ (v2 : Int) = 1) ∧
  K v2 m_5) ∧ (¬ (r_4 = 0) →
  ((v1 = 0) →
  M_X12_bothOf_J1 R v0 v1 v2 v0 C6 K m_5) ∧ (¬ (v1 = 0) →
  ((v2 = 0) →
  M_X12_bothOf_J1 R v0 v1 v2 v0 C6 K m_5) ∧ (¬ (v2 = 0) →
  M_X12_bothOf_J2 R v0 v1 v2 v0 1 C6 K m_5)))) m
def M_X12_bothOf_L1 (R : Nat → am_PT) (v0 : Int) (v1 : Int) (v2 : Int) (K : am_KK) (m : am_M) : Prop :=
  ∃ I : Nat → Int → am_M → Prop, (∃ j, I j v2 m) ∧ ∀ j v2 m, I j v2 m → M_X12_bothOf_L1B R v0 v1 v2 (fun v2' m' => ∃ j', j' < j ∧ I j' v2' m') K m
def M_X12_bothOf (R : Nat → am_PT) (v0 : Int) (v1 : Int) (K : am_KK) (m : am_M) : Prop :=
  R 2 [v0, v1] (fun r_7 m_8 =>
  M_X12_bothOf_L1 R v0 v1 r_7 K m_8) m
def N_X12_bothOf (R : Nat → am_PT) : am_PT := fun zs K m => match zs with
  | [v0, v1] => am_ob v0 12 ∧ (v1 = 0 ∨ v1 = 1) ∧ M_X12_bothOf R v0 v1 K m
  | _ => False
def M_X12_plainOf_J1 (R : Nat → am_PT) (v0 : Int) (v1 : Int) (s0 : Int) (C2 : Int → am_M → Prop) (K : am_KK) (m : am_M) : Prop :=
  C2 s0 m
def M_X12_plainOf_L1B (R : Nat → am_PT) (v0 : Int) (v1 : Int) (v2 : Int) (C2 : Int → am_M → Prop) (K : am_KK) (m : am_M) : Prop :=
  M_X12_passes0 v0 7 (fun r_1 m_2 =>
  ((r_1 = 0) →
  R 3 [v0, v1] (fun r_4 m_5 =>
  ((r_4 = v2) →
  K 0 m_5) ∧ (¬ (r_4 = v2) →
  K 1 m_5)) m_2) ∧ (¬ (r_1 = 0) →
  ((v2 ≠ 0) →
  M_X12_plainOf_J1 R v0 v1 0 C2 K m_2) ∧ (¬ (v2 ≠ 0) →
  M_X12_plainOf_J1 R v0 v1 1 C2 K m_2))) m
def M_X12_plainOf_L1 (R : Nat → am_PT) (v0 : Int) (v1 : Int) (v2 : Int) (K : am_KK) (m : am_M) : Prop :=
  ∃ I : Nat → Int → am_M → Prop, (∃ j, I j v2 m) ∧ ∀ j v2 m, I j v2 m → M_X12_plainOf_L1B R v0 v1 v2 (fun v2' m' => ∃ j', j' < j ∧ I j' v2' m') K m
def M_X12_plainOf (R : Nat → am_PT) (v0 : Int) (v1 : Int) (K : am_KK) (m : am_M) : Prop :=
  M_X12_plainOf_L1 R v0 v1 0 K m
def N_X12_plainOf (R : Nat → am_PT) : am_PT := fun zs K m => match zs with
  | [v0, v1] => am_ob v0 12 ∧ (v1 = 0 ∨ v1 = 1) ∧ M_X12_plainOf R v0 v1 K m
  | _ => False
def M_X12_positiveOf (R : Nat → am_PT) (v0 : Int) (v1 : Int) (K : am_KK) (m : am_M) : Prop :=
  M_X12_sign 40 (fun r_1 m_2 =>
  M_X12_passes0 v0 r_1 (fun r_3 m_4 =>
  ((r_3 = 0) →
  R_X12_sumOf 301 0 [v0, v1] (fun r_6 m_7 =>
  M_X12_codeAt v0 (m_7 v0 22) (fun r_8 m_9 =>
  ∀ m_10 : am_M, m_10 = am_st m_9 v0 22 (w32 ((m_9 v0 22) + 1)) →
  R_X12_sumOf 301 0 [v0, v1] (fun r_11 m_12 =>
  ((v1 = 0) →
  K 0 m_12) ∧ (¬ (v1 = 0) →
  (((m_12 v0 24) ≠ 0) →
  K 0 m_12) ∧ (¬ ((m_12 v0 24) ≠ 0) →
  M_X12_sign 60 (fun r_13 m_14 =>
  ((r_8 ≠ r_13) →
  M_X12_sign 62 (fun r_15 m_16 =>
  ((r_8 ≠ r_15) →
  (((am_cmp r_6 r_11) ≠ 0) →
  K 0 m_16) ∧ (¬ ((am_cmp r_6 r_11) ≠ 0) →
  K 1 m_16)) ∧ (¬ (r_8 ≠ r_15) →
  (((am_cmp r_6 r_11) ≤ 0) →
  K 0 m_16) ∧ (¬ ((am_cmp r_6 r_11) ≤ 0) →
  K 1 m_16))) m_14) ∧ (¬ (r_8 ≠ r_13) →
  ((0 ≤ (am_cmp r_6 r_11)) →
  K 0 m_14) ∧ (¬ (0 ≤ (am_cmp r_6 r_11)) →
  K 1 m_14))) m_12))) m_10) m_7) m_4) ∧ (¬ (r_3 = 0) →
  R 0 [v0, v1] (fun r_17 m_18 =>
  ∀ m_20 : am_M, m_20 = am_st m_18 v0 22 (w32 ((m_18 v0 22) + 1)) →
  K r_17 m_20) m_4)) m_2) m
def N_X12_positiveOf (R : Nat → am_PT) : am_PT := fun zs K m => match zs with
  | [v0, v1] => am_ob v0 12 ∧ (v1 = 0 ∨ v1 = 1) ∧ M_X12_positiveOf R v0 v1 K m
  | _ => False
def R_X12_testOf : Nat → Nat → am_PT
  | 0, _ => fun _ _ _ => False
  | k + 1, i => match i with
    | 0 => N_X12_testOf (R_X12_testOf k)
    | 1 => N_X12_bothOf (R_X12_testOf k)
    | 2 => N_X12_plainOf (R_X12_testOf k)
    | 3 => N_X12_positiveOf (R_X12_testOf k)
    | _ => fun _ _ _ => False
def M_X12_tells_J5 (v0 : Int) (v1 : Int) (v2 : Int) (v3 : Int) (v5 : Int) (C68 : Int → am_M → Prop) (K : am_KK) (m : am_M) : Prop :=
  ∀ m_1 : am_M, m_1 = am_st m v0 22 (w32 ((m v0 22) + 1)) →
  C68 v5 m_1
def M_X12_tells_J4 (v0 : Int) (v1 : Int) (v2 : Int) (v3 : Int) (s0 : Int) (C68 : Int → am_M → Prop) (K : am_KK) (m : am_M) : Prop :=
  M_X12_tells_J5 v0 v1 v2 v3 s0 C68 K m
def M_X12_tells_J3 (v0 : Int) (v1 : Int) (v2 : Int) (v3 : Int) (v5 : Int) (v7 : Int) (v8 : Int) (v10 : Int) (s0 : Int) (C68 : Int → am_M → Prop) (K : am_KK) (m : am_M) : Prop :=
  ((v7 ≠ v1) →
  M_X12_tells_J5 v0 v1 v2 v3 v5 C68 K m) ∧ (¬ (v7 ≠ v1) →
  ((s0 = 0) →
  M_X12_tells_J5 v0 v1 v2 v3 v5 C68 K m) ∧ (¬ (s0 = 0) →
  (((m v0 24) ≠ 0) →
  M_X12_tells_J5 v0 v1 v2 v3 v5 C68 K m) ∧ (¬ ((m v0 24) ≠ 0) →
  ((v10 ≠ 0) →
  M_X12_tells_J5 v0 v1 v2 v3 v5 C68 K m) ∧ (¬ (v10 ≠ 0) →
  ((0 ≤ (am_cmp v8 v2)) →
  (((am_cmp v8 v3) ≤ 0) →
  M_X12_tells_J4 v0 v1 v2 v3 v8 C68 K m) ∧ (¬ ((am_cmp v8 v3) ≤ 0) →
  M_X12_tells_J4 v0 v1 v2 v3 v3 C68 K m)) ∧ (¬ (0 ≤ (am_cmp v8 v2)) →
  M_X12_tells_J4 v0 v1 v2 v3 v2 C68 K m)))))
def M_X12_tells_J2 (v0 : Int) (v1 : Int) (v2 : Int) (v3 : Int) (v5 : Int) (v7 : Int) (v8 : Int) (v10 : Int) (C68 : Int → am_M → Prop) (K : am_KK) (m : am_M) : Prop :=
  M_X12_tells_J3 v0 v1 v2 v3 v5 v7 v8 v10 1 C68 K m
def M_X12_tells_J1 (v0 : Int) (v1 : Int) (v2 : Int) (v3 : Int) (v5 : Int) (v7 : Int) (s0 : Int) (C68 : Int → am_M → Prop) (K : am_KK) (m : am_M) : Prop :=
  ∀ v10_2 : Int, v10_2 = m v0 24 →
  ∀ m_3 : am_M, m_3 = am_st m v0 24 0 →
  M_X12_passes0 v0 4 (fun r_4 m_5 =>
  ((r_4 = 0) →
  M_X12_tells_J2 v0 v1 v2 v3 v5 v7 s0 v10_2 C68 K m_5) ∧ (¬ (r_4 = 0) →
  R_X12_testOf 301 0 [v0, 1] (fun r_7 m_8 =>
  ((r_7 = 0) →
  M_X12_tells_J3 v0 v1 v2 v3 v5 v7 s0 v10_2 0 C68 K m_8) ∧ (¬ (r_7 = 0) →
  M_X12_tells_J2 v0 v1 v2 v3 v5 v7 s0 v10_2 C68 K m_8)) m_5)) m_3
def M_X12_tells_L1B (v0 : Int) (v1 : Int) (v2 : Int) (v3 : Int) (v5 : Int) (C68 : Int → am_M → Prop) (K : am_KK) (m : am_M) : Prop :=
  (((m v0 23) ≤ (m v0 22)) →
  K (am_l2i v5) m) ∧ (¬ ((m v0 23) ≤ (m v0 22)) →
  M_X12_codeAt v0 (m v0 22) (fun r_10 m_11 =>
  ∀ m_12 : am_M, m_12 = am_st m_11 v0 24 0 →
  ∀ m_13 : am_M, m_13 = am_st m_12 v0 22 (w32 ((m_12 v0 22) + 1)) →
  ((r_10 ≠ 3) →
  R_X12_sumOf 301 0 [v0, 1] (fun r_14 m_15 =>
  M_X12_tells_J1 v0 v1 v2 v3 v5 r_10 r_14 C68 K m_15) m_13) ∧ (¬ (r_10 ≠ 3) →
  M_X12_tells_J1 v0 v1 v2 v3 v5 r_10 1 C68 K m_13)) m)
def M_X12_tells_L1 (v0 : Int) (v1 : Int) (v2 : Int) (v3 : Int) (v5 : Int) (K : am_KK) (m : am_M) : Prop :=
  ∃ I : Nat → Int → am_M → Prop, (∃ j, I j v5 m) ∧ ∀ j v5 m, I j v5 m → M_X12_tells_L1B v0 v1 v2 v3 v5 (fun v5' m' => ∃ j', j' < j ∧ I j' v5' m') K m
def M_X12_tells (v0 : Int) (v1 : Int) (v2 : Int) (v3 : Int) (v4 : Int) (K : am_KK) (m : am_M) : Prop :=
  ((0 : Int) ≤ 369 ∧ 369 < am_len (am_rfv v0 2)) ∧
  (((m (am_rfv v0 2) 369) ≠ (-1)) →
  ∀ m_16 : am_M, m_16 = am_st m v0 8 8 →
  ((0 : Int) ≤ 369 ∧ 369 < am_len (am_rfv v0 2)) ∧
  ∀ m_17 : am_M, m_17 = am_st m_16 v0 22 (w32 (400 * (m_16 (am_rfv v0 2) 369))) →
  ((0 : Int) ≤ 369 ∧ 369 < am_len (am_rfv v0 2)) ∧
  ((0 : Int) ≤ (w32 (370 + (m_17 (am_rfv v0 2) 369))) ∧ (w32 (370 + (m_17 (am_rfv v0 2) 369))) < am_len (am_rfv v0 2)) ∧
  ∀ m_18 : am_M, m_18 = am_st m_17 v0 23 (w32 ((m_17 v0 22) + (m_17 (am_rfv v0 2) (w32 (370 + (m_17 (am_rfv v0 2) 369)))))) →
  M_X12_tells_L1 v0 v1 v2 v3 v4 K m_18) ∧ (¬ ((m (am_rfv v0 2) 369) ≠ (-1)) →
  K v4 m)
def N_X12_tells : am_PT := fun zs K m => match zs with
  | [v0, v1, v2, v3, v4] => am_ob v0 12 ∧ M_X12_tells v0 v1 v2 v3 v4 K m
  | _ => False
def M_X12_breathOf_L1B (v0 : Int) (v1 : Int) (v2 : Int) (C2 : Int → am_M → Prop) (K : am_KK) (m : am_M) : Prop :=
  ((8 ≤ v2) →
  ((0 : Int) ≤ 2 ∧ 2 < am_len (am_rfv v0 25)) ∧
  ∀ m_1 : am_M, m_1 = am_st m (am_rfv v0 25) 2 v1 →
  ((0 : Int) ≤ (w32 (316 + v1)) ∧ (w32 (316 + v1)) < am_len (am_rfv v0 2)) ∧
  ((0 : Int) ≤ 3 ∧ 3 < am_len (am_rfv v0 25)) ∧
  ∀ m_2 : am_M, m_2 = am_st m_1 (am_rfv v0 25) 3 (m_1 (am_rfv v0 2) (w32 (316 + v1))) →
  ((0 : Int) ≤ 362 ∧ 362 < am_len (am_rfv v0 2)) ∧
  ((0 : Int) ≤ 6 ∧ 6 < am_len (am_rfv v0 25)) ∧
  ∀ m_3 : am_M, m_3 = am_st m_2 (am_rfv v0 25) 6 (m_2 (am_rfv v0 2) 362) →
  ((0 : Int) ≤ 169 ∧ 169 < am_len (am_rfv v0 2)) ∧
  ((0 : Int) ≤ 7 ∧ 7 < am_len (am_rfv v0 25)) ∧
  ∀ m_4 : am_M, m_4 = am_st m_3 (am_rfv v0 25) 7 (m_3 (am_rfv v0 2) 169) →
  M_X12_tells v0 2 0 99 99 (fun r_5 m_6 =>
  K r_5 m_6) m_4) ∧ (¬ (8 ≤ v2) →
  ((0 : Int) ≤ v2 ∧ v2 < am_len (am_rfv v0 25)) ∧
  ∀ m_7 : am_M, m_7 = am_st m (am_rfv v0 25) v2 (-1) →
  ∀ v2_8 : Int, v2_8 = w32 (v2 + 1) →
  C2 v2_8 m_7)
def M_X12_breathOf_L1 (v0 : Int) (v1 : Int) (v2 : Int) (K : am_KK) (m : am_M) : Prop :=
  ∃ I : Nat → Int → am_M → Prop, (∃ j, I j v2 m) ∧ ∀ j v2 m, I j v2 m → M_X12_breathOf_L1B v0 v1 v2 (fun v2' m' => ∃ j', j' < j ∧ I j' v2' m') K m
def M_X12_breathOf (v0 : Int) (v1 : Int) (K : am_KK) (m : am_M) : Prop :=
  M_X12_breathOf_L1 v0 v1 0 K m
def N_X12_breathOf : am_PT := fun zs K m => match zs with
  | [v0, v1] => am_ob v0 12 ∧ M_X12_breathOf v0 v1 K m
  | _ => False
def M_X12_whyNot (v0 : Int) (v1 : Int) (v2 : Int) (v3 : Int) (v4 : Int) (K : am_KK) (m : am_M) : Prop :=
  M_X12_isThing v2 (fun r_1 m_2 =>
  ((r_1 = 0) →
  K (-1) m_2) ∧ (¬ (r_1 = 0) →
  M_X12_lies v3 1 99 (fun r_4 m_5 =>
  ((r_4 = 0) →
  K (-1) m_5) ∧ (¬ (r_4 = 0) →
  M_X12_lies v4 1 6 (fun r_7 m_8 =>
  ((r_7 ≠ 0) →
  M_X12_isPerson v0 v1 (fun r_10 m_11 =>
  ((r_10 ≠ 0) →
  M_X12_breathOf v0 v1 (fun r_13 m_14 =>
  ((v3 ≤ r_13) →
  M_X12_prayers v0 (fun r_15 m_16 =>
  ((r_15 < 16) →
  K 0 m_16) ∧ (¬ (r_15 < 16) →
  K (-5) m_16)) m_14) ∧ (¬ (v3 ≤ r_13) →
  K (-3) m_14)) m_11) ∧ (¬ (r_10 ≠ 0) →
  K (-2) m_11)) m_8) ∧ (¬ (r_7 ≠ 0) →
  K (-1) m_8)) m_5)) m_2)) m
def N_X12_whyNot : am_PT := fun zs K m => match zs with
  | [v0, v1, v2, v3, v4] => am_ob v0 12 ∧ M_X12_whyNot v0 v1 v2 v3 v4 K m
  | _ => False
def M_X12_row_J5 (v0 : Int) (v1 : Int) (v2 : Int) (v3 : Int) (s0 : Int) (s1 : Int) (s2 : Int) (C40 : Int → Int → am_M → Prop) (K : am_KK) (m : am_M) : Prop :=
  ∀ m_1 : am_M, m_1 = am_st m s0 6 (w32 (s1 + s2)) →
  ∀ v3_2 : Int, v3_2 = w32 (v3 + 3) →
  C40 v2 v3_2 m_1
def M_X12_row_J4 (v0 : Int) (v1 : Int) (v3 : Int) (v4 : Int) (s0 : Int) (s1 : Int) (C40 : Int → Int → am_M → Prop) (K : am_KK) (m : am_M) : Prop :=
  ∀ v2_3 : Int, v2_3 = w32 (s0 + s1) →
  ((v4 = 0) →
  M_X12_row_J5 v0 v1 v2_3 v3 v0 (m v0 6) 1 C40 K m) ∧ (¬ (v4 = 0) →
  M_X12_row_J5 v0 v1 v2_3 v3 v0 (m v0 6) 0 C40 K m)
def M_X12_row_J3 (v0 : Int) (v1 : Int) (v2 : Int) (v3 : Int) (v4 : Int) (C40 : Int → Int → am_M → Prop) (K : am_KK) (m : am_M) : Prop :=
  ((v4 = 0) →
  M_X12_row_J4 v0 v1 v3 v4 v2 0 C40 K m) ∧ (¬ (v4 = 0) →
  M_X12_row_J4 v0 v1 v3 v4 v2 1 C40 K m)
def M_X12_row_J2 (v0 : Int) (v1 : Int) (v2 : Int) (v3 : Int) (s0 : Int) (C40 : Int → Int → am_M → Prop) (K : am_KK) (m : am_M) : Prop :=
  ((s0 = 0) →
  M_X12_row_J3 v0 v1 v2 v3 s0 C40 K m) ∧ (¬ (s0 = 0) →
  ((0 : Int) ≤ v3 ∧ v3 < am_len (am_rfv v0 11)) ∧
  ((0 : Int) ≤ (w32 (v3 + 1)) ∧ (w32 (v3 + 1)) < am_len (am_rfv v0 11)) ∧
  ((0 : Int) ≤ (w32 (v3 + 2)) ∧ (w32 (v3 + 2)) < am_len (am_rfv v0 11)) ∧
  M_X12_says v0 (m (am_rfv v0 11) v3) (m (am_rfv v0 11) (w32 (v3 + 1))) (m (am_rfv v0 11) (w32 (v3 + 2))) 1 (fun _ m_5 =>
  M_X12_row_J3 v0 v1 v2 v3 s0 C40 K m_5) m)
def M_X12_row_L1B (v0 : Int) (v1 : Int) (v2 : Int) (v3 : Int) (C40 : Int → Int → am_M → Prop) (K : am_KK) (m : am_M) : Prop :=
  ((v1 < (w32 (v3 + 3))) →
  M_X12_settled v0 v2 (fun r_6 m_7 =>
  K r_6 m_7) m) ∧ (¬ (v1 < (w32 (v3 + 3))) →
  ((0 : Int) ≤ v3 ∧ v3 < am_len (am_rfv v0 11)) ∧
  ((0 : Int) ≤ (w32 (v3 + 1)) ∧ (w32 (v3 + 1)) < am_len (am_rfv v0 11)) ∧
  ((0 : Int) ≤ (w32 (v3 + 2)) ∧ (w32 (v3 + 2)) < am_len (am_rfv v0 11)) ∧
  M_X12_whyNot v0 (m (am_rfv v0 11) v3) (m (am_rfv v0 11) (w32 (v3 + 1))) (m (am_rfv v0 11) (w32 (v3 + 2))) 1 (fun r_8 m_9 =>
  ((r_8 ≠ 0) →
  M_X12_row_J2 v0 v1 v2 v3 0 C40 K m_9) ∧ (¬ (r_8 ≠ 0) →
  M_X12_row_J2 v0 v1 v2 v3 1 C40 K m_9)) m)
def M_X12_row_L1 (v0 : Int) (v1 : Int) (v2 : Int) (v3 : Int) (K : am_KK) (m : am_M) : Prop :=
  ∃ I : Nat → Int → Int → am_M → Prop, (∃ j, I j v2 v3 m) ∧ ∀ j v2 v3 m, I j v2 v3 m → M_X12_row_L1B v0 v1 v2 v3 (fun v2' v3' m' => ∃ j', j' < j ∧ I j' v2' v3' m') K m
def M_X12_row_J1 (v0 : Int) (v1 : Int) (v2 : Int) (s0 : Int) (s1 : Int) (K : am_KK) (m : am_M) : Prop :=
  ∀ m_10 : am_M, m_10 = am_st m s0 6 s1 →
  M_X12_row_L1 v0 v1 v2 0 K m_10
def M_X12_row (v0 : Int) (K : am_KK) (m : am_M) : Prop :=
  ∀ v1_11 : Int, v1_11 = m v0 13 →
  ∀ m_12 : am_M, m_12 = am_st m v0 13 0 →
  ((v1_11 ≠ 0) →
  (((w32 (Int.tmod v1_11 3)) ≠ 0) →
  M_X12_row_J1 v0 v1_11 0 v0 1 K m_12) ∧ (¬ ((w32 (Int.tmod v1_11 3)) ≠ 0) →
  M_X12_row_J1 v0 v1_11 0 v0 0 K m_12)) ∧ (¬ (v1_11 ≠ 0) →
  M_X12_refuses v0 (-6) (fun r_13 m_14 =>
  K r_13 m_14) m_12)
def N_X12_row : am_PT := fun zs K m => match zs with
  | [v0] => am_ob v0 12 ∧ M_X12_row v0 K m
  | _ => False
def M_X12_coughs (v0 : Int) (K : am_KK) (m : am_M) : Prop :=
  K (m v0 6) m
def N_X12_coughs : am_PT := fun zs K m => match zs with
  | [v0] => am_ob v0 12 ∧ M_X12_coughs v0 K m
  | _ => False
def M_X12_feed_L1B (v0 : Int) (v6 : Int) (C55 : Int → am_M → Prop) (K : am_KK) (m : am_M) : Prop :=
  ((20 ≤ v6) →
  ∀ m_1 : am_M, m_1 = am_st m v0 13 (w32 ((m v0 13) + 20)) →
  K (m_1 v0 13) m_1) ∧ (¬ (20 ≤ v6) →
  ((0 : Int) ≤ (w32 (Int.tdiv v6 4)) ∧ (w32 (Int.tdiv v6 4)) < am_len (am_rfv v0 12)) ∧
  ((0 : Int) ≤ (w32 ((m v0 13) + v6)) ∧ (w32 ((m v0 13) + v6)) < am_len (am_rfv v0 11)) ∧
  ((-128 : Int) ≤ (am_i2b (am_shr (m (am_rfv v0 12) (w32 (Int.tdiv v6 4))) (w32 (24 - (w32 (8 * (w32 (Int.tmod v6 4)))))))) ∧ (am_i2b (am_shr (m (am_rfv v0 12) (w32 (Int.tdiv v6 4))) (w32 (24 - (w32 (8 * (w32 (Int.tmod v6 4)))))))) ≤ (127 : Int)) ∧
  ∀ m_2 : am_M, m_2 = am_st m (am_rfv v0 11) (w32 ((m v0 13) + v6)) (am_i2b (am_shr (m (am_rfv v0 12) (w32 (Int.tdiv v6 4))) (w32 (24 - (w32 (8 * (w32 (Int.tmod v6 4)))))))) →
  ∀ v6_3 : Int, v6_3 = w32 (v6 + 1) →
  C55 v6_3 m_2)
def M_X12_feed_L1 (v0 : Int) (v6 : Int) (K : am_KK) (m : am_M) : Prop :=
  ∃ I : Nat → Int → am_M → Prop, (∃ j, I j v6 m) ∧ ∀ j v6 m, I j v6 m → M_X12_feed_L1B v0 v6 (fun v6' m' => ∃ j', j' < j ∧ I j' v6' m') K m
def M_X12_feed (v0 : Int) (v1 : Int) (v2 : Int) (v3 : Int) (v4 : Int) (v5 : Int) (K : am_KK) (m : am_M) : Prop :=
  (((w32 ((m v0 13) + 20)) ≤ 400) →
  ((0 : Int) ≤ 0 ∧ 0 < am_len (am_rfv v0 12)) ∧
  ∀ m_4 : am_M, m_4 = am_st m (am_rfv v0 12) 0 v1 →
  ((0 : Int) ≤ 1 ∧ 1 < am_len (am_rfv v0 12)) ∧
  ∀ m_5 : am_M, m_5 = am_st m_4 (am_rfv v0 12) 1 v2 →
  ((0 : Int) ≤ 2 ∧ 2 < am_len (am_rfv v0 12)) ∧
  ∀ m_6 : am_M, m_6 = am_st m_5 (am_rfv v0 12) 2 v3 →
  ((0 : Int) ≤ 3 ∧ 3 < am_len (am_rfv v0 12)) ∧
  ∀ m_7 : am_M, m_7 = am_st m_6 (am_rfv v0 12) 3 v4 →
  ((0 : Int) ≤ 4 ∧ 4 < am_len (am_rfv v0 12)) ∧
  ∀ m_8 : am_M, m_8 = am_st m_7 (am_rfv v0 12) 4 v5 →
  M_X12_feed_L1 v0 0 K m_8) ∧ (¬ ((w32 ((m v0 13) + 20)) ≤ 400) →
  K (-1) m)
def N_X12_feed : am_PT := fun zs K m => match zs with
  | [v0, v1, v2, v3, v4, v5] => am_ob v0 12 ∧ M_X12_feed v0 v1 v2 v3 v4 v5 K m
  | _ => False
def M_X12_end (v0 : Int) (v1 : Int) (K : am_KK) (m : am_M) : Prop :=
  M_X12_lies v1 0 (m v0 13) (fun r_1 m_2 =>
  ((r_1 ≠ 0) →
  ∀ m_4 : am_M, m_4 = am_st m_2 v0 13 v1 →
  K v1 m_4) ∧ (¬ (r_1 ≠ 0) →
  K (-1) m_2)) m
def N_X12_end : am_PT := fun zs K m => match zs with
  | [v0, v1] => am_ob v0 12 ∧ M_X12_end v0 v1 K m
  | _ => False
def M_X12_isSmall (v0 : Int) (K : am_KK) (m : am_M) : Prop :=
  ((v0 < 97) →
  K 0 m) ∧ (¬ (v0 < 97) →
  ((122 < v0) →
  K 0 m) ∧ (¬ (122 < v0) →
  K 1 m))
def N_X12_isSmall : am_PT := fun zs K m => match zs with
  | [v0] => M_X12_isSmall v0 K m
  | _ => False
def M_X12_isDigit (v0 : Int) (K : am_KK) (m : am_M) : Prop :=
  ((v0 < 48) →
  K 0 m) ∧ (¬ (v0 < 48) →
  ((57 < v0) →
  K 0 m) ∧ (¬ (57 < v0) →
  K 1 m))
def N_X12_isDigit : am_PT := fun zs K m => match zs with
  | [v0] => M_X12_isDigit v0 K m
  | _ => False
def M_X12_wordAt_J3 (v0 : Int) (v1 : Int) (v2 : Int) (v3 : Int) (v4 : Int) (v5 : Int) (v6 : Int) (C5 : Int → Int → am_M → Prop) (K : am_KK) (m : am_M) : Prop :=
  ((v6 = 0) →
  ∀ v4_1 : Int, v4_1 = w32 (v4 + (w32 (v5 + 1))) →
  ∀ v3_2 : Int, v3_2 = w32 (v3 + 1) →
  C5 v3_2 v4_1 m) ∧ (¬ (v6 = 0) →
  K v3 m)
def M_X12_wordAt_J2 (v0 : Int) (v1 : Int) (v2 : Int) (v3 : Int) (v4 : Int) (v5 : Int) (v7 : Int) (s0 : Int) (C57 : Int → Int → am_M → Prop) (C5 : Int → Int → am_M → Prop) (K : am_KK) (m : am_M) : Prop :=
  ∀ v7_3 : Int, v7_3 = w32 (v7 + 1) →
  C57 s0 v7_3 m
def M_X12_wordAt_L3B (v0 : Int) (v1 : Int) (v2 : Int) (v3 : Int) (v4 : Int) (v5 : Int) (v6 : Int) (v7 : Int) (C57 : Int → Int → am_M → Prop) (C5 : Int → Int → am_M → Prop) (K : am_KK) (m : am_M) : Prop :=
  ((v5 ≤ v7) →
  M_X12_wordAt_J3 v0 v1 v2 v3 v4 v5 v6 C5 K m) ∧ (¬ (v5 ≤ v7) →
  ((v6 = 0) →
  M_X12_wordAt_J3 v0 v1 v2 v3 v4 v5 v6 C5 K m) ∧ (¬ (v6 = 0) →
  ((0 : Int) ≤ (w32 (v4 + v7)) ∧ (w32 (v4 + v7)) < am_len (am_rfv v0 7)) ∧
  ((0 : Int) ≤ (w32 (v1 + v7)) ∧ (w32 (v1 + v7)) < am_len (am_rfv v0 11)) ∧
  (((m (am_rfv v0 7) (w32 (v4 + v7))) ≠ (m (am_rfv v0 11) (w32 (v1 + v7)))) →
  M_X12_wordAt_J2 v0 v1 v2 v3 v4 v5 v7 0 C57 C5 K m) ∧ (¬ ((m (am_rfv v0 7) (w32 (v4 + v7))) ≠ (m (am_rfv v0 11) (w32 (v1 + v7)))) →
  M_X12_wordAt_J2 v0 v1 v2 v3 v4 v5 v7 1 C57 C5 K m)))
def M_X12_wordAt_L3 (v0 : Int) (v1 : Int) (v2 : Int) (v3 : Int) (v4 : Int) (v5 : Int) (v6 : Int) (v7 : Int) (C5 : Int → Int → am_M → Prop) (K : am_KK) (m : am_M) : Prop :=
  ∃ I : Nat → Int → Int → am_M → Prop, (∃ j, I j v6 v7 m) ∧ ∀ j v6 v7 m, I j v6 v7 m → M_X12_wordAt_L3B v0 v1 v2 v3 v4 v5 v6 v7 (fun v6' v7' m' => ∃ j', j' < j ∧ I j' v6' v7' m') C5 K m
def M_X12_wordAt_J1 (v0 : Int) (v1 : Int) (v2 : Int) (v3 : Int) (v4 : Int) (v5 : Int) (s0 : Int) (C5 : Int → Int → am_M → Prop) (K : am_KK) (m : am_M) : Prop :=
  M_X12_wordAt_L3 v0 v1 v2 v3 v4 v5 s0 0 C5 K m
def M_X12_wordAt_L2B (v0 : Int) (v1 : Int) (v2 : Int) (v3 : Int) (v4 : Int) (v5 : Int) (C18 : Int → am_M → Prop) (C5 : Int → Int → am_M → Prop) (K : am_KK) (m : am_M) : Prop :=
  ((0 : Int) ≤ (w32 (v4 + v5)) ∧ (w32 (v4 + v5)) < am_len (am_rfv v0 7)) ∧
  (((m (am_rfv v0 7) (w32 (v4 + v5))) = 32) →
  ((v5 ≠ (w32 (v2 - v1))) →
  M_X12_wordAt_J1 v0 v1 v2 v3 v4 v5 0 C5 K m) ∧ (¬ (v5 ≠ (w32 (v2 - v1))) →
  M_X12_wordAt_J1 v0 v1 v2 v3 v4 v5 1 C5 K m)) ∧ (¬ ((m (am_rfv v0 7) (w32 (v4 + v5))) = 32) →
  ∀ v5_4 : Int, v5_4 = w32 (v5 + 1) →
  C18 v5_4 m)
def M_X12_wordAt_L2 (v0 : Int) (v1 : Int) (v2 : Int) (v3 : Int) (v4 : Int) (v5 : Int) (C5 : Int → Int → am_M → Prop) (K : am_KK) (m : am_M) : Prop :=
  ∃ I : Nat → Int → am_M → Prop, (∃ j, I j v5 m) ∧ ∀ j v5 m, I j v5 m → M_X12_wordAt_L2B v0 v1 v2 v3 v4 v5 (fun v5' m' => ∃ j', j' < j ∧ I j' v5' m') C5 K m
def M_X12_wordAt_L1B (v0 : Int) (v1 : Int) (v2 : Int) (v3 : Int) (v4 : Int) (C5 : Int → Int → am_M → Prop) (K : am_KK) (m : am_M) : Prop :=
  (((am_len (am_rfv v0 7)) ≤ v4) →
  K 0 m) ∧ (¬ ((am_len (am_rfv v0 7)) ≤ v4) →
  M_X12_wordAt_L2 v0 v1 v2 v3 v4 0 C5 K m)
def M_X12_wordAt_L1 (v0 : Int) (v1 : Int) (v2 : Int) (v3 : Int) (v4 : Int) (K : am_KK) (m : am_M) : Prop :=
  ∃ I : Nat → Int → Int → am_M → Prop, (∃ j, I j v3 v4 m) ∧ ∀ j v3 v4 m, I j v3 v4 m → M_X12_wordAt_L1B v0 v1 v2 v3 v4 (fun v3' v4' m' => ∃ j', j' < j ∧ I j' v3' v4' m') K m
def M_X12_wordAt (v0 : Int) (v1 : Int) (v2 : Int) (K : am_KK) (m : am_M) : Prop :=
  M_X12_wordAt_L1 v0 v1 v2 1 0 K m
def N_X12_wordAt : am_PT := fun zs K m => match zs with
  | [v0, v1, v2] => am_ob v0 12 ∧ M_X12_wordAt v0 v1 v2 K m
  | _ => False
def M_X12_splits_J5 (v0 : Int) (v1 : Int) (v4 : Int) (C7 : Int → am_M → Prop) (K : am_KK) (m : am_M) : Prop :=
  ∀ m_1 : am_M, m_1 = am_st m v0 18 (w32 ((m v0 18) + 1)) →
  C7 v4 m_1
def M_X12_splits_J4 (v0 : Int) (v1 : Int) (v3 : Int) (v4 : Int) (v5 : Int) (s0 : Int) (s1 : Int) (s2 : Int) (C169 : Int → am_M → Prop) (C7 : Int → am_M → Prop) (K : am_KK) (m : am_M) : Prop :=
  ((0 : Int) ≤ s1 ∧ s1 < am_len s0) ∧
  ∀ m_2 : am_M, m_2 = am_st m s0 s1 s2 →
  ∀ v5_3 : Int, v5_3 = w32 (v5 + 1) →
  C169 v5_3 m_2
def M_X12_splits_L4B (v0 : Int) (v1 : Int) (v3 : Int) (v4 : Int) (v5 : Int) (C169 : Int → am_M → Prop) (C7 : Int → am_M → Prop) (K : am_KK) (m : am_M) : Prop :=
  ((v4 ≤ v5) →
  M_X12_splits_J5 v0 v1 v4 C7 K m) ∧ (¬ (v4 ≤ v5) →
  M_X12_isDigit v3 (fun r_4 m_5 =>
  ((r_4 = 0) →
  M_X12_splits_J5 v0 v1 v4 C7 K m_5) ∧ (¬ (r_4 = 0) →
  ((0 : Int) ≤ (m_5 v0 18) ∧ (m_5 v0 18) < am_len (am_rfv v0 16)) ∧
  (((m_5 (am_rfv v0 16) (m_5 v0 18)) ≤ 1000000) →
  ((0 : Int) ≤ (m_5 v0 18) ∧ (m_5 v0 18) < am_len (am_rfv v0 16)) ∧
  ((0 : Int) ≤ v5 ∧ v5 < am_len (am_rfv v0 11)) ∧
  M_X12_splits_J4 v0 v1 v3 v4 v5 (am_rfv v0 16) (m_5 v0 18) (w32 ((w32 ((w32 (10 * (m_5 (am_rfv v0 16) (m_5 v0 18)))) + (m_5 (am_rfv v0 11) v5))) - 48)) C169 C7 K m_5) ∧ (¬ ((m_5 (am_rfv v0 16) (m_5 v0 18)) ≤ 1000000) →
  ((0 : Int) ≤ (m_5 v0 18) ∧ (m_5 v0 18) < am_len (am_rfv v0 16)) ∧
  M_X12_splits_J4 v0 v1 v3 v4 v5 (am_rfv v0 16) (m_5 v0 18) (m_5 (am_rfv v0 16) (m_5 v0 18)) C169 C7 K m_5))) m)
def M_X12_splits_L4 (v0 : Int) (v1 : Int) (v3 : Int) (v4 : Int) (v5 : Int) (C7 : Int → am_M → Prop) (K : am_KK) (m : am_M) : Prop :=
  ∃ I : Nat → Int → am_M → Prop, (∃ j, I j v5 m) ∧ ∀ j v5 m, I j v5 m → M_X12_splits_L4B v0 v1 v3 v4 v5 (fun v5' m' => ∃ j', j' < j ∧ I j' v5' m') C7 K m
def M_X12_splits_J3 (v0 : Int) (v1 : Int) (v2 : Int) (v3 : Int) (v4 : Int) (s0 : Int) (s1 : Int) (s2 : Int) (C7 : Int → am_M → Prop) (K : am_KK) (m : am_M) : Prop :=
  ((0 : Int) ≤ s1 ∧ s1 < am_len s0) ∧
  ∀ m_7 : am_M, m_7 = am_st m s0 s1 s2 →
  M_X12_splits_L4 v0 v1 v3 v4 v2 C7 K m_7
def M_X12_splits_J2 (v0 : Int) (v1 : Int) (v2 : Int) (v3 : Int) (v4 : Int) (C7 : Int → am_M → Prop) (K : am_KK) (m : am_M) : Prop :=
  ((0 : Int) ≤ (m v0 18) ∧ (m v0 18) < am_len (am_rfv v0 17)) ∧
  ∀ m_8 : am_M, m_8 = am_st m (am_rfv v0 17) (m v0 18) v2 →
  ((0 : Int) ≤ (m_8 v0 18) ∧ (m_8 v0 18) < am_len (am_rfv v0 16)) ∧
  ∀ m_9 : am_M, m_9 = am_st m_8 (am_rfv v0 16) (m_8 v0 18) 0 →
  M_X12_isSmall v3 (fun r_10 m_11 =>
  ((r_10 = 0) →
  M_X12_isDigit v3 (fun r_13 m_14 =>
  ((r_13 = 0) →
  M_X12_splits_J3 v0 v1 v2 v3 v4 (am_rfv v0 15) (m_9 v0 18) (w32 (100 + (am_and v3 255))) C7 K m_14) ∧ (¬ (r_13 = 0) →
  M_X12_splits_J3 v0 v1 v2 v3 v4 (am_rfv v0 15) (m_9 v0 18) 50 C7 K m_14)) m_11) ∧ (¬ (r_10 = 0) →
  M_X12_wordAt v0 v2 v4 (fun r_16 m_17 =>
  M_X12_splits_J3 v0 v1 v2 v3 v4 (am_rfv v0 15) (m_9 v0 18) r_16 C7 K m_17) m_11)) m_9
def M_X12_splits_L3B (v0 : Int) (v1 : Int) (v2 : Int) (v3 : Int) (v4 : Int) (C75 : Int → am_M → Prop) (C7 : Int → am_M → Prop) (K : am_KK) (m : am_M) : Prop :=
  ((v1 ≤ v4) →
  M_X12_splits_J2 v0 v1 v2 v3 v4 C7 K m) ∧ (¬ (v1 ≤ v4) →
  ((0 : Int) ≤ v4 ∧ v4 < am_len (am_rfv v0 11)) ∧
  M_X12_isDigit (m (am_rfv v0 11) v4) (fun r_18 m_19 =>
  ((r_18 = 0) →
  M_X12_splits_J2 v0 v1 v2 v3 v4 C7 K m_19) ∧ (¬ (r_18 = 0) →
  ∀ v4_21 : Int, v4_21 = w32 (v4 + 1) →
  C75 v4_21 m_19)) m)
def M_X12_splits_L3 (v0 : Int) (v1 : Int) (v2 : Int) (v3 : Int) (v4 : Int) (C7 : Int → am_M → Prop) (K : am_KK) (m : am_M) : Prop :=
  ∃ I : Nat → Int → am_M → Prop, (∃ j, I j v4 m) ∧ ∀ j v4 m, I j v4 m → M_X12_splits_L3B v0 v1 v2 v3 v4 (fun v4' m' => ∃ j', j' < j ∧ I j' v4' m') C7 K m
def M_X12_splits_J1 (v0 : Int) (v1 : Int) (v2 : Int) (v3 : Int) (v4 : Int) (C7 : Int → am_M → Prop) (K : am_KK) (m : am_M) : Prop :=
  M_X12_isDigit v3 (fun r_22 m_23 =>
  ((r_22 = 0) →
  M_X12_splits_J2 v0 v1 v2 v3 v4 C7 K m_23) ∧ (¬ (r_22 = 0) →
  M_X12_splits_L3 v0 v1 v2 v3 v4 C7 K m_23)) m
def M_X12_splits_L2B (v0 : Int) (v1 : Int) (v2 : Int) (v3 : Int) (v4 : Int) (C43 : Int → am_M → Prop) (C7 : Int → am_M → Prop) (K : am_KK) (m : am_M) : Prop :=
  ((v1 ≤ v4) →
  M_X12_splits_J1 v0 v1 v2 v3 v4 C7 K m) ∧ (¬ (v1 ≤ v4) →
  ((0 : Int) ≤ v4 ∧ v4 < am_len (am_rfv v0 11)) ∧
  M_X12_isSmall (m (am_rfv v0 11) v4) (fun r_25 m_26 =>
  ((r_25 = 0) →
  M_X12_splits_J1 v0 v1 v2 v3 v4 C7 K m_26) ∧ (¬ (r_25 = 0) →
  ∀ v4_28 : Int, v4_28 = w32 (v4 + 1) →
  C43 v4_28 m_26)) m)
def M_X12_splits_L2 (v0 : Int) (v1 : Int) (v2 : Int) (v3 : Int) (v4 : Int) (C7 : Int → am_M → Prop) (K : am_KK) (m : am_M) : Prop :=
  ∃ I : Nat → Int → am_M → Prop, (∃ j, I j v4 m) ∧ ∀ j v4 m, I j v4 m → M_X12_splits_L2B v0 v1 v2 v3 v4 (fun v4' m' => ∃ j', j' < j ∧ I j' v4' m') C7 K m
def M_X12_splits_L1B (v0 : Int) (v1 : Int) (v2 : Int) (C7 : Int → am_M → Prop) (K : am_KK) (m : am_M) : Prop :=
  ((v1 ≤ v2) →
  ((0 : Int) ≤ (m v0 18) ∧ (m v0 18) < am_len (am_rfv v0 17)) ∧
  ∀ m_29 : am_M, m_29 = am_st m (am_rfv v0 17) (m v0 18) v1 →
  ((0 : Int) ≤ (m_29 v0 18) ∧ (m_29 v0 18) < am_len (am_rfv v0 15)) ∧
  ∀ m_30 : am_M, m_30 = am_st m_29 (am_rfv v0 15) (m_29 v0 18) 0 →
  ((0 : Int) ≤ (m_30 v0 18) ∧ (m_30 v0 18) < am_len (am_rfv v0 16)) ∧
  ∀ m_31 : am_M, m_31 = am_st m_30 (am_rfv v0 16) (m_30 v0 18) 0 →
  K 0 m_31) ∧ (¬ (v1 ≤ v2) →
  ((0 : Int) ≤ v2 ∧ v2 < am_len (am_rfv v0 11)) ∧
  ∀ v3_32 : Int, v3_32 = m (am_rfv v0 11) v2 →
  ((v3_32 ≠ 32) →
  ∀ v4_33 : Int, v4_33 = w32 (v2 + 1) →
  M_X12_isSmall v3_32 (fun r_34 m_35 =>
  ((r_34 = 0) →
  M_X12_splits_J1 v0 v1 v2 v3_32 v4_33 C7 K m_35) ∧ (¬ (r_34 = 0) →
  M_X12_splits_L2 v0 v1 v2 v3_32 v4_33 C7 K m_35)) m) ∧ (¬ (v3_32 ≠ 32) →
  ∀ v2_37 : Int, v2_37 = w32 (v2 + 1) →
  C7 v2_37 m))
def M_X12_splits_L1 (v0 : Int) (v1 : Int) (v2 : Int) (K : am_KK) (m : am_M) : Prop :=
  ∃ I : Nat → Int → am_M → Prop, (∃ j, I j v2 m) ∧ ∀ j v2 m, I j v2 m → M_X12_splits_L1B v0 v1 v2 (fun v2' m' => ∃ j', j' < j ∧ I j' v2' m') K m
def M_X12_splits (v0 : Int) (v1 : Int) (K : am_KK) (m : am_M) : Prop :=
  ∀ m_38 : am_M, m_38 = am_st m v0 18 0 →
  M_X12_splits_L1 v0 v1 0 K m_38
def N_X12_splits : am_PT := fun zs K m => match zs with
  | [v0, v1] => am_ob v0 12 ∧ M_X12_splits v0 v1 K m
  | _ => False
def M_X12_fine (v0 : Int) (K : am_KK) (m : am_M) : Prop :=
  (((m v0 21) ≠ (-1)) →
  K 0 m) ∧ (¬ ((m v0 21) ≠ (-1)) →
  K 1 m)
def N_X12_fine : am_PT := fun zs K m => match zs with
  | [v0] => am_ob v0 12 ∧ M_X12_fine v0 K m
  | _ => False
def M_X12_faults (v0 : Int) (K : am_KK) (m : am_M) : Prop :=
  M_X12_fine v0 (fun r_1 m_2 =>
  ((r_1 = 0) →
  K 0 m_2) ∧ (¬ (r_1 = 0) →
  ((0 : Int) ≤ (m_2 v0 19) ∧ (m_2 v0 19) < am_len (am_rfv v0 17)) ∧
  ∀ m_4 : am_M, m_4 = am_st m_2 v0 21 (m_2 (am_rfv v0 17) (m_2 v0 19)) →
  K 0 m_4)) m
def N_X12_faults : am_PT := fun zs K m => match zs with
  | [v0] => am_ob v0 12 ∧ M_X12_faults v0 K m
  | _ => False
def M_X12_takes0_J2 (v0 : Int) (s0 : Int) (K : am_KK) (m : am_M) : Prop :=
  ((s0 = 0) →
  K s0 m) ∧ (¬ (s0 = 0) →
  ∀ m_1 : am_M, m_1 = am_st m v0 19 (w32 ((m v0 19) + 1)) →
  K s0 m_1)
def M_X12_takes0_J1 (v0 : Int) (K : am_KK) (m : am_M) : Prop :=
  M_X12_takes0_J2 v0 0 K m
def M_X12_takes0 (v0 : Int) (v1 : Int) (K : am_KK) (m : am_M) : Prop :=
  M_X12_fine v0 (fun r_2 m_3 =>
  ((r_2 = 0) →
  M_X12_takes0_J1 v0 K m_3) ∧ (¬ (r_2 = 0) →
  ((0 : Int) ≤ (m_3 v0 19) ∧ (m_3 v0 19) < am_len (am_rfv v0 15)) ∧
  (((m_3 (am_rfv v0 15) (m_3 v0 19)) ≠ v1) →
  M_X12_takes0_J1 v0 K m_3) ∧ (¬ ((m_3 (am_rfv v0 15) (m_3 v0 19)) ≠ v1) →
  M_X12_takes0_J2 v0 1 K m_3))) m
def N_X12_takes0 : am_PT := fun zs K m => match zs with
  | [v0, v1] => am_ob v0 12 ∧ M_X12_takes0 v0 v1 K m
  | _ => False
def M_X12_must (v0 : Int) (v1 : Int) (K : am_KK) (m : am_M) : Prop :=
  M_X12_takes0 v0 v1 (fun r_1 m_2 =>
  ((r_1 ≠ 0) →
  K 0 m_2) ∧ (¬ (r_1 ≠ 0) →
  M_X12_faults v0 (fun _ m_5 =>
  K 0 m_5) m_2)) m
def N_X12_must : am_PT := fun zs K m => match zs with
  | [v0, v1] => am_ob v0 12 ∧ M_X12_must v0 v1 K m
  | _ => False
def M_X12_leaf_J1 (v0 : Int) (K : am_KK) (m : am_M) : Prop :=
  ∀ m_1 : am_M, m_1 = am_st m v0 20 (w32 ((m v0 20) + 1)) →
  M_X12_fine v0 (fun r_2 m_3 =>
  ((r_2 = 0) →
  K 0 m_3) ∧ (¬ (r_2 = 0) →
  ∀ m_5 : am_M, m_5 = am_st m_3 v0 19 (w32 ((m_3 v0 19) + 1)) →
  K 0 m_5)) m_1
def M_X12_leaf (v0 : Int) (K : am_KK) (m : am_M) : Prop :=
  (((m v0 20) ≠ 50) →
  M_X12_leaf_J1 v0 K m) ∧ (¬ ((m v0 20) ≠ 50) →
  M_X12_faults v0 (fun _ m_7 =>
  M_X12_leaf_J1 v0 K m_7) m)
def N_X12_leaf : am_PT := fun zs K m => match zs with
  | [v0] => am_ob v0 12 ∧ M_X12_leaf v0 K m
  | _ => False
def M_X12_mustNumber_J2 (v0 : Int) (K : am_KK) (m : am_M) : Prop :=
  M_X12_fine v0 (fun r_1 m_2 =>
  ((r_1 = 0) →
  K 0 m_2) ∧ (¬ (r_1 = 0) →
  ∀ m_4 : am_M, m_4 = am_st m_2 v0 19 (w32 ((m_2 v0 19) + 1)) →
  K 0 m_4)) m
def M_X12_mustNumber_J1 (v0 : Int) (K : am_KK) (m : am_M) : Prop :=
  M_X12_faults v0 (fun _ m_6 =>
  M_X12_mustNumber_J2 v0 K m_6) m
def M_X12_mustNumber (v0 : Int) (v1 : Int) (v2 : Int) (K : am_KK) (m : am_M) : Prop :=
  M_X12_fine v0 (fun r_7 m_8 =>
  ((r_7 = 0) →
  M_X12_mustNumber_J2 v0 K m_8) ∧ (¬ (r_7 = 0) →
  ((0 : Int) ≤ (m_8 v0 19) ∧ (m_8 v0 19) < am_len (am_rfv v0 15)) ∧
  (((m_8 (am_rfv v0 15) (m_8 v0 19)) ≠ 50) →
  M_X12_mustNumber_J1 v0 K m_8) ∧ (¬ ((m_8 (am_rfv v0 15) (m_8 v0 19)) ≠ 50) →
  ((0 : Int) ≤ (m_8 v0 19) ∧ (m_8 v0 19) < am_len (am_rfv v0 16)) ∧
  M_X12_lies (m_8 (am_rfv v0 16) (m_8 v0 19)) v1 v2 (fun r_10 m_11 =>
  ((r_10 ≠ 0) →
  M_X12_mustNumber_J2 v0 K m_11) ∧ (¬ (r_10 ≠ 0) →
  M_X12_mustNumber_J1 v0 K m_11)) m_8))) m
def N_X12_mustNumber : am_PT := fun zs K m => match zs with
  | [v0, v1, v2] => am_ob v0 12 ∧ M_X12_mustNumber v0 v1 v2 K m
  | _ => False
def M_X12_readSum_J1 (R : Nat → am_PT) (v0 : Int) (v1 : Int) (C5 : am_M → Prop) (K : am_KK) (m : am_M) : Prop :=
  R 1 [v0, v1] (fun _ m_2 =>
  C5 m_2) m
def M_X12_readSum_L1B (R : Nat → am_PT) (v0 : Int) (v1 : Int) (C5 : am_M → Prop) (K : am_KK) (m : am_M) : Prop :=
  M_X12_sign 43 (fun r_3 m_4 =>
  M_X12_takes0 v0 r_3 (fun r_5 m_6 =>
  ((r_5 ≠ 0) →
  M_X12_readSum_J1 R v0 v1 C5 K m_6) ∧ (¬ (r_5 ≠ 0) →
  M_X12_sign 45 (fun r_8 m_9 =>
  M_X12_takes0 v0 r_8 (fun r_10 m_11 =>
  ((r_10 = 0) →
  K 0 m_11) ∧ (¬ (r_10 = 0) →
  M_X12_readSum_J1 R v0 v1 C5 K m_11)) m_9) m_6)) m_4) m
def M_X12_readSum_L1 (R : Nat → am_PT) (v0 : Int) (v1 : Int) (K : am_KK) (m : am_M) : Prop :=
  ∃ I : Nat → am_M → Prop, (∃ j, I j  m) ∧ ∀ j  m, I j  m → M_X12_readSum_L1B R v0 v1 (fun  m' => ∃ j', j' < j ∧ I j'  m') K m
def M_X12_readSum (R : Nat → am_PT) (v0 : Int) (v1 : Int) (K : am_KK) (m : am_M) : Prop :=
  R 1 [v0, v1] (fun _ m_14 =>
  M_X12_readSum_L1 R v0 v1 K m_14) m
def N_X12_readSum (R : Nat → am_PT) : am_PT := fun zs K m => match zs with
  | [v0, v1] => am_ob v0 12 ∧ M_X12_readSum R v0 v1 K m
  | _ => False
def M_X12_readTerm_J1 (R : Nat → am_PT) (v0 : Int) (v1 : Int) (C5 : am_M → Prop) (K : am_KK) (m : am_M) : Prop :=
  R 2 [v0, v1] (fun _ m_2 =>
  C5 m_2) m
def M_X12_readTerm_L1B (R : Nat → am_PT) (v0 : Int) (v1 : Int) (C5 : am_M → Prop) (K : am_KK) (m : am_M) : Prop :=
  M_X12_sign 42 (fun r_3 m_4 =>
  M_X12_takes0 v0 r_3 (fun r_5 m_6 =>
  ((r_5 ≠ 0) →
  M_X12_readTerm_J1 R v0 v1 C5 K m_6) ∧ (¬ (r_5 ≠ 0) →
  M_X12_sign 47 (fun r_8 m_9 =>
  M_X12_takes0 v0 r_8 (fun r_10 m_11 =>
  ((r_10 ≠ 0) →
  M_X12_readTerm_J1 R v0 v1 C5 K m_11) ∧ (¬ (r_10 ≠ 0) →
  M_X12_sign 37 (fun r_13 m_14 =>
  M_X12_takes0 v0 r_13 (fun r_15 m_16 =>
  ((r_15 = 0) →
  K 0 m_16) ∧ (¬ (r_15 = 0) →
  M_X12_readTerm_J1 R v0 v1 C5 K m_16)) m_14) m_11)) m_9) m_6)) m_4) m
def M_X12_readTerm_L1 (R : Nat → am_PT) (v0 : Int) (v1 : Int) (K : am_KK) (m : am_M) : Prop :=
  ∃ I : Nat → am_M → Prop, (∃ j, I j  m) ∧ ∀ j  m, I j  m → M_X12_readTerm_L1B R v0 v1 (fun  m' => ∃ j', j' < j ∧ I j'  m') K m
def M_X12_readTerm (R : Nat → am_PT) (v0 : Int) (v1 : Int) (K : am_KK) (m : am_M) : Prop :=
  R 2 [v0, v1] (fun _ m_19 =>
  M_X12_readTerm_L1 R v0 v1 K m_19) m
def N_X12_readTerm (R : Nat → am_PT) : am_PT := fun zs K m => match zs with
  | [v0, v1] => am_ob v0 12 ∧ M_X12_readTerm R v0 v1 K m
  | _ => False
def M_X12_readPart_J5 (R : Nat → am_PT) (v0 : Int) (K : am_KK) (m : am_M) : Prop :=
  M_X12_faults v0 (fun _ m_2 =>
  K 0 m_2) m
def M_X12_readPart_J4 (R : Nat → am_PT) (v0 : Int) (K : am_KK) (m : am_M) : Prop :=
  M_X12_mustNumber v0 0 7 (fun _ m_4 =>
  K 0 m_4) m
def M_X12_readPart_J3 (R : Nat → am_PT) (v0 : Int) (v2 : Int) (K : am_KK) (m : am_M) : Prop :=
  M_X12_leaf v0 (fun _ m_6 =>
  ((v2 = 19) →
  M_X12_readPart_J4 R v0 K m_6) ∧ (¬ (v2 = 19) →
  ((v2 ≠ 20) →
  K 0 m_6) ∧ (¬ (v2 ≠ 20) →
  M_X12_readPart_J4 R v0 K m_6))) m
def M_X12_readPart_J2 (R : Nat → am_PT) (v0 : Int) (v2 : Int) (K : am_KK) (m : am_M) : Prop :=
  ((v2 < (m v0 8)) →
  M_X12_readPart_J5 R v0 K m) ∧ (¬ (v2 < (m v0 8)) →
  (((m v0 9) < v2) →
  M_X12_readPart_J5 R v0 K m) ∧ (¬ ((m v0 9) < v2) →
  M_X12_readPart_J3 R v0 v2 K m))
def M_X12_readPart_J1 (R : Nat → am_PT) (v0 : Int) (v1 : Int) (K : am_KK) (m : am_M) : Prop :=
  M_X12_fine v0 (fun r_7 m_8 =>
  ((r_7 ≠ 0) →
  ∀ m_10 : am_M, m_10 = am_st m_8 v0 19 (w32 ((m_8 v0 19) + 1)) →
  R 0 [v0, w32 (v1 + 1)] (fun _ m_12 =>
  M_X12_sign 93 (fun r_13 m_14 =>
  M_X12_must v0 r_13 (fun _ m_16 =>
  K 0 m_16) m_14) m_12) m_10) ∧ (¬ (r_7 ≠ 0) →
  K 0 m_8)) m
def M_X12_readPart (R : Nat → am_PT) (v0 : Int) (v1 : Int) (K : am_KK) (m : am_M) : Prop :=
  M_X12_fine v0 (fun r_17 m_18 =>
  ((r_17 ≠ 0) →
  ((0 : Int) ≤ (m_18 v0 19) ∧ (m_18 v0 19) < am_len (am_rfv v0 15)) ∧
  ∀ v2_20 : Int, v2_20 = m_18 (am_rfv v0 15) (m_18 v0 19) →
  M_X12_sign 91 (fun r_21 m_22 =>
  ((v2_20 ≠ r_21) →
  ((v2_20 ≠ 50) →
  M_X12_readPart_J2 R v0 v2_20 K m_22) ∧ (¬ (v2_20 ≠ 50) →
  ((0 : Int) ≤ (m_22 v0 19) ∧ (m_22 v0 19) < am_len (am_rfv v0 16)) ∧
  (((m_22 (am_rfv v0 16) (m_22 v0 19)) ≤ 1000) →
  M_X12_readPart_J3 R v0 v2_20 K m_22) ∧ (¬ ((m_22 (am_rfv v0 16) (m_22 v0 19)) ≤ 1000) →
  M_X12_readPart_J2 R v0 v2_20 K m_22))) ∧ (¬ (v2_20 ≠ r_21) →
  ((v1 ≠ 8) →
  M_X12_readPart_J1 R v0 v1 K m_22) ∧ (¬ (v1 ≠ 8) →
  M_X12_faults v0 (fun _ m_24 =>
  M_X12_readPart_J1 R v0 v1 K m_24) m_22))) m_18) ∧ (¬ (r_17 ≠ 0) →
  K 0 m_18)) m
def N_X12_readPart (R : Nat → am_PT) : am_PT := fun zs K m => match zs with
  | [v0, v1] => am_ob v0 12 ∧ M_X12_readPart R v0 v1 K m
  | _ => False
def R_X12_readSum : Nat → Nat → am_PT
  | 0, _ => fun _ _ _ => False
  | k + 1, i => match i with
    | 0 => N_X12_readSum (R_X12_readSum k)
    | 1 => N_X12_readTerm (R_X12_readSum k)
    | 2 => N_X12_readPart (R_X12_readSum k)
    | _ => fun _ _ _ => False
def M_X12_readTest_L1B (R : Nat → am_PT) (v0 : Int) (v1 : Int) (C5 : am_M → Prop) (K : am_KK) (m : am_M) : Prop :=
  M_X12_takes0 v0 5 (fun r_1 m_2 =>
  ((r_1 = 0) →
  K 0 m_2) ∧ (¬ (r_1 = 0) →
  R 1 [v0, v1] (fun _ m_5 =>
  C5 m_5) m_2)) m
def M_X12_readTest_L1 (R : Nat → am_PT) (v0 : Int) (v1 : Int) (K : am_KK) (m : am_M) : Prop :=
  ∃ I : Nat → am_M → Prop, (∃ j, I j  m) ∧ ∀ j  m, I j  m → M_X12_readTest_L1B R v0 v1 (fun  m' => ∃ j', j' < j ∧ I j'  m') K m
def M_X12_readTest (R : Nat → am_PT) (v0 : Int) (v1 : Int) (K : am_KK) (m : am_M) : Prop :=
  R 1 [v0, v1] (fun _ m_7 =>
  M_X12_readTest_L1 R v0 v1 K m_7) m
def N_X12_readTest (R : Nat → am_PT) : am_PT := fun zs K m => match zs with
  | [v0, v1] => am_ob v0 12 ∧ M_X12_readTest R v0 v1 K m
  | _ => False
def M_X12_readBoth_L1B (R : Nat → am_PT) (v0 : Int) (v1 : Int) (C5 : am_M → Prop) (K : am_KK) (m : am_M) : Prop :=
  M_X12_takes0 v0 6 (fun r_1 m_2 =>
  ((r_1 = 0) →
  K 0 m_2) ∧ (¬ (r_1 = 0) →
  R 2 [v0, v1] (fun _ m_5 =>
  C5 m_5) m_2)) m
def M_X12_readBoth_L1 (R : Nat → am_PT) (v0 : Int) (v1 : Int) (K : am_KK) (m : am_M) : Prop :=
  ∃ I : Nat → am_M → Prop, (∃ j, I j  m) ∧ ∀ j  m, I j  m → M_X12_readBoth_L1B R v0 v1 (fun  m' => ∃ j', j' < j ∧ I j'  m') K m
def M_X12_readBoth (R : Nat → am_PT) (v0 : Int) (v1 : Int) (K : am_KK) (m : am_M) : Prop :=
  R 2 [v0, v1] (fun _ m_7 =>
  M_X12_readBoth_L1 R v0 v1 K m_7) m
def N_X12_readBoth (R : Nat → am_PT) : am_PT := fun zs K m => match zs with
  | [v0, v1] => am_ob v0 12 ∧ M_X12_readBoth R v0 v1 K m
  | _ => False
def M_X12_readPlain_J2 (R : Nat → am_PT) (v0 : Int) (v1 : Int) (K : am_KK) (m : am_M) : Prop :=
  R_X12_readSum 301 0 [v0, v1] (fun _ m_2 =>
  K 0 m_2) m
def M_X12_readPlain_J1 (R : Nat → am_PT) (v0 : Int) (v1 : Int) (K : am_KK) (m : am_M) : Prop :=
  M_X12_fine v0 (fun r_3 m_4 =>
  ((r_3 ≠ 0) →
  ∀ m_6 : am_M, m_6 = am_st m_4 v0 19 (w32 ((m_4 v0 19) + 1)) →
  R 0 [v0, w32 (v1 + 1)] (fun _ m_8 =>
  M_X12_sign 41 (fun r_9 m_10 =>
  M_X12_must v0 r_9 (fun _ m_12 =>
  K 0 m_12) m_10) m_8) m_6) ∧ (¬ (r_3 ≠ 0) →
  K 0 m_4)) m
def M_X12_readPlain_L1B (R : Nat → am_PT) (v0 : Int) (v1 : Int) (v2 : Int) (C2 : Int → am_M → Prop) (K : am_KK) (m : am_M) : Prop :=
  ((v2 = 0) →
  M_X12_fine v0 (fun r_13 m_14 =>
  ((r_13 ≠ 0) →
  ((0 : Int) ≤ (m_14 v0 19) ∧ (m_14 v0 19) < am_len (am_rfv v0 15)) ∧
  ∀ v3_16 : Int, v3_16 = m_14 (am_rfv v0 15) (m_14 v0 19) →
  M_X12_sign 40 (fun r_17 m_18 =>
  ((v3_16 ≠ r_17) →
  R_X12_readSum 301 0 [v0, v1] (fun _ m_20 =>
  M_X12_sign 60 (fun r_21 m_22 =>
  M_X12_takes0 v0 r_21 (fun r_23 m_24 =>
  ((r_23 ≠ 0) →
  M_X12_readPlain_J2 R v0 v1 K m_24) ∧ (¬ (r_23 ≠ 0) →
  M_X12_sign 62 (fun r_26 m_27 =>
  M_X12_takes0 v0 r_26 (fun r_28 m_29 =>
  ((r_28 ≠ 0) →
  M_X12_readPlain_J2 R v0 v1 K m_29) ∧ (¬ (r_28 ≠ 0) →
  M_X12_sign 61 (fun r_31 m_32 =>
  M_X12_must v0 r_31 (fun _ m_34 =>
  M_X12_readPlain_J2 R v0 v1 K m_34) m_32) m_29)) m_27) m_24)) m_22) m_20) m_18) ∧ (¬ (v3_16 ≠ r_17) →
  ((v1 ≠ 8) →
  M_X12_readPlain_J1 R v0 v1 K m_18) ∧ (¬ (v1 ≠ 8) →
  M_X12_faults v0 (fun _ m_36 =>
  M_X12_readPlain_J1 R v0 v1 K m_36) m_18))) m_14) ∧ (¬ (r_13 ≠ 0) →
  K 0 m_14)) m) ∧ (¬ (v2 = 0) →
  M_X12_takes0 v0 7 (fun r_37 m_38 =>
  C2 r_37 m_38) m)
def M_X12_readPlain_L1 (R : Nat → am_PT) (v0 : Int) (v1 : Int) (v2 : Int) (K : am_KK) (m : am_M) : Prop :=
  ∃ I : Nat → Int → am_M → Prop, (∃ j, I j v2 m) ∧ ∀ j v2 m, I j v2 m → M_X12_readPlain_L1B R v0 v1 v2 (fun v2' m' => ∃ j', j' < j ∧ I j' v2' m') K m
def M_X12_readPlain (R : Nat → am_PT) (v0 : Int) (v1 : Int) (K : am_KK) (m : am_M) : Prop :=
  M_X12_readPlain_L1 R v0 v1 1 K m
def N_X12_readPlain (R : Nat → am_PT) : am_PT := fun zs K m => match zs with
  | [v0, v1] => am_ob v0 12 ∧ M_X12_readPlain R v0 v1 K m
  | _ => False
def R_X12_readTest : Nat → Nat → am_PT
  | 0, _ => fun _ _ _ => False
  | k + 1, i => match i with
    | 0 => N_X12_readTest (R_X12_readTest k)
    | 1 => N_X12_readBoth (R_X12_readTest k)
    | 2 => N_X12_readPlain (R_X12_readTest k)
    | _ => fun _ _ _ => False
def M_X12_readClause_J2 (v0 : Int) (K : am_KK) (m : am_M) : Prop :=
  M_X12_takes0 v0 4 (fun r_1 m_2 =>
  ((r_1 = 0) →
  K 0 m_2) ∧ (¬ (r_1 = 0) →
  R_X12_readTest 301 0 [v0, 0] (fun _ m_5 =>
  K 0 m_5) m_2)) m
def M_X12_readClause_J1 (v0 : Int) (K : am_KK) (m : am_M) : Prop :=
  R_X12_readSum 301 0 [v0, 0] (fun _ m_7 =>
  M_X12_readClause_J2 v0 K m_7) m
def M_X12_readClause (v0 : Int) (K : am_KK) (m : am_M) : Prop :=
  M_X12_takes0 v0 1 (fun r_8 m_9 =>
  ((r_8 ≠ 0) →
  M_X12_readClause_J1 v0 K m_9) ∧ (¬ (r_8 ≠ 0) →
  M_X12_takes0 v0 2 (fun r_11 m_12 =>
  ((r_11 = 0) →
  M_X12_must v0 3 (fun _ m_15 =>
  M_X12_readClause_J2 v0 K m_15) m_12) ∧ (¬ (r_11 = 0) →
  M_X12_readClause_J1 v0 K m_12)) m_9)) m
def N_X12_readClause : am_PT := fun zs K m => match zs with
  | [v0] => am_ob v0 12 ∧ M_X12_readClause v0 K m
  | _ => False
def M_X12_readOrder_J2 (v0 : Int) (K : am_KK) (m : am_M) : Prop :=
  M_X12_takes0 v0 4 (fun r_1 m_2 =>
  ((r_1 = 0) →
  K 0 m_2) ∧ (¬ (r_1 = 0) →
  R_X12_readTest 301 0 [v0, 0] (fun _ m_5 =>
  K 0 m_5) m_2)) m
def M_X12_readOrder_J1 (v0 : Int) (K : am_KK) (m : am_M) : Prop :=
  M_X12_takes0 v0 25 (fun r_6 m_7 =>
  ((r_6 = 0) →
  M_X12_readOrder_J2 v0 K m_7) ∧ (¬ (r_6 = 0) →
  M_X12_mustNumber v0 1 20 (fun _ m_10 =>
  M_X12_readOrder_J2 v0 K m_10) m_7)) m
def M_X12_readOrder (v0 : Int) (K : am_KK) (m : am_M) : Prop :=
  M_X12_takes0 v0 21 (fun r_11 m_12 =>
  ((r_11 = 0) →
  M_X12_must v0 24 (fun _ m_15 =>
  M_X12_readOrder_J1 v0 K m_15) m_12) ∧ (¬ (r_11 = 0) →
  R_X12_readSum 301 0 [v0, 0] (fun _ m_17 =>
  M_X12_must v0 22 (fun _ m_19 =>
  R_X12_readSum 301 0 [v0, 0] (fun _ m_21 =>
  M_X12_must v0 23 (fun _ m_23 =>
  R_X12_readSum 301 0 [v0, 0] (fun _ m_25 =>
  M_X12_readOrder_J1 v0 K m_25) m_23) m_21) m_19) m_17) m_12)) m
def N_X12_readOrder : am_PT := fun zs K m => match zs with
  | [v0] => am_ob v0 12 ∧ M_X12_readOrder v0 K m
  | _ => False
def M_X12_readOne (v0 : Int) (K : am_KK) (m : am_M) : Prop :=
  (((m v0 10) = 0) →
  M_X12_readClause v0 (fun _ m_2 =>
  K 0 m_2) m) ∧ (¬ ((m v0 10) = 0) →
  M_X12_readOrder v0 (fun _ m_4 =>
  K 0 m_4) m)
def N_X12_readOne : am_PT := fun zs K m => match zs with
  | [v0] => am_ob v0 12 ∧ M_X12_readOne v0 K m
  | _ => False
def M_X12_reads_J3 (v0 : Int) (K : am_KK) (m : am_M) : Prop :=
  ∀ m_1 : am_M, m_1 = am_st m v0 14 (m v0 21) →
  M_X12_fine v0 (fun r_2 m_3 =>
  K r_2 m_3) m_1
def M_X12_reads_J2 (v0 : Int) (v1 : Int) (C34 : Int → am_M → Prop) (K : am_KK) (m : am_M) : Prop :=
  ∀ v1_5 : Int, v1_5 = w32 (v1 + 1) →
  C34 v1_5 m
def M_X12_reads_J1 (v0 : Int) (v1 : Int) (C34 : Int → am_M → Prop) (K : am_KK) (m : am_M) : Prop :=
  M_X12_fine v0 (fun r_6 m_7 =>
  ((r_6 = 0) →
  M_X12_reads_J2 v0 v1 C34 K m_7) ∧ (¬ (r_6 = 0) →
  M_X12_readOne v0 (fun _ m_10 =>
  M_X12_reads_J2 v0 v1 C34 K m_10) m_7)) m
def M_X12_reads_L1B (v0 : Int) (v1 : Int) (C34 : Int → am_M → Prop) (K : am_KK) (m : am_M) : Prop :=
  M_X12_sign 59 (fun r_11 m_12 =>
  M_X12_takes0 v0 r_11 (fun r_13 m_14 =>
  ((r_13 = 0) →
  M_X12_fine v0 (fun r_16 m_17 =>
  ((r_16 = 0) →
  M_X12_reads_J3 v0 K m_17) ∧ (¬ (r_16 = 0) →
  (((m_17 v0 18) ≤ (m_17 v0 19)) →
  M_X12_reads_J3 v0 K m_17) ∧ (¬ ((m_17 v0 18) ≤ (m_17 v0 19)) →
  M_X12_faults v0 (fun _ m_20 =>
  M_X12_reads_J3 v0 K m_20) m_17))) m_14) ∧ (¬ (r_13 = 0) →
  ((v1 ≠ 12) →
  M_X12_reads_J1 v0 v1 C34 K m_14) ∧ (¬ (v1 ≠ 12) →
  M_X12_faults v0 (fun _ m_22 =>
  M_X12_reads_J1 v0 v1 C34 K m_22) m_14))) m_12) m
def M_X12_reads_L1 (v0 : Int) (v1 : Int) (K : am_KK) (m : am_M) : Prop :=
  ∃ I : Nat → Int → am_M → Prop, (∃ j, I j v1 m) ∧ ∀ j v1 m, I j v1 m → M_X12_reads_L1B v0 v1 (fun v1' m' => ∃ j', j' < j ∧ I j' v1' m') K m
def M_X12_reads (v0 : Int) (K : am_KK) (m : am_M) : Prop :=
  M_X12_splits v0 (m v0 13) (fun _ m_24 =>
  ∀ m_25 : am_M, m_25 = am_st m_24 v0 13 0 →
  ∀ m_26 : am_M, m_26 = am_st m_25 v0 19 0 →
  ∀ m_27 : am_M, m_27 = am_st m_26 v0 20 0 →
  ∀ m_28 : am_M, m_28 = am_st m_27 v0 21 (-1) →
  M_X12_readOne v0 (fun _ m_30 =>
  M_X12_reads_L1 v0 1 K m_30) m_28) m
def N_X12_reads : am_PT := fun zs K m => match zs with
  | [v0] => am_ob v0 12 ∧ M_X12_reads v0 K m
  | _ => False
def M_X12_readsAs_J2 (v0 : Int) (s0 : Int) (s1 : Int) (K : am_KK) (m : am_M) : Prop :=
  ∀ m_1 : am_M, m_1 = am_st m s0 9 s1 →
  M_X12_reads v0 (fun r_2 m_3 =>
  K r_2 m_3) m_1
def M_X12_readsAs_J1 (v0 : Int) (v1 : Int) (s0 : Int) (s1 : Int) (K : am_KK) (m : am_M) : Prop :=
  ∀ m_5 : am_M, m_5 = am_st m s0 8 s1 →
  ((v1 = 0) →
  M_X12_readsAs_J2 v0 v0 15 K m_5) ∧ (¬ (v1 = 0) →
  M_X12_readsAs_J2 v0 v0 20 K m_5)
def M_X12_readsAs (v0 : Int) (v1 : Int) (K : am_KK) (m : am_M) : Prop :=
  ∀ m_6 : am_M, m_6 = am_st m v0 10 v1 →
  ((v1 = 0) →
  M_X12_readsAs_J1 v0 v1 v0 8 K m_6) ∧ (¬ (v1 = 0) →
  M_X12_readsAs_J1 v0 v1 v0 15 K m_6)
def N_X12_readsAs : am_PT := fun zs K m => match zs with
  | [v0, v1] => am_ob v0 12 ∧ (v1 = 0 ∨ v1 = 1) ∧ M_X12_readsAs v0 v1 K m
  | _ => False
def M_X12_lays_L1B (v0 : Int) (v1 : Int) (v2 : Int) (C16 : Int → am_M → Prop) (K : am_KK) (m : am_M) : Prop :=
  (((m v0 18) ≤ v2) →
  K 0 m) ∧ (¬ ((m v0 18) ≤ v2) →
  ((0 : Int) ≤ v2 ∧ v2 < am_len (am_rfv v0 15)) ∧
  ((0 : Int) ≤ (w32 ((w32 (377 + (w32 (400 * v1)))) + v2)) ∧ (w32 ((w32 (377 + (w32 (400 * v1)))) + v2)) < am_len (am_rfv v0 2)) ∧
  ∀ m_1 : am_M, m_1 = am_st m (am_rfv v0 2) (w32 ((w32 (377 + (w32 (400 * v1)))) + v2)) (m (am_rfv v0 15) v2) →
  ((0 : Int) ≤ v2 ∧ v2 < am_len (am_rfv v0 16)) ∧
  ((0 : Int) ≤ (w32 ((w32 (3177 + (w32 (400 * v1)))) + v2)) ∧ (w32 ((w32 (3177 + (w32 (400 * v1)))) + v2)) < am_len (am_rfv v0 2)) ∧
  ∀ m_2 : am_M, m_2 = am_st m_1 (am_rfv v0 2) (w32 ((w32 (3177 + (w32 (400 * v1)))) + v2)) (m_1 (am_rfv v0 16) v2) →
  ∀ v2_3 : Int, v2_3 = w32 (v2 + 1) →
  C16 v2_3 m_2)
def M_X12_lays_L1 (v0 : Int) (v1 : Int) (v2 : Int) (K : am_KK) (m : am_M) : Prop :=
  ∃ I : Nat → Int → am_M → Prop, (∃ j, I j v2 m) ∧ ∀ j v2 m, I j v2 m → M_X12_lays_L1B v0 v1 v2 (fun v2' m' => ∃ j', j' < j ∧ I j' v2' m') K m
def M_X12_lays (v0 : Int) (v1 : Int) (K : am_KK) (m : am_M) : Prop :=
  ((0 : Int) ≤ (w32 (370 + v1)) ∧ (w32 (370 + v1)) < am_len (am_rfv v0 2)) ∧
  ∀ m_4 : am_M, m_4 = am_st m (am_rfv v0 2) (w32 (370 + v1)) (m v0 18) →
  M_X12_lays_L1 v0 v1 0 K m_4
def N_X12_lays : am_PT := fun zs K m => match zs with
  | [v0, v1] => am_ob v0 12 ∧ M_X12_lays v0 v1 K m
  | _ => False
def M_X12_law (v0 : Int) (K : am_KK) (m : am_M) : Prop :=
  ((0 : Int) ≤ 368 ∧ 368 < am_len (am_rfv v0 2)) ∧
  (((m (am_rfv v0 2) 368) ≠ 6) →
  M_X12_readsAs v0 0 (fun r_1 m_2 =>
  ((r_1 ≠ 0) →
  ((0 : Int) ≤ 368 ∧ 368 < am_len (am_rfv v0 2)) ∧
  M_X12_lays v0 (m_2 (am_rfv v0 2) 368) (fun _ m_5 =>
  ((0 : Int) ≤ 368 ∧ 368 < am_len (am_rfv v0 2)) ∧
  ((0 : Int) ≤ 368 ∧ 368 < am_len (am_rfv v0 2)) ∧
  ∀ m_6 : am_M, m_6 = am_st m_5 (am_rfv v0 2) 368 (w32 ((m_5 (am_rfv v0 2) 368) + 1)) →
  ((0 : Int) ≤ 368 ∧ 368 < am_len (am_rfv v0 2)) ∧
  M_X12_good v0 (w32 ((m_6 (am_rfv v0 2) 368) - 1)) (fun r_7 m_8 =>
  K r_7 m_8) m_6) m_2) ∧ (¬ (r_1 ≠ 0) →
  M_X12_refuses v0 (-6) (fun r_9 m_10 =>
  K r_9 m_10) m_2)) m) ∧ (¬ ((m (am_rfv v0 2) 368) ≠ 6) →
  ∀ m_11 : am_M, m_11 = am_st m v0 13 0 →
  M_X12_refuses v0 (-5) (fun r_12 m_13 =>
  K r_12 m_13) m_11)
def N_X12_law : am_PT := fun zs K m => match zs with
  | [v0] => am_ob v0 12 ∧ M_X12_law v0 K m
  | _ => False
def M_X12_fault (v0 : Int) (K : am_KK) (m : am_M) : Prop :=
  K (m v0 14) m
def N_X12_fault : am_PT := fun zs K m => match zs with
  | [v0] => am_ob v0 12 ∧ M_X12_fault v0 K m
  | _ => False
def M_X12_force (v0 : Int) (v1 : Int) (K : am_KK) (m : am_M) : Prop :=
  ((0 : Int) ≤ 368 ∧ 368 < am_len (am_rfv v0 2)) ∧
  M_X12_lies v1 (-1) (w32 ((m (am_rfv v0 2) 368) - 1)) (fun r_1 m_2 =>
  ((r_1 ≠ 0) →
  ((0 : Int) ≤ 369 ∧ 369 < am_len (am_rfv v0 2)) ∧
  ∀ v2_4 : Int, v2_4 = m_2 (am_rfv v0 2) 369 →
  ((0 : Int) ≤ 369 ∧ 369 < am_len (am_rfv v0 2)) ∧
  ∀ m_5 : am_M, m_5 = am_st m_2 (am_rfv v0 2) 369 v1 →
  M_X12_good v0 v2_4 (fun r_6 m_7 =>
  K r_6 m_7) m_5) ∧ (¬ (r_1 ≠ 0) →
  M_X12_refuses v0 (-2) (fun r_8 m_9 =>
  K r_8 m_9) m_2)) m
def N_X12_force : am_PT := fun zs K m => match zs with
  | [v0, v1] => am_ob v0 12 ∧ M_X12_force v0 v1 K m
  | _ => False
def M_X12_breath (v0 : Int) (v1 : Int) (v2 : Int) (K : am_KK) (m : am_M) : Prop :=
  M_X12_isPerson v0 v1 (fun r_1 m_2 =>
  ((r_1 = 0) →
  K (-1) m_2) ∧ (¬ (r_1 = 0) →
  M_X12_lies v2 0 1 (fun r_4 m_5 =>
  ((r_4 ≠ 0) →
  ((v2 ≠ 0) →
  M_X12_breathOf v0 v1 (fun r_7 m_8 =>
  K r_7 m_8) m_5) ∧ (¬ (v2 ≠ 0) →
  ((0 : Int) ≤ (w32 (316 + v1)) ∧ (w32 (316 + v1)) < am_len (am_rfv v0 2)) ∧
  K (m_5 (am_rfv v0 2) (w32 (316 + v1))) m_5)) ∧ (¬ (r_4 ≠ 0) →
  K (-1) m_5)) m_2)) m
def N_X12_breath : am_PT := fun zs K m => match zs with
  | [v0, v1, v2] => am_ob v0 12 ∧ M_X12_breath v0 v1 v2 K m
  | _ => False
def M_X12_sets (v0 : Int) (v1 : Int) (v2 : Int) (K : am_KK) (m : am_M) : Prop :=
  M_X12_fact v0 v1 2 (fun r_1 m_2 =>
  ((0 : Int) ≤ 0 ∧ 0 < am_len (am_rfv v0 25)) ∧
  ∀ m_3 : am_M, m_3 = am_st m_2 (am_rfv v0 25) 0 r_1 →
  M_X12_fact v0 v1 3 (fun r_4 m_5 =>
  ((0 : Int) ≤ 1 ∧ 1 < am_len (am_rfv v0 25)) ∧
  ∀ m_6 : am_M, m_6 = am_st m_5 (am_rfv v0 25) 1 r_4 →
  M_X12_fact v0 v1 0 (fun r_7 m_8 =>
  ((0 : Int) ≤ 2 ∧ 2 < am_len (am_rfv v0 25)) ∧
  ∀ m_9 : am_M, m_9 = am_st m_8 (am_rfv v0 25) 2 r_7 →
  M_X12_fact v0 v1 0 (fun r_10 m_11 =>
  ((0 : Int) ≤ (w32 (316 + r_10)) ∧ (w32 (316 + r_10)) < am_len (am_rfv v0 2)) ∧
  ((0 : Int) ≤ 3 ∧ 3 < am_len (am_rfv v0 25)) ∧
  ∀ m_12 : am_M, m_12 = am_st m_11 (am_rfv v0 25) 3 (m_11 (am_rfv v0 2) (w32 (316 + r_10))) →
  M_X12_fact v0 v1 1 (fun r_13 m_14 =>
  ((0 : Int) ≤ 4 ∧ 4 < am_len (am_rfv v0 25)) ∧
  ∀ m_15 : am_M, m_15 = am_st m_14 (am_rfv v0 25) 4 r_13 →
  M_X12_fact v0 v1 4 (fun r_16 m_17 =>
  ((0 : Int) ≤ 5 ∧ 5 < am_len (am_rfv v0 25)) ∧
  ∀ m_18 : am_M, m_18 = am_st m_17 (am_rfv v0 25) 5 (w32 (v2 - r_16)) →
  ((0 : Int) ≤ 362 ∧ 362 < am_len (am_rfv v0 2)) ∧
  ((0 : Int) ≤ 6 ∧ 6 < am_len (am_rfv v0 25)) ∧
  ∀ m_19 : am_M, m_19 = am_st m_18 (am_rfv v0 25) 6 (m_18 (am_rfv v0 2) 362) →
  ((0 : Int) ≤ 7 ∧ 7 < am_len (am_rfv v0 25)) ∧
  ∀ m_20 : am_M, m_20 = am_st m_19 (am_rfv v0 25) 7 v2 →
  K 0 m_20) m_15) m_12) m_9) m_6) m_3) m
def N_X12_sets : am_PT := fun zs K m => match zs with
  | [v0, v1, v2] => am_ob v0 12 ∧ M_X12_sets v0 v1 v2 K m
  | _ => False
def M_X12_rankOf (v0 : Int) (v1 : Int) (v2 : Int) (K : am_KK) (m : am_M) : Prop :=
  M_X12_sets v0 v1 v2 (fun _ m_2 =>
  M_X12_fact v0 v1 2 (fun r_3 m_4 =>
  M_X12_tells v0 1 (-9999) 9999 r_3 (fun r_5 m_6 =>
  K r_5 m_6) m_4) m_2) m
def N_X12_rankOf : am_PT := fun zs K m => match zs with
  | [v0, v1, v2] => am_ob v0 12 ∧ M_X12_rankOf v0 v1 v2 K m
  | _ => False
def M_X12_isBarred (v0 : Int) (v1 : Int) (v2 : Int) (K : am_KK) (m : am_M) : Prop :=
  M_X12_sets v0 v1 v2 (fun _ m_2 =>
  M_X12_tells v0 3 0 1 0 (fun r_3 m_4 =>
  ((r_3 ≠ 1) →
  K 0 m_4) ∧ (¬ (r_3 ≠ 1) →
  K 1 m_4)) m_2) m
def N_X12_isBarred : am_PT := fun zs K m => match zs with
  | [v0, v1, v2] => am_ob v0 12 ∧ M_X12_isBarred v0 v1 v2 K m
  | _ => False
def M_X12_longOf (v0 : Int) (v1 : Int) (K : am_KK) (m : am_M) : Prop :=
  ((v1 ≠ (-1)) →
  ((10 ≤ v1) →
  ((0 : Int) ≤ (w32 (v1 - 10)) ∧ (w32 (v1 - 10)) < am_len (am_rfv v0 28)) ∧
  K (m (am_rfv v0 28) (w32 (v1 - 10))) m) ∧ (¬ (10 ≤ v1) →
  ((0 : Int) ≤ (w32 (170 + v1)) ∧ (w32 (170 + v1)) < am_len (am_rfv v0 2)) ∧
  K (m (am_rfv v0 2) (w32 (170 + v1))) m)) ∧ (¬ (v1 ≠ (-1)) →
  K 0 m)
def N_X12_longOf : am_PT := fun zs K m => match zs with
  | [v0, v1] => am_ob v0 12 ∧ M_X12_longOf v0 v1 K m
  | _ => False
def M_X12_takesOf (v0 : Int) (v1 : Int) (K : am_KK) (m : am_M) : Prop :=
  ((10 ≤ v1) →
  ((0 : Int) ≤ (w32 (v1 - 10)) ∧ (w32 (v1 - 10)) < am_len (am_rfv v0 29)) ∧
  K (m (am_rfv v0 29) (w32 (v1 - 10))) m) ∧ (¬ (10 ≤ v1) →
  K 0 m)
def N_X12_takesOf : am_PT := fun zs K m => match zs with
  | [v0, v1] => am_ob v0 12 ∧ M_X12_takesOf v0 v1 K m
  | _ => False
def M_X12_wordsOf (v0 : Int) (v1 : Int) (K : am_KK) (m : am_M) : Prop :=
  ((v1 ≠ (-1)) →
  ((10 ≤ v1) →
  ((0 : Int) ≤ (w32 (v1 - 10)) ∧ (w32 (v1 - 10)) < am_len (am_rfv v0 31)) ∧
  K (m (am_rfv v0 31) (w32 (v1 - 10))) m) ∧ (¬ (10 ≤ v1) →
  K 1 m)) ∧ (¬ (v1 ≠ (-1)) →
  K 0 m)
def N_X12_wordsOf : am_PT := fun zs K m => match zs with
  | [v0, v1] => am_ob v0 12 ∧ M_X12_wordsOf v0 v1 K m
  | _ => False
def M_X12_sum_J2 (v0 : Int) (v1 : Int) (v3 : Int) (s0 : Int) (C4 : Int → Int → am_M → Prop) (K : am_KK) (m : am_M) : Prop :=
  ∀ v3_1 : Int, v3_1 = w32 (v3 + 1) →
  C4 s0 v3_1 m
def M_X12_sum_J1 (v0 : Int) (v1 : Int) (v3 : Int) (C4 : Int → Int → am_M → Prop) (K : am_KK) (m : am_M) : Prop :=
  M_X12_sum_J2 v0 v1 v3 1000000000 C4 K m
def M_X12_sum_L1B (v0 : Int) (v1 : Int) (v2 : Int) (v3 : Int) (C4 : Int → Int → am_M → Prop) (K : am_KK) (m : am_M) : Prop :=
  ((4 ≤ v3) →
  K v2 m) ∧ (¬ (4 ≤ v3) →
  ((0 : Int) ≤ (w32 ((w32 (180 + (w32 (4 * v1)))) + v3)) ∧ (w32 ((w32 (180 + (w32 (4 * v1)))) + v3)) < am_len (am_rfv v0 2)) ∧
  M_X12_longOf v0 (m (am_rfv v0 2) (w32 ((w32 (180 + (w32 (4 * v1)))) + v3))) (fun r_2 m_3 =>
  ((1000000000 ≤ r_2) →
  M_X12_sum_J1 v0 v1 v3 C4 K m_3) ∧ (¬ (1000000000 ≤ r_2) →
  ((v2 < 1000000000) →
  M_X12_sum_J2 v0 v1 v3 (w32 (v2 + r_2)) C4 K m_3) ∧ (¬ (v2 < 1000000000) →
  M_X12_sum_J1 v0 v1 v3 C4 K m_3))) m)
def M_X12_sum_L1 (v0 : Int) (v1 : Int) (v2 : Int) (v3 : Int) (K : am_KK) (m : am_M) : Prop :=
  ∃ I : Nat → Int → Int → am_M → Prop, (∃ j, I j v2 v3 m) ∧ ∀ j v2 v3 m, I j v2 v3 m → M_X12_sum_L1B v0 v1 v2 v3 (fun v2' v3' m' => ∃ j', j' < j ∧ I j' v2' v3' m') K m
def M_X12_sum (v0 : Int) (v1 : Int) (K : am_KK) (m : am_M) : Prop :=
  M_X12_sum_L1 v0 v1 0 1 K m
def N_X12_sum : am_PT := fun zs K m => match zs with
  | [v0, v1] => am_ob v0 12 ∧ M_X12_sum v0 v1 K m
  | _ => False
def M_X12_rulesOf (v0 : Int) (v1 : Int) (K : am_KK) (m : am_M) : Prop :=
  ((0 : Int) ≤ (w32 ((w32 (180 + (w32 (4 * v1)))) + 1)) ∧ (w32 ((w32 (180 + (w32 (4 * v1)))) + 1)) < am_len (am_rfv v0 2)) ∧
  M_X12_takesOf v0 (m (am_rfv v0 2) (w32 ((w32 (180 + (w32 (4 * v1)))) + 1))) (fun r_1 m_2 =>
  ((0 : Int) ≤ (w32 ((w32 (180 + (w32 (4 * v1)))) + 2)) ∧ (w32 ((w32 (180 + (w32 (4 * v1)))) + 2)) < am_len (am_rfv v0 2)) ∧
  M_X12_takesOf v0 (m_2 (am_rfv v0 2) (w32 ((w32 (180 + (w32 (4 * v1)))) + 2))) (fun r_3 m_4 =>
  ((0 : Int) ≤ (w32 ((w32 (180 + (w32 (4 * v1)))) + 3)) ∧ (w32 ((w32 (180 + (w32 (4 * v1)))) + 3)) < am_len (am_rfv v0 2)) ∧
  M_X12_takesOf v0 (m_4 (am_rfv v0 2) (w32 ((w32 (180 + (w32 (4 * v1)))) + 3))) (fun r_5 m_6 =>
  K (w32 ((w32 ((w32 (1 + r_1)) + r_3)) + r_5)) m_6) m_4) m_2) m
def N_X12_rulesOf : am_PT := fun zs K m => match zs with
  | [v0, v1] => am_ob v0 12 ∧ M_X12_rulesOf v0 v1 K m
  | _ => False
def M_X12_shortens_J1 (v0 : Int) (v1 : Int) (v2 : Int) (v3 : Int) (K : am_KK) (m : am_M) : Prop :=
  ((0 : Int) ≤ v2 ∧ v2 < am_len (am_rfv v0 28)) ∧
  ∀ m_1 : am_M, m_1 = am_st m (am_rfv v0 28) v2 v3 →
  M_X12_rulesOf v0 v1 (fun r_2 m_3 =>
  ((0 : Int) ≤ v2 ∧ v2 < am_len (am_rfv v0 29)) ∧
  ∀ m_4 : am_M, m_4 = am_st m_3 (am_rfv v0 29) v2 r_2 →
  K 1 m_4) m_1
def M_X12_shortens (v0 : Int) (v1 : Int) (K : am_KK) (m : am_M) : Prop :=
  ((0 : Int) ≤ (w32 (180 + (w32 (4 * v1)))) ∧ (w32 (180 + (w32 (4 * v1)))) < am_len (am_rfv v0 2)) ∧
  ∀ v2_5 : Int, v2_5 = m (am_rfv v0 2) (w32 (180 + (w32 (4 * v1)))) →
  M_X12_sum v0 v1 (fun r_6 m_7 =>
  ((1000000000 ≤ r_6) →
  K 0 m_7) ∧ (¬ (1000000000 ≤ r_6) →
  ((0 : Int) ≤ v2_5 ∧ v2_5 < am_len (am_rfv v0 28)) ∧
  (((m_7 (am_rfv v0 28) v2_5) < r_6) →
  K 0 m_7) ∧ (¬ ((m_7 (am_rfv v0 28) v2_5) < r_6) →
  ((0 : Int) ≤ v2_5 ∧ v2_5 < am_len (am_rfv v0 28)) ∧
  ((r_6 ≠ (m_7 (am_rfv v0 28) v2_5)) →
  M_X12_shortens_J1 v0 v1 v2_5 r_6 K m_7) ∧ (¬ (r_6 ≠ (m_7 (am_rfv v0 28) v2_5)) →
  M_X12_rulesOf v0 v1 (fun r_8 m_9 =>
  ((0 : Int) ≤ v2_5 ∧ v2_5 < am_len (am_rfv v0 29)) ∧
  ((r_8 < (m_9 (am_rfv v0 29) v2_5)) →
  M_X12_shortens_J1 v0 v1 v2_5 r_6 K m_9) ∧ (¬ (r_8 < (m_9 (am_rfv v0 29) v2_5)) →
  K 0 m_9)) m_7)))) m
def N_X12_shortens : am_PT := fun zs K m => match zs with
  | [v0, v1] => am_ob v0 12 ∧ M_X12_shortens v0 v1 K m
  | _ => False
def M_X12_wordings_J4 (v0 : Int) (v2 : Int) (v3 : Int) (C201 : Int → am_M → Prop) (C193 : Int → am_M → Prop) (K : am_KK) (m : am_M) : Prop :=
  ∀ v3_1 : Int, v3_1 = w32 (v3 + 1) →
  C201 v3_1 m
def M_X12_wordings_L7B (v0 : Int) (v2 : Int) (v3 : Int) (C201 : Int → am_M → Prop) (C193 : Int → am_M → Prop) (K : am_KK) (m : am_M) : Prop :=
  ((8 ≤ v3) →
  ∀ v2_2 : Int, v2_2 = w32 (v2 + 1) →
  C193 v2_2 m) ∧ (¬ (8 ≤ v3) →
  ((0 : Int) ≤ v3 ∧ v3 < am_len (am_rfv v0 30)) ∧
  ∀ v4_3 : Int, v4_3 = m (am_rfv v0 30) v3 →
  ((v4_3 = (-1)) →
  M_X12_wordings_J4 v0 v2 v3 C201 C193 K m) ∧ (¬ (v4_3 = (-1)) →
  ((0 : Int) ≤ (w32 ((w32 (180 + (w32 (4 * v4_3)))) + 1)) ∧ (w32 ((w32 (180 + (w32 (4 * v4_3)))) + 1)) < am_len (am_rfv v0 2)) ∧
  M_X12_wordsOf v0 (m (am_rfv v0 2) (w32 ((w32 (180 + (w32 (4 * v4_3)))) + 1))) (fun r_4 m_5 =>
  ((0 : Int) ≤ (w32 ((w32 (180 + (w32 (4 * v4_3)))) + 2)) ∧ (w32 ((w32 (180 + (w32 (4 * v4_3)))) + 2)) < am_len (am_rfv v0 2)) ∧
  M_X12_wordsOf v0 (m_5 (am_rfv v0 2) (w32 ((w32 (180 + (w32 (4 * v4_3)))) + 2))) (fun r_6 m_7 =>
  ((0 : Int) ≤ (w32 ((w32 (180 + (w32 (4 * v4_3)))) + 3)) ∧ (w32 ((w32 (180 + (w32 (4 * v4_3)))) + 3)) < am_len (am_rfv v0 2)) ∧
  M_X12_wordsOf v0 (m_7 (am_rfv v0 2) (w32 ((w32 (180 + (w32 (4 * v4_3)))) + 3))) (fun r_8 m_9 =>
  ((0 : Int) ≤ v3 ∧ v3 < am_len (am_rfv v0 31)) ∧
  ∀ m_10 : am_M, m_10 = am_st m_9 (am_rfv v0 31) v3 (w32 ((w32 (r_4 + r_6)) + r_8)) →
  M_X12_wordings_J4 v0 v2 v3 C201 C193 K m_10) m_7) m_5) m))
def M_X12_wordings_L7 (v0 : Int) (v2 : Int) (v3 : Int) (C193 : Int → am_M → Prop) (K : am_KK) (m : am_M) : Prop :=
  ∃ I : Nat → Int → am_M → Prop, (∃ j, I j v3 m) ∧ ∀ j v3 m, I j v3 m → M_X12_wordings_L7B v0 v2 v3 (fun v3' m' => ∃ j', j' < j ∧ I j' v3' m') C193 K m
def M_X12_wordings_L6B (v0 : Int) (v2 : Int) (C193 : Int → am_M → Prop) (K : am_KK) (m : am_M) : Prop :=
  ((8 ≤ v2) →
  K 0 m) ∧ (¬ (8 ≤ v2) →
  M_X12_wordings_L7 v0 v2 0 C193 K m)
def M_X12_wordings_L6 (v0 : Int) (v2 : Int) (K : am_KK) (m : am_M) : Prop :=
  ∃ I : Nat → Int → am_M → Prop, (∃ j, I j v2 m) ∧ ∀ j v2 m, I j v2 m → M_X12_wordings_L6B v0 v2 (fun v2' m' => ∃ j', j' < j ∧ I j' v2' m') K m
def M_X12_wordings_J3 (v0 : Int) (v2 : Int) (v3 : Int) (C112 : Int → am_M → Prop) (C95 : Int → am_M → Prop) (K : am_KK) (m : am_M) : Prop :=
  ∀ v3_11 : Int, v3_11 = w32 (v3 + (-1)) →
  C112 v3_11 m
def M_X12_wordings_L5B (v0 : Int) (v2 : Int) (v3 : Int) (C112 : Int → am_M → Prop) (C95 : Int → am_M → Prop) (K : am_KK) (m : am_M) : Prop :=
  ((v3 < 0) →
  ∀ v2_12 : Int, v2_12 = w32 (v2 + 1) →
  C95 v2_12 m) ∧ (¬ (v3 < 0) →
  ((0 : Int) ≤ (w32 (180 + (w32 (4 * v3)))) ∧ (w32 (180 + (w32 (4 * v3)))) < am_len (am_rfv v0 2)) ∧
  (((m (am_rfv v0 2) (w32 (180 + (w32 (4 * v3))))) ≠ v2) →
  M_X12_wordings_J3 v0 v2 v3 C112 C95 K m) ∧ (¬ ((m (am_rfv v0 2) (w32 (180 + (w32 (4 * v3))))) ≠ v2) →
  ((0 : Int) ≤ v2 ∧ v2 < am_len (am_rfv v0 28)) ∧
  ((1000000000 ≤ (m (am_rfv v0 28) v2)) →
  M_X12_wordings_J3 v0 v2 v3 C112 C95 K m) ∧ (¬ (1000000000 ≤ (m (am_rfv v0 28) v2)) →
  M_X12_sum v0 v3 (fun r_13 m_14 =>
  ((0 : Int) ≤ v2 ∧ v2 < am_len (am_rfv v0 28)) ∧
  ((r_13 ≠ (m_14 (am_rfv v0 28) v2)) →
  M_X12_wordings_J3 v0 v2 v3 C112 C95 K m_14) ∧ (¬ (r_13 ≠ (m_14 (am_rfv v0 28) v2)) →
  M_X12_rulesOf v0 v3 (fun r_15 m_16 =>
  ((0 : Int) ≤ v2 ∧ v2 < am_len (am_rfv v0 29)) ∧
  ((r_15 ≠ (m_16 (am_rfv v0 29) v2)) →
  M_X12_wordings_J3 v0 v2 v3 C112 C95 K m_16) ∧ (¬ (r_15 ≠ (m_16 (am_rfv v0 29) v2)) →
  ((0 : Int) ≤ v2 ∧ v2 < am_len (am_rfv v0 30)) ∧
  ∀ m_17 : am_M, m_17 = am_st m_16 (am_rfv v0 30) v2 v3 →
  M_X12_wordings_J3 v0 v2 v3 C112 C95 K m_17)) m_14)) m)))
def M_X12_wordings_L5 (v0 : Int) (v2 : Int) (v3 : Int) (C95 : Int → am_M → Prop) (K : am_KK) (m : am_M) : Prop :=
  ∃ I : Nat → Int → am_M → Prop, (∃ j, I j v3 m) ∧ ∀ j v3 m, I j v3 m → M_X12_wordings_L5B v0 v2 v3 (fun v3' m' => ∃ j', j' < j ∧ I j' v3' m') C95 K m
def M_X12_wordings_L4B (v0 : Int) (v2 : Int) (C95 : Int → am_M → Prop) (K : am_KK) (m : am_M) : Prop :=
  ((8 ≤ v2) →
  M_X12_wordings_L6 v0 0 K m) ∧ (¬ (8 ≤ v2) →
  ((0 : Int) ≤ 364 ∧ 364 < am_len (am_rfv v0 2)) ∧
  ∀ v3_18 : Int, v3_18 = w32 ((m (am_rfv v0 2) 364) - 1) →
  M_X12_wordings_L5 v0 v2 v3_18 C95 K m)
def M_X12_wordings_L4 (v0 : Int) (v2 : Int) (K : am_KK) (m : am_M) : Prop :=
  ∃ I : Nat → Int → am_M → Prop, (∃ j, I j v2 m) ∧ ∀ j v2 m, I j v2 m → M_X12_wordings_L4B v0 v2 (fun v2' m' => ∃ j', j' < j ∧ I j' v2' m') K m
def M_X12_wordings_J2 (v0 : Int) (v2 : Int) (s0 : Int) (C54 : Int → Int → am_M → Prop) (C46 : Int → am_M → Prop) (K : am_KK) (m : am_M) : Prop :=
  ∀ v2_19 : Int, v2_19 = w32 (v2 + 1) →
  C54 s0 v2_19 m
def M_X12_wordings_J1 (v0 : Int) (v2 : Int) (C54 : Int → Int → am_M → Prop) (C46 : Int → am_M → Prop) (K : am_KK) (m : am_M) : Prop :=
  M_X12_wordings_J2 v0 v2 1 C54 C46 K m
def M_X12_wordings_L3B (v0 : Int) (v1 : Int) (v2 : Int) (C54 : Int → Int → am_M → Prop) (C46 : Int → am_M → Prop) (K : am_KK) (m : am_M) : Prop :=
  ((0 : Int) ≤ 364 ∧ 364 < am_len (am_rfv v0 2)) ∧
  (((m (am_rfv v0 2) 364) ≤ v2) →
  C46 v1 m) ∧ (¬ ((m (am_rfv v0 2) 364) ≤ v2) →
  M_X12_shortens v0 v2 (fun r_20 m_21 =>
  ((r_20 ≠ 0) →
  M_X12_wordings_J1 v0 v2 C54 C46 K m_21) ∧ (¬ (r_20 ≠ 0) →
  ((v1 = 0) →
  M_X12_wordings_J2 v0 v2 0 C54 C46 K m_21) ∧ (¬ (v1 = 0) →
  M_X12_wordings_J1 v0 v2 C54 C46 K m_21))) m)
def M_X12_wordings_L3 (v0 : Int) (v1 : Int) (v2 : Int) (C46 : Int → am_M → Prop) (K : am_KK) (m : am_M) : Prop :=
  ∃ I : Nat → Int → Int → am_M → Prop, (∃ j, I j v1 v2 m) ∧ ∀ j v1 v2 m, I j v1 v2 m → M_X12_wordings_L3B v0 v1 v2 (fun v1' v2' m' => ∃ j', j' < j ∧ I j' v1' v2' m') C46 K m
def M_X12_wordings_L2B (v0 : Int) (v1 : Int) (C46 : Int → am_M → Prop) (K : am_KK) (m : am_M) : Prop :=
  ((v1 = 0) →
  M_X12_wordings_L4 v0 0 K m) ∧ (¬ (v1 = 0) →
  M_X12_wordings_L3 v0 0 0 C46 K m)
def M_X12_wordings_L2 (v0 : Int) (v1 : Int) (K : am_KK) (m : am_M) : Prop :=
  ∃ I : Nat → Int → am_M → Prop, (∃ j, I j v1 m) ∧ ∀ j v1 m, I j v1 m → M_X12_wordings_L2B v0 v1 (fun v1' m' => ∃ j', j' < j ∧ I j' v1' m') K m
def M_X12_wordings_L1B (v0 : Int) (v1 : Int) (C2 : Int → am_M → Prop) (K : am_KK) (m : am_M) : Prop :=
  ((8 ≤ v1) →
  M_X12_wordings_L2 v0 1 K m) ∧ (¬ (8 ≤ v1) →
  ((0 : Int) ≤ v1 ∧ v1 < am_len (am_rfv v0 28)) ∧
  ∀ m_23 : am_M, m_23 = am_st m (am_rfv v0 28) v1 1000000000 →
  ((0 : Int) ≤ v1 ∧ v1 < am_len (am_rfv v0 29)) ∧
  ∀ m_24 : am_M, m_24 = am_st m_23 (am_rfv v0 29) v1 0 →
  ((0 : Int) ≤ v1 ∧ v1 < am_len (am_rfv v0 30)) ∧
  ∀ m_25 : am_M, m_25 = am_st m_24 (am_rfv v0 30) v1 (-1) →
  ((0 : Int) ≤ v1 ∧ v1 < am_len (am_rfv v0 31)) ∧
  ∀ m_26 : am_M, m_26 = am_st m_25 (am_rfv v0 31) v1 0 →
  ∀ v1_27 : Int, v1_27 = w32 (v1 + 1) →
  C2 v1_27 m_26)
def M_X12_wordings_L1 (v0 : Int) (v1 : Int) (K : am_KK) (m : am_M) : Prop :=
  ∃ I : Nat → Int → am_M → Prop, (∃ j, I j v1 m) ∧ ∀ j v1 m, I j v1 m → M_X12_wordings_L1B v0 v1 (fun v1' m' => ∃ j', j' < j ∧ I j' v1' m') K m
def M_X12_wordings (v0 : Int) (K : am_KK) (m : am_M) : Prop :=
  M_X12_wordings_L1 v0 0 K m
def N_X12_wordings : am_PT := fun zs K m => match zs with
  | [v0] => am_ob v0 12 ∧ M_X12_wordings v0 K m
  | _ => False
def M_X12_wordIn_L2B (v0 : Int) (v4 : Int) (v5 : Int) (C21 : Int → Int → am_M → Prop) (C5 : Int → Int → am_M → Prop) (K : am_KK) (m : am_M) : Prop :=
  ((0 : Int) ≤ v5 ∧ v5 < am_len (am_rfv v0 2)) ∧
  M_X12_wordsOf v0 (m (am_rfv v0 2) v5) (fun r_1 m_2 =>
  ((v4 < r_1) →
  ((0 : Int) ≤ v5 ∧ v5 < am_len (am_rfv v0 2)) ∧
  ((10 ≤ (m_2 (am_rfv v0 2) v5)) →
  ((0 : Int) ≤ v5 ∧ v5 < am_len (am_rfv v0 2)) ∧
  ∀ v3_3 : Int, v3_3 = w32 ((m_2 (am_rfv v0 2) v5) - 10) →
  C5 v3_3 v4 m_2) ∧ (¬ (10 ≤ (m_2 (am_rfv v0 2) v5)) →
  ((0 : Int) ≤ v5 ∧ v5 < am_len (am_rfv v0 2)) ∧
  K (m_2 (am_rfv v0 2) v5) m_2)) ∧ (¬ (v4 < r_1) →
  ((0 : Int) ≤ v5 ∧ v5 < am_len (am_rfv v0 2)) ∧
  M_X12_wordsOf v0 (m_2 (am_rfv v0 2) v5) (fun r_4 m_5 =>
  ∀ v4_6 : Int, v4_6 = w32 (v4 - r_4) →
  ∀ v5_7 : Int, v5_7 = w32 (v5 + 1) →
  C21 v4_6 v5_7 m_5) m_2)) m
def M_X12_wordIn_L2 (v0 : Int) (v4 : Int) (v5 : Int) (C5 : Int → Int → am_M → Prop) (K : am_KK) (m : am_M) : Prop :=
  ∃ I : Nat → Int → Int → am_M → Prop, (∃ j, I j v4 v5 m) ∧ ∀ j v4 v5 m, I j v4 v5 m → M_X12_wordIn_L2B v0 v4 v5 (fun v4' v5' m' => ∃ j', j' < j ∧ I j' v4' v5' m') C5 K m
def M_X12_wordIn_L1B (v0 : Int) (v3 : Int) (v4 : Int) (C5 : Int → Int → am_M → Prop) (K : am_KK) (m : am_M) : Prop :=
  ((0 : Int) ≤ v3 ∧ v3 < am_len (am_rfv v0 30)) ∧
  ∀ v5_8 : Int, v5_8 = w32 ((w32 (180 + (w32 (4 * (m (am_rfv v0 30) v3))))) + 1) →
  M_X12_wordIn_L2 v0 v4 v5_8 C5 K m
def M_X12_wordIn_L1 (v0 : Int) (v3 : Int) (v4 : Int) (K : am_KK) (m : am_M) : Prop :=
  ∃ I : Nat → Int → Int → am_M → Prop, (∃ j, I j v3 v4 m) ∧ ∀ j v3 v4 m, I j v3 v4 m → M_X12_wordIn_L1B v0 v3 v4 (fun v3' v4' m' => ∃ j', j' < j ∧ I j' v3' v4' m') K m
def M_X12_wordIn (v0 : Int) (v1 : Int) (v2 : Int) (K : am_KK) (m : am_M) : Prop :=
  M_X12_wordIn_L1 v0 v1 v2 K m
def N_X12_wordIn : am_PT := fun zs K m => match zs with
  | [v0, v1, v2] => am_ob v0 12 ∧ M_X12_wordIn v0 v1 v2 K m
  | _ => False
def M_X12_say (v0 : Int) (v1 : Int) (v2 : Int) (K : am_KK) (m : am_M) : Prop :=
  M_X12_isThing v1 (fun r_1 m_2 =>
  ((r_1 = 0) →
  K (-1) m_2) ∧ (¬ (r_1 = 0) →
  ((0 ≤ v2) →
  M_X12_wordings v0 (fun _ m_5 =>
  ((0 : Int) ≤ v1 ∧ v1 < am_len (am_rfv v0 28)) ∧
  (((m_5 (am_rfv v0 28) v1) < 1000000000) →
  ((3 ≤ v2) →
  ((0 : Int) ≤ v1 ∧ v1 < am_len (am_rfv v0 31)) ∧
  (((m_5 (am_rfv v0 31) v1) ≤ (w32 (v2 - 3))) →
  K (-1) m_5) ∧ (¬ ((m_5 (am_rfv v0 31) v1) ≤ (w32 (v2 - 3))) →
  M_X12_wordIn v0 v1 (w32 (v2 - 3)) (fun r_6 m_7 =>
  K r_6 m_7) m_5)) ∧ (¬ (3 ≤ v2) →
  ((v2 ≠ 0) →
  ((v2 ≠ 1) →
  ((0 : Int) ≤ v1 ∧ v1 < am_len (am_rfv v0 29)) ∧
  K (m_5 (am_rfv v0 29) v1) m_5) ∧ (¬ (v2 ≠ 1) →
  ((0 : Int) ≤ v1 ∧ v1 < am_len (am_rfv v0 31)) ∧
  K (m_5 (am_rfv v0 31) v1) m_5)) ∧ (¬ (v2 ≠ 0) →
  ((0 : Int) ≤ v1 ∧ v1 < am_len (am_rfv v0 28)) ∧
  K (m_5 (am_rfv v0 28) v1) m_5))) ∧ (¬ ((m_5 (am_rfv v0 28) v1) < 1000000000) →
  K (-1) m_5)) m_2) ∧ (¬ (0 ≤ v2) →
  K (-1) m_2))) m
def N_X12_say : am_PT := fun zs K m => match zs with
  | [v0, v1, v2] => am_ob v0 12 ∧ M_X12_say v0 v1 v2 K m
  | _ => False
def M_X12_queues_J2 (v0 : Int) (v1 : Int) (v2 : Int) (C7 : Int → am_M → Prop) (K : am_KK) (m : am_M) : Prop :=
  ∀ v2_1 : Int, v2_1 = w32 (v2 + 1) →
  C7 v2_1 m
def M_X12_queues_J1 (v0 : Int) (v1 : Int) (v2 : Int) (v3 : Int) (v4 : Int) (C7 : Int → am_M → Prop) (K : am_KK) (m : am_M) : Prop :=
  ((0 : Int) ≤ v4 ∧ v4 < am_len (am_rfv v0 32)) ∧
  ∀ m_2 : am_M, m_2 = am_st m (am_rfv v0 32) v4 v2 →
  ((0 : Int) ≤ v4 ∧ v4 < am_len (am_rfv v0 33)) ∧
  ∀ m_3 : am_M, m_3 = am_st m_2 (am_rfv v0 33) v4 v3 →
  ∀ m_4 : am_M, m_4 = am_st m_3 v0 34 (w32 ((m_3 v0 34) + 1)) →
  M_X12_queues_J2 v0 v1 v2 C7 K m_4
def M_X12_queues_L2B (v0 : Int) (v1 : Int) (v2 : Int) (v3 : Int) (v4 : Int) (C49 : Int → am_M → Prop) (C7 : Int → am_M → Prop) (K : am_KK) (m : am_M) : Prop :=
  ((v4 ≤ 0) →
  M_X12_queues_J1 v0 v1 v2 v3 v4 C7 K m) ∧ (¬ (v4 ≤ 0) →
  ((0 : Int) ≤ (w32 (v4 - 1)) ∧ (w32 (v4 - 1)) < am_len (am_rfv v0 33)) ∧
  (((m (am_rfv v0 33) (w32 (v4 - 1))) ≤ v3) →
  M_X12_queues_J1 v0 v1 v2 v3 v4 C7 K m) ∧ (¬ ((m (am_rfv v0 33) (w32 (v4 - 1))) ≤ v3) →
  ((0 : Int) ≤ (w32 (v4 - 1)) ∧ (w32 (v4 - 1)) < am_len (am_rfv v0 32)) ∧
  ((0 : Int) ≤ v4 ∧ v4 < am_len (am_rfv v0 32)) ∧
  ∀ m_5 : am_M, m_5 = am_st m (am_rfv v0 32) v4 (m (am_rfv v0 32) (w32 (v4 - 1))) →
  ((0 : Int) ≤ (w32 (v4 - 1)) ∧ (w32 (v4 - 1)) < am_len (am_rfv v0 33)) ∧
  ((0 : Int) ≤ v4 ∧ v4 < am_len (am_rfv v0 33)) ∧
  ∀ m_6 : am_M, m_6 = am_st m_5 (am_rfv v0 33) v4 (m_5 (am_rfv v0 33) (w32 (v4 - 1))) →
  ∀ v4_7 : Int, v4_7 = w32 (v4 + (-1)) →
  C49 v4_7 m_6))
def M_X12_queues_L2 (v0 : Int) (v1 : Int) (v2 : Int) (v3 : Int) (v4 : Int) (C7 : Int → am_M → Prop) (K : am_KK) (m : am_M) : Prop :=
  ∃ I : Nat → Int → am_M → Prop, (∃ j, I j v4 m) ∧ ∀ j v4 m, I j v4 m → M_X12_queues_L2B v0 v1 v2 v3 v4 (fun v4' m' => ∃ j', j' < j ∧ I j' v4' m') C7 K m
def M_X12_queues_L1B (v0 : Int) (v1 : Int) (v2 : Int) (C7 : Int → am_M → Prop) (K : am_KK) (m : am_M) : Prop :=
  M_X12_prayers v0 (fun r_8 m_9 =>
  ((r_8 ≤ v2) →
  K 0 m_9) ∧ (¬ (r_8 ≤ v2) →
  M_X12_fact v0 v2 5 (fun r_10 m_11 =>
  ((r_10 ≠ 0) →
  M_X12_queues_J2 v0 v1 v2 C7 K m_11) ∧ (¬ (r_10 ≠ 0) →
  M_X12_isBarred v0 v2 v1 (fun r_12 m_13 =>
  ((r_12 = 0) →
  M_X12_rankOf v0 v2 v1 (fun r_15 m_16 =>
  ∀ v4_17 : Int, v4_17 = m_16 v0 34 →
  M_X12_queues_L2 v0 v1 v2 r_15 v4_17 C7 K m_16) m_13) ∧ (¬ (r_12 = 0) →
  M_X12_queues_J2 v0 v1 v2 C7 K m_13)) m_11)) m_9)) m
def M_X12_queues_L1 (v0 : Int) (v1 : Int) (v2 : Int) (K : am_KK) (m : am_M) : Prop :=
  ∃ I : Nat → Int → am_M → Prop, (∃ j, I j v2 m) ∧ ∀ j v2 m, I j v2 m → M_X12_queues_L1B v0 v1 v2 (fun v2' m' => ∃ j', j' < j ∧ I j' v2' m') K m
def M_X12_queues (v0 : Int) (v1 : Int) (K : am_KK) (m : am_M) : Prop :=
  ∀ m_18 : am_M, m_18 = am_st m v0 34 0 →
  M_X12_queues_L1 v0 v1 0 K m_18
def N_X12_queues : am_PT := fun zs K m => match zs with
  | [v0, v1] => am_ob v0 12 ∧ M_X12_queues v0 v1 K m
  | _ => False
def M_X12_isDenied_J1 (v0 : Int) (v1 : Int) (v2 : Int) (C2 : Int → am_M → Prop) (K : am_KK) (m : am_M) : Prop :=
  ∀ v2_1 : Int, v2_1 = w32 (v2 + 1) →
  C2 v2_1 m
def M_X12_isDenied_L1B (v0 : Int) (v1 : Int) (v2 : Int) (C2 : Int → am_M → Prop) (K : am_KK) (m : am_M) : Prop :=
  M_X12_prayers v0 (fun r_2 m_3 =>
  ((r_2 ≤ v2) →
  K 0 m_3) ∧ (¬ (r_2 ≤ v2) →
  M_X12_fact v0 v2 5 (fun r_4 m_5 =>
  ((r_4 ≠ 1) →
  M_X12_isDenied_J1 v0 v1 v2 C2 K m_5) ∧ (¬ (r_4 ≠ 1) →
  ((0 : Int) ≤ 169 ∧ 169 < am_len (am_rfv v0 2)) ∧
  M_X12_fact v0 v2 6 (fun r_6 m_7 =>
  ((0 : Int) ≤ 361 ∧ 361 < am_len (am_rfv v0 2)) ∧
  (((w32 ((m_5 (am_rfv v0 2) 169) - r_6)) < (m_7 (am_rfv v0 2) 361)) →
  M_X12_fact v0 v2 1 (fun r_8 m_9 =>
  M_X12_fact v0 v1 1 (fun r_10 m_11 =>
  ((r_8 = r_10) →
  K 1 m_11) ∧ (¬ (r_8 = r_10) →
  M_X12_fact v0 v2 1 (fun r_12 m_13 =>
  M_X12_fact v0 v1 1 (fun r_14 m_15 =>
  ((0 : Int) ≤ (w32 ((w32 (244 + (w32 (8 * r_12)))) + r_14)) ∧ (w32 ((w32 (244 + (w32 (8 * r_12)))) + r_14)) < am_len (am_rfv v0 2)) ∧
  (((m_15 (am_rfv v0 2) (w32 ((w32 (244 + (w32 (8 * r_12)))) + r_14))) ≠ 1) →
  M_X12_isDenied_J1 v0 v1 v2 C2 K m_15) ∧ (¬ ((m_15 (am_rfv v0 2) (w32 ((w32 (244 + (w32 (8 * r_12)))) + r_14))) ≠ 1) →
  K 1 m_15)) m_13) m_11)) m_9) m_7) ∧ (¬ ((w32 ((m_5 (am_rfv v0 2) 169) - r_6)) < (m_7 (am_rfv v0 2) 361)) →
  M_X12_isDenied_J1 v0 v1 v2 C2 K m_7)) m_5)) m_3)) m
def M_X12_isDenied_L1 (v0 : Int) (v1 : Int) (v2 : Int) (K : am_KK) (m : am_M) : Prop :=
  ∃ I : Nat → Int → am_M → Prop, (∃ j, I j v2 m) ∧ ∀ j v2 m, I j v2 m → M_X12_isDenied_L1B v0 v1 v2 (fun v2' m' => ∃ j', j' < j ∧ I j' v2' m') K m
def M_X12_isDenied (v0 : Int) (v1 : Int) (K : am_KK) (m : am_M) : Prop :=
  M_X12_isDenied_L1 v0 v1 0 K m
def N_X12_isDenied : am_PT := fun zs K m => match zs with
  | [v0, v1] => am_ob v0 12 ∧ M_X12_isDenied v0 v1 K m
  | _ => False
def M_X12_dawns_J4 (v0 : Int) (v2 : Int) (s0 : Int) (s1 : Int) (C33 : Int → Int → am_M → Prop) (K : am_KK) (m : am_M) : Prop :=
  ∀ v1_1 : Int, v1_1 = w32 (s0 + s1) →
  ∀ v2_2 : Int, v2_2 = w32 (v2 + 1) →
  C33 v1_1 v2_2 m
def M_X12_dawns_J3 (v0 : Int) (v1 : Int) (v2 : Int) (v4 : Int) (s0 : Int) (s1 : Int) (s2 : Int) (C33 : Int → Int → am_M → Prop) (K : am_KK) (m : am_M) : Prop :=
  ∀ m_3 : am_M, m_3 = am_st m s0 35 (am_or s1 s2) →
  ((v4 = 0) →
  M_X12_dawns_J4 v0 v2 v1 0 C33 K m_3) ∧ (¬ (v4 = 0) →
  M_X12_dawns_J4 v0 v2 v1 1 C33 K m_3)
def M_X12_dawns_J2 (v0 : Int) (v1 : Int) (v2 : Int) (v3 : Int) (v4 : Int) (s0 : Int) (s1 : Int) (s2 : Int) (C33 : Int → Int → am_M → Prop) (K : am_KK) (m : am_M) : Prop :=
  ((0 : Int) ≤ s1 ∧ s1 < am_len s0) ∧
  ∀ m_4 : am_M, m_4 = am_st m s0 s1 s2 →
  ((0 : Int) ≤ 169 ∧ 169 < am_len (am_rfv v0 2)) ∧
  ((0 : Int) ≤ (w32 (v3 + 6)) ∧ (w32 (v3 + 6)) < am_len (am_rfv v0 2)) ∧
  ∀ m_5 : am_M, m_5 = am_st m_4 (am_rfv v0 2) (w32 (v3 + 6)) (m_4 (am_rfv v0 2) 169) →
  ((v4 = 0) →
  M_X12_dawns_J3 v0 v1 v2 v4 v0 (m_5 v0 35) 0 C33 K m_5) ∧ (¬ (v4 = 0) →
  ((0 : Int) ≤ v2 ∧ v2 < am_len (am_rfv v0 32)) ∧
  M_X12_fact v0 (m_5 (am_rfv v0 32) v2) 1 (fun r_6 m_7 =>
  M_X12_dawns_J3 v0 v1 v2 v4 v0 (m_5 v0 35) (am_shl 1 r_6) C33 K m_7) m_5)
def M_X12_dawns_J1 (v0 : Int) (v1 : Int) (v2 : Int) (v3 : Int) (s0 : Int) (C33 : Int → Int → am_M → Prop) (K : am_KK) (m : am_M) : Prop :=
  ((s0 = 0) →
  M_X12_dawns_J2 v0 v1 v2 v3 s0 (am_rfv v0 2) (w32 (v3 + 5)) 2 C33 K m) ∧ (¬ (s0 = 0) →
  M_X12_dawns_J2 v0 v1 v2 v3 s0 (am_rfv v0 2) (w32 (v3 + 5)) 1 C33 K m)
def M_X12_dawns_L1B (v0 : Int) (v1 : Int) (v2 : Int) (C33 : Int → Int → am_M → Prop) (K : am_KK) (m : am_M) : Prop :=
  (((m v0 34) ≤ v2) →
  K v1 m) ∧ (¬ ((m v0 34) ≤ v2) →
  ((0 : Int) ≤ 360 ∧ 360 < am_len (am_rfv v0 2)) ∧
  (((m (am_rfv v0 2) 360) ≤ v2) →
  K v1 m) ∧ (¬ ((m (am_rfv v0 2) 360) ≤ v2) →
  ((0 : Int) ≤ v2 ∧ v2 < am_len (am_rfv v0 32)) ∧
  ∀ v3_8 : Int, v3_8 = w32 (0 + (w32 (7 * (m (am_rfv v0 32) v2)))) →
  ((0 : Int) ≤ v2 ∧ v2 < am_len (am_rfv v0 32)) ∧
  M_X12_isDenied v0 (m (am_rfv v0 32) v2) (fun r_9 m_10 =>
  ((r_9 ≠ 0) →
  M_X12_dawns_J1 v0 v1 v2 v3_8 0 C33 K m_10) ∧ (¬ (r_9 ≠ 0) →
  M_X12_dawns_J1 v0 v1 v2 v3_8 1 C33 K m_10)) m))
def M_X12_dawns_L1 (v0 : Int) (v1 : Int) (v2 : Int) (K : am_KK) (m : am_M) : Prop :=
  ∃ I : Nat → Int → Int → am_M → Prop, (∃ j, I j v1 v2 m) ∧ ∀ j v1 v2 m, I j v1 v2 m → M_X12_dawns_L1B v0 v1 v2 (fun v1' v2' m' => ∃ j', j' < j ∧ I j' v1' v2' m') K m
def M_X12_dawns (v0 : Int) (K : am_KK) (m : am_M) : Prop :=
  ((0 : Int) ≤ 169 ∧ 169 < am_len (am_rfv v0 2)) ∧
  ((0 : Int) ≤ 169 ∧ 169 < am_len (am_rfv v0 2)) ∧
  ∀ m_12 : am_M, m_12 = am_st m (am_rfv v0 2) 169 (w32 ((m (am_rfv v0 2) 169) + 1)) →
  ((0 : Int) ≤ 169 ∧ 169 < am_len (am_rfv v0 2)) ∧
  M_X12_queues v0 (m_12 (am_rfv v0 2) 169) (fun _ m_14 =>
  ∀ m_15 : am_M, m_15 = am_st m_14 v0 35 0 →
  M_X12_dawns_L1 v0 0 0 K m_15) m_12
def N_X12_dawns : am_PT := fun zs K m => match zs with
  | [v0] => am_ob v0 12 ∧ M_X12_dawns v0 K m
  | _ => False
def M_X12_at (v0 : Int) (v1 : Int) (v2 : Int) (K : am_KK) (m : am_M) : Prop :=
  M_X12_isPrayer v0 v1 (fun r_1 m_2 =>
  ((r_1 = 0) →
  K (-1) m_2) ∧ (¬ (r_1 = 0) →
  M_X12_lies v2 0 6 (fun r_4 m_5 =>
  ((r_4 = 0) →
  K (-1) m_5) ∧ (¬ (r_4 = 0) →
  M_X12_fact v0 v1 v2 (fun r_7 m_8 =>
  K r_7 m_8) m_5)) m_2)) m
def N_X12_at : am_PT := fun zs K m => match zs with
  | [v0, v1, v2] => am_ob v0 12 ∧ M_X12_at v0 v1 v2 K m
  | _ => False
def M_X12_rank_J1 (K : am_KK) (m : am_M) : Prop :=
  K (-1000000) m
def M_X12_rank (v0 : Int) (v1 : Int) (v2 : Int) (K : am_KK) (m : am_M) : Prop :=
  M_X12_isWaiting v0 v1 (fun r_1 m_2 =>
  ((r_1 = 0) →
  M_X12_rank_J1 K m_2) ∧ (¬ (r_1 = 0) →
  M_X12_lies v2 0 1 (fun r_4 m_5 =>
  ((r_4 ≠ 0) →
  ((v2 ≠ 0) →
  ((0 : Int) ≤ 169 ∧ 169 < am_len (am_rfv v0 2)) ∧
  M_X12_isBarred v0 v1 (w32 ((m_5 (am_rfv v0 2) 169) + 1)) (fun r_7 m_8 =>
  ((r_7 = 0) →
  K 0 m_8) ∧ (¬ (r_7 = 0) →
  K 1 m_8)) m_5) ∧ (¬ (v2 ≠ 0) →
  ((0 : Int) ≤ 169 ∧ 169 < am_len (am_rfv v0 2)) ∧
  M_X12_rankOf v0 v1 (w32 ((m_5 (am_rfv v0 2) 169) + 1)) (fun r_10 m_11 =>
  K r_10 m_11) m_5)) ∧ (¬ (r_4 ≠ 0) →
  M_X12_rank_J1 K m_5)) m_2)) m
def N_X12_rank : am_PT := fun zs K m => match zs with
  | [v0, v1, v2] => am_ob v0 12 ∧ M_X12_rank v0 v1 v2 K m
  | _ => False
def M_X12_order (v0 : Int) (v1 : Int) (K : am_KK) (m : am_M) : Prop :=
  ((0 : Int) ≤ 169 ∧ 169 < am_len (am_rfv v0 2)) ∧
  M_X12_queues v0 (w32 ((m (am_rfv v0 2) 169) + 1)) (fun _ m_2 =>
  ((v1 ≠ (-1)) →
  M_X12_lies v1 0 (w32 ((m_2 v0 34) - 1)) (fun r_3 m_4 =>
  ((r_3 = 0) →
  K (-1) m_4) ∧ (¬ (r_3 = 0) →
  ((0 : Int) ≤ v1 ∧ v1 < am_len (am_rfv v0 32)) ∧
  K (m_4 (am_rfv v0 32) v1) m_4)) m_2) ∧ (¬ (v1 ≠ (-1)) →
  K (m_2 v0 34) m_2)) m
def N_X12_order : am_PT := fun zs K m => match zs with
  | [v0, v1] => am_ob v0 12 ∧ M_X12_order v0 v1 K m
  | _ => False
def M_X12_keeps_L2B (v0 : Int) (v1 : Int) (v2 : Int) (v3 : Int) (C55 : Int → am_M → Prop) (K : am_KK) (m : am_M) : Prop :=
  ((170 ≤ v3) →
  ((0 : Int) ≤ (w32 ((w32 (v2 * (m v0 38))) + 170)) ∧ (w32 ((w32 (v2 * (m v0 38))) + 170)) < am_len (am_rfv v0 36)) ∧
  ∀ m_1 : am_M, m_1 = am_st m (am_rfv v0 36) (w32 ((w32 (v2 * (m v0 38))) + 170)) v1 →
  ∀ m_2 : am_M, m_2 = am_st m_1 v0 38 (w32 ((m_1 v0 38) + 1)) →
  K 0 m_2) ∧ (¬ (170 ≤ v3) →
  ((0 : Int) ≤ v3 ∧ v3 < am_len (am_rfv v0 2)) ∧
  ((0 : Int) ≤ (w32 ((w32 (v2 * (m v0 38))) + v3)) ∧ (w32 ((w32 (v2 * (m v0 38))) + v3)) < am_len (am_rfv v0 36)) ∧
  ∀ m_3 : am_M, m_3 = am_st m (am_rfv v0 36) (w32 ((w32 (v2 * (m v0 38))) + v3)) (m (am_rfv v0 2) v3) →
  ∀ v3_4 : Int, v3_4 = w32 (v3 + 1) →
  C55 v3_4 m_3)
def M_X12_keeps_L2 (v0 : Int) (v1 : Int) (v2 : Int) (v3 : Int) (K : am_KK) (m : am_M) : Prop :=
  ∃ I : Nat → Int → am_M → Prop, (∃ j, I j v3 m) ∧ ∀ j v3 m, I j v3 m → M_X12_keeps_L2B v0 v1 v2 v3 (fun v3' m' => ∃ j', j' < j ∧ I j' v3' m') K m
def M_X12_keeps_J1 (v0 : Int) (v1 : Int) (v2 : Int) (K : am_KK) (m : am_M) : Prop :=
  M_X12_keeps_L2 v0 v1 v2 0 K m
def M_X12_keeps_L1B (v0 : Int) (v1 : Int) (v2 : Int) (v3 : Int) (C15 : Int → am_M → Prop) (K : am_KK) (m : am_M) : Prop :=
  (((w32 (15 * v2)) ≤ v3) →
  ∀ m_5 : am_M, m_5 = am_st m v0 38 (w32 ((m v0 38) - 1)) →
  M_X12_keeps_J1 v0 v1 v2 K m_5) ∧ (¬ ((w32 (15 * v2)) ≤ v3) →
  ((0 : Int) ≤ (w32 (v3 + v2)) ∧ (w32 (v3 + v2)) < am_len (am_rfv v0 36)) ∧
  ((0 : Int) ≤ v3 ∧ v3 < am_len (am_rfv v0 36)) ∧
  ∀ m_6 : am_M, m_6 = am_st m (am_rfv v0 36) v3 (m (am_rfv v0 36) (w32 (v3 + v2))) →
  ∀ v3_7 : Int, v3_7 = w32 (v3 + 1) →
  C15 v3_7 m_6)
def M_X12_keeps_L1 (v0 : Int) (v1 : Int) (v2 : Int) (v3 : Int) (K : am_KK) (m : am_M) : Prop :=
  ∃ I : Nat → Int → am_M → Prop, (∃ j, I j v3 m) ∧ ∀ j v3 m, I j v3 m → M_X12_keeps_L1B v0 v1 v2 v3 (fun v3' m' => ∃ j', j' < j ∧ I j' v3' m') K m
def M_X12_keeps (v0 : Int) (v1 : Int) (K : am_KK) (m : am_M) : Prop :=
  (((m v0 38) ≠ 16) →
  M_X12_keeps_J1 v0 v1 171 K m) ∧ (¬ ((m v0 38) ≠ 16) →
  M_X12_keeps_L1 v0 v1 171 0 K m)
def N_X12_keeps : am_PT := fun zs K m => match zs with
  | [v0, v1] => am_ob v0 12 ∧ M_X12_keeps v0 v1 K m
  | _ => False
def M_X12_undo_L1B (v0 : Int) (v1 : Int) (v2 : Int) (C35 : Int → am_M → Prop) (K : am_KK) (m : am_M) : Prop :=
  ((170 ≤ v2) →
  ((0 : Int) ≤ (w32 (v1 + 170)) ∧ (w32 (v1 + 170)) < am_len (am_rfv v0 36)) ∧
  M_X12_good v0 (m (am_rfv v0 36) (w32 (v1 + 170))) (fun r_1 m_2 =>
  K r_1 m_2) m) ∧ (¬ (170 ≤ v2) →
  ((0 : Int) ≤ (w32 (v1 + v2)) ∧ (w32 (v1 + v2)) < am_len (am_rfv v0 36)) ∧
  ((0 : Int) ≤ v2 ∧ v2 < am_len (am_rfv v0 2)) ∧
  ∀ m_3 : am_M, m_3 = am_st m (am_rfv v0 2) v2 (m (am_rfv v0 36) (w32 (v1 + v2))) →
  ∀ v2_4 : Int, v2_4 = w32 (v2 + 1) →
  C35 v2_4 m_3)
def M_X12_undo_L1 (v0 : Int) (v1 : Int) (v2 : Int) (K : am_KK) (m : am_M) : Prop :=
  ∃ I : Nat → Int → am_M → Prop, (∃ j, I j v2 m) ∧ ∀ j v2 m, I j v2 m → M_X12_undo_L1B v0 v1 v2 (fun v2' m' => ∃ j', j' < j ∧ I j' v2' m') K m
def M_X12_undo (v0 : Int) (K : am_KK) (m : am_M) : Prop :=
  (((m v0 38) ≠ 0) →
  ∀ m_5 : am_M, m_5 = am_st m v0 38 (w32 ((m v0 38) - 1)) →
  ∀ v1_6 : Int, v1_6 = w32 (171 * (m_5 v0 38)) →
  M_X12_undo_L1 v0 v1_6 0 K m_5) ∧ (¬ ((m v0 38) ≠ 0) →
  M_X12_refuses v0 (-3) (fun r_7 m_8 =>
  K r_7 m_8) m)
def N_X12_undo : am_PT := fun zs K m => match zs with
  | [v0] => am_ob v0 12 ∧ M_X12_undo v0 K m
  | _ => False
def M_X12_praysKept (v0 : Int) (v1 : Int) (v2 : Int) (v3 : Int) (v4 : Int) (K : am_KK) (m : am_M) : Prop :=
  M_X12_whyNot v0 v1 v2 v3 v4 (fun r_1 m_2 =>
  ((0 ≤ r_1) →
  M_X12_keeps v0 0 (fun _ m_4 =>
  M_X12_says v0 v1 v2 v3 v4 (fun _ m_6 =>
  M_X12_prayers v0 (fun r_7 m_8 =>
  K (w32 (r_7 - 1)) m_8) m_6) m_4) m_2) ∧ (¬ (0 ≤ r_1) →
  K r_1 m_2)) m
def N_X12_praysKept : am_PT := fun zs K m => match zs with
  | [v0, v1, v2, v3, v4] => am_ob v0 12 ∧ M_X12_praysKept v0 v1 v2 v3 v4 K m
  | _ => False
def M_X12_dawnsKept (v0 : Int) (K : am_KK) (m : am_M) : Prop :=
  ((0 : Int) ≤ 169 ∧ 169 < am_len (am_rfv v0 2)) ∧
  (((m (am_rfv v0 2) 169) ≠ 999) →
  M_X12_keeps v0 1 (fun _ m_2 =>
  M_X12_dawns v0 (fun r_3 m_4 =>
  K r_3 m_4) m_2) m) ∧ (¬ ((m (am_rfv v0 2) 169) ≠ 999) →
  K (-3) m)
def N_X12_dawnsKept : am_PT := fun zs K m => match zs with
  | [v0] => am_ob v0 12 ∧ M_X12_dawnsKept v0 K m
  | _ => False
def M_X12_goodOr (v0 : Int) (v1 : Int) (K : am_KK) (m : am_M) : Prop :=
  ((0 ≤ v1) →
  M_X12_good v0 v1 (fun r_1 m_2 =>
  K r_1 m_2) m) ∧ (¬ (0 ≤ v1) →
  M_X12_refuses v0 v1 (fun r_3 m_4 =>
  K r_3 m_4) m)
def N_X12_goodOr : am_PT := fun zs K m => match zs with
  | [v0, v1] => am_ob v0 12 ∧ M_X12_goodOr v0 v1 K m
  | _ => False
def M_X12_pray (v0 : Int) (v1 : Int) (v2 : Int) (v3 : Int) (v4 : Int) (K : am_KK) (m : am_M) : Prop :=
  M_X12_praysKept v0 v1 v2 v3 v4 (fun r_1 m_2 =>
  M_X12_goodOr v0 r_1 (fun r_3 m_4 =>
  K r_3 m_4) m_2) m
def N_X12_pray : am_PT := fun zs K m => match zs with
  | [v0, v1, v2, v3, v4] => am_ob v0 12 ∧ M_X12_pray v0 v1 v2 v3 v4 K m
  | _ => False
def M_X12_dawn (v0 : Int) (K : am_KK) (m : am_M) : Prop :=
  M_X12_dawnsKept v0 (fun r_1 m_2 =>
  M_X12_goodOr v0 r_1 (fun r_3 m_4 =>
  K r_3 m_4) m_2) m
def N_X12_dawn : am_PT := fun zs K m => match zs with
  | [v0] => am_ob v0 12 ∧ M_X12_dawn v0 K m
  | _ => False
def M_X12_sweep_J1 (v0 : Int) (v1 : Int) (v2 : Int) (v3 : Int) (C6 : Int → Int → Int → am_M → Prop) (K : am_KK) (m : am_M) : Prop :=
  ∀ v3_1 : Int, v3_1 = w32 (v3 + 1) →
  C6 v1 v2 v3_1 m
def M_X12_sweep_L2B (v0 : Int) (v1 : Int) (v2 : Int) (v3 : Int) (v4 : Int) (C32 : Int → am_M → Prop) (C6 : Int → Int → Int → am_M → Prop) (K : am_KK) (m : am_M) : Prop :=
  ((7 ≤ v4) →
  ∀ v2_2 : Int, v2_2 = w32 (v2 + 1) →
  M_X12_sweep_J1 v0 v1 v2_2 v3 C6 K m) ∧ (¬ (7 ≤ v4) →
  M_X12_fact v0 v3 v4 (fun r_3 m_4 =>
  ((0 : Int) ≤ (w32 ((w32 (0 + (w32 (7 * v2)))) + v4)) ∧ (w32 ((w32 (0 + (w32 (7 * v2)))) + v4)) < am_len (am_rfv v0 2)) ∧
  ∀ m_5 : am_M, m_5 = am_st m_4 (am_rfv v0 2) (w32 ((w32 (0 + (w32 (7 * v2)))) + v4)) r_3 →
  ∀ v4_6 : Int, v4_6 = w32 (v4 + 1) →
  C32 v4_6 m_5) m)
def M_X12_sweep_L2 (v0 : Int) (v1 : Int) (v2 : Int) (v3 : Int) (v4 : Int) (C6 : Int → Int → Int → am_M → Prop) (K : am_KK) (m : am_M) : Prop :=
  ∃ I : Nat → Int → am_M → Prop, (∃ j, I j v4 m) ∧ ∀ j v4 m, I j v4 m → M_X12_sweep_L2B v0 v1 v2 v3 v4 (fun v4' m' => ∃ j', j' < j ∧ I j' v4' m') C6 K m
def M_X12_sweep_L1B (v0 : Int) (v1 : Int) (v2 : Int) (v3 : Int) (C6 : Int → Int → Int → am_M → Prop) (K : am_KK) (m : am_M) : Prop :=
  M_X12_prayers v0 (fun r_7 m_8 =>
  ((r_7 ≤ v3) →
  ((0 : Int) ≤ 168 ∧ 168 < am_len (am_rfv v0 2)) ∧
  ∀ m_9 : am_M, m_9 = am_st m_8 (am_rfv v0 2) 168 v2 →
  ∀ m_10 : am_M, m_10 = am_st m_9 v0 38 0 →
  K v1 m_10) ∧ (¬ (r_7 ≤ v3) →
  M_X12_fact v0 v3 5 (fun r_11 m_12 =>
  ((r_11 = 0) →
  M_X12_sweep_L2 v0 v1 v2 v3 0 C6 K m_12) ∧ (¬ (r_11 = 0) →
  ∀ v1_13 : Int, v1_13 = w32 (v1 + 1) →
  M_X12_sweep_J1 v0 v1_13 v2 v3 C6 K m_12)) m_8)) m
def M_X12_sweep_L1 (v0 : Int) (v1 : Int) (v2 : Int) (v3 : Int) (K : am_KK) (m : am_M) : Prop :=
  ∃ I : Nat → Int → Int → Int → am_M → Prop, (∃ j, I j v1 v2 v3 m) ∧ ∀ j v1 v2 v3 m, I j v1 v2 v3 m → M_X12_sweep_L1B v0 v1 v2 v3 (fun v1' v2' v3' m' => ∃ j', j' < j ∧ I j' v1' v2' v3' m') K m
def M_X12_sweep (v0 : Int) (K : am_KK) (m : am_M) : Prop :=
  M_X12_sweep_L1 v0 0 0 0 K m
def N_X12_sweep : am_PT := fun zs K m => match zs with
  | [v0] => am_ob v0 12 ∧ M_X12_sweep v0 K m
  | _ => False
def M_X12_looksAt_L6B (v0 : Int) (v4 : Int) (C317 : Int → am_M → Prop) (K : am_KK) (m : am_M) : Prop :=
  (((m v0 46) ≤ v4) →
  K 0 m) ∧ (¬ ((m v0 46) ≤ v4) →
  ((0 : Int) ≤ v4 ∧ v4 < am_len (am_rfv v0 43)) ∧
  ((0 : Int) ≤ v4 ∧ v4 < am_len (am_rfv v0 44)) ∧
  ∀ m_1 : am_M, m_1 = am_st m (am_rfv v0 44) v4 (m (am_rfv v0 43) v4) →
  ∀ v4_2 : Int, v4_2 = w32 (v4 + 1) →
  C317 v4_2 m_1)
def M_X12_looksAt_L6 (v0 : Int) (v4 : Int) (K : am_KK) (m : am_M) : Prop :=
  ∃ I : Nat → Int → am_M → Prop, (∃ j, I j v4 m) ∧ ∀ j v4 m, I j v4 m → M_X12_looksAt_L6B v0 v4 (fun v4' m' => ∃ j', j' < j ∧ I j' v4' m') K m
def M_X12_looksAt_J7 (v0 : Int) (v2 : Int) (v3 : Int) (K : am_KK) (m : am_M) : Prop :=
  ((v3 ≠ 0) →
  ∀ m_3 : am_M, m_3 = am_st m v0 47 v2 →
  M_X12_looksAt_L6 v0 0 K m_3) ∧ (¬ (v3 ≠ 0) →
  K 0 m)
def M_X12_looksAt_J6 (v0 : Int) (v2 : Int) (s0 : Int) (K : am_KK) (m : am_M) : Prop :=
  M_X12_looksAt_J7 v0 v2 s0 K m
def M_X12_looksAt_L5B (v0 : Int) (v2 : Int) (v3 : Int) (v4 : Int) (C235 : Int → am_M → Prop) (K : am_KK) (m : am_M) : Prop :=
  (((m v0 46) ≤ v4) →
  M_X12_looksAt_J7 v0 v2 v3 K m) ∧ (¬ ((m v0 46) ≤ v4) →
  ((v2 ≠ (m v0 47)) →
  M_X12_looksAt_J7 v0 v2 v3 K m) ∧ (¬ (v2 ≠ (m v0 47)) →
  ((0 : Int) ≤ v4 ∧ v4 < am_len (am_rfv v0 43)) ∧
  ((0 : Int) ≤ v4 ∧ v4 < am_len (am_rfv v0 44)) ∧
  (((m (am_rfv v0 43) v4) ≠ (m (am_rfv v0 44) v4)) →
  ((0 : Int) ≤ v4 ∧ v4 < am_len (am_rfv v0 43)) ∧
  ((0 : Int) ≤ v4 ∧ v4 < am_len (am_rfv v0 44)) ∧
  (((m (am_rfv v0 44) v4) ≤ (m (am_rfv v0 43) v4)) →
  M_X12_looksAt_J6 v0 v2 0 K m) ∧ (¬ ((m (am_rfv v0 44) v4) ≤ (m (am_rfv v0 43) v4)) →
  M_X12_looksAt_J6 v0 v2 1 K m)) ∧ (¬ ((m (am_rfv v0 43) v4) ≠ (m (am_rfv v0 44) v4)) →
  ∀ v4_4 : Int, v4_4 = w32 (v4 + 1) →
  C235 v4_4 m)))
def M_X12_looksAt_L5 (v0 : Int) (v2 : Int) (v3 : Int) (v4 : Int) (K : am_KK) (m : am_M) : Prop :=
  ∃ I : Nat → Int → am_M → Prop, (∃ j, I j v4 m) ∧ ∀ j v4 m, I j v4 m → M_X12_looksAt_L5B v0 v2 v3 v4 (fun v4' m' => ∃ j', j' < j ∧ I j' v4' m') K m
def M_X12_looksAt_J5 (v0 : Int) (v2 : Int) (s0 : Int) (K : am_KK) (m : am_M) : Prop :=
  M_X12_looksAt_L5 v0 v2 s0 0 K m
def M_X12_looksAt_J4 (v0 : Int) (v2 : Int) (v3 : Int) (v5 : Int) (s0 : Int) (s1 : Int) (C94 : Int → Int → am_M → Prop) (C80 : Int → Int → am_M → Prop) (K : am_KK) (m : am_M) : Prop :=
  ∀ v4_5 : Int, v4_5 = w32 (s0 + s1) →
  ∀ v5_6 : Int, v5_6 = w32 (v5 + 1) →
  C94 v4_5 v5_6 m
def M_X12_looksAt_J3 (v0 : Int) (v2 : Int) (v3 : Int) (v5 : Int) (s0 : Int) (C94 : Int → Int → am_M → Prop) (C80 : Int → Int → am_M → Prop) (K : am_KK) (m : am_M) : Prop :=
  M_X12_looksAt_J4 v0 v2 v3 v5 s0 0 C94 C80 K m
def M_X12_looksAt_J2 (v0 : Int) (v2 : Int) (v3 : Int) (v5 : Int) (s0 : Int) (C94 : Int → Int → am_M → Prop) (C80 : Int → Int → am_M → Prop) (K : am_KK) (m : am_M) : Prop :=
  M_X12_looksAt_J4 v0 v2 v3 v5 s0 1 C94 C80 K m
def M_X12_looksAt_L4B (v0 : Int) (v2 : Int) (v3 : Int) (v4 : Int) (v5 : Int) (C94 : Int → Int → am_M → Prop) (C80 : Int → Int → am_M → Prop) (K : am_KK) (m : am_M) : Prop :=
  (((m v0 46) ≤ v5) →
  ((0 : Int) ≤ v4 ∧ v4 < am_len (am_rfv v0 42)) ∧
  ((0 : Int) ≤ v3 ∧ v3 < am_len (am_rfv v0 43)) ∧
  ∀ m_7 : am_M, m_7 = am_st m (am_rfv v0 43) v3 (m (am_rfv v0 42) v4) →
  ((0 : Int) ≤ v3 ∧ v3 < am_len (am_rfv v0 43)) ∧
  ((0 : Int) ≤ v3 ∧ v3 < am_len (am_rfv v0 40)) ∧
  ((0 : Int) ≤ (w32 (308 + (m_7 (am_rfv v0 40) v3))) ∧ (w32 (308 + (m_7 (am_rfv v0 40) v3))) < am_len (am_rfv v0 2)) ∧
  ∀ v2_8 : Int, v2_8 = w32 (v2 + (w32 ((m_7 (am_rfv v0 43) v3) * (m_7 (am_rfv v0 2) (w32 (308 + (m_7 (am_rfv v0 40) v3))))))) →
  ∀ v3_9 : Int, v3_9 = w32 (v3 + 1) →
  C80 v2_8 v3_9 m_7) ∧ (¬ ((m v0 46) ≤ v5) →
  ((0 : Int) ≤ v5 ∧ v5 < am_len (am_rfv v0 40)) ∧
  ((0 : Int) ≤ (w32 (308 + (m (am_rfv v0 40) v5))) ∧ (w32 (308 + (m (am_rfv v0 40) v5))) < am_len (am_rfv v0 2)) ∧
  ∀ v6_10 : Int, v6_10 = m (am_rfv v0 2) (w32 (308 + (m (am_rfv v0 40) v5))) →
  ((0 : Int) ≤ v3 ∧ v3 < am_len (am_rfv v0 40)) ∧
  ((0 : Int) ≤ (w32 (308 + (m (am_rfv v0 40) v3))) ∧ (w32 (308 + (m (am_rfv v0 40) v3))) < am_len (am_rfv v0 2)) ∧
  ∀ v7_11 : Int, v7_11 = m (am_rfv v0 2) (w32 (308 + (m (am_rfv v0 40) v3))) →
  ((v7_11 < v6_10) →
  M_X12_looksAt_J2 v0 v2 v3 v5 v4 C94 C80 K m) ∧ (¬ (v7_11 < v6_10) →
  ((v6_10 ≠ v7_11) →
  M_X12_looksAt_J3 v0 v2 v3 v5 v4 C94 C80 K m) ∧ (¬ (v6_10 ≠ v7_11) →
  ((v3 ≤ v5) →
  M_X12_looksAt_J3 v0 v2 v3 v5 v4 C94 C80 K m) ∧ (¬ (v3 ≤ v5) →
  M_X12_looksAt_J2 v0 v2 v3 v5 v4 C94 C80 K m))))
def M_X12_looksAt_L4 (v0 : Int) (v2 : Int) (v3 : Int) (v4 : Int) (v5 : Int) (C80 : Int → Int → am_M → Prop) (K : am_KK) (m : am_M) : Prop :=
  ∃ I : Nat → Int → Int → am_M → Prop, (∃ j, I j v4 v5 m) ∧ ∀ j v4 v5 m, I j v4 v5 m → M_X12_looksAt_L4B v0 v2 v3 v4 v5 (fun v4' v5' m' => ∃ j', j' < j ∧ I j' v4' v5' m') C80 K m
def M_X12_looksAt_L3B (v0 : Int) (v2 : Int) (v3 : Int) (C80 : Int → Int → am_M → Prop) (K : am_KK) (m : am_M) : Prop :=
  (((m v0 46) ≤ v3) →
  (((m v0 47) ≤ v2) →
  M_X12_looksAt_J5 v0 v2 0 K m) ∧ (¬ ((m v0 47) ≤ v2) →
  M_X12_looksAt_J5 v0 v2 1 K m)) ∧ (¬ ((m v0 46) ≤ v3) →
  M_X12_looksAt_L4 v0 v2 v3 0 0 C80 K m)
def M_X12_looksAt_L3 (v0 : Int) (v2 : Int) (v3 : Int) (K : am_KK) (m : am_M) : Prop :=
  ∃ I : Nat → Int → Int → am_M → Prop, (∃ j, I j v2 v3 m) ∧ ∀ j v2 v3 m, I j v2 v3 m → M_X12_looksAt_L3B v0 v2 v3 (fun v2' v3' m' => ∃ j', j' < j ∧ I j' v2' v3' m') K m
def M_X12_looksAt_J1 (v0 : Int) (v1 : Int) (v2 : Int) (v3 : Int) (v4 : Int) (C2 : Int → am_M → Prop) (K : am_KK) (m : am_M) : Prop :=
  ((0 : Int) ≤ v3 ∧ v3 < am_len (am_rfv v0 42)) ∧
  ∀ m_12 : am_M, m_12 = am_st m (am_rfv v0 42) v3 v4 →
  ∀ v2_13 : Int, v2_13 = w32 (v2 + 1) →
  C2 v2_13 m_12
def M_X12_looksAt_L2B (v0 : Int) (v1 : Int) (v2 : Int) (v3 : Int) (v4 : Int) (C25 : Int → am_M → Prop) (C2 : Int → am_M → Prop) (K : am_KK) (m : am_M) : Prop :=
  ((v3 ≤ 0) →
  M_X12_looksAt_J1 v0 v1 v2 v3 v4 C2 K m) ∧ (¬ (v3 ≤ 0) →
  ((0 : Int) ≤ (w32 (v3 - 1)) ∧ (w32 (v3 - 1)) < am_len (am_rfv v0 42)) ∧
  (((m (am_rfv v0 42) (w32 (v3 - 1))) ≤ v4) →
  M_X12_looksAt_J1 v0 v1 v2 v3 v4 C2 K m) ∧ (¬ ((m (am_rfv v0 42) (w32 (v3 - 1))) ≤ v4) →
  ((0 : Int) ≤ (w32 (v3 - 1)) ∧ (w32 (v3 - 1)) < am_len (am_rfv v0 42)) ∧
  ((0 : Int) ≤ v3 ∧ v3 < am_len (am_rfv v0 42)) ∧
  ∀ m_14 : am_M, m_14 = am_st m (am_rfv v0 42) v3 (m (am_rfv v0 42) (w32 (v3 - 1))) →
  ∀ v3_15 : Int, v3_15 = w32 (v3 + (-1)) →
  C25 v3_15 m_14))
def M_X12_looksAt_L2 (v0 : Int) (v1 : Int) (v2 : Int) (v3 : Int) (v4 : Int) (C2 : Int → am_M → Prop) (K : am_KK) (m : am_M) : Prop :=
  ∃ I : Nat → Int → am_M → Prop, (∃ j, I j v3 m) ∧ ∀ j v3 m, I j v3 m → M_X12_looksAt_L2B v0 v1 v2 v3 v4 (fun v3' m' => ∃ j', j' < j ∧ I j' v3' m') C2 K m
def M_X12_looksAt_L1B (v0 : Int) (v1 : Int) (v2 : Int) (C2 : Int → am_M → Prop) (K : am_KK) (m : am_M) : Prop :=
  (((m v0 46) ≤ v2) →
  M_X12_looksAt_L3 v0 0 0 K m) ∧ (¬ ((m v0 46) ≤ v2) →
  ((0 : Int) ≤ (w32 ((w32 (6 * v1)) + v2)) ∧ (w32 ((w32 (6 * v1)) + v2)) < am_len (am_rfv v0 41)) ∧
  ∀ v4_16 : Int, v4_16 = m (am_rfv v0 41) (w32 ((w32 (6 * v1)) + v2)) →
  M_X12_looksAt_L2 v0 v1 v2 v2 v4_16 C2 K m)
def M_X12_looksAt_L1 (v0 : Int) (v1 : Int) (v2 : Int) (K : am_KK) (m : am_M) : Prop :=
  ∃ I : Nat → Int → am_M → Prop, (∃ j, I j v2 m) ∧ ∀ j v2 m, I j v2 m → M_X12_looksAt_L1B v0 v1 v2 (fun v2' m' => ∃ j', j' < j ∧ I j' v2' m') K m
def M_X12_looksAt (v0 : Int) (v1 : Int) (K : am_KK) (m : am_M) : Prop :=
  M_X12_looksAt_L1 v0 v1 0 K m
def N_X12_looksAt : am_PT := fun zs K m => match zs with
  | [v0, v1] => am_ob v0 12 ∧ M_X12_looksAt v0 v1 K m
  | _ => False
def M_X12_parts_J1 (R : Nat → am_PT) (v0 : Int) (v1 : Int) (v2 : Int) (v3 : Int) (C16 : Int → am_M → Prop) (K : am_KK) (m : am_M) : Prop :=
  ∀ v3_1 : Int, v3_1 = w32 (v3 + 1) →
  C16 v3_1 m
def M_X12_parts_L4B (R : Nat → am_PT) (v0 : Int) (v1 : Int) (v2 : Int) (v3 : Int) (v4 : Int) (v5 : Int) (v6 : Int) (v7 : Int) (C125 : Int → am_M → Prop) (C24 : Int → am_M → Prop) (C16 : Int → am_M → Prop) (K : am_KK) (m : am_M) : Prop :=
  ((v4 ≤ v7) →
  R 0 [v0, w32 (v1 + 1), w32 ((w32 (v2 - 1)) + v4)] (fun _ m_3 =>
  ∀ v4_4 : Int, v4_4 = w32 (v4 + 1) →
  C24 v4_4 m_3) m) ∧ (¬ (v4 ≤ v7) →
  ((0 : Int) ≤ v7 ∧ v7 < am_len (am_rfv v0 39)) ∧
  ((0 : Int) ≤ (w32 ((w32 ((w32 (v5 + v2)) - 1)) + v7)) ∧ (w32 ((w32 ((w32 (v5 + v2)) - 1)) + v7)) < am_len (am_rfv v0 41)) ∧
  ∀ m_5 : am_M, m_5 = am_st m (am_rfv v0 41) (w32 ((w32 ((w32 (v5 + v2)) - 1)) + v7)) (w32 (v6 + (m (am_rfv v0 39) v7))) →
  ∀ v7_6 : Int, v7_6 = w32 (v7 + 1) →
  C125 v7_6 m_5)
def M_X12_parts_L4 (R : Nat → am_PT) (v0 : Int) (v1 : Int) (v2 : Int) (v3 : Int) (v4 : Int) (v5 : Int) (v6 : Int) (v7 : Int) (C24 : Int → am_M → Prop) (C16 : Int → am_M → Prop) (K : am_KK) (m : am_M) : Prop :=
  ∃ I : Nat → Int → am_M → Prop, (∃ j, I j v7 m) ∧ ∀ j v7 m, I j v7 m → M_X12_parts_L4B R v0 v1 v2 v3 v4 v5 v6 v7 (fun v7' m' => ∃ j', j' < j ∧ I j' v7' m') C24 C16 K m
def M_X12_parts_L3B (R : Nat → am_PT) (v0 : Int) (v1 : Int) (v2 : Int) (v3 : Int) (v4 : Int) (v5 : Int) (v6 : Int) (C57 : Int → am_M → Prop) (C24 : Int → am_M → Prop) (C16 : Int → am_M → Prop) (K : am_KK) (m : am_M) : Prop :=
  ((v2 ≤ v6) →
  ((0 : Int) ≤ (w32 ((w32 (6 * v1)) + v3)) ∧ (w32 ((w32 (6 * v1)) + v3)) < am_len (am_rfv v0 41)) ∧
  ∀ v6_7 : Int, v6_7 = m (am_rfv v0 41) (w32 ((w32 (6 * v1)) + v3)) →
  ((0 : Int) ≤ 0 ∧ 0 < am_len (am_rfv v0 39)) ∧
  ((0 : Int) ≤ (w32 (v5 + v3)) ∧ (w32 (v5 + v3)) < am_len (am_rfv v0 41)) ∧
  ∀ m_8 : am_M, m_8 = am_st m (am_rfv v0 41) (w32 (v5 + v3)) (w32 (v6_7 + (m (am_rfv v0 39) 0))) →
  M_X12_parts_L4 R v0 v1 v2 v3 v4 v5 v6_7 1 C24 C16 K m_8) ∧ (¬ (v2 ≤ v6) →
  ((0 : Int) ≤ (w32 ((w32 (6 * v1)) + v6)) ∧ (w32 ((w32 (6 * v1)) + v6)) < am_len (am_rfv v0 41)) ∧
  ((0 : Int) ≤ (w32 (v5 + v6)) ∧ (w32 (v5 + v6)) < am_len (am_rfv v0 41)) ∧
  ∀ m_9 : am_M, m_9 = am_st m (am_rfv v0 41) (w32 (v5 + v6)) (m (am_rfv v0 41) (w32 ((w32 (6 * v1)) + v6))) →
  ∀ v6_10 : Int, v6_10 = w32 (v6 + 1) →
  C57 v6_10 m_9)
def M_X12_parts_L3 (R : Nat → am_PT) (v0 : Int) (v1 : Int) (v2 : Int) (v3 : Int) (v4 : Int) (v5 : Int) (v6 : Int) (C24 : Int → am_M → Prop) (C16 : Int → am_M → Prop) (K : am_KK) (m : am_M) : Prop :=
  ∃ I : Nat → Int → am_M → Prop, (∃ j, I j v6 m) ∧ ∀ j v6 m, I j v6 m → M_X12_parts_L3B R v0 v1 v2 v3 v4 v5 v6 (fun v6' m' => ∃ j', j' < j ∧ I j' v6' m') C24 C16 K m
def M_X12_parts_L2B (R : Nat → am_PT) (v0 : Int) (v1 : Int) (v2 : Int) (v3 : Int) (v4 : Int) (C24 : Int → am_M → Prop) (C16 : Int → am_M → Prop) (K : am_KK) (m : am_M) : Prop :=
  (((m v0 45) < v4) →
  M_X12_parts_J1 R v0 v1 v2 v3 C16 K m) ∧ (¬ ((m v0 45) < v4) →
  (((m v0 46) < (w32 ((w32 (v2 - 1)) + v4))) →
  M_X12_parts_J1 R v0 v1 v2 v3 C16 K m) ∧ (¬ ((m v0 46) < (w32 ((w32 (v2 - 1)) + v4))) →
  ∀ v5_11 : Int, v5_11 = w32 (6 * (w32 (v1 + 1))) →
  M_X12_parts_L3 R v0 v1 v2 v3 v4 v5_11 0 C24 C16 K m))
def M_X12_parts_L2 (R : Nat → am_PT) (v0 : Int) (v1 : Int) (v2 : Int) (v3 : Int) (v4 : Int) (C16 : Int → am_M → Prop) (K : am_KK) (m : am_M) : Prop :=
  ∃ I : Nat → Int → am_M → Prop, (∃ j, I j v4 m) ∧ ∀ j v4 m, I j v4 m → M_X12_parts_L2B R v0 v1 v2 v3 v4 (fun v4' m' => ∃ j', j' < j ∧ I j' v4' m') C16 K m
def M_X12_parts_L1B (R : Nat → am_PT) (v0 : Int) (v1 : Int) (v2 : Int) (v3 : Int) (C16 : Int → am_M → Prop) (K : am_KK) (m : am_M) : Prop :=
  ((v2 ≤ v3) →
  K 0 m) ∧ (¬ (v2 ≤ v3) →
  M_X12_parts_L2 R v0 v1 v2 v3 2 C16 K m)
def M_X12_parts_L1 (R : Nat → am_PT) (v0 : Int) (v1 : Int) (v2 : Int) (v3 : Int) (K : am_KK) (m : am_M) : Prop :=
  ∃ I : Nat → Int → am_M → Prop, (∃ j, I j v3 m) ∧ ∀ j v3 m, I j v3 m → M_X12_parts_L1B R v0 v1 v2 v3 (fun v3' m' => ∃ j', j' < j ∧ I j' v3' m') K m
def M_X12_parts (R : Nat → am_PT) (v0 : Int) (v1 : Int) (v2 : Int) (K : am_KK) (m : am_M) : Prop :=
  ((v2 ≠ (m v0 46)) →
  M_X12_parts_L1 R v0 v1 v2 0 K m) ∧ (¬ (v2 ≠ (m v0 46)) →
  M_X12_looksAt v0 v1 (fun _ m_13 =>
  K 0 m_13) m)
def N_X12_parts (R : Nat → am_PT) : am_PT := fun zs K m => match zs with
  | [v0, v1, v2] => am_ob v0 12 ∧ M_X12_parts R v0 v1 v2 K m
  | _ => False
def R_X12_parts : Nat → Nat → am_PT
  | 0, _ => fun _ _ _ => False
  | k + 1, i => match i with
    | 0 => N_X12_parts (R_X12_parts k)
    | _ => fun _ _ _ => False
def M_X12_listsLetters_J2 (v0 : Int) (v1 : Int) (v2 : Int) (C29 : Int → am_M → Prop) (K : am_KK) (m : am_M) : Prop :=
  ∀ v2_1 : Int, v2_1 = w32 (v2 + 1) →
  C29 v2_1 m
def M_X12_listsLetters_J1 (v0 : Int) (v1 : Int) (v2 : Int) (v3 : Int) (C29 : Int → am_M → Prop) (K : am_KK) (m : am_M) : Prop :=
  ((0 : Int) ≤ (w32 (170 + v2)) ∧ (w32 (170 + v2)) < am_len (am_rfv v0 2)) ∧
  ((0 : Int) ≤ v3 ∧ v3 < am_len (am_rfv v0 39)) ∧
  ∀ m_2 : am_M, m_2 = am_st m (am_rfv v0 39) v3 (m (am_rfv v0 2) (w32 (170 + v2))) →
  ∀ m_3 : am_M, m_3 = am_st m_2 v0 45 (w32 ((m_2 v0 45) + 1)) →
  M_X12_listsLetters_J2 v0 v1 v2 C29 K m_3
def M_X12_listsLetters_L2B (v0 : Int) (v1 : Int) (v2 : Int) (v3 : Int) (C67 : Int → am_M → Prop) (C29 : Int → am_M → Prop) (K : am_KK) (m : am_M) : Prop :=
  ((v3 ≤ 0) →
  M_X12_listsLetters_J1 v0 v1 v2 v3 C29 K m) ∧ (¬ (v3 ≤ 0) →
  ((0 : Int) ≤ (w32 (v3 - 1)) ∧ (w32 (v3 - 1)) < am_len (am_rfv v0 39)) ∧
  ((0 : Int) ≤ (w32 (170 + v2)) ∧ (w32 (170 + v2)) < am_len (am_rfv v0 2)) ∧
  (((m (am_rfv v0 39) (w32 (v3 - 1))) ≤ (m (am_rfv v0 2) (w32 (170 + v2)))) →
  M_X12_listsLetters_J1 v0 v1 v2 v3 C29 K m) ∧ (¬ ((m (am_rfv v0 39) (w32 (v3 - 1))) ≤ (m (am_rfv v0 2) (w32 (170 + v2)))) →
  ((0 : Int) ≤ (w32 (v3 - 1)) ∧ (w32 (v3 - 1)) < am_len (am_rfv v0 39)) ∧
  ((0 : Int) ≤ v3 ∧ v3 < am_len (am_rfv v0 39)) ∧
  ∀ m_4 : am_M, m_4 = am_st m (am_rfv v0 39) v3 (m (am_rfv v0 39) (w32 (v3 - 1))) →
  ∀ v3_5 : Int, v3_5 = w32 (v3 + (-1)) →
  C67 v3_5 m_4))
def M_X12_listsLetters_L2 (v0 : Int) (v1 : Int) (v2 : Int) (v3 : Int) (C29 : Int → am_M → Prop) (K : am_KK) (m : am_M) : Prop :=
  ∃ I : Nat → Int → am_M → Prop, (∃ j, I j v3 m) ∧ ∀ j v3 m, I j v3 m → M_X12_listsLetters_L2B v0 v1 v2 v3 (fun v3' m' => ∃ j', j' < j ∧ I j' v3' m') C29 K m
def M_X12_listsLetters_L1B (v0 : Int) (v1 : Int) (v2 : Int) (C29 : Int → am_M → Prop) (K : am_KK) (m : am_M) : Prop :=
  ((0 : Int) ≤ 363 ∧ 363 < am_len (am_rfv v0 2)) ∧
  (((m (am_rfv v0 2) 363) ≤ v2) →
  (((m v0 45) ≤ 1) →
  K 0 m) ∧ (¬ ((m v0 45) ≤ 1) →
  K 1 m)) ∧ (¬ ((m (am_rfv v0 2) 363) ≤ v2) →
  M_X12_isIn v1 v2 (fun r_6 m_7 =>
  ((r_6 ≠ 0) →
  (((m_7 v0 45) ≠ 3) →
  ∀ v3_9 : Int, v3_9 = m_7 v0 45 →
  M_X12_listsLetters_L2 v0 v1 v2 v3_9 C29 K m_7) ∧ (¬ ((m_7 v0 45) ≠ 3) →
  K 0 m_7)) ∧ (¬ (r_6 ≠ 0) →
  M_X12_listsLetters_J2 v0 v1 v2 C29 K m_7)) m)
def M_X12_listsLetters_L1 (v0 : Int) (v1 : Int) (v2 : Int) (K : am_KK) (m : am_M) : Prop :=
  ∃ I : Nat → Int → am_M → Prop, (∃ j, I j v2 m) ∧ ∀ j v2 m, I j v2 m → M_X12_listsLetters_L1B v0 v1 v2 (fun v2' m' => ∃ j', j' < j ∧ I j' v2' m') K m
def M_X12_listsLetters (v0 : Int) (v1 : Int) (K : am_KK) (m : am_M) : Prop :=
  ∀ m_10 : am_M, m_10 = am_st m v0 45 0 →
  ((0 : Int) ≤ 363 ∧ 363 < am_len (am_rfv v0 2)) ∧
  M_X12_lies v1 1 (w32 ((am_shl 1 (m_10 (am_rfv v0 2) 363)) - 1)) (fun r_11 m_12 =>
  ((r_11 ≠ 0) →
  M_X12_listsLetters_L1 v0 v1 0 K m_12) ∧ (¬ (r_11 ≠ 0) →
  K 0 m_12)) m_10
def N_X12_listsLetters : am_PT := fun zs K m => match zs with
  | [v0, v1] => am_ob v0 12 ∧ M_X12_listsLetters v0 v1 K m
  | _ => False
def M_X12_code_L2B (v0 : Int) (v2 : Int) (v3 : Int) (C183 : Int → am_M → Prop) (K : am_KK) (m : am_M) : Prop :=
  (((m v0 46) ≤ v3) →
  K (-1) m) ∧ (¬ ((m v0 46) ≤ v3) →
  ((0 : Int) ≤ v3 ∧ v3 < am_len (am_rfv v0 40)) ∧
  (((m (am_rfv v0 40) v3) ≠ (w32 (v2 - 1))) →
  ∀ v3_1 : Int, v3_1 = w32 (v3 + 1) →
  C183 v3_1 m) ∧ (¬ ((m (am_rfv v0 40) v3) ≠ (w32 (v2 - 1))) →
  ((0 : Int) ≤ v3 ∧ v3 < am_len (am_rfv v0 44)) ∧
  K (m (am_rfv v0 44) v3) m))
def M_X12_code_L2 (v0 : Int) (v2 : Int) (v3 : Int) (K : am_KK) (m : am_M) : Prop :=
  ∃ I : Nat → Int → am_M → Prop, (∃ j, I j v3 m) ∧ ∀ j v3 m, I j v3 m → M_X12_code_L2B v0 v2 v3 (fun v3' m' => ∃ j', j' < j ∧ I j' v3' m') K m
def M_X12_code_J4 (v0 : Int) (v2 : Int) (K : am_KK) (m : am_M) : Prop :=
  ((v2 ≠ 0) →
  M_X12_code_L2 v0 v2 0 K m) ∧ (¬ (v2 ≠ 0) →
  K (m v0 47) m)
def M_X12_code_J3 (v0 : Int) (v2 : Int) (K : am_KK) (m : am_M) : Prop :=
  ((0 : Int) ≤ 0 ∧ 0 < am_len (am_rfv v0 41)) ∧
  ∀ m_2 : am_M, m_2 = am_st m (am_rfv v0 41) 0 0 →
  (((m_2 v0 46) ≤ 1) →
  M_X12_code_J4 v0 v2 K m_2) ∧ (¬ ((m_2 v0 46) ≤ 1) →
  R_X12_parts 301 0 [v0, 0, 1] (fun _ m_4 =>
  M_X12_code_J4 v0 v2 K m_4) m_2)
def M_X12_code_J2 (v0 : Int) (v2 : Int) (K : am_KK) (m : am_M) : Prop :=
  (((m v0 46) ≠ 1) →
  M_X12_code_J3 v0 v2 K m) ∧ (¬ ((m v0 46) ≠ 1) →
  ((0 : Int) ≤ 0 ∧ 0 < am_len (am_rfv v0 39)) ∧
  ((0 : Int) ≤ 0 ∧ 0 < am_len (am_rfv v0 44)) ∧
  ∀ m_5 : am_M, m_5 = am_st m (am_rfv v0 44) 0 (m (am_rfv v0 39) 0) →
  ((0 : Int) ≤ 0 ∧ 0 < am_len (am_rfv v0 39)) ∧
  ((0 : Int) ≤ 0 ∧ 0 < am_len (am_rfv v0 40)) ∧
  ((0 : Int) ≤ (w32 (308 + (m_5 (am_rfv v0 40) 0))) ∧ (w32 (308 + (m_5 (am_rfv v0 40) 0))) < am_len (am_rfv v0 2)) ∧
  ∀ m_6 : am_M, m_6 = am_st m_5 v0 47 (w32 ((m_5 (am_rfv v0 39) 0) * (m_5 (am_rfv v0 2) (w32 (308 + (m_5 (am_rfv v0 40) 0)))))) →
  M_X12_code_J3 v0 v2 K m_6)
def M_X12_code_J1 (v0 : Int) (v2 : Int) (v3 : Int) (C27 : Int → am_M → Prop) (K : am_KK) (m : am_M) : Prop :=
  ∀ v3_7 : Int, v3_7 = w32 (v3 + 1) →
  C27 v3_7 m
def M_X12_code_L1B (v0 : Int) (v2 : Int) (v3 : Int) (C27 : Int → am_M → Prop) (K : am_KK) (m : am_M) : Prop :=
  ((8 ≤ v3) →
  ∀ m_8 : am_M, m_8 = am_st m v0 47 1000000000 →
  (((m_8 v0 46) ≠ 0) →
  M_X12_code_J2 v0 v2 K m_8) ∧ (¬ ((m_8 v0 46) ≠ 0) →
  ∀ m_9 : am_M, m_9 = am_st m_8 v0 47 0 →
  M_X12_code_J2 v0 v2 K m_9)) ∧ (¬ (8 ≤ v3) →
  ((0 : Int) ≤ (w32 (308 + v3)) ∧ (w32 (308 + v3)) < am_len (am_rfv v0 2)) ∧
  (((m (am_rfv v0 2) (w32 (308 + v3))) ≠ 0) →
  (((m v0 46) ≠ 6) →
  ((0 : Int) ≤ (m v0 46) ∧ (m v0 46) < am_len (am_rfv v0 40)) ∧
  ∀ m_10 : am_M, m_10 = am_st m (am_rfv v0 40) (m v0 46) v3 →
  ∀ m_11 : am_M, m_11 = am_st m_10 v0 46 (w32 ((m_10 v0 46) + 1)) →
  M_X12_code_J1 v0 v2 v3 C27 K m_11) ∧ (¬ ((m v0 46) ≠ 6) →
  K (-1) m)) ∧ (¬ ((m (am_rfv v0 2) (w32 (308 + v3))) ≠ 0) →
  M_X12_code_J1 v0 v2 v3 C27 K m))
def M_X12_code_L1 (v0 : Int) (v2 : Int) (v3 : Int) (K : am_KK) (m : am_M) : Prop :=
  ∃ I : Nat → Int → am_M → Prop, (∃ j, I j v3 m) ∧ ∀ j v3 m, I j v3 m → M_X12_code_L1B v0 v2 v3 (fun v3' m' => ∃ j', j' < j ∧ I j' v3' m') K m
def M_X12_code (v0 : Int) (v1 : Int) (v2 : Int) (K : am_KK) (m : am_M) : Prop :=
  M_X12_listsLetters v0 v1 (fun r_12 m_13 =>
  ((r_12 = 0) →
  K (-1) m_13) ∧ (¬ (r_12 = 0) →
  M_X12_lies v2 0 8 (fun r_15 m_16 =>
  ((r_15 ≠ 0) →
  ∀ m_18 : am_M, m_18 = am_st m_16 v0 46 0 →
  M_X12_code_L1 v0 v2 0 K m_18) ∧ (¬ (r_15 ≠ 0) →
  K (-1) m_16)) m_13)) m
def N_X12_code : am_PT := fun zs K m => match zs with
  | [v0, v1, v2] => am_ob v0 12 ∧ M_X12_code v0 v1 v2 K m
  | _ => False
def M_X12_bundle_J1 (v0 : Int) (K : am_KK) (m : am_M) : Prop :=
  M_X12_refuses v0 (-1) (fun r_1 m_2 =>
  K r_1 m_2) m
def M_X12_bundle (v0 : Int) (v1 : Int) (v2 : Int) (K : am_KK) (m : am_M) : Prop :=
  M_X12_lies v1 1 255 (fun r_3 m_4 =>
  ((r_3 = 0) →
  M_X12_bundle_J1 v0 K m_4) ∧ (¬ (r_3 = 0) →
  M_X12_lies v2 1 99 (fun r_6 m_7 =>
  ((r_6 ≠ 0) →
  ((0 : Int) ≤ 366 ∧ 366 < am_len (am_rfv v0 2)) ∧
  ∀ v3_9 : Int, v3_9 = m_7 (am_rfv v0 2) 366 →
  ((v3_9 ≠ 10) →
  ((0 : Int) ≤ (w32 (322 + (w32 (2 * v3_9)))) ∧ (w32 (322 + (w32 (2 * v3_9)))) < am_len (am_rfv v0 2)) ∧
  ∀ m_10 : am_M, m_10 = am_st m_7 (am_rfv v0 2) (w32 (322 + (w32 (2 * v3_9)))) v1 →
  ((0 : Int) ≤ (w32 ((w32 (322 + (w32 (2 * v3_9)))) + 1)) ∧ (w32 ((w32 (322 + (w32 (2 * v3_9)))) + 1)) < am_len (am_rfv v0 2)) ∧
  ∀ m_11 : am_M, m_11 = am_st m_10 (am_rfv v0 2) (w32 ((w32 (322 + (w32 (2 * v3_9)))) + 1)) v2 →
  ((0 : Int) ≤ 366 ∧ 366 < am_len (am_rfv v0 2)) ∧
  ((0 : Int) ≤ 366 ∧ 366 < am_len (am_rfv v0 2)) ∧
  ∀ m_12 : am_M, m_12 = am_st m_11 (am_rfv v0 2) 366 (w32 ((m_11 (am_rfv v0 2) 366) + 1)) →
  M_X12_good v0 v3_9 (fun r_13 m_14 =>
  K r_13 m_14) m_12) ∧ (¬ (v3_9 ≠ 10) →
  M_X12_refuses v0 (-5) (fun r_15 m_16 =>
  K r_15 m_16) m_7)) ∧ (¬ (r_6 ≠ 0) →
  M_X12_bundle_J1 v0 K m_7)) m_4)) m
def N_X12_bundle : am_PT := fun zs K m => match zs with
  | [v0, v1, v2] => am_ob v0 12 ∧ M_X12_bundle v0 v1 v2 K m
  | _ => False
def M_X12_cover_J4 (v0 : Int) (v1 : Int) (v2 : Int) (v3 : Int) (v4 : Int) (v5 : Int) (C30 : Int → Int → Int → am_M → Prop) (K : am_KK) (m : am_M) : Prop :=
  ∀ v5_1 : Int, v5_1 = w32 (v5 + 1) →
  C30 v3 v4 v5_1 m
def M_X12_cover_J3 (v0 : Int) (v1 : Int) (v2 : Int) (v5 : Int) (v7 : Int) (C30 : Int → Int → Int → am_M → Prop) (K : am_KK) (m : am_M) : Prop :=
  M_X12_cover_J4 v0 v1 v2 v5 v7 v5 C30 K m
def M_X12_cover_J2 (v0 : Int) (v1 : Int) (v2 : Int) (v3 : Int) (v4 : Int) (v5 : Int) (v6 : Int) (v8 : Int) (s0 : Int) (s1 : Int) (C54 : Int → Int → Int → am_M → Prop) (C30 : Int → Int → Int → am_M → Prop) (K : am_KK) (m : am_M) : Prop :=
  ∀ v7_2 : Int, v7_2 = w32 (s0 + s1) →
  ∀ v8_3 : Int, v8_3 = w32 (v8 + 1) →
  C54 v6 v7_2 v8_3 m
def M_X12_cover_J1 (v0 : Int) (v1 : Int) (v2 : Int) (v3 : Int) (v4 : Int) (v5 : Int) (v7 : Int) (v8 : Int) (s0 : Int) (s1 : Int) (C54 : Int → Int → Int → am_M → Prop) (C30 : Int → Int → Int → am_M → Prop) (K : am_KK) (m : am_M) : Prop :=
  ∀ v6_4 : Int, v6_4 = am_or s0 s1 →
  M_X12_isIn v5 v8 (fun r_5 m_6 =>
  ((r_5 = 0) →
  M_X12_cover_J2 v0 v1 v2 v3 v4 v5 v6_4 v8 v7 0 C54 C30 K m_6) ∧ (¬ (r_5 = 0) →
  ((0 : Int) ≤ (w32 ((w32 (322 + (w32 (2 * v8)))) + 1)) ∧ (w32 ((w32 (322 + (w32 (2 * v8)))) + 1)) < am_len (am_rfv v0 2)) ∧
  M_X12_cover_J2 v0 v1 v2 v3 v4 v5 v6_4 v8 v7 (m_6 (am_rfv v0 2) (w32 ((w32 (322 + (w32 (2 * v8)))) + 1))) C54 C30 K m_6)) m
def M_X12_cover_L2B (v0 : Int) (v1 : Int) (v2 : Int) (v3 : Int) (v4 : Int) (v5 : Int) (v6 : Int) (v7 : Int) (v8 : Int) (C54 : Int → Int → Int → am_M → Prop) (C30 : Int → Int → Int → am_M → Prop) (K : am_KK) (m : am_M) : Prop :=
  ((0 : Int) ≤ 366 ∧ 366 < am_len (am_rfv v0 2)) ∧
  (((m (am_rfv v0 2) 366) ≤ v8) →
  (((am_and v1 (am_xor v6 (-1))) ≠ 0) →
  M_X12_cover_J4 v0 v1 v2 v3 v4 v5 C30 K m) ∧ (¬ ((am_and v1 (am_xor v6 (-1))) ≠ 0) →
  ((v3 = (-1)) →
  M_X12_cover_J3 v0 v1 v2 v5 v7 C30 K m) ∧ (¬ (v3 = (-1)) →
  ((v4 < v7) →
  M_X12_cover_J4 v0 v1 v2 v3 v4 v5 C30 K m) ∧ (¬ (v4 < v7) →
  ((v7 ≠ v4) →
  M_X12_cover_J3 v0 v1 v2 v5 v7 C30 K m) ∧ (¬ (v7 ≠ v4) →
  M_X12_ones v5 (fun r_8 m_9 =>
  M_X12_ones v3 (fun r_10 m_11 =>
  ((r_8 < r_10) →
  M_X12_cover_J3 v0 v1 v2 v5 v7 C30 K m_11) ∧ (¬ (r_8 < r_10) →
  M_X12_cover_J4 v0 v1 v2 v3 v4 v5 C30 K m_11)) m_9) m))))) ∧ (¬ ((m (am_rfv v0 2) 366) ≤ v8) →
  M_X12_isIn v5 v8 (fun r_12 m_13 =>
  ((r_12 = 0) →
  M_X12_cover_J1 v0 v1 v2 v3 v4 v5 v7 v8 v6 0 C54 C30 K m_13) ∧ (¬ (r_12 = 0) →
  ((0 : Int) ≤ (w32 (322 + (w32 (2 * v8)))) ∧ (w32 (322 + (w32 (2 * v8)))) < am_len (am_rfv v0 2)) ∧
  M_X12_cover_J1 v0 v1 v2 v3 v4 v5 v7 v8 v6 (m_13 (am_rfv v0 2) (w32 (322 + (w32 (2 * v8))))) C54 C30 K m_13)) m)
def M_X12_cover_L2 (v0 : Int) (v1 : Int) (v2 : Int) (v3 : Int) (v4 : Int) (v5 : Int) (v6 : Int) (v7 : Int) (v8 : Int) (C30 : Int → Int → Int → am_M → Prop) (K : am_KK) (m : am_M) : Prop :=
  ∃ I : Nat → Int → Int → Int → am_M → Prop, (∃ j, I j v6 v7 v8 m) ∧ ∀ j v6 v7 v8 m, I j v6 v7 v8 m → M_X12_cover_L2B v0 v1 v2 v3 v4 v5 v6 v7 v8 (fun v6' v7' v8' m' => ∃ j', j' < j ∧ I j' v6' v7' v8' m') C30 K m
def M_X12_cover_L1B (v0 : Int) (v1 : Int) (v2 : Int) (v3 : Int) (v4 : Int) (v5 : Int) (C30 : Int → Int → Int → am_M → Prop) (K : am_KK) (m : am_M) : Prop :=
  ((0 : Int) ≤ 366 ∧ 366 < am_len (am_rfv v0 2)) ∧
  (((am_shl 1 (m (am_rfv v0 2) 366)) ≤ v5) →
  ((v3 ≠ (-1)) →
  ((v2 ≠ 0) →
  K v3 m) ∧ (¬ (v2 ≠ 0) →
  K v4 m)) ∧ (¬ (v3 ≠ (-1)) →
  K (-1) m)) ∧ (¬ ((am_shl 1 (m (am_rfv v0 2) 366)) ≤ v5) →
  M_X12_cover_L2 v0 v1 v2 v3 v4 v5 0 0 0 C30 K m)
def M_X12_cover_L1 (v0 : Int) (v1 : Int) (v2 : Int) (v3 : Int) (v4 : Int) (v5 : Int) (K : am_KK) (m : am_M) : Prop :=
  ∃ I : Nat → Int → Int → Int → am_M → Prop, (∃ j, I j v3 v4 v5 m) ∧ ∀ j v3 v4 v5 m, I j v3 v4 v5 m → M_X12_cover_L1B v0 v1 v2 v3 v4 v5 (fun v3' v4' v5' m' => ∃ j', j' < j ∧ I j' v3' v4' v5' m') K m
def M_X12_cover (v0 : Int) (v1 : Int) (v2 : Int) (K : am_KK) (m : am_M) : Prop :=
  M_X12_lies v1 1 255 (fun r_15 m_16 =>
  ((r_15 = 0) →
  K (-1) m_16) ∧ (¬ (r_15 = 0) →
  M_X12_lies v2 0 1 (fun r_18 m_19 =>
  ((r_18 ≠ 0) →
  M_X12_cover_L1 v0 v1 v2 (-1) 0 0 K m_19) ∧ (¬ (r_18 ≠ 0) →
  K (-1) m_19)) m_16)) m
def N_X12_cover : am_PT := fun zs K m => match zs with
  | [v0, v1, v2] => am_ob v0 12 ∧ M_X12_cover v0 v1 v2 K m
  | _ => False
def M_X12_when_J2 (v0 : Int) (s0 : Int) (K : am_KK) (m : am_M) : Prop :=
  M_X12_takesBack v0 0 (fun _ m_2 =>
  K s0 m_2) m
def M_X12_when_J1 (v0 : Int) (v1 : Int) (v3 : Int) (K : am_KK) (m : am_M) : Prop :=
  M_X12_fact v0 v1 5 (fun r_3 m_4 =>
  ((r_3 ≠ 0) →
  ((v3 ≠ 0) →
  M_X12_fact v0 v1 5 (fun r_5 m_6 =>
  ((r_5 ≠ 1) →
  M_X12_when_J2 v0 0 K m_6) ∧ (¬ (r_5 ≠ 1) →
  M_X12_when_J2 v0 1 K m_6)) m_4) ∧ (¬ (v3 ≠ 0) →
  M_X12_fact v0 v1 6 (fun r_7 m_8 =>
  M_X12_when_J2 v0 r_7 K m_8) m_4)) ∧ (¬ (r_3 ≠ 0) →
  M_X12_when_J2 v0 (-1) K m_4)) m
def M_X12_when_L1B (v0 : Int) (v1 : Int) (v2 : Int) (v3 : Int) (v4 : Int) (C37 : Int → am_M → Prop) (K : am_KK) (m : am_M) : Prop :=
  ((v2 ≤ v4) →
  M_X12_when_J1 v0 v1 v3 K m) ∧ (¬ (v2 ≤ v4) →
  M_X12_fact v0 v1 5 (fun r_9 m_10 =>
  ((r_9 ≠ 0) →
  M_X12_when_J1 v0 v1 v3 K m_10) ∧ (¬ (r_9 ≠ 0) →
  ((0 : Int) ≤ 169 ∧ 169 < am_len (am_rfv v0 2)) ∧
  ((999 ≤ (m_10 (am_rfv v0 2) 169)) →
  M_X12_when_J1 v0 v1 v3 K m_10) ∧ (¬ (999 ≤ (m_10 (am_rfv v0 2) 169)) →
  M_X12_dawns v0 (fun r_11 m_12 =>
  ∀ v4_13 : Int, v4_13 = w32 (v4 + 1) →
  C37 v4_13 m_12) m_10))) m)
def M_X12_when_L1 (v0 : Int) (v1 : Int) (v2 : Int) (v3 : Int) (v4 : Int) (K : am_KK) (m : am_M) : Prop :=
  ∃ I : Nat → Int → am_M → Prop, (∃ j, I j v4 m) ∧ ∀ j v4 m, I j v4 m → M_X12_when_L1B v0 v1 v2 v3 v4 (fun v4' m' => ∃ j', j' < j ∧ I j' v4' m') K m
def M_X12_when (v0 : Int) (v1 : Int) (v2 : Int) (v3 : Int) (K : am_KK) (m : am_M) : Prop :=
  M_X12_isWaiting v0 v1 (fun r_14 m_15 =>
  ((r_14 = 0) →
  K (-1) m_15) ∧ (¬ (r_14 = 0) →
  M_X12_lies v2 1 50 (fun r_17 m_18 =>
  ((r_17 = 0) →
  K (-1) m_18) ∧ (¬ (r_17 = 0) →
  M_X12_lies v3 0 1 (fun r_20 m_21 =>
  ((r_20 ≠ 0) →
  M_X12_laysAside v0 0 (fun _ m_24 =>
  M_X12_when_L1 v0 v1 v2 v3 0 K m_24) m_21) ∧ (¬ (r_20 ≠ 0) →
  K (-1) m_21)) m_18)) m_15)) m
def N_X12_when : am_PT := fun zs K m => match zs with
  | [v0, v1, v2, v3] => am_ob v0 12 ∧ M_X12_when v0 v1 v2 v3 K m
  | _ => False
def M_X12_longest_J1 (v0 : Int) (v1 : Int) (v2 : Int) (v3 : Int) (v5 : Int) (s0 : Int) (C56 : Int → Int → am_M → Prop) (K : am_KK) (m : am_M) : Prop :=
  M_X12_takesBack v0 0 (fun _ m_2 =>
  ∀ v5_3 : Int, v5_3 = w32 (v5 + (-1)) →
  C56 s0 v5_3 m_2) m
def M_X12_longest_L1B (v0 : Int) (v1 : Int) (v2 : Int) (v3 : Int) (v4 : Int) (v5 : Int) (C56 : Int → Int → am_M → Prop) (K : am_KK) (m : am_M) : Prop :=
  ((v5 ≤ 0) →
  K v4 m) ∧ (¬ (v5 ≤ 0) →
  ((v4 ≠ (-1)) →
  K v4 m) ∧ (¬ (v4 ≠ (-1)) →
  M_X12_prayers v0 (fun r_4 m_5 =>
  M_X12_says v0 v1 v2 v5 v3 (fun _ m_7 =>
  M_X12_dawns v0 (fun r_8 m_9 =>
  M_X12_fact v0 r_4 5 (fun r_10 m_11 =>
  ((r_10 ≠ 1) →
  M_X12_longest_J1 v0 v1 v2 v3 v5 (-1) C56 K m_11) ∧ (¬ (r_10 ≠ 1) →
  M_X12_longest_J1 v0 v1 v2 v3 v5 v5 C56 K m_11)) m_9) m_7) m_5) m))
def M_X12_longest_L1 (v0 : Int) (v1 : Int) (v2 : Int) (v3 : Int) (v4 : Int) (v5 : Int) (K : am_KK) (m : am_M) : Prop :=
  ∃ I : Nat → Int → Int → am_M → Prop, (∃ j, I j v4 v5 m) ∧ ∀ j v4 v5 m, I j v4 v5 m → M_X12_longest_L1B v0 v1 v2 v3 v4 v5 (fun v4' v5' m' => ∃ j', j' < j ∧ I j' v4' v5' m') K m
def M_X12_longest (v0 : Int) (v1 : Int) (v2 : Int) (v3 : Int) (K : am_KK) (m : am_M) : Prop :=
  M_X12_isPerson v0 v1 (fun r_12 m_13 =>
  ((r_12 = 0) →
  K (-1) m_13) ∧ (¬ (r_12 = 0) →
  M_X12_isThing v2 (fun r_15 m_16 =>
  ((r_15 = 0) →
  K (-1) m_16) ∧ (¬ (r_15 = 0) →
  M_X12_lies v3 1 6 (fun r_18 m_19 =>
  ((r_18 = 0) →
  K (-1) m_19) ∧ (¬ (r_18 = 0) →
  ((0 : Int) ≤ 169 ∧ 169 < am_len (am_rfv v0 2)) ∧
  (((m_19 (am_rfv v0 2) 169) ≠ 999) →
  M_X12_laysAside v0 0 (fun _ m_22 =>
  M_X12_breathOf v0 v1 (fun r_23 m_24 =>
  M_X12_longest_L1 v0 v1 v2 v3 (-1) r_23 K m_24) m_22) m_19) ∧ (¬ ((m_19 (am_rfv v0 2) 169) ≠ 999) →
  K (-1) m_19))) m_16)) m_13)) m
def N_X12_longest : am_PT := fun zs K m => match zs with
  | [v0, v1, v2, v3] => am_ob v0 12 ∧ M_X12_longest v0 v1 v2 v3 K m
  | _ => False
def M_X12_keep_J2 (v0 : Int) (v1 : Int) (v2 : Int) (v3 : Int) (v4 : Int) (v5 : Int) (v7 : Int) (s0 : Int) (C68 : Int → Int → am_M → Prop) (K : am_KK) (m : am_M) : Prop :=
  M_X12_takesBack v0 0 (fun _ m_2 =>
  ∀ v7_3 : Int, v7_3 = w32 (v7 + 1) →
  C68 s0 v7_3 m_2) m
def M_X12_keep_J1 (v0 : Int) (v1 : Int) (v2 : Int) (v3 : Int) (v4 : Int) (v5 : Int) (v7 : Int) (C68 : Int → Int → am_M → Prop) (K : am_KK) (m : am_M) : Prop :=
  M_X12_fact v0 v1 5 (fun r_4 m_5 =>
  ((r_4 ≠ 1) →
  M_X12_keep_J2 v0 v1 v2 v3 v4 v5 v7 v7 C68 K m_5) ∧ (¬ (r_4 ≠ 1) →
  M_X12_keep_J2 v0 v1 v2 v3 v4 v5 v7 (-1) C68 K m_5)) m
def M_X12_keep_L3B (v0 : Int) (v1 : Int) (v2 : Int) (v3 : Int) (v4 : Int) (v5 : Int) (v7 : Int) (v8 : Int) (C110 : Int → am_M → Prop) (C68 : Int → Int → am_M → Prop) (K : am_KK) (m : am_M) : Prop :=
  ((v2 ≤ v8) →
  M_X12_keep_J1 v0 v1 v2 v3 v4 v5 v7 C68 K m) ∧ (¬ (v2 ≤ v8) →
  ((0 : Int) ≤ 169 ∧ 169 < am_len (am_rfv v0 2)) ∧
  ((999 ≤ (m (am_rfv v0 2) 169)) →
  M_X12_keep_J1 v0 v1 v2 v3 v4 v5 v7 C68 K m) ∧ (¬ (999 ≤ (m (am_rfv v0 2) 169)) →
  M_X12_dawns v0 (fun r_6 m_7 =>
  ∀ v8_8 : Int, v8_8 = w32 (v8 + 1) →
  C110 v8_8 m_7) m))
def M_X12_keep_L3 (v0 : Int) (v1 : Int) (v2 : Int) (v3 : Int) (v4 : Int) (v5 : Int) (v7 : Int) (v8 : Int) (C68 : Int → Int → am_M → Prop) (K : am_KK) (m : am_M) : Prop :=
  ∃ I : Nat → Int → am_M → Prop, (∃ j, I j v8 m) ∧ ∀ j v8 m, I j v8 m → M_X12_keep_L3B v0 v1 v2 v3 v4 v5 v7 v8 (fun v8' m' => ∃ j', j' < j ∧ I j' v8' m') C68 K m
def M_X12_keep_L2B (v0 : Int) (v1 : Int) (v2 : Int) (v3 : Int) (v4 : Int) (v5 : Int) (v7 : Int) (v8 : Int) (C84 : Int → am_M → Prop) (C68 : Int → Int → am_M → Prop) (K : am_KK) (m : am_M) : Prop :=
  ((v7 ≤ v8) →
  M_X12_keep_L3 v0 v1 v2 v3 v4 v5 v7 0 C68 K m) ∧ (¬ (v7 ≤ v8) →
  M_X12_says v0 v3 v4 v5 1 (fun _ m_10 =>
  ∀ v8_11 : Int, v8_11 = w32 (v8 + 1) →
  C84 v8_11 m_10) m)
def M_X12_keep_L2 (v0 : Int) (v1 : Int) (v2 : Int) (v3 : Int) (v4 : Int) (v5 : Int) (v7 : Int) (v8 : Int) (C68 : Int → Int → am_M → Prop) (K : am_KK) (m : am_M) : Prop :=
  ∃ I : Nat → Int → am_M → Prop, (∃ j, I j v8 m) ∧ ∀ j v8 m, I j v8 m → M_X12_keep_L2B v0 v1 v2 v3 v4 v5 v7 v8 (fun v8' m' => ∃ j', j' < j ∧ I j' v8' m') C68 K m
def M_X12_keep_L1B (v0 : Int) (v1 : Int) (v2 : Int) (v3 : Int) (v4 : Int) (v5 : Int) (v6 : Int) (v7 : Int) (C68 : Int → Int → am_M → Prop) (K : am_KK) (m : am_M) : Prop :=
  ((8 < v7) →
  K v6 m) ∧ (¬ (8 < v7) →
  ((v6 ≠ (-1)) →
  K v6 m) ∧ (¬ (v6 ≠ (-1)) →
  M_X12_keep_L2 v0 v1 v2 v3 v4 v5 v7 0 C68 K m))
def M_X12_keep_L1 (v0 : Int) (v1 : Int) (v2 : Int) (v3 : Int) (v4 : Int) (v5 : Int) (v6 : Int) (v7 : Int) (K : am_KK) (m : am_M) : Prop :=
  ∃ I : Nat → Int → Int → am_M → Prop, (∃ j, I j v6 v7 m) ∧ ∀ j v6 v7 m, I j v6 v7 m → M_X12_keep_L1B v0 v1 v2 v3 v4 v5 v6 v7 (fun v6' v7' m' => ∃ j', j' < j ∧ I j' v6' v7' m') K m
def M_X12_keep (v0 : Int) (v1 : Int) (v2 : Int) (v3 : Int) (v4 : Int) (v5 : Int) (K : am_KK) (m : am_M) : Prop :=
  M_X12_isWaiting v0 v1 (fun r_12 m_13 =>
  ((r_12 = 0) →
  K (-1) m_13) ∧ (¬ (r_12 = 0) →
  M_X12_lies v2 1 20 (fun r_15 m_16 =>
  ((r_15 = 0) →
  K (-1) m_16) ∧ (¬ (r_15 = 0) →
  M_X12_isPerson v0 v3 (fun r_18 m_19 =>
  ((r_18 = 0) →
  K (-1) m_19) ∧ (¬ (r_18 = 0) →
  M_X12_isThing v4 (fun r_21 m_22 =>
  ((r_21 = 0) →
  K (-1) m_22) ∧ (¬ (r_21 = 0) →
  M_X12_lies v5 1 99 (fun r_24 m_25 =>
  ((r_24 = 0) →
  K (-1) m_25) ∧ (¬ (r_24 = 0) →
  M_X12_breathOf v0 v3 (fun r_27 m_28 =>
  ((v5 ≤ r_27) →
  M_X12_laysAside v0 0 (fun _ m_30 =>
  M_X12_keep_L1 v0 v1 v2 v3 v4 v5 (-1) 0 K m_30) m_28) ∧ (¬ (v5 ≤ r_27) →
  K (-1) m_28)) m_25)) m_22)) m_19)) m_16)) m_13)) m
def N_X12_keep : am_PT := fun zs K m => match zs with
  | [v0, v1, v2, v3, v4, v5] => am_ob v0 12 ∧ M_X12_keep v0 v1 v2 v3 v4 v5 K m
  | _ => False
def M_X12_answer_J1 (v0 : Int) (K : am_KK) (m : am_M) : Prop :=
  M_X12_refuses v0 (-1) (fun r_1 m_2 =>
  K r_1 m_2) m
def M_X12_answer (v0 : Int) (v1 : Int) (v2 : Int) (v3 : Int) (K : am_KK) (m : am_M) : Prop :=
  M_X12_lies v1 1 9 (fun r_3 m_4 =>
  ((r_3 = 0) →
  M_X12_answer_J1 v0 K m_4) ∧ (¬ (r_3 = 0) →
  M_X12_isThing v2 (fun r_6 m_7 =>
  ((r_6 = 0) →
  M_X12_answer_J1 v0 K m_7) ∧ (¬ (r_6 = 0) →
  M_X12_lies v3 0 1 (fun r_9 m_10 =>
  ((r_9 ≠ 0) →
  ((0 : Int) ≤ 367 ∧ 367 < am_len (am_rfv v0 2)) ∧
  ∀ v4_12 : Int, v4_12 = m_10 (am_rfv v0 2) 367 →
  ((v4_12 ≠ 6) →
  ((0 : Int) ≤ (w32 (342 + (w32 (3 * v4_12)))) ∧ (w32 (342 + (w32 (3 * v4_12)))) < am_len (am_rfv v0 2)) ∧
  ∀ m_13 : am_M, m_13 = am_st m_10 (am_rfv v0 2) (w32 (342 + (w32 (3 * v4_12)))) v1 →
  ((0 : Int) ≤ (w32 ((w32 (342 + (w32 (3 * v4_12)))) + 1)) ∧ (w32 ((w32 (342 + (w32 (3 * v4_12)))) + 1)) < am_len (am_rfv v0 2)) ∧
  ∀ m_14 : am_M, m_14 = am_st m_13 (am_rfv v0 2) (w32 ((w32 (342 + (w32 (3 * v4_12)))) + 1)) v2 →
  ((0 : Int) ≤ (w32 ((w32 (342 + (w32 (3 * v4_12)))) + 2)) ∧ (w32 ((w32 (342 + (w32 (3 * v4_12)))) + 2)) < am_len (am_rfv v0 2)) ∧
  ∀ m_15 : am_M, m_15 = am_st m_14 (am_rfv v0 2) (w32 ((w32 (342 + (w32 (3 * v4_12)))) + 2)) v3 →
  ((0 : Int) ≤ 367 ∧ 367 < am_len (am_rfv v0 2)) ∧
  ((0 : Int) ≤ 367 ∧ 367 < am_len (am_rfv v0 2)) ∧
  ∀ m_16 : am_M, m_16 = am_st m_15 (am_rfv v0 2) 367 (w32 ((m_15 (am_rfv v0 2) 367) + 1)) →
  M_X12_good v0 (w32 (v4_12 + 1)) (fun r_17 m_18 =>
  K r_17 m_18) m_16) ∧ (¬ (v4_12 ≠ 6) →
  M_X12_refuses v0 (-5) (fun r_19 m_20 =>
  K r_19 m_20) m_10)) ∧ (¬ (r_9 ≠ 0) →
  M_X12_answer_J1 v0 K m_10)) m_7)) m_4)) m
def N_X12_answer : am_PT := fun zs K m => match zs with
  | [v0, v1, v2, v3] => am_ob v0 12 ∧ M_X12_answer v0 v1 v2 v3 K m
  | _ => False
def M_X12_forget (v0 : Int) (K : am_KK) (m : am_M) : Prop :=
  ((0 : Int) ≤ 367 ∧ 367 < am_len (am_rfv v0 2)) ∧
  ∀ v1_1 : Int, v1_1 = m (am_rfv v0 2) 367 →
  ((0 : Int) ≤ 367 ∧ 367 < am_len (am_rfv v0 2)) ∧
  ∀ m_2 : am_M, m_2 = am_st m (am_rfv v0 2) 367 0 →
  K v1_1 m_2
def N_X12_forget : am_PT := fun zs K m => match zs with
  | [v0] => am_ob v0 12 ∧ M_X12_forget v0 K m
  | _ => False
def M_X12_lastAnswer_J1 (v0 : Int) (v2 : Int) (s0 : Int) (C4 : Int → Int → am_M → Prop) (K : am_KK) (m : am_M) : Prop :=
  ∀ v2_1 : Int, v2_1 = w32 (v2 + 1) →
  C4 s0 v2_1 m
def M_X12_lastAnswer_L1B (v0 : Int) (v1 : Int) (v2 : Int) (C4 : Int → Int → am_M → Prop) (K : am_KK) (m : am_M) : Prop :=
  ((0 : Int) ≤ 367 ∧ 367 < am_len (am_rfv v0 2)) ∧
  (((m (am_rfv v0 2) 367) ≤ v2) →
  K v1 m) ∧ (¬ ((m (am_rfv v0 2) 367) ≤ v2) →
  ((0 : Int) ≤ (w32 (342 + (w32 (3 * v2)))) ∧ (w32 (342 + (w32 (3 * v2)))) < am_len (am_rfv v0 2)) ∧
  (((m (am_rfv v0 2) (w32 (342 + (w32 (3 * v2))))) ≤ v1) →
  M_X12_lastAnswer_J1 v0 v2 v1 C4 K m) ∧ (¬ ((m (am_rfv v0 2) (w32 (342 + (w32 (3 * v2))))) ≤ v1) →
  ((0 : Int) ≤ (w32 (342 + (w32 (3 * v2)))) ∧ (w32 (342 + (w32 (3 * v2)))) < am_len (am_rfv v0 2)) ∧
  M_X12_lastAnswer_J1 v0 v2 (m (am_rfv v0 2) (w32 (342 + (w32 (3 * v2))))) C4 K m))
def M_X12_lastAnswer_L1 (v0 : Int) (v1 : Int) (v2 : Int) (K : am_KK) (m : am_M) : Prop :=
  ∃ I : Nat → Int → Int → am_M → Prop, (∃ j, I j v1 v2 m) ∧ ∀ j v1 v2 m, I j v1 v2 m → M_X12_lastAnswer_L1B v0 v1 v2 (fun v1' v2' m' => ∃ j', j' < j ∧ I j' v1' v2' m') K m
def M_X12_lastAnswer (v0 : Int) (K : am_KK) (m : am_M) : Prop :=
  M_X12_lastAnswer_L1 v0 0 0 K m
def N_X12_lastAnswer : am_PT := fun zs K m => match zs with
  | [v0] => am_ob v0 12 ∧ M_X12_lastAnswer v0 K m
  | _ => False
def M_X12_areSo_J3 (v0 : Int) (v1 : Int) (v2 : Int) (v3 : Int) (v4 : Int) (C41 : Int → am_M → Prop) (C7 : Int → am_M → Prop) (K : am_KK) (m : am_M) : Prop :=
  ∀ v4_1 : Int, v4_1 = w32 (v4 + 1) →
  C41 v4_1 m
def M_X12_areSo_J2 (v0 : Int) (v1 : Int) (v2 : Int) (v3 : Int) (v4 : Int) (s0 : Int) (s1 : Int) (C41 : Int → am_M → Prop) (C7 : Int → am_M → Prop) (K : am_KK) (m : am_M) : Prop :=
  ((s0 = s1) →
  M_X12_areSo_J3 v0 v1 v2 v3 v4 C41 C7 K m) ∧ (¬ (s0 = s1) →
  K 0 m)
def M_X12_areSo_L2B (v0 : Int) (v1 : Int) (v2 : Int) (v3 : Int) (v4 : Int) (C41 : Int → am_M → Prop) (C7 : Int → am_M → Prop) (K : am_KK) (m : am_M) : Prop :=
  ((0 : Int) ≤ 367 ∧ 367 < am_len (am_rfv v0 2)) ∧
  (((m (am_rfv v0 2) 367) ≤ v4) →
  ∀ v2_2 : Int, v2_2 = w32 (v2 + 1) →
  C7 v2_2 m) ∧ (¬ ((m (am_rfv v0 2) 367) ≤ v4) →
  ((0 : Int) ≤ (w32 (342 + (w32 (3 * v4)))) ∧ (w32 (342 + (w32 (3 * v4)))) < am_len (am_rfv v0 2)) ∧
  (((m (am_rfv v0 2) (w32 (342 + (w32 (3 * v4))))) ≠ v2) →
  M_X12_areSo_J3 v0 v1 v2 v3 v4 C41 C7 K m) ∧ (¬ ((m (am_rfv v0 2) (w32 (342 + (w32 (3 * v4))))) ≠ v2) →
  ((0 : Int) ≤ (w32 ((w32 (342 + (w32 (3 * v4)))) + 1)) ∧ (w32 ((w32 (342 + (w32 (3 * v4)))) + 1)) < am_len (am_rfv v0 2)) ∧
  M_X12_isIn v3 (m (am_rfv v0 2) (w32 ((w32 (342 + (w32 (3 * v4)))) + 1))) (fun r_3 m_4 =>
  ((0 : Int) ≤ (w32 ((w32 (342 + (w32 (3 * v4)))) + 2)) ∧ (w32 ((w32 (342 + (w32 (3 * v4)))) + 2)) < am_len (am_rfv v0 2)) ∧
  (((m_4 (am_rfv v0 2) (w32 ((w32 (342 + (w32 (3 * v4)))) + 2))) ≠ 1) →
  M_X12_areSo_J2 v0 v1 v2 v3 v4 r_3 0 C41 C7 K m_4) ∧ (¬ ((m_4 (am_rfv v0 2) (w32 ((w32 (342 + (w32 (3 * v4)))) + 2))) ≠ 1) →
  M_X12_areSo_J2 v0 v1 v2 v3 v4 r_3 1 C41 C7 K m_4)) m))
def M_X12_areSo_L2 (v0 : Int) (v1 : Int) (v2 : Int) (v3 : Int) (v4 : Int) (C7 : Int → am_M → Prop) (K : am_KK) (m : am_M) : Prop :=
  ∃ I : Nat → Int → am_M → Prop, (∃ j, I j v4 m) ∧ ∀ j v4 m, I j v4 m → M_X12_areSo_L2B v0 v1 v2 v3 v4 (fun v4' m' => ∃ j', j' < j ∧ I j' v4' m') C7 K m
def M_X12_areSo_J1 (v0 : Int) (v1 : Int) (v2 : Int) (v3 : Int) (C7 : Int → am_M → Prop) (K : am_KK) (m : am_M) : Prop :=
  M_X12_areSo_L2 v0 v1 v2 v3 0 C7 K m
def M_X12_areSo_L1B (v0 : Int) (v1 : Int) (v2 : Int) (C7 : Int → am_M → Prop) (K : am_KK) (m : am_M) : Prop :=
  ((v1 < v2) →
  K 1 m) ∧ (¬ (v1 < v2) →
  ((0 : Int) ≤ 169 ∧ 169 < am_len (am_rfv v0 2)) ∧
  ((999 ≤ (m (am_rfv v0 2) 169)) →
  M_X12_areSo_J1 v0 v1 v2 0 C7 K m) ∧ (¬ (999 ≤ (m (am_rfv v0 2) 169)) →
  M_X12_dawns v0 (fun r_6 m_7 =>
  ∀ v3_8 : Int, v3_8 = m_7 v0 35 →
  M_X12_areSo_J1 v0 v1 v2 v3_8 C7 K m_7) m))
def M_X12_areSo_L1 (v0 : Int) (v1 : Int) (v2 : Int) (K : am_KK) (m : am_M) : Prop :=
  ∃ I : Nat → Int → am_M → Prop, (∃ j, I j v2 m) ∧ ∀ j v2 m, I j v2 m → M_X12_areSo_L1B v0 v1 v2 (fun v2' m' => ∃ j', j' < j ∧ I j' v2' m') K m
def M_X12_areSo (v0 : Int) (K : am_KK) (m : am_M) : Prop :=
  M_X12_lastAnswer v0 (fun r_9 m_10 =>
  M_X12_areSo_L1 v0 r_9 1 K m_10) m
def N_X12_areSo : am_PT := fun zs K m => match zs with
  | [v0] => am_ob v0 12 ∧ M_X12_areSo v0 K m
  | _ => False
def M_X12_hidden_J3 (v1 : Int) (v2 : Int) (v3 : Int) (K : am_KK) (m : am_M) : Prop :=
  ((v1 ≠ (-1)) →
  K v3 m) ∧ (¬ (v1 ≠ (-1)) →
  K v2 m)
def M_X12_hidden_J2 (v0 : Int) (v1 : Int) (v2 : Int) (v3 : Int) (v4 : Int) (C19 : Int → Int → Int → am_M → Prop) (K : am_KK) (m : am_M) : Prop :=
  ∀ v4_1 : Int, v4_1 = w32 (v4 + 1) →
  C19 v2 v3 v4_1 m
def M_X12_hidden_J1 (v0 : Int) (v1 : Int) (v2 : Int) (v3 : Int) (v4 : Int) (C19 : Int → Int → Int → am_M → Prop) (K : am_KK) (m : am_M) : Prop :=
  ∀ v2_2 : Int, v2_2 = w32 (v2 + 1) →
  M_X12_hidden_J2 v0 v1 v2_2 v3 v4 C19 K m
def M_X12_hidden_L1B (v0 : Int) (v1 : Int) (v2 : Int) (v3 : Int) (v4 : Int) (C19 : Int → Int → Int → am_M → Prop) (K : am_KK) (m : am_M) : Prop :=
  ((0 : Int) ≤ 365 ∧ 365 < am_len (am_rfv v0 2)) ∧
  (((w32 ((w32 ((m (am_rfv v0 2) 365) * 8)) * 30)) ≤ v4) →
  M_X12_hidden_J3 v1 v2 v3 K m) ∧ (¬ ((w32 ((w32 ((m (am_rfv v0 2) 365) * 8)) * 30)) ≤ v4) →
  ((v3 ≠ (-1)) →
  M_X12_hidden_J3 v1 v2 v3 K m) ∧ (¬ (v3 ≠ (-1)) →
  M_X12_says v0 (w32 (Int.tdiv v4 240)) (w32 (Int.tmod (w32 (Int.tdiv v4 30)) 8)) (w32 (1 + (w32 (Int.tmod v4 30)))) 1 (fun _ m_4 =>
  M_X12_areSo v0 (fun r_5 m_6 =>
  M_X12_takesBack v0 0 (fun _ m_9 =>
  ((r_5 ≠ 0) →
  ((v2 ≠ v1) →
  M_X12_hidden_J1 v0 v1 v2 v3 v4 C19 K m_9) ∧ (¬ (v2 ≠ v1) →
  M_X12_hidden_J1 v0 v1 v2 v4 v4 C19 K m_9)) ∧ (¬ (r_5 ≠ 0) →
  M_X12_hidden_J2 v0 v1 v2 v3 v4 C19 K m_9)) m_6) m_4) m))
def M_X12_hidden_L1 (v0 : Int) (v1 : Int) (v2 : Int) (v3 : Int) (v4 : Int) (K : am_KK) (m : am_M) : Prop :=
  ∃ I : Nat → Int → Int → Int → am_M → Prop, (∃ j, I j v2 v3 v4 m) ∧ ∀ j v2 v3 v4 m, I j v2 v3 v4 m → M_X12_hidden_L1B v0 v1 v2 v3 v4 (fun v2' v3' v4' m' => ∃ j', j' < j ∧ I j' v2' v3' v4' m') K m
def M_X12_hidden (v0 : Int) (v1 : Int) (K : am_KK) (m : am_M) : Prop :=
  (((-1) ≤ v1) →
  M_X12_laysAside v0 0 (fun _ m_11 =>
  M_X12_hidden_L1 v0 v1 0 (-1) 0 K m_11) m) ∧ (¬ ((-1) ≤ v1) →
  K (-1) m)
def N_X12_hidden : am_PT := fun zs K m => match zs with
  | [v0, v1] => am_ob v0 12 ∧ M_X12_hidden v0 v1 K m
  | _ => False
def M_X12_stopped (v0 : Int) (K : am_KK) (m : am_M) : Prop :=
  K (m v0 48) m
def N_X12_stopped : am_PT := fun zs K m => match zs with
  | [v0] => am_ob v0 12 ∧ M_X12_stopped v0 K m
  | _ => False
def M_X12_waiting_J1 (v0 : Int) (v2 : Int) (s0 : Int) (s1 : Int) (C4 : Int → Int → am_M → Prop) (K : am_KK) (m : am_M) : Prop :=
  ∀ v1_1 : Int, v1_1 = w32 (s0 + s1) →
  ∀ v2_2 : Int, v2_2 = w32 (v2 + 1) →
  C4 v1_1 v2_2 m
def M_X12_waiting_L1B (v0 : Int) (v1 : Int) (v2 : Int) (C4 : Int → Int → am_M → Prop) (K : am_KK) (m : am_M) : Prop :=
  M_X12_prayers v0 (fun r_3 m_4 =>
  ((r_3 ≤ v2) →
  K v1 m_4) ∧ (¬ (r_3 ≤ v2) →
  M_X12_fact v0 v2 5 (fun r_5 m_6 =>
  ((r_5 ≠ 0) →
  M_X12_waiting_J1 v0 v2 v1 0 C4 K m_6) ∧ (¬ (r_5 ≠ 0) →
  M_X12_waiting_J1 v0 v2 v1 1 C4 K m_6)) m_4)) m
def M_X12_waiting_L1 (v0 : Int) (v1 : Int) (v2 : Int) (K : am_KK) (m : am_M) : Prop :=
  ∃ I : Nat → Int → Int → am_M → Prop, (∃ j, I j v1 v2 m) ∧ ∀ j v1 v2 m, I j v1 v2 m → M_X12_waiting_L1B v0 v1 v2 (fun v1' v2' m' => ∃ j', j' < j ∧ I j' v1' v2' m') K m
def M_X12_waiting (v0 : Int) (K : am_KK) (m : am_M) : Prop :=
  M_X12_waiting_L1 v0 0 0 K m
def N_X12_waiting : am_PT := fun zs K m => match zs with
  | [v0] => am_ob v0 12 ∧ M_X12_waiting v0 K m
  | _ => False
def M_X12_goesAlong_J10 (v0 : Int) (s0 : Int) (s1 : Int) (K : am_KK) (m : am_M) : Prop :=
  ∀ m_1 : am_M, m_1 = am_st m s0 54 s1 →
  ∀ m_2 : am_M, m_2 = am_st m_1 v0 22 (w32 ((m_1 v0 22) + 1)) →
  K 0 m_2
def M_X12_goesAlong_J9 (v0 : Int) (s0 : Int) (K : am_KK) (m : am_M) : Prop :=
  M_X12_goesAlong_J10 v0 s0 0 K m
def M_X12_goesAlong_J8 (v0 : Int) (s0 : Int) (s1 : Int) (K : am_KK) (m : am_M) : Prop :=
  ∀ m_3 : am_M, m_3 = am_st m s0 54 s1 →
  (((m_3 v0 54) = 0) →
  M_X12_goesAlong_J9 v0 v0 K m_3) ∧ (¬ ((m_3 v0 54) = 0) →
  (((m_3 v0 24) ≠ 0) →
  M_X12_goesAlong_J9 v0 v0 K m_3) ∧ (¬ ((m_3 v0 24) ≠ 0) →
  M_X12_goesAlong_J10 v0 v0 1 K m_3))
def M_X12_goesAlong_J7 (v0 : Int) (s0 : Int) (K : am_KK) (m : am_M) : Prop :=
  M_X12_goesAlong_J8 v0 s0 1 K m
def M_X12_goesAlong_J6 (v0 : Int) (v2 : Int) (K : am_KK) (m : am_M) : Prop :=
  ∀ m_4 : am_M, m_4 = am_st m v0 24 0 →
  M_X12_passes0 v0 4 (fun r_5 m_6 =>
  ((r_5 = 0) →
  M_X12_goesAlong_J7 v0 v0 K m_6) ∧ (¬ (r_5 = 0) →
  R_X12_testOf 301 0 [v0, v2] (fun r_8 m_9 =>
  ((r_8 = 0) →
  M_X12_goesAlong_J8 v0 v0 0 K m_9) ∧ (¬ (r_8 = 0) →
  M_X12_goesAlong_J7 v0 v0 K m_9)) m_6)) m_4
def M_X12_goesAlong_J5 (v0 : Int) (v2 : Int) (v3 : Int) (v4 : Int) (s0 : Int) (s1 : Int) (C170 : Int → am_M → Prop) (K : am_KK) (m : am_M) : Prop :=
  ∀ m_11 : am_M, m_11 = am_st m s0 53 s1 →
  ∀ v4_12 : Int, v4_12 = w32 (v4 + 1) →
  C170 v4_12 m_11
def M_X12_goesAlong_J4 (v0 : Int) (v2 : Int) (v3 : Int) (v4 : Int) (s0 : Int) (C170 : Int → am_M → Prop) (K : am_KK) (m : am_M) : Prop :=
  M_X12_goesAlong_J5 v0 v2 v3 v4 s0 0 C170 K m
def M_X12_goesAlong_J3 (v0 : Int) (v2 : Int) (v3 : Int) (v4 : Int) (C170 : Int → am_M → Prop) (K : am_KK) (m : am_M) : Prop :=
  ∀ m_13 : am_M, m_13 = am_st m v0 24 0 →
  R_X12_sumOf 301 0 [v0, v2] (fun r_14 m_15 =>
  ((0 : Int) ≤ v4 ∧ v4 < am_len (am_rfv v0 55)) ∧
  ∀ m_16 : am_M, m_16 = am_st m_15 (am_rfv v0 55) v4 r_14 →
  (((m_16 v0 53) = 0) →
  M_X12_goesAlong_J4 v0 v2 v3 v4 v0 C170 K m_16) ∧ (¬ ((m_16 v0 53) = 0) →
  (((m_16 v0 24) ≠ 0) →
  M_X12_goesAlong_J4 v0 v2 v3 v4 v0 C170 K m_16) ∧ (¬ ((m_16 v0 24) ≠ 0) →
  M_X12_goesAlong_J5 v0 v2 v3 v4 v0 1 C170 K m_16))) m_13
def M_X12_goesAlong_L3B (v0 : Int) (v2 : Int) (v3 : Int) (v4 : Int) (C170 : Int → am_M → Prop) (K : am_KK) (m : am_M) : Prop :=
  ((v3 ≤ v4) →
  ∀ m_17 : am_M, m_17 = am_st m v0 51 1 →
  M_X12_passes0 v0 25 (fun r_18 m_19 =>
  ((r_18 = 0) →
  M_X12_goesAlong_J6 v0 v2 K m_19) ∧ (¬ (r_18 = 0) →
  ((0 : Int) ≤ (w32 (3177 + (m_19 v0 22))) ∧ (w32 (3177 + (m_19 v0 22))) < am_len (am_rfv v0 2)) ∧
  ∀ m_21 : am_M, m_21 = am_st m_19 v0 51 (m_19 (am_rfv v0 2) (w32 (3177 + (m_19 v0 22)))) →
  ∀ m_22 : am_M, m_22 = am_st m_21 v0 22 (w32 ((m_21 v0 22) + 1)) →
  M_X12_goesAlong_J6 v0 v2 K m_22)) m_17) ∧ (¬ (v3 ≤ v4) →
  ((v4 ≤ 0) →
  M_X12_goesAlong_J3 v0 v2 v3 v4 C170 K m) ∧ (¬ (v4 ≤ 0) →
  ∀ m_23 : am_M, m_23 = am_st m v0 22 (w32 ((m v0 22) + 1)) →
  M_X12_goesAlong_J3 v0 v2 v3 v4 C170 K m_23))
def M_X12_goesAlong_L3 (v0 : Int) (v2 : Int) (v3 : Int) (v4 : Int) (K : am_KK) (m : am_M) : Prop :=
  ∃ I : Nat → Int → am_M → Prop, (∃ j, I j v4 m) ∧ ∀ j v4 m, I j v4 m → M_X12_goesAlong_L3B v0 v2 v3 v4 (fun v4' m' => ∃ j', j' < j ∧ I j' v4' m') K m
def M_X12_goesAlong_J2 (v0 : Int) (v2 : Int) (s0 : Int) (K : am_KK) (m : am_M) : Prop :=
  M_X12_goesAlong_L3 v0 v2 s0 0 K m
def M_X12_goesAlong_J1 (v0 : Int) (v2 : Int) (v3 : Int) (C34 : Int → am_M → Prop) (K : am_KK) (m : am_M) : Prop :=
  ∀ v3_24 : Int, v3_24 = w32 (v3 + 1) →
  C34 v3_24 m
def M_X12_goesAlong_L2B (v0 : Int) (v2 : Int) (v3 : Int) (C34 : Int → am_M → Prop) (K : am_KK) (m : am_M) : Prop :=
  M_X12_prayers v0 (fun r_25 m_26 =>
  ((r_25 ≤ v3) →
  ((0 : Int) ≤ 169 ∧ 169 < am_len (am_rfv v0 2)) ∧
  ((0 : Int) ≤ 0 ∧ 0 < am_len (am_rfv v0 25)) ∧
  ∀ m_27 : am_M, m_27 = am_st m_26 (am_rfv v0 25) 0 (m_26 (am_rfv v0 2) 169) →
  M_X12_prayers v0 (fun r_28 m_29 =>
  ((0 : Int) ≤ 1 ∧ 1 < am_len (am_rfv v0 25)) ∧
  ∀ m_30 : am_M, m_30 = am_st m_29 (am_rfv v0 25) 1 r_28 →
  M_X12_waiting v0 (fun r_31 m_32 =>
  ((0 : Int) ≤ 2 ∧ 2 < am_len (am_rfv v0 25)) ∧
  ∀ m_33 : am_M, m_33 = am_st m_32 (am_rfv v0 25) 2 r_31 →
  ((0 : Int) ≤ 3 ∧ 3 < am_len (am_rfv v0 25)) ∧
  ∀ m_34 : am_M, m_34 = am_st m_33 (am_rfv v0 25) 3 (m_33 v0 49) →
  ∀ m_35 : am_M, m_35 = am_st m_34 v0 22 (m_34 v0 50) →
  M_X12_codeAt v0 (m_35 v0 22) (fun r_36 m_37 =>
  ∀ m_38 : am_M, m_38 = am_st m_37 v0 52 r_36 →
  ∀ m_39 : am_M, m_39 = am_st m_38 v0 22 (w32 ((m_38 v0 22) + 1)) →
  ∀ m_40 : am_M, m_40 = am_st m_39 v0 53 1 →
  (((m_40 v0 52) ≠ 24) →
  M_X12_goesAlong_J2 v0 v2 3 K m_40) ∧ (¬ ((m_40 v0 52) ≠ 24) →
  M_X12_goesAlong_J2 v0 v2 0 K m_40)) m_35) m_30) m_27) ∧ (¬ (r_25 ≤ v3) →
  M_X12_fact v0 v3 5 (fun r_41 m_42 =>
  ((r_41 ≠ 1) →
  M_X12_goesAlong_J1 v0 v2 v3 C34 K m_42) ∧ (¬ (r_41 ≠ 1) →
  M_X12_fact v0 v3 1 (fun r_43 m_44 =>
  ((0 : Int) ≤ r_43 ∧ r_43 < am_len (am_rfv v0 27)) ∧
  ((0 : Int) ≤ r_43 ∧ r_43 < am_len (am_rfv v0 27)) ∧
  ∀ m_45 : am_M, m_45 = am_st m_44 (am_rfv v0 27) r_43 (w32 ((m_44 (am_rfv v0 27) r_43) + 1)) →
  M_X12_goesAlong_J1 v0 v2 v3 C34 K m_45) m_42)) m_26)) m
def M_X12_goesAlong_L2 (v0 : Int) (v2 : Int) (v3 : Int) (K : am_KK) (m : am_M) : Prop :=
  ∃ I : Nat → Int → am_M → Prop, (∃ j, I j v3 m) ∧ ∀ j v3 m, I j v3 m → M_X12_goesAlong_L2B v0 v2 v3 (fun v3' m' => ∃ j', j' < j ∧ I j' v3' m') K m
def M_X12_goesAlong_L1B (v0 : Int) (v2 : Int) (v3 : Int) (C13 : Int → am_M → Prop) (K : am_KK) (m : am_M) : Prop :=
  ((8 ≤ v3) →
  M_X12_goesAlong_L2 v0 v2 0 K m) ∧ (¬ (8 ≤ v3) →
  ((0 : Int) ≤ v3 ∧ v3 < am_len (am_rfv v0 27)) ∧
  ∀ m_46 : am_M, m_46 = am_st m (am_rfv v0 27) v3 0 →
  ∀ v3_47 : Int, v3_47 = w32 (v3 + 1) →
  C13 v3_47 m_46)
def M_X12_goesAlong_L1 (v0 : Int) (v2 : Int) (v3 : Int) (K : am_KK) (m : am_M) : Prop :=
  ∃ I : Nat → Int → am_M → Prop, (∃ j, I j v3 m) ∧ ∀ j v3 m, I j v3 m → M_X12_goesAlong_L1B v0 v2 v3 (fun v3' m' => ∃ j', j' < j ∧ I j' v3' m') K m
def M_X12_goesAlong (v0 : Int) (v1 : Int) (v2 : Int) (K : am_KK) (m : am_M) : Prop :=
  ∀ m_48 : am_M, m_48 = am_st m v0 8 15 →
  ∀ m_49 : am_M, m_49 = am_st m_48 v0 23 v1 →
  M_X12_goesAlong_L1 v0 v2 0 K m_49
def N_X12_goesAlong : am_PT := fun zs K m => match zs with
  | [v0, v1, v2] => am_ob v0 12 ∧ (v2 = 0 ∨ v2 = 1) ∧ M_X12_goesAlong v0 v1 v2 K m
  | _ => False
def M_X12_small (v0 : Int) (K : am_KK) (m : am_M) : Prop :=
  (((am_cmp v0 0) < 0) →
  K (-1) m) ∧ (¬ ((am_cmp v0 0) < 0) →
  (((am_cmp v0 1000000) ≤ 0) →
  K (am_l2i v0) m) ∧ (¬ ((am_cmp v0 1000000) ≤ 0) →
  K (-1) m))
def N_X12_small : am_PT := fun zs K m => match zs with
  | [v0] => M_X12_small v0 K m
  | _ => False
def M_X12_runs_J2 (v0 : Int) (v1 : Int) (v2 : Int) (v3 : Int) (v4 : Int) (C19 : Int → am_M → Prop) (K : am_KK) (m : am_M) : Prop :=
  ∀ v4_1 : Int, v4_1 = w32 (v4 + 1) →
  C19 v4_1 m
def M_X12_runs_J1 (v0 : Int) (v1 : Int) (v2 : Int) (v3 : Int) (v4 : Int) (s0 : Int) (C19 : Int → am_M → Prop) (K : am_KK) (m : am_M) : Prop :=
  ((0 ≤ s0) →
  ∀ m_2 : am_M, m_2 = am_st m v0 49 (w32 ((m v0 49) + 1)) →
  M_X12_runs_J2 v0 v1 v2 v3 v4 C19 K m_2) ∧ (¬ (0 ≤ s0) →
  K s0 m)
def M_X12_runs_L1B (v0 : Int) (v1 : Int) (v2 : Int) (v3 : Int) (v4 : Int) (C19 : Int → am_M → Prop) (K : am_KK) (m : am_M) : Prop :=
  ((v2 ≤ v4) →
  ∀ m_3 : am_M, m_3 = am_st m v0 50 v3 →
  K 0 m_3) ∧ (¬ (v2 ≤ v4) →
  M_X12_goesAlong v0 v1 1 (fun _ m_5 =>
  (((m_5 v0 54) ≠ 0) →
  (((m_5 v0 53) ≠ 0) →
  (((m_5 v0 52) ≠ 24) →
  ((0 : Int) ≤ 0 ∧ 0 < am_len (am_rfv v0 55)) ∧
  M_X12_small (m_5 (am_rfv v0 55) 0) (fun r_6 m_7 =>
  ((0 : Int) ≤ 1 ∧ 1 < am_len (am_rfv v0 55)) ∧
  M_X12_small (m_7 (am_rfv v0 55) 1) (fun r_8 m_9 =>
  ((0 : Int) ≤ 2 ∧ 2 < am_len (am_rfv v0 55)) ∧
  M_X12_small (m_9 (am_rfv v0 55) 2) (fun r_10 m_11 =>
  M_X12_praysKept v0 r_6 r_8 r_10 1 (fun r_12 m_13 =>
  M_X12_runs_J1 v0 v1 v2 v3 v4 r_12 C19 K m_13) m_11) m_9) m_7) m_5) ∧ (¬ ((m_5 v0 52) ≠ 24) →
  M_X12_dawnsKept v0 (fun r_14 m_15 =>
  M_X12_runs_J1 v0 v1 v2 v3 v4 r_14 C19 K m_15) m_5)) ∧ (¬ ((m_5 v0 53) ≠ 0) →
  K (-3) m_5)) ∧ (¬ ((m_5 v0 54) ≠ 0) →
  M_X12_runs_J2 v0 v1 v2 v3 v4 C19 K m_5)) m)
def M_X12_runs_L1 (v0 : Int) (v1 : Int) (v2 : Int) (v3 : Int) (v4 : Int) (K : am_KK) (m : am_M) : Prop :=
  ∃ I : Nat → Int → am_M → Prop, (∃ j, I j v4 m) ∧ ∀ j v4 m, I j v4 m → M_X12_runs_L1B v0 v1 v2 v3 v4 (fun v4' m' => ∃ j', j' < j ∧ I j' v4' m') K m
def M_X12_runs (v0 : Int) (v1 : Int) (K : am_KK) (m : am_M) : Prop :=
  M_X12_goesAlong v0 v1 0 (fun _ m_17 =>
  ∀ v2_18 : Int, v2_18 = m_17 v0 51 →
  ∀ v3_19 : Int, v3_19 = m_17 v0 22 →
  M_X12_runs_L1 v0 v1 v2_18 v3_19 0 K m_17) m
def N_X12_runs : am_PT := fun zs K m => match zs with
  | [v0, v1] => am_ob v0 12 ∧ M_X12_runs v0 v1 K m
  | _ => False
def M_X12_orders_J2 (s0 : Int) (s1 : Int) (K : am_KK) (m : am_M) : Prop :=
  M_X12_refuses s0 s1 (fun r_1 m_2 =>
  K r_1 m_2) m
def M_X12_orders_L4B (v0 : Int) (v1 : Int) (v3 : Int) (v4 : Int) (v5 : Int) (C168 : Int → am_M → Prop) (K : am_KK) (m : am_M) : Prop :=
  ((2736 ≤ v5) →
  ∀ m_3 : am_M, m_3 = am_st m v0 38 v1 →
  ∀ m_4 : am_M, m_4 = am_st m_3 v0 48 v3 →
  ((v4 ≠ (-5)) →
  M_X12_orders_J2 v0 (-3) K m_4) ∧ (¬ (v4 ≠ (-5)) →
  M_X12_orders_J2 v0 (-5) K m_4)) ∧ (¬ (2736 ≤ v5) →
  ((0 : Int) ≤ v5 ∧ v5 < am_len (am_rfv v0 37)) ∧
  ((0 : Int) ≤ v5 ∧ v5 < am_len (am_rfv v0 36)) ∧
  ∀ m_5 : am_M, m_5 = am_st m (am_rfv v0 36) v5 (m (am_rfv v0 37) v5) →
  ∀ v5_6 : Int, v5_6 = w32 (v5 + 1) →
  C168 v5_6 m_5)
def M_X12_orders_L4 (v0 : Int) (v1 : Int) (v3 : Int) (v4 : Int) (v5 : Int) (K : am_KK) (m : am_M) : Prop :=
  ∃ I : Nat → Int → am_M → Prop, (∃ j, I j v5 m) ∧ ∀ j v5 m, I j v5 m → M_X12_orders_L4B v0 v1 v3 v4 v5 (fun v5' m' => ∃ j', j' < j ∧ I j' v5' m') K m
def M_X12_orders_L3B (v0 : Int) (v1 : Int) (v2 : Int) (v3 : Int) (C137 : Int → am_M → Prop) (K : am_KK) (m : am_M) : Prop :=
  ((v2 ≤ (m v0 50)) →
  M_X12_good v0 (m v0 49) (fun r_7 m_8 =>
  K r_7 m_8) m) ∧ (¬ (v2 ≤ (m v0 50)) →
  M_X12_runs v0 v2 (fun r_9 m_10 =>
  ((r_9 ≠ 0) →
  M_X12_takesBack v0 1 (fun _ m_12 =>
  M_X12_orders_L4 v0 v1 v3 r_9 0 K m_12) m_10) ∧ (¬ (r_9 ≠ 0) →
  ∀ v3_13 : Int, v3_13 = w32 (v3 + 1) →
  C137 v3_13 m_10)) m)
def M_X12_orders_L3 (v0 : Int) (v1 : Int) (v2 : Int) (v3 : Int) (K : am_KK) (m : am_M) : Prop :=
  ∃ I : Nat → Int → am_M → Prop, (∃ j, I j v3 m) ∧ ∀ j v3 m, I j v3 m → M_X12_orders_L3B v0 v1 v2 v3 (fun v3' m' => ∃ j', j' < j ∧ I j' v3' m') K m
def M_X12_orders_J1 (v0 : Int) (v1 : Int) (v2 : Int) (s0 : Int) (s1 : Int) (s2 : Int) (C69 : Int → am_M → Prop) (K : am_KK) (m : am_M) : Prop :=
  ((0 : Int) ≤ s1 ∧ s1 < am_len s0) ∧
  ∀ m_14 : am_M, m_14 = am_st m s0 s1 s2 →
  ∀ v2_15 : Int, v2_15 = w32 (v2 + 1) →
  C69 v2_15 m_14
def M_X12_orders_L2B (v0 : Int) (v1 : Int) (v2 : Int) (C69 : Int → am_M → Prop) (K : am_KK) (m : am_M) : Prop :=
  ((8 ≤ v2) →
  ∀ m_16 : am_M, m_16 = am_st m v0 49 0 →
  ∀ m_17 : am_M, m_17 = am_st m_16 v0 50 2400 →
  ((0 : Int) ≤ 376 ∧ 376 < am_len (am_rfv v0 2)) ∧
  ∀ v2_18 : Int, v2_18 = w32 ((m_17 v0 50) + (m_17 (am_rfv v0 2) 376)) →
  M_X12_orders_L3 v0 v1 v2_18 0 K m_17) ∧ (¬ (8 ≤ v2) →
  ((0 : Int) ≤ v2 ∧ v2 < am_len (am_rfv v0 28)) ∧
  (((m (am_rfv v0 28) v2) < 1000000000) →
  ((0 : Int) ≤ v2 ∧ v2 < am_len (am_rfv v0 28)) ∧
  M_X12_orders_J1 v0 v1 v2 (am_rfv v0 26) v2 (m (am_rfv v0 28) v2) C69 K m) ∧ (¬ ((m (am_rfv v0 28) v2) < 1000000000) →
  M_X12_orders_J1 v0 v1 v2 (am_rfv v0 26) v2 (-1) C69 K m))
def M_X12_orders_L2 (v0 : Int) (v1 : Int) (v2 : Int) (K : am_KK) (m : am_M) : Prop :=
  ∃ I : Nat → Int → am_M → Prop, (∃ j, I j v2 m) ∧ ∀ j v2 m, I j v2 m → M_X12_orders_L2B v0 v1 v2 (fun v2' m' => ∃ j', j' < j ∧ I j' v2' m') K m
def M_X12_orders_L1B (v0 : Int) (v1 : Int) (C27 : Int → am_M → Prop) (K : am_KK) (m : am_M) : Prop :=
  ((2736 ≤ v1) →
  ∀ v1_19 : Int, v1_19 = m v0 38 →
  M_X12_lays v0 6 (fun _ m_21 =>
  M_X12_wordings v0 (fun _ m_23 =>
  M_X12_orders_L2 v0 v1_19 0 K m_23) m_21) m) ∧ (¬ (2736 ≤ v1) →
  ((0 : Int) ≤ v1 ∧ v1 < am_len (am_rfv v0 36)) ∧
  ((0 : Int) ≤ v1 ∧ v1 < am_len (am_rfv v0 37)) ∧
  ∀ m_24 : am_M, m_24 = am_st m (am_rfv v0 37) v1 (m (am_rfv v0 36) v1) →
  ∀ v1_25 : Int, v1_25 = w32 (v1 + 1) →
  C27 v1_25 m_24)
def M_X12_orders_L1 (v0 : Int) (v1 : Int) (K : am_KK) (m : am_M) : Prop :=
  ∃ I : Nat → Int → am_M → Prop, (∃ j, I j v1 m) ∧ ∀ j v1 m, I j v1 m → M_X12_orders_L1B v0 v1 (fun v1' m' => ∃ j', j' < j ∧ I j' v1' m') K m
def M_X12_orders (v0 : Int) (K : am_KK) (m : am_M) : Prop :=
  ∀ m_26 : am_M, m_26 = am_st m v0 48 (-1) →
  M_X12_readsAs v0 1 (fun r_27 m_28 =>
  ((r_27 ≠ 0) →
  M_X12_laysAside v0 1 (fun _ m_31 =>
  M_X12_orders_L1 v0 0 K m_31) m_28) ∧ (¬ (r_27 ≠ 0) →
  M_X12_refuses v0 (-6) (fun r_32 m_33 =>
  K r_32 m_33) m_28)) m_26
def N_X12_orders : am_PT := fun zs K m => match zs with
  | [v0] => am_ob v0 12 ∧ M_X12_orders v0 K m
  | _ => False
def M_X12_draws (v0 : Int) (v1 : Int) (K : am_KK) (m : am_M) : Prop :=
  ∀ m_1 : am_M, m_1 = am_st m v0 59 (am_l2i (w64 (Int.tmod (w64 ((w64 (1103 * (m v0 59))) + 12345)) 1000003))) →
  ((v1 : Int) ≠ 0) ∧
  K (w32 (Int.tmod (m_1 v0 59) v1)) m_1
def N_X12_draws : am_PT := fun zs K m => match zs with
  | [v0, v1] => am_ob v0 12 ∧ M_X12_draws v0 v1 K m
  | _ => False
def M_X12_season_L4B (v0 : Int) (v3 : Int) (v5 : Int) (C233 : Int → am_M → Prop) (K : am_KK) (m : am_M) : Prop :=
  M_X12_prayers v0 (fun r_1 m_2 =>
  ((r_1 ≤ v5) →
  M_X12_takesBack v0 0 (fun _ m_4 =>
  M_X12_good v0 v3 (fun r_5 m_6 =>
  K r_5 m_6) m_4) m_2) ∧ (¬ (r_1 ≤ v5) →
  M_X12_fact v0 v5 0 (fun r_7 m_8 =>
  M_X12_fact v0 v5 5 (fun r_9 m_10 =>
  ((0 : Int) ≤ (w32 ((w32 (3 * r_7)) + r_9)) ∧ (w32 ((w32 (3 * r_7)) + r_9)) < am_len (am_rfv v0 57)) ∧
  ((0 : Int) ≤ (w32 ((w32 (3 * r_7)) + r_9)) ∧ (w32 ((w32 (3 * r_7)) + r_9)) < am_len (am_rfv v0 57)) ∧
  ∀ m_11 : am_M, m_11 = am_st m_10 (am_rfv v0 57) (w32 ((w32 (3 * r_7)) + r_9)) (w32 ((m_10 (am_rfv v0 57) (w32 ((w32 (3 * r_7)) + r_9))) + 1)) →
  ∀ v5_12 : Int, v5_12 = w32 (v5 + 1) →
  C233 v5_12 m_11) m_8) m_2)) m
def M_X12_season_L4 (v0 : Int) (v3 : Int) (v5 : Int) (K : am_KK) (m : am_M) : Prop :=
  ∃ I : Nat → Int → am_M → Prop, (∃ j, I j v5 m) ∧ ∀ j v5 m, I j v5 m → M_X12_season_L4B v0 v3 v5 (fun v5' m' => ∃ j', j' < j ∧ I j' v5' m') K m
def M_X12_season_J5 (v0 : Int) (v3 : Int) (K : am_KK) (m : am_M) : Prop :=
  M_X12_season_L4 v0 v3 0 K m
def M_X12_season_J4 (v0 : Int) (v2 : Int) (v3 : Int) (v4 : Int) (v5 : Int) (C116 : Int → Int → Int → am_M → Prop) (K : am_KK) (m : am_M) : Prop :=
  ∀ v5_13 : Int, v5_13 = w32 (v5 + 1) →
  C116 v3 v4 v5_13 m
def M_X12_season_J3 (v0 : Int) (v2 : Int) (v3 : Int) (v5 : Int) (s0 : Int) (C116 : Int → Int → Int → am_M → Prop) (K : am_KK) (m : am_M) : Prop :=
  ((s0 = 0) →
  M_X12_season_J4 v0 v2 v3 s0 v5 C116 K m) ∧ (¬ (s0 = 0) →
  M_X12_dawns v0 (fun r_14 m_15 =>
  ∀ v3_16 : Int, v3_16 = w32 (v3 + r_14) →
  M_X12_season_J4 v0 v2 v3_16 s0 v5 C116 K m_15) m)
def M_X12_season_J2 (v0 : Int) (v2 : Int) (v3 : Int) (v5 : Int) (C116 : Int → Int → Int → am_M → Prop) (K : am_KK) (m : am_M) : Prop :=
  ((0 : Int) ≤ 169 ∧ 169 < am_len (am_rfv v0 2)) ∧
  ((999 ≤ (m (am_rfv v0 2) 169)) →
  M_X12_season_J3 v0 v2 v3 v5 0 C116 K m) ∧ (¬ (999 ≤ (m (am_rfv v0 2) 169)) →
  M_X12_season_J3 v0 v2 v3 v5 1 C116 K m)
def M_X12_season_L3B (v0 : Int) (v2 : Int) (v3 : Int) (v4 : Int) (v5 : Int) (C116 : Int → Int → Int → am_M → Prop) (K : am_KK) (m : am_M) : Prop :=
  ((v2 ≤ v5) →
  M_X12_season_J5 v0 v3 K m) ∧ (¬ (v2 ≤ v5) →
  ((v4 = 0) →
  M_X12_season_J5 v0 v3 K m) ∧ (¬ (v4 = 0) →
  M_X12_draws v0 (m v0 58) (fun r_17 m_18 =>
  M_X12_draws v0 8 (fun r_19 m_20 =>
  M_X12_draws v0 40 (fun r_21 m_22 =>
  ∀ v8_23 : Int, v8_23 = w32 (r_21 + 1) →
  M_X12_whyNot v0 r_17 r_19 v8_23 1 (fun r_24 m_25 =>
  ((r_24 ≠ 0) →
  M_X12_season_J2 v0 v2 v3 v5 C116 K m_25) ∧ (¬ (r_24 ≠ 0) →
  M_X12_says v0 r_17 r_19 v8_23 1 (fun _ m_27 =>
  ((0 : Int) ≤ r_17 ∧ r_17 < am_len (am_rfv v0 56)) ∧
  ((0 : Int) ≤ r_17 ∧ r_17 < am_len (am_rfv v0 56)) ∧
  ∀ m_28 : am_M, m_28 = am_st m_27 (am_rfv v0 56) r_17 (w32 ((m_27 (am_rfv v0 56) r_17) + 1)) →
  M_X12_season_J2 v0 v2 v3 v5 C116 K m_28) m_25)) m_22) m_20) m_18) m))
def M_X12_season_L3 (v0 : Int) (v2 : Int) (v3 : Int) (v4 : Int) (v5 : Int) (K : am_KK) (m : am_M) : Prop :=
  ∃ I : Nat → Int → Int → Int → am_M → Prop, (∃ j, I j v3 v4 v5 m) ∧ ∀ j v3 v4 v5 m, I j v3 v4 v5 m → M_X12_season_L3B v0 v2 v3 v4 v5 (fun v3' v4' v5' m' => ∃ j', j' < j ∧ I j' v3' v4' v5' m') K m
def M_X12_season_L2B (v0 : Int) (v2 : Int) (v3 : Int) (C84 : Int → am_M → Prop) (K : am_KK) (m : am_M) : Prop :=
  ((18 ≤ v3) →
  M_X12_laysAside v0 0 (fun _ m_30 =>
  M_X12_season_L3 v0 v2 0 1 0 K m_30) m) ∧ (¬ (18 ≤ v3) →
  ((0 : Int) ≤ v3 ∧ v3 < am_len (am_rfv v0 57)) ∧
  ∀ m_31 : am_M, m_31 = am_st m (am_rfv v0 57) v3 0 →
  ∀ v3_32 : Int, v3_32 = w32 (v3 + 1) →
  C84 v3_32 m_31)
def M_X12_season_L2 (v0 : Int) (v2 : Int) (v3 : Int) (K : am_KK) (m : am_M) : Prop :=
  ∃ I : Nat → Int → am_M → Prop, (∃ j, I j v3 m) ∧ ∀ j v3 m, I j v3 m → M_X12_season_L2B v0 v2 v3 (fun v3' m' => ∃ j', j' < j ∧ I j' v3' m') K m
def M_X12_season_L1B (v0 : Int) (v2 : Int) (v3 : Int) (C63 : Int → am_M → Prop) (K : am_KK) (m : am_M) : Prop :=
  ((6 ≤ v3) →
  M_X12_season_L2 v0 v2 0 K m) ∧ (¬ (6 ≤ v3) →
  ((0 : Int) ≤ v3 ∧ v3 < am_len (am_rfv v0 56)) ∧
  ∀ m_33 : am_M, m_33 = am_st m (am_rfv v0 56) v3 0 →
  ∀ v3_34 : Int, v3_34 = w32 (v3 + 1) →
  C63 v3_34 m_33)
def M_X12_season_L1 (v0 : Int) (v2 : Int) (v3 : Int) (K : am_KK) (m : am_M) : Prop :=
  ∃ I : Nat → Int → am_M → Prop, (∃ j, I j v3 m) ∧ ∀ j v3 m, I j v3 m → M_X12_season_L1B v0 v2 v3 (fun v3' m' => ∃ j', j' < j ∧ I j' v3' m') K m
def M_X12_season_J1 (v0 : Int) (K : am_KK) (m : am_M) : Prop :=
  M_X12_refuses v0 (-1) (fun r_35 m_36 =>
  K r_35 m_36) m
def M_X12_season (v0 : Int) (v1 : Int) (v2 : Int) (K : am_KK) (m : am_M) : Prop :=
  M_X12_lies v1 0 1000000 (fun r_37 m_38 =>
  ((r_37 = 0) →
  M_X12_season_J1 v0 K m_38) ∧ (¬ (r_37 = 0) →
  M_X12_lies v2 1 60 (fun r_40 m_41 =>
  ((r_40 ≠ 0) →
  ((0 : Int) ≤ 365 ∧ 365 < am_len (am_rfv v0 2)) ∧
  (((m_41 (am_rfv v0 2) 365) ≠ 0) →
  ∀ m_43 : am_M, m_43 = am_st m_41 v0 59 v1 →
  ((0 : Int) ≤ 365 ∧ 365 < am_len (am_rfv v0 2)) ∧
  ∀ m_44 : am_M, m_44 = am_st m_43 v0 58 (m_43 (am_rfv v0 2) 365) →
  M_X12_season_L1 v0 v2 0 K m_44) ∧ (¬ ((m_41 (am_rfv v0 2) 365) ≠ 0) →
  M_X12_refuses v0 (-3) (fun r_45 m_46 =>
  K r_45 m_46) m_41)) ∧ (¬ (r_40 ≠ 0) →
  M_X12_season_J1 v0 K m_41)) m_38)) m
def N_X12_season : am_PT := fun zs K m => match zs with
  | [v0, v1, v2] => am_ob v0 12 ∧ M_X12_season v0 v1 v2 K m
  | _ => False
def M_X12_drawn (v0 : Int) (v1 : Int) (v2 : Int) (K : am_KK) (m : am_M) : Prop :=
  M_X12_lies v1 0 (w32 ((m v0 58) - 1)) (fun r_1 m_2 =>
  ((r_1 ≠ 0) →
  (v2 = 0 →
  ((0 : Int) ≤ v1 ∧ v1 < am_len (am_rfv v0 56)) ∧
  K (m_2 (am_rfv v0 56) v1) m_2) ∧ (v2 = 1 →
  ((0 : Int) ≤ (w32 ((w32 (3 * v1)) + 1)) ∧ (w32 ((w32 (3 * v1)) + 1)) < am_len (am_rfv v0 57)) ∧
  K (m_2 (am_rfv v0 57) (w32 ((w32 (3 * v1)) + 1))) m_2) ∧ (v2 = 2 →
  ((0 : Int) ≤ (w32 ((w32 (3 * v1)) + 2)) ∧ (w32 ((w32 (3 * v1)) + 2)) < am_len (am_rfv v0 57)) ∧
  K (m_2 (am_rfv v0 57) (w32 ((w32 (3 * v1)) + 2))) m_2) ∧ (v2 = 3 →
  ((0 : Int) ≤ (w32 (3 * v1)) ∧ (w32 (3 * v1)) < am_len (am_rfv v0 57)) ∧
  K (m_2 (am_rfv v0 57) (w32 (3 * v1))) m_2) ∧ (v2 < 0 ∨ 3 < v2 →
  K (-1) m_2)) ∧ (¬ (r_1 ≠ 0) →
  K (-1) m_2)) m
def N_X12_drawn : am_PT := fun zs K m => match zs with
  | [v0, v1, v2] => am_ob v0 12 ∧ M_X12_drawn v0 v1 v2 K m
  | _ => False
def M_X12_count_J2 (v0 : Int) (v1 : Int) (K : am_KK) (m : am_M) : Prop :=
  ((0 : Int) ≤ (w32 ((w32 (360 + v1)) - 17)) ∧ (w32 ((w32 (360 + v1)) - 17)) < am_len (am_rfv v0 2)) ∧
  K (m (am_rfv v0 2) (w32 ((w32 (360 + v1)) - 17))) m
def M_X12_count_J1 (v0 : Int) (v1 : Int) (K : am_KK) (m : am_M) : Prop :=
  ((0 : Int) ≤ (w32 (v1 - 9)) ∧ (w32 (v1 - 9)) < am_len (am_rfv v0 1)) ∧
  K (m (am_rfv v0 1) (w32 (v1 - 9))) m
def M_X12_count (v0 : Int) (v1 : Int) (K : am_KK) (m : am_M) : Prop :=
  (v1 = 0 →
  ((0 : Int) ≤ 363 ∧ 363 < am_len (am_rfv v0 2)) ∧
  K (m (am_rfv v0 2) 363) m) ∧ (v1 = 1 →
  ((0 : Int) ≤ 364 ∧ 364 < am_len (am_rfv v0 2)) ∧
  K (m (am_rfv v0 2) 364) m) ∧ (v1 = 2 →
  ((0 : Int) ≤ 365 ∧ 365 < am_len (am_rfv v0 2)) ∧
  K (m (am_rfv v0 2) 365) m) ∧ (v1 = 3 →
  M_X12_prayers v0 (fun r_1 m_2 =>
  K r_1 m_2) m) ∧ (v1 = 4 →
  M_X12_waiting v0 (fun r_3 m_4 =>
  K r_3 m_4) m) ∧ (v1 = 5 →
  ((0 : Int) ≤ 366 ∧ 366 < am_len (am_rfv v0 2)) ∧
  K (m (am_rfv v0 2) 366) m) ∧ (v1 = 6 →
  ((0 : Int) ≤ 367 ∧ 367 < am_len (am_rfv v0 2)) ∧
  K (m (am_rfv v0 2) 367) m) ∧ (v1 = 7 →
  ((0 : Int) ≤ 368 ∧ 368 < am_len (am_rfv v0 2)) ∧
  K (m (am_rfv v0 2) 368) m) ∧ (v1 = 8 →
  K (m v0 38) m) ∧ (v1 = 9 →
  K (m v0 13) m) ∧ (v1 = 10 →
  M_X12_count_J1 v0 v1 K m) ∧ (v1 = 11 →
  M_X12_count_J1 v0 v1 K m) ∧ (v1 = 12 →
  M_X12_count_J1 v0 v1 K m) ∧ (v1 = 13 →
  ((0 : Int) ≤ 5 ∧ 5 < am_len (am_rfv v0 1)) ∧
  K (m (am_rfv v0 1) 5) m) ∧ (v1 = 14 →
  ((0 : Int) ≤ 6 ∧ 6 < am_len (am_rfv v0 1)) ∧
  K (m (am_rfv v0 1) 6) m) ∧ (v1 = 15 →
  ((0 : Int) ≤ 369 ∧ 369 < am_len (am_rfv v0 2)) ∧
  K (m (am_rfv v0 2) 369) m) ∧ (v1 = 16 →
  ((0 : Int) ≤ 169 ∧ 169 < am_len (am_rfv v0 2)) ∧
  K (m (am_rfv v0 2) 169) m) ∧ (v1 = 17 →
  M_X12_count_J2 v0 v1 K m) ∧ (v1 = 18 →
  M_X12_count_J2 v0 v1 K m) ∧ (v1 = 19 →
  M_X12_count_J2 v0 v1 K m) ∧ (v1 < 0 ∨ 19 < v1 →
  K (-1) m)
def N_X12_count : am_PT := fun zs K m => match zs with
  | [v0, v1] => am_ob v0 12 ∧ M_X12_count v0 v1 K m
  | _ => False
def M_X12_status (v0 : Int) (K : am_KK) (m : am_M) : Prop :=
  K (m v0 0) m
def N_X12_status : am_PT := fun zs K m => match zs with
  | [v0] => am_ob v0 12 ∧ M_X12_status v0 K m
  | _ => False
