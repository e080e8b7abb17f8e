/-! WHAT THE CONSTRUCTORS WRITE: events, the latest first: an object made (some n), or a place written. Written by gen_made.py. -/
abbrev ew_E : Type := Option Nat × Int × Int × Int
def ew_m (m0 : am_M) : List ew_E → am_M
  | [] => m0
  | (some n, _, _, _) :: l => am_fr (ew_m m0 l) n
  | (none, o, k, v) :: l => am_st (ew_m m0 l) o k v
/-- what a place holds -/
def ew_g : List ew_E → Int → Int → Option Int
  | [], _, _ => none
  | (some n, _, _, _) :: l, o', k' => if o' = (n : Int) then some (if am_ct (am_sh n) k'.toNat = 2 then -1 else 0) else ew_g l o' k'
  | (none, o, k, v) :: l, o', k' => if o' = o ∧ k' = k then some v else ew_g l o' k'
def ew_r (l : List ew_E) (o k : Int) : Int := (ew_g l o k).getD 0
theorem ew_gm {m0 : am_M} : ∀ {l : List ew_E} {o k v : Int}, ew_g l o k = some v → ew_m m0 l o k = v
  | [], o, k, v, h => by cases h
  | (some n, a, b, c) :: l, o, k, v, h => by
    unfold ew_g at h
    show am_fr (ew_m m0 l) n o k = v
    unfold am_fr
    by_cases q : o = (n : Int)
    · rw [if_pos q] at h ⊢
      exact Option.some.inj h
    · rw [if_neg q] at h ⊢
      exact ew_gm h
  | (none, a, b, c) :: l, o, k, v, h => by
    unfold ew_g at h
    show am_st (ew_m m0 l) a b c o k = v
    unfold am_st
    by_cases q : o = a ∧ k = b
    · rw [if_pos q] at h ⊢
      exact Option.some.inj h
    · rw [if_neg q] at h ⊢
      exact ew_gm h
theorem ew_rd {m0 : am_M} {l : List ew_E} {o k : Int} (h : (ew_g l o k).isSome = true) : ew_m m0 l o k = ew_r l o k := by
  unfold ew_r
  cases e : ew_g l o k with
  | none => rw [e] at h; cases h
  | some v => exact ew_gm e
def L7_1 (v0 : Int) (v1 : Int) (v2 : Int) (n : Nat) (l : List ew_E) : List ew_E := (none, v0, 1, (am_max v2 1)) :: l
def L7_3 (v0 : Int) (v1 : Int) (v2 : Int) (n : Nat) (l : List ew_E) : List ew_E := (some n, 0, 0, 0) :: (L7_1 v0 v1 v2 n l)
def L7_4 (v0 : Int) (v1 : Int) (v2 : Int) (n : Nat) (l : List ew_E) : List ew_E := (none, v0, 0, ((n : Nat) : Int)) :: (L7_3 v0 v1 v2 n l)
def EV_X7 (v0 : Int) (v1 : Int) (v2 : Int) (n : Nat) (l : List ew_E) : List ew_E := (L7_4 v0 v1 v2 n l)
def OK_X7 (v0 : Int) (v1 : Int) (v2 : Int) (n : Nat) (l : List ew_E) : Bool := ((ew_g (L7_1 v0 v1 v2 n l) v0 1).isSome) && ((decide (((0 : Int) ≤ (w32 ((am_max v1 0) * (ew_r (L7_1 v0 v1 v2 n l) v0 1))) ∧ (w32 ((am_max v1 0) * (ew_r (L7_1 v0 v1 v2 n l) v0 1))) ≤ (100000 : Int) ∧ am_sh n = (20, Int.toNat (w32 ((am_max v1 0) * (ew_r (L7_1 v0 v1 v2 n l) v0 1))))))) && (true))
set_option maxRecDepth 20000 in
theorem EC_X7 {m0 : am_M} {v0 v1 v2 : Int} {K : am_M → Prop} {n : Nat} {l : List ew_E} (h : OK_X7 v0 v1 v2 n l = true) (k : K (ew_m m0 (EV_X7 v0 v1 v2 n l))) : C_X7_init v0 v1 v2 K (ew_m m0 l) n := by
  unfold OK_X7 at h
  obtain ⟨q_1_1, h⟩ := Bool.and_eq_true_iff.mp h
  obtain ⟨k_1, h⟩ := Bool.and_eq_true_iff.mp h
  unfold C_X7_init
  intro m_1 e
  have e : m_1 = ew_m m0 (L7_1 v0 v1 v2 n l) := e
  subst e
  rw [ew_rd (m0 := m0) q_1_1]
  have k_1 := of_decide_eq_true k_1
  refine ⟨k_1, ?_⟩
  intro m_3 e
  have e : m_3 = ew_m m0 (L7_3 v0 v1 v2 n l) := e
  subst e
  intro m_4 e
  have e : m_4 = ew_m m0 (L7_4 v0 v1 v2 n l) := e
  subst e
  exact k
def L9_2 (v0 : Int) (n : Nat) (l : List ew_E) : List ew_E := (some n, 0, 0, 0) :: l
def L9_3 (v0 : Int) (n : Nat) (l : List ew_E) : List ew_E := EV_X7 ((n : Nat) : Int) 24 7 (n + 1) (L9_2 v0 n l)
def L9_5 (v0 : Int) (n : Nat) (l : List ew_E) : List ew_E := (none, v0, 0, ((n : Nat) : Int)) :: (L9_3 v0 n l)
def EV_X9 (v0 : Int) (n : Nat) (l : List ew_E) : List ew_E := (L9_5 v0 n l)
def OK_X9 (v0 : Int) (n : Nat) (l : List ew_E) : Bool := (decide (am_sh n = (7, am_N 7))) && ((OK_X7 ((n : Nat) : Int) 24 7 (n + 1) (L9_2 v0 n l)) && (true))
set_option maxRecDepth 20000 in
theorem EC_X9 {m0 : am_M} {v0 : Int} {K : am_M → Prop} {n : Nat} {l : List ew_E} (h : OK_X9 v0 n l = true) (k : K (ew_m m0 (EV_X9 v0 n l))) : C_X9_init v0 K (ew_m m0 l) n := by
  unfold OK_X9 at h
  obtain ⟨k_1, h⟩ := Bool.and_eq_true_iff.mp h
  obtain ⟨k_2, h⟩ := Bool.and_eq_true_iff.mp h
  unfold C_X9_init
  have k_1 := of_decide_eq_true k_1
  refine ⟨k_1, ?_⟩
  intro m_2 e
  have e : m_2 = ew_m m0 (L9_2 v0 n l) := e
  subst e
  refine EC_X7 k_2 ?_
  intro m_5 e
  have e : m_5 = ew_m m0 (L9_5 v0 n l) := e
  subst e
  exact k
def L4_2 (v0 : Int) (n : Nat) (l : List ew_E) : List ew_E := (some n, 0, 0, 0) :: l
def L4_3 (v0 : Int) (n : Nat) (l : List ew_E) : List ew_E := (none, v0, 0, ((n : Nat) : Int)) :: (L4_2 v0 n l)
def L4_5 (v0 : Int) (n : Nat) (l : List ew_E) : List ew_E := (some (n + 1), 0, 0, 0) :: (L4_3 v0 n l)
def L4_6 (v0 : Int) (n : Nat) (l : List ew_E) : List ew_E := EV_X7 ((n + 1 : Nat) : Int) 12 7 (n + 1 + 1) (L4_5 v0 n l)
def L4_8 (v0 : Int) (n : Nat) (l : List ew_E) : List ew_E := (none, v0, 2, ((n + 1 : Nat) : Int)) :: (L4_6 v0 n l)
def EV_X4 (v0 : Int) (n : Nat) (l : List ew_E) : List ew_E := (L4_8 v0 n l)
def OK_X4 (v0 : Int) (n : Nat) (l : List ew_E) : Bool := (decide (((0 : Int) ≤ 400 ∧ 400 ≤ (100000 : Int) ∧ am_sh n = (20, Int.toNat 400)))) && ((decide (am_sh (n + 1) = (7, am_N 7))) && ((OK_X7 ((n + 1 : Nat) : Int) 12 7 (n + 1 + 1) (L4_5 v0 n l)) && (true)))
set_option maxRecDepth 20000 in
theorem EC_X4 {m0 : am_M} {v0 : Int} {K : am_M → Prop} {n : Nat} {l : List ew_E} (h : OK_X4 v0 n l = true) (k : K (ew_m m0 (EV_X4 v0 n l))) : C_X4_init v0 K (ew_m m0 l) n := by
  unfold OK_X4 at h
  obtain ⟨k_1, h⟩ := Bool.and_eq_true_iff.mp h
  obtain ⟨k_2, h⟩ := Bool.and_eq_true_iff.mp h
  obtain ⟨k_3, h⟩ := Bool.and_eq_true_iff.mp h
  unfold C_X4_init
  have k_1 := of_decide_eq_true k_1
  refine ⟨k_1, ?_⟩
  intro m_2 e
  have e : m_2 = ew_m m0 (L4_2 v0 n l) := e
  subst e
  intro m_3 e
  have e : m_3 = ew_m m0 (L4_3 v0 n l) := e
  subst e
  have k_2 := of_decide_eq_true k_2
  refine ⟨k_2, ?_⟩
  intro m_5 e
  have e : m_5 = ew_m m0 (L4_5 v0 n l) := e
  subst e
  refine EC_X7 k_3 ?_
  intro m_8 e
  have e : m_8 = ew_m m0 (L4_8 v0 n l) := e
  subst e
  exact k
def L6_2 (v0 : Int) (n : Nat) (l : List ew_E) : List ew_E := (some n, 0, 0, 0) :: l
def L6_3 (v0 : Int) (n : Nat) (l : List ew_E) : List ew_E := (none, v0, 0, ((n : Nat) : Int)) :: (L6_2 v0 n l)
def EV_X6 (v0 : Int) (n : Nat) (l : List ew_E) : List ew_E := (L6_3 v0 n l)
def OK_X6 (v0 : Int) (n : Nat) (l : List ew_E) : Bool := (decide (((0 : Int) ≤ 64 ∧ 64 ≤ (100000 : Int) ∧ am_sh n = (20, Int.toNat 64)))) && (true)
set_option maxRecDepth 20000 in
theorem EC_X6 {m0 : am_M} {v0 : Int} {K : am_M → Prop} {n : Nat} {l : List ew_E} (h : OK_X6 v0 n l = true) (k : K (ew_m m0 (EV_X6 v0 n l))) : C_X6_init v0 K (ew_m m0 l) n := by
  unfold OK_X6 at h
  obtain ⟨k_1, h⟩ := Bool.and_eq_true_iff.mp h
  unfold C_X6_init
  have k_1 := of_decide_eq_true k_1
  refine ⟨k_1, ?_⟩
  intro m_2 e
  have e : m_2 = ew_m m0 (L6_2 v0 n l) := e
  subst e
  intro m_3 e
  have e : m_3 = ew_m m0 (L6_3 v0 n l) := e
  subst e
  exact k
def L3_2 (v0 : Int) (n : Nat) (l : List ew_E) : List ew_E := (some n, 0, 0, 0) :: l
def L3_3 (v0 : Int) (n : Nat) (l : List ew_E) : List ew_E := (none, v0, 0, ((n : Nat) : Int)) :: (L3_2 v0 n l)
def L3_5 (v0 : Int) (n : Nat) (l : List ew_E) : List ew_E := (some (n + 1), 0, 0, 0) :: (L3_3 v0 n l)
def L3_6 (v0 : Int) (n : Nat) (l : List ew_E) : List ew_E := EV_X6 ((n + 1 : Nat) : Int) (n + 1 + 1) (L3_5 v0 n l)
def L3_8 (v0 : Int) (n : Nat) (l : List ew_E) : List ew_E := (none, v0, 1, ((n + 1 : Nat) : Int)) :: (L3_6 v0 n l)
def EV_X3 (v0 : Int) (n : Nat) (l : List ew_E) : List ew_E := (L3_8 v0 n l)
def OK_X3 (v0 : Int) (n : Nat) (l : List ew_E) : Bool := (decide (((0 : Int) ≤ 8 ∧ 8 ≤ (100000 : Int) ∧ am_sh n = (20, Int.toNat 8)))) && ((decide (am_sh (n + 1) = (6, am_N 6))) && ((OK_X6 ((n + 1 : Nat) : Int) (n + 1 + 1) (L3_5 v0 n l)) && (true)))
set_option maxRecDepth 20000 in
theorem EC_X3 {m0 : am_M} {v0 : Int} {K : am_M → Prop} {n : Nat} {l : List ew_E} (h : OK_X3 v0 n l = true) (k : K (ew_m m0 (EV_X3 v0 n l))) : C_X3_init v0 K (ew_m m0 l) n := by
  unfold OK_X3 at h
  obtain ⟨k_1, h⟩ := Bool.and_eq_true_iff.mp h
  obtain ⟨k_2, h⟩ := Bool.and_eq_true_iff.mp h
  obtain ⟨k_3, h⟩ := Bool.and_eq_true_iff.mp h
  unfold C_X3_init
  have k_1 := of_decide_eq_true k_1
  refine ⟨k_1, ?_⟩
  intro m_2 e
  have e : m_2 = ew_m m0 (L3_2 v0 n l) := e
  subst e
  intro m_3 e
  have e : m_3 = ew_m m0 (L3_3 v0 n l) := e
  subst e
  have k_2 := of_decide_eq_true k_2
  refine ⟨k_2, ?_⟩
  intro m_5 e
  have e : m_5 = ew_m m0 (L3_5 v0 n l) := e
  subst e
  refine EC_X6 k_3 ?_
  intro m_8 e
  have e : m_8 = ew_m m0 (L3_8 v0 n l) := e
  subst e
  exact k
def L10_2 (v0 : Int) (n : Nat) (l : List ew_E) : List ew_E := (some n, 0, 0, 0) :: l
def L10_3 (v0 : Int) (n : Nat) (l : List ew_E) : List ew_E := (none, v0, 0, ((n : Nat) : Int)) :: (L10_2 v0 n l)
def L10_5 (v0 : Int) (n : Nat) (l : List ew_E) : List ew_E := (some (n + 1), 0, 0, 0) :: (L10_3 v0 n l)
def L10_6 (v0 : Int) (n : Nat) (l : List ew_E) : List ew_E := (none, v0, 1, ((n + 1 : Nat) : Int)) :: (L10_5 v0 n l)
def L10_8 (v0 : Int) (n : Nat) (l : List ew_E) : List ew_E := (some (n + 1 + 1), 0, 0, 0) :: (L10_6 v0 n l)
def L10_9 (v0 : Int) (n : Nat) (l : List ew_E) : List ew_E := (none, v0, 2, ((n + 1 + 1 : Nat) : Int)) :: (L10_8 v0 n l)
def EV_X10 (v0 : Int) (n : Nat) (l : List ew_E) : List ew_E := (L10_9 v0 n l)
def OK_X10 (v0 : Int) (n : Nat) (l : List ew_E) : Bool := (decide (((0 : Int) ≤ 8 ∧ 8 ≤ (100000 : Int) ∧ am_sh n = (23, Int.toNat 8)))) && ((decide (((0 : Int) ≤ 8 ∧ 8 ≤ (100000 : Int) ∧ am_sh (n + 1) = (20, Int.toNat 8)))) && ((decide (((0 : Int) ≤ 8 ∧ 8 ≤ (100000 : Int) ∧ am_sh (n + 1 + 1) = (20, Int.toNat 8)))) && (true)))
set_option maxRecDepth 20000 in
theorem EC_X10 {m0 : am_M} {v0 : Int} {K : am_M → Prop} {n : Nat} {l : List ew_E} (h : OK_X10 v0 n l = true) (k : K (ew_m m0 (EV_X10 v0 n l))) : C_X10_init v0 K (ew_m m0 l) n := by
  unfold OK_X10 at h
  obtain ⟨k_1, h⟩ := Bool.and_eq_true_iff.mp h
  obtain ⟨k_2, h⟩ := Bool.and_eq_true_iff.mp h
  obtain ⟨k_3, h⟩ := Bool.and_eq_true_iff.mp h
  unfold C_X10_init
  have k_1 := of_decide_eq_true k_1
  refine ⟨k_1, ?_⟩
  intro m_2 e
  have e : m_2 = ew_m m0 (L10_2 v0 n l) := e
  subst e
  intro m_3 e
  have e : m_3 = ew_m m0 (L10_3 v0 n l) := e
  subst e
  have k_2 := of_decide_eq_true k_2
  refine ⟨k_2, ?_⟩
  intro m_5 e
  have e : m_5 = ew_m m0 (L10_5 v0 n l) := e
  subst e
  intro m_6 e
  have e : m_6 = ew_m m0 (L10_6 v0 n l) := e
  subst e
  have k_3 := of_decide_eq_true k_3
  refine ⟨k_3, ?_⟩
  intro m_8 e
  have e : m_8 = ew_m m0 (L10_8 v0 n l) := e
  subst e
  intro m_9 e
  have e : m_9 = ew_m m0 (L10_9 v0 n l) := e
  subst e
  exact k
def L1_2 (v0 : Int) (n : Nat) (l : List ew_E) : List ew_E := (some n, 0, 0, 0) :: l
def L1_3 (v0 : Int) (n : Nat) (l : List ew_E) : List ew_E := (none, v0, 0, ((n : Nat) : Int)) :: (L1_2 v0 n l)
def L1_5 (v0 : Int) (n : Nat) (l : List ew_E) : List ew_E := (some (n + 1), 0, 0, 0) :: (L1_3 v0 n l)
def L1_6 (v0 : Int) (n : Nat) (l : List ew_E) : List ew_E := (none, v0, 2, ((n + 1 : Nat) : Int)) :: (L1_5 v0 n l)
def L1_8 (v0 : Int) (n : Nat) (l : List ew_E) : List ew_E := (some (n + 1 + 1), 0, 0, 0) :: (L1_6 v0 n l)
def L1_9 (v0 : Int) (n : Nat) (l : List ew_E) : List ew_E := (none, v0, 4, ((n + 1 + 1 : Nat) : Int)) :: (L1_8 v0 n l)
def L1_11 (v0 : Int) (n : Nat) (l : List ew_E) : List ew_E := (some (n + 1 + 1 + 1), 0, 0, 0) :: (L1_9 v0 n l)
def L1_12 (v0 : Int) (n : Nat) (l : List ew_E) : List ew_E := (none, v0, 5, ((n + 1 + 1 + 1 : Nat) : Int)) :: (L1_11 v0 n l)
def L1_14 (v0 : Int) (n : Nat) (l : List ew_E) : List ew_E := (some (n + 1 + 1 + 1 + 1), 0, 0, 0) :: (L1_12 v0 n l)
def L1_15 (v0 : Int) (n : Nat) (l : List ew_E) : List ew_E := (none, v0, 6, ((n + 1 + 1 + 1 + 1 : Nat) : Int)) :: (L1_14 v0 n l)
def L1_17 (v0 : Int) (n : Nat) (l : List ew_E) : List ew_E := (some (n + 1 + 1 + 1 + 1 + 1), 0, 0, 0) :: (L1_15 v0 n l)
def L1_18 (v0 : Int) (n : Nat) (l : List ew_E) : List ew_E := (none, v0, 7, ((n + 1 + 1 + 1 + 1 + 1 : Nat) : Int)) :: (L1_17 v0 n l)
def EV_X1 (v0 : Int) (n : Nat) (l : List ew_E) : List ew_E := (L1_18 v0 n l)
def OK_X1 (v0 : Int) (n : Nat) (l : List ew_E) : Bool := (decide (((0 : Int) ≤ 6 ∧ 6 ≤ (100000 : Int) ∧ am_sh n = (20, Int.toNat 6)))) && ((decide (((0 : Int) ≤ 3 ∧ 3 ≤ (100000 : Int) ∧ am_sh (n + 1) = (20, Int.toNat 3)))) && ((decide (((0 : Int) ≤ 64 ∧ 64 ≤ (100000 : Int) ∧ am_sh (n + 1 + 1) = (20, Int.toNat 64)))) && ((decide (((0 : Int) ≤ 64 ∧ 64 ≤ (100000 : Int) ∧ am_sh (n + 1 + 1 + 1) = (20, Int.toNat 64)))) && ((decide (((0 : Int) ≤ 384 ∧ 384 ≤ (100000 : Int) ∧ am_sh (n + 1 + 1 + 1 + 1) = (20, Int.toNat 384)))) && ((decide (((0 : Int) ≤ 6 ∧ 6 ≤ (100000 : Int) ∧ am_sh (n + 1 + 1 + 1 + 1 + 1) = (20, Int.toNat 6)))) && (true))))))
set_option maxRecDepth 20000 in
theorem EC_X1 {m0 : am_M} {v0 : Int} {K : am_M → Prop} {n : Nat} {l : List ew_E} (h : OK_X1 v0 n l = true) (k : K (ew_m m0 (EV_X1 v0 n l))) : C_X1_init v0 K (ew_m m0 l) n := by
  unfold OK_X1 at h
  obtain ⟨k_1, h⟩ := Bool.and_eq_true_iff.mp h
  obtain ⟨k_2, h⟩ := Bool.and_eq_true_iff.mp h
  obtain ⟨k_3, h⟩ := Bool.and_eq_true_iff.mp h
  obtain ⟨k_4, h⟩ := Bool.and_eq_true_iff.mp h
  obtain ⟨k_5, h⟩ := Bool.and_eq_true_iff.mp h
  obtain ⟨k_6, h⟩ := Bool.and_eq_true_iff.mp h
  unfold C_X1_init
  have k_1 := of_decide_eq_true k_1
  refine ⟨k_1, ?_⟩
  intro m_2 e
  have e : m_2 = ew_m m0 (L1_2 v0 n l) := e
  subst e
  intro m_3 e
  have e : m_3 = ew_m m0 (L1_3 v0 n l) := e
  subst e
  have k_2 := of_decide_eq_true k_2
  refine ⟨k_2, ?_⟩
  intro m_5 e
  have e : m_5 = ew_m m0 (L1_5 v0 n l) := e
  subst e
  intro m_6 e
  have e : m_6 = ew_m m0 (L1_6 v0 n l) := e
  subst e
  have k_3 := of_decide_eq_true k_3
  refine ⟨k_3, ?_⟩
  intro m_8 e
  have e : m_8 = ew_m m0 (L1_8 v0 n l) := e
  subst e
  intro m_9 e
  have e : m_9 = ew_m m0 (L1_9 v0 n l) := e
  subst e
  have k_4 := of_decide_eq_true k_4
  refine ⟨k_4, ?_⟩
  intro m_11 e
  have e : m_11 = ew_m m0 (L1_11 v0 n l) := e
  subst e
  intro m_12 e
  have e : m_12 = ew_m m0 (L1_12 v0 n l) := e
  subst e
  have k_5 := of_decide_eq_true k_5
  refine ⟨k_5, ?_⟩
  intro m_14 e
  have e : m_14 = ew_m m0 (L1_14 v0 n l) := e
  subst e
  intro m_15 e
  have e : m_15 = ew_m m0 (L1_15 v0 n l) := e
  subst e
  have k_6 := of_decide_eq_true k_6
  refine ⟨k_6, ?_⟩
  intro m_17 e
  have e : m_17 = ew_m m0 (L1_17 v0 n l) := e
  subst e
  intro m_18 e
  have e : m_18 = ew_m m0 (L1_18 v0 n l) := e
  subst e
  exact k
def L8_2 (v0 : Int) (n : Nat) (l : List ew_E) : List ew_E := (some n, 0, 0, 0) :: l
def L8_3 (v0 : Int) (n : Nat) (l : List ew_E) : List ew_E := EV_X7 ((n : Nat) : Int) 6 4 (n + 1) (L8_2 v0 n l)
def L8_5 (v0 : Int) (n : Nat) (l : List ew_E) : List ew_E := (none, v0, 0, ((n : Nat) : Int)) :: (L8_3 v0 n l)
def EV_X8 (v0 : Int) (n : Nat) (l : List ew_E) : List ew_E := (L8_5 v0 n l)
def OK_X8 (v0 : Int) (n : Nat) (l : List ew_E) : Bool := (decide (am_sh n = (7, am_N 7))) && ((OK_X7 ((n : Nat) : Int) 6 4 (n + 1) (L8_2 v0 n l)) && (true))
set_option maxRecDepth 20000 in
theorem EC_X8 {m0 : am_M} {v0 : Int} {K : am_M → Prop} {n : Nat} {l : List ew_E} (h : OK_X8 v0 n l = true) (k : K (ew_m m0 (EV_X8 v0 n l))) : C_X8_init v0 K (ew_m m0 l) n := by
  unfold OK_X8 at h
  obtain ⟨k_1, h⟩ := Bool.and_eq_true_iff.mp h
  obtain ⟨k_2, h⟩ := Bool.and_eq_true_iff.mp h
  unfold C_X8_init
  have k_1 := of_decide_eq_true k_1
  refine ⟨k_1, ?_⟩
  intro m_2 e
  have e : m_2 = ew_m m0 (L8_2 v0 n l) := e
  subst e
  refine EC_X7 k_2 ?_
  intro m_5 e
  have e : m_5 = ew_m m0 (L8_5 v0 n l) := e
  subst e
  exact k
def L0_2 (v0 : Int) (n : Nat) (l : List ew_E) : List ew_E := (some n, 0, 0, 0) :: l
def L0_3 (v0 : Int) (n : Nat) (l : List ew_E) : List ew_E := EV_X7 ((n : Nat) : Int) 10 1 (n + 1) (L0_2 v0 n l)
def L0_5 (v0 : Int) (n : Nat) (l : List ew_E) : List ew_E := (none, v0, 0, ((n : Nat) : Int)) :: (L0_3 v0 n l)
def L0_7 (v0 : Int) (n : Nat) (l : List ew_E) : List ew_E := (some (n + 1 + 1), 0, 0, 0) :: (L0_5 v0 n l)
def L0_8 (v0 : Int) (n : Nat) (l : List ew_E) : List ew_E := EV_X7 ((n + 1 + 1 : Nat) : Int) 16 4 (n + 1 + 1 + 1) (L0_7 v0 n l)
def L0_10 (v0 : Int) (n : Nat) (l : List ew_E) : List ew_E := (none, v0, 1, ((n + 1 + 1 : Nat) : Int)) :: (L0_8 v0 n l)
def L0_12 (v0 : Int) (n : Nat) (l : List ew_E) : List ew_E := (some (n + 1 + 1 + 1 + 1), 0, 0, 0) :: (L0_10 v0 n l)
def L0_13 (v0 : Int) (n : Nat) (l : List ew_E) : List ew_E := EV_X7 ((n + 1 + 1 + 1 + 1 : Nat) : Int) 6 1 (n + 1 + 1 + 1 + 1 + 1) (L0_12 v0 n l)
def L0_15 (v0 : Int) (n : Nat) (l : List ew_E) : List ew_E := (none, v0, 2, ((n + 1 + 1 + 1 + 1 : Nat) : Int)) :: (L0_13 v0 n l)
def L0_17 (v0 : Int) (n : Nat) (l : List ew_E) : List ew_E := (some (n + 1 + 1 + 1 + 1 + 1 + 1), 0, 0, 0) :: (L0_15 v0 n l)
def L0_18 (v0 : Int) (n : Nat) (l : List ew_E) : List ew_E := EV_X7 ((n + 1 + 1 + 1 + 1 + 1 + 1 : Nat) : Int) 10 2 (n + 1 + 1 + 1 + 1 + 1 + 1 + 1) (L0_17 v0 n l)
def L0_20 (v0 : Int) (n : Nat) (l : List ew_E) : List ew_E := (none, v0, 3, ((n + 1 + 1 + 1 + 1 + 1 + 1 : Nat) : Int)) :: (L0_18 v0 n l)
def L0_22 (v0 : Int) (n : Nat) (l : List ew_E) : List ew_E := (some (n + 1 + 1 + 1 + 1 + 1 + 1 + 1 + 1), 0, 0, 0) :: (L0_20 v0 n l)
def L0_23 (v0 : Int) (n : Nat) (l : List ew_E) : List ew_E := EV_X7 ((n + 1 + 1 + 1 + 1 + 1 + 1 + 1 + 1 : Nat) : Int) 6 3 (n + 1 + 1 + 1 + 1 + 1 + 1 + 1 + 1 + 1) (L0_22 v0 n l)
def L0_25 (v0 : Int) (n : Nat) (l : List ew_E) : List ew_E := (none, v0, 4, ((n + 1 + 1 + 1 + 1 + 1 + 1 + 1 + 1 : Nat) : Int)) :: (L0_23 v0 n l)
def L0_27 (v0 : Int) (n : Nat) (l : List ew_E) : List ew_E := (some (n + 1 + 1 + 1 + 1 + 1 + 1 + 1 + 1 + 1 + 1), 0, 0, 0) :: (L0_25 v0 n l)
def L0_28 (v0 : Int) (n : Nat) (l : List ew_E) : List ew_E := EV_X9 ((n + 1 + 1 + 1 + 1 + 1 + 1 + 1 + 1 + 1 + 1 : Nat) : Int) (n + 1 + 1 + 1 + 1 + 1 + 1 + 1 + 1 + 1 + 1 + 1) (L0_27 v0 n l)
def L0_30 (v0 : Int) (n : Nat) (l : List ew_E) : List ew_E := (none, v0, 5, ((n + 1 + 1 + 1 + 1 + 1 + 1 + 1 + 1 + 1 + 1 : Nat) : Int)) :: (L0_28 v0 n l)
def L0_32 (v0 : Int) (n : Nat) (l : List ew_E) : List ew_E := (some (n + 1 + 1 + 1 + 1 + 1 + 1 + 1 + 1 + 1 + 1 + 1 + 2), 0, 0, 0) :: (L0_30 v0 n l)
def L0_33 (v0 : Int) (n : Nat) (l : List ew_E) : List ew_E := (none, v0, 6, ((n + 1 + 1 + 1 + 1 + 1 + 1 + 1 + 1 + 1 + 1 + 1 + 2 : Nat) : Int)) :: (L0_32 v0 n l)
def L0_35 (v0 : Int) (n : Nat) (l : List ew_E) : List ew_E := (some (n + 1 + 1 + 1 + 1 + 1 + 1 + 1 + 1 + 1 + 1 + 1 + 2 + 1), 0, 0, 0) :: (L0_33 v0 n l)
def L0_36 (v0 : Int) (n : Nat) (l : List ew_E) : List ew_E := (none, v0, 7, ((n + 1 + 1 + 1 + 1 + 1 + 1 + 1 + 1 + 1 + 1 + 1 + 2 + 1 : Nat) : Int)) :: (L0_35 v0 n l)
def L0_38 (v0 : Int) (n : Nat) (l : List ew_E) : List ew_E := (some (n + 1 + 1 + 1 + 1 + 1 + 1 + 1 + 1 + 1 + 1 + 1 + 2 + 1 + 1), 0, 0, 0) :: (L0_36 v0 n l)
def L0_39 (v0 : Int) (n : Nat) (l : List ew_E) : List ew_E := (none, ((n + 1 + 1 + 1 + 1 + 1 + 1 + 1 + 1 + 1 + 1 + 1 + 2 + 1 + 1 : Nat) : Int), 0, 0) :: (L0_38 v0 n l)
def L0_40 (v0 : Int) (n : Nat) (l : List ew_E) : List ew_E := (none, ((n + 1 + 1 + 1 + 1 + 1 + 1 + 1 + 1 + 1 + 1 + 1 + 2 + 1 + 1 : Nat) : Int), 1, 1) :: (L0_39 v0 n l)
def L0_41 (v0 : Int) (n : Nat) (l : List ew_E) : List ew_E := (none, ((n + 1 + 1 + 1 + 1 + 1 + 1 + 1 + 1 + 1 + 1 + 1 + 2 + 1 + 1 : Nat) : Int), 2, 3) :: (L0_40 v0 n l)
def L0_42 (v0 : Int) (n : Nat) (l : List ew_E) : List ew_E := (none, ((n + 1 + 1 + 1 + 1 + 1 + 1 + 1 + 1 + 1 + 1 + 1 + 2 + 1 + 1 : Nat) : Int), 3, 0) :: (L0_41 v0 n l)
def L0_43 (v0 : Int) (n : Nat) (l : List ew_E) : List ew_E := (none, v0, 8, ((n + 1 + 1 + 1 + 1 + 1 + 1 + 1 + 1 + 1 + 1 + 1 + 2 + 1 + 1 : Nat) : Int)) :: (L0_42 v0 n l)
def L0_45 (v0 : Int) (n : Nat) (l : List ew_E) : List ew_E := (some (n + 1 + 1 + 1 + 1 + 1 + 1 + 1 + 1 + 1 + 1 + 1 + 2 + 1 + 1 + 1), 0, 0, 0) :: (L0_43 v0 n l)
def L0_47 (v0 : Int) (n : Nat) (l : List ew_E) : List ew_E := (some (n + 1 + 1 + 1 + 1 + 1 + 1 + 1 + 1 + 1 + 1 + 1 + 2 + 1 + 1 + 1 + 1), 0, 0, 0) :: (L0_45 v0 n l)
def L0_48 (v0 : Int) (n : Nat) (l : List ew_E) : List ew_E := EV_X4 ((n + 1 + 1 + 1 + 1 + 1 + 1 + 1 + 1 + 1 + 1 + 1 + 2 + 1 + 1 + 1 + 1 : Nat) : Int) (n + 1 + 1 + 1 + 1 + 1 + 1 + 1 + 1 + 1 + 1 + 1 + 2 + 1 + 1 + 1 + 1 + 1) (L0_47 v0 n l)
def L0_50 (v0 : Int) (n : Nat) (l : List ew_E) : List ew_E := (none, ((n + 1 + 1 + 1 + 1 + 1 + 1 + 1 + 1 + 1 + 1 + 1 + 2 + 1 + 1 + 1 : Nat) : Int), 0, ((n + 1 + 1 + 1 + 1 + 1 + 1 + 1 + 1 + 1 + 1 + 1 + 2 + 1 + 1 + 1 + 1 : Nat) : Int)) :: (L0_48 v0 n l)
def L0_52 (v0 : Int) (n : Nat) (l : List ew_E) : List ew_E := (some (n + 1 + 1 + 1 + 1 + 1 + 1 + 1 + 1 + 1 + 1 + 1 + 2 + 1 + 1 + 1 + 1 + 1 + 3), 0, 0, 0) :: (L0_50 v0 n l)
def L0_53 (v0 : Int) (n : Nat) (l : List ew_E) : List ew_E := EV_X4 ((n + 1 + 1 + 1 + 1 + 1 + 1 + 1 + 1 + 1 + 1 + 1 + 2 + 1 + 1 + 1 + 1 + 1 + 3 : Nat) : Int) (n + 1 + 1 + 1 + 1 + 1 + 1 + 1 + 1 + 1 + 1 + 1 + 2 + 1 + 1 + 1 + 1 + 1 + 3 + 1) (L0_52 v0 n l)
def L0_55 (v0 : Int) (n : Nat) (l : List ew_E) : List ew_E := (none, ((n + 1 + 1 + 1 + 1 + 1 + 1 + 1 + 1 + 1 + 1 + 1 + 2 + 1 + 1 + 1 : Nat) : Int), 1, ((n + 1 + 1 + 1 + 1 + 1 + 1 + 1 + 1 + 1 + 1 + 1 + 2 + 1 + 1 + 1 + 1 + 1 + 3 : Nat) : Int)) :: (L0_53 v0 n l)
def L0_57 (v0 : Int) (n : Nat) (l : List ew_E) : List ew_E := (some (n + 1 + 1 + 1 + 1 + 1 + 1 + 1 + 1 + 1 + 1 + 1 + 2 + 1 + 1 + 1 + 1 + 1 + 3 + 1 + 3), 0, 0, 0) :: (L0_55 v0 n l)
def L0_58 (v0 : Int) (n : Nat) (l : List ew_E) : List ew_E := EV_X4 ((n + 1 + 1 + 1 + 1 + 1 + 1 + 1 + 1 + 1 + 1 + 1 + 2 + 1 + 1 + 1 + 1 + 1 + 3 + 1 + 3 : Nat) : Int) (n + 1 + 1 + 1 + 1 + 1 + 1 + 1 + 1 + 1 + 1 + 1 + 2 + 1 + 1 + 1 + 1 + 1 + 3 + 1 + 3 + 1) (L0_57 v0 n l)
def L0_60 (v0 : Int) (n : Nat) (l : List ew_E) : List ew_E := (none, ((n + 1 + 1 + 1 + 1 + 1 + 1 + 1 + 1 + 1 + 1 + 1 + 2 + 1 + 1 + 1 : Nat) : Int), 2, ((n + 1 + 1 + 1 + 1 + 1 + 1 + 1 + 1 + 1 + 1 + 1 + 2 + 1 + 1 + 1 + 1 + 1 + 3 + 1 + 3 : Nat) : Int)) :: (L0_58 v0 n l)
def L0_62 (v0 : Int) (n : Nat) (l : List ew_E) : List ew_E := (some (n + 1 + 1 + 1 + 1 + 1 + 1 + 1 + 1 + 1 + 1 + 1 + 2 + 1 + 1 + 1 + 1 + 1 + 3 + 1 + 3 + 1 + 3), 0, 0, 0) :: (L0_60 v0 n l)
def L0_63 (v0 : Int) (n : Nat) (l : List ew_E) : List ew_E := EV_X4 ((n + 1 + 1 + 1 + 1 + 1 + 1 + 1 + 1 + 1 + 1 + 1 + 2 + 1 + 1 + 1 + 1 + 1 + 3 + 1 + 3 + 1 + 3 : Nat) : Int) (n + 1 + 1 + 1 + 1 + 1 + 1 + 1 + 1 + 1 + 1 + 1 + 2 + 1 + 1 + 1 + 1 + 1 + 3 + 1 + 3 + 1 + 3 + 1) (L0_62 v0 n l)
def L0_65 (v0 : Int) (n : Nat) (l : List ew_E) : List ew_E := (none, ((n + 1 + 1 + 1 + 1 + 1 + 1 + 1 + 1 + 1 + 1 + 1 + 2 + 1 + 1 + 1 : Nat) : Int), 3, ((n + 1 + 1 + 1 + 1 + 1 + 1 + 1 + 1 + 1 + 1 + 1 + 2 + 1 + 1 + 1 + 1 + 1 + 3 + 1 + 3 + 1 + 3 : Nat) : Int)) :: (L0_63 v0 n l)
def L0_67 (v0 : Int) (n : Nat) (l : List ew_E) : List ew_E := (some (n + 1 + 1 + 1 + 1 + 1 + 1 + 1 + 1 + 1 + 1 + 1 + 2 + 1 + 1 + 1 + 1 + 1 + 3 + 1 + 3 + 1 + 3 + 1 + 3), 0, 0, 0) :: (L0_65 v0 n l)
def L0_68 (v0 : Int) (n : Nat) (l : List ew_E) : List ew_E := EV_X4 ((n + 1 + 1 + 1 + 1 + 1 + 1 + 1 + 1 + 1 + 1 + 1 + 2 + 1 + 1 + 1 + 1 + 1 + 3 + 1 + 3 + 1 + 3 + 1 + 3 : Nat) : Int) (n + 1 + 1 + 1 + 1 + 1 + 1 + 1 + 1 + 1 + 1 + 1 + 2 + 1 + 1 + 1 + 1 + 1 + 3 + 1 + 3 + 1 + 3 + 1 + 3 + 1) (L0_67 v0 n l)
def L0_70 (v0 : Int) (n : Nat) (l : List ew_E) : List ew_E := (none, ((n + 1 + 1 + 1 + 1 + 1 + 1 + 1 + 1 + 1 + 1 + 1 + 2 + 1 + 1 + 1 : Nat) : Int), 4, ((n + 1 + 1 + 1 + 1 + 1 + 1 + 1 + 1 + 1 + 1 + 1 + 2 + 1 + 1 + 1 + 1 + 1 + 3 + 1 + 3 + 1 + 3 + 1 + 3 : Nat) : Int)) :: (L0_68 v0 n l)
def L0_72 (v0 : Int) (n : Nat) (l : List ew_E) : List ew_E := (some (n + 1 + 1 + 1 + 1 + 1 + 1 + 1 + 1 + 1 + 1 + 1 + 2 + 1 + 1 + 1 + 1 + 1 + 3 + 1 + 3 + 1 + 3 + 1 + 3 + 1 + 3), 0, 0, 0) :: (L0_70 v0 n l)
def L0_73 (v0 : Int) (n : Nat) (l : List ew_E) : List ew_E := EV_X4 ((n + 1 + 1 + 1 + 1 + 1 + 1 + 1 + 1 + 1 + 1 + 1 + 2 + 1 + 1 + 1 + 1 + 1 + 3 + 1 + 3 + 1 + 3 + 1 + 3 + 1 + 3 : Nat) : Int) (n + 1 + 1 + 1 + 1 + 1 + 1 + 1 + 1 + 1 + 1 + 1 + 2 + 1 + 1 + 1 + 1 + 1 + 3 + 1 + 3 + 1 + 3 + 1 + 3 + 1 + 3 + 1) (L0_72 v0 n l)
def L0_75 (v0 : Int) (n : Nat) (l : List ew_E) : List ew_E := (none, ((n + 1 + 1 + 1 + 1 + 1 + 1 + 1 + 1 + 1 + 1 + 1 + 2 + 1 + 1 + 1 : Nat) : Int), 5, ((n + 1 + 1 + 1 + 1 + 1 + 1 + 1 + 1 + 1 + 1 + 1 + 2 + 1 + 1 + 1 + 1 + 1 + 3 + 1 + 3 + 1 + 3 + 1 + 3 + 1 + 3 : Nat) : Int)) :: (L0_73 v0 n l)
def L0_76 (v0 : Int) (n : Nat) (l : List ew_E) : List ew_E := (none, v0, 9, ((n + 1 + 1 + 1 + 1 + 1 + 1 + 1 + 1 + 1 + 1 + 1 + 2 + 1 + 1 + 1 : Nat) : Int)) :: (L0_75 v0 n l)
def L0_77 (v0 : Int) (n : Nat) (l : List ew_E) : List ew_E := (none, v0, 11, (-1)) :: (L0_76 v0 n l)
def EV_X0 (v0 : Int) (n : Nat) (l : List ew_E) : List ew_E := (L0_77 v0 n l)
def OK_X0 (v0 : Int) (n : Nat) (l : List ew_E) : Bool := (decide (am_sh n = (7, am_N 7))) && ((OK_X7 ((n : Nat) : Int) 10 1 (n + 1) (L0_2 v0 n l)) && ((decide (am_sh (n + 1 + 1) = (7, am_N 7))) && ((OK_X7 ((n + 1 + 1 : Nat) : Int) 16 4 (n + 1 + 1 + 1) (L0_7 v0 n l)) && ((decide (am_sh (n + 1 + 1 + 1 + 1) = (7, am_N 7))) && ((OK_X7 ((n + 1 + 1 + 1 + 1 : Nat) : Int) 6 1 (n + 1 + 1 + 1 + 1 + 1) (L0_12 v0 n l)) && ((decide (am_sh (n + 1 + 1 + 1 + 1 + 1 + 1) = (7, am_N 7))) && ((OK_X7 ((n + 1 + 1 + 1 + 1 + 1 + 1 : Nat) : Int) 10 2 (n + 1 + 1 + 1 + 1 + 1 + 1 + 1) (L0_17 v0 n l)) && ((decide (am_sh (n + 1 + 1 + 1 + 1 + 1 + 1 + 1 + 1) = (7, am_N 7))) && ((OK_X7 ((n + 1 + 1 + 1 + 1 + 1 + 1 + 1 + 1 : Nat) : Int) 6 3 (n + 1 + 1 + 1 + 1 + 1 + 1 + 1 + 1 + 1) (L0_22 v0 n l)) && ((decide (am_sh (n + 1 + 1 + 1 + 1 + 1 + 1 + 1 + 1 + 1 + 1) = (9, am_N 9))) && ((OK_X9 ((n + 1 + 1 + 1 + 1 + 1 + 1 + 1 + 1 + 1 + 1 : Nat) : Int) (n + 1 + 1 + 1 + 1 + 1 + 1 + 1 + 1 + 1 + 1 + 1) (L0_27 v0 n l)) && ((decide (((0 : Int) ≤ 8 ∧ 8 ≤ (100000 : Int) ∧ am_sh (n + 1 + 1 + 1 + 1 + 1 + 1 + 1 + 1 + 1 + 1 + 1 + 2) = (20, Int.toNat 8)))) && ((decide (((0 : Int) ≤ 8 ∧ 8 ≤ (100000 : Int) ∧ am_sh (n + 1 + 1 + 1 + 1 + 1 + 1 + 1 + 1 + 1 + 1 + 1 + 2 + 1) = (20, Int.toNat 8)))) && ((decide (((0 : Int) ≤ 4 ∧ 4 ≤ (100000 : Int) ∧ am_sh (n + 1 + 1 + 1 + 1 + 1 + 1 + 1 + 1 + 1 + 1 + 1 + 2 + 1 + 1) = (20, Int.toNat 4)))) && ((decide (((0 : Int) ≤ 6 ∧ 6 ≤ (100000 : Int) ∧ am_sh (n + 1 + 1 + 1 + 1 + 1 + 1 + 1 + 1 + 1 + 1 + 1 + 2 + 1 + 1 + 1) = (25, Int.toNat 6)))) && ((decide (am_sh (n + 1 + 1 + 1 + 1 + 1 + 1 + 1 + 1 + 1 + 1 + 1 + 2 + 1 + 1 + 1 + 1) = (4, am_N 4))) && ((OK_X4 ((n + 1 + 1 + 1 + 1 + 1 + 1 + 1 + 1 + 1 + 1 + 1 + 2 + 1 + 1 + 1 + 1 : Nat) : Int) (n + 1 + 1 + 1 + 1 + 1 + 1 + 1 + 1 + 1 + 1 + 1 + 2 + 1 + 1 + 1 + 1 + 1) (L0_47 v0 n l)) && ((decide (am_sh (n + 1 + 1 + 1 + 1 + 1 + 1 + 1 + 1 + 1 + 1 + 1 + 2 + 1 + 1 + 1 + 1 + 1 + 3) = (4, am_N 4))) && ((OK_X4 ((n + 1 + 1 + 1 + 1 + 1 + 1 + 1 + 1 + 1 + 1 + 1 + 2 + 1 + 1 + 1 + 1 + 1 + 3 : Nat) : Int) (n + 1 + 1 + 1 + 1 + 1 + 1 + 1 + 1 + 1 + 1 + 1 + 2 + 1 + 1 + 1 + 1 + 1 + 3 + 1) (L0_52 v0 n l)) && ((decide (am_sh (n + 1 + 1 + 1 + 1 + 1 + 1 + 1 + 1 + 1 + 1 + 1 + 2 + 1 + 1 + 1 + 1 + 1 + 3 + 1 + 3) = (4, am_N 4))) && ((OK_X4 ((n + 1 + 1 + 1 + 1 + 1 + 1 + 1 + 1 + 1 + 1 + 1 + 2 + 1 + 1 + 1 + 1 + 1 + 3 + 1 + 3 : Nat) : Int) (n + 1 + 1 + 1 + 1 + 1 + 1 + 1 + 1 + 1 + 1 + 1 + 2 + 1 + 1 + 1 + 1 + 1 + 3 + 1 + 3 + 1) (L0_57 v0 n l)) && ((decide (am_sh (n + 1 + 1 + 1 + 1 + 1 + 1 + 1 + 1 + 1 + 1 + 1 + 2 + 1 + 1 + 1 + 1 + 1 + 3 + 1 + 3 + 1 + 3) = (4, am_N 4))) && ((OK_X4 ((n + 1 + 1 + 1 + 1 + 1 + 1 + 1 + 1 + 1 + 1 + 1 + 2 + 1 + 1 + 1 + 1 + 1 + 3 + 1 + 3 + 1 + 3 : Nat) : Int) (n + 1 + 1 + 1 + 1 + 1 + 1 + 1 + 1 + 1 + 1 + 1 + 2 + 1 + 1 + 1 + 1 + 1 + 3 + 1 + 3 + 1 + 3 + 1) (L0_62 v0 n l)) && ((decide (am_sh (n + 1 + 1 + 1 + 1 + 1 + 1 + 1 + 1 + 1 + 1 + 1 + 2 + 1 + 1 + 1 + 1 + 1 + 3 + 1 + 3 + 1 + 3 + 1 + 3) = (4, am_N 4))) && ((OK_X4 ((n + 1 + 1 + 1 + 1 + 1 + 1 + 1 + 1 + 1 + 1 + 1 + 2 + 1 + 1 + 1 + 1 + 1 + 3 + 1 + 3 + 1 + 3 + 1 + 3 : Nat) : Int) (n + 1 + 1 + 1 + 1 + 1 + 1 + 1 + 1 + 1 + 1 + 1 + 2 + 1 + 1 + 1 + 1 + 1 + 3 + 1 + 3 + 1 + 3 + 1 + 3 + 1) (L0_67 v0 n l)) && ((decide (am_sh (n + 1 + 1 + 1 + 1 + 1 + 1 + 1 + 1 + 1 + 1 + 1 + 2 + 1 + 1 + 1 + 1 + 1 + 3 + 1 + 3 + 1 + 3 + 1 + 3 + 1 + 3) = (4, am_N 4))) && ((OK_X4 ((n + 1 + 1 + 1 + 1 + 1 + 1 + 1 + 1 + 1 + 1 + 1 + 2 + 1 + 1 + 1 + 1 + 1 + 3 + 1 + 3 + 1 + 3 + 1 + 3 + 1 + 3 : Nat) : Int) (n + 1 + 1 + 1 + 1 + 1 + 1 + 1 + 1 + 1 + 1 + 1 + 2 + 1 + 1 + 1 + 1 + 1 + 3 + 1 + 3 + 1 + 3 + 1 + 3 + 1 + 3 + 1) (L0_72 v0 n l)) && (true))))))))))))))))))))))))))))
set_option maxRecDepth 20000 in
theorem EC_X0 {m0 : am_M} {v0 : Int} {K : am_M → Prop} {n : Nat} {l : List ew_E} (h : OK_X0 v0 n l = true) (k : K (ew_m m0 (EV_X0 v0 n l))) : C_X0_init v0 K (ew_m m0 l) n := by
  unfold OK_X0 at h
  obtain ⟨k_1, h⟩ := Bool.and_eq_true_iff.mp h
  obtain ⟨k_2, h⟩ := Bool.and_eq_true_iff.mp h
  obtain ⟨k_3, h⟩ := Bool.and_eq_true_iff.mp h
  obtain ⟨k_4, h⟩ := Bool.and_eq_true_iff.mp h
  obtain ⟨k_5, h⟩ := Bool.and_eq_true_iff.mp h
  obtain ⟨k_6, h⟩ := Bool.and_eq_true_iff.mp h
  obtain ⟨k_7, h⟩ := Bool.and_eq_true_iff.mp h
  obtain ⟨k_8, h⟩ := Bool.and_eq_true_iff.mp h
  obtain ⟨k_9, h⟩ := Bool.and_eq_true_iff.mp h
  obtain ⟨k_10, h⟩ := Bool.and_eq_true_iff.mp h
  obtain ⟨k_11, h⟩ := Bool.and_eq_true_iff.mp h
  obtain ⟨k_12, h⟩ := Bool.and_eq_true_iff.mp h
  obtain ⟨k_13, h⟩ := Bool.and_eq_true_iff.mp h
  obtain ⟨k_14, h⟩ := Bool.and_eq_true_iff.mp h
  obtain ⟨k_15, h⟩ := Bool.and_eq_true_iff.mp h
  obtain ⟨k_16, h⟩ := Bool.and_eq_true_iff.mp h
  obtain ⟨k_17, h⟩ := Bool.and_eq_true_iff.mp h
  obtain ⟨k_18, h⟩ := Bool.and_eq_true_iff.mp h
  obtain ⟨k_19, h⟩ := Bool.and_eq_true_iff.mp h
  obtain ⟨k_20, h⟩ := Bool.and_eq_true_iff.mp h
  obtain ⟨k_21, h⟩ := Bool.and_eq_true_iff.mp h
  obtain ⟨k_22, h⟩ := Bool.and_eq_true_iff.mp h
  obtain ⟨k_23, h⟩ := Bool.and_eq_true_iff.mp h
  obtain ⟨k_24, h⟩ := Bool.and_eq_true_iff.mp h
  obtain ⟨k_25, h⟩ := Bool.and_eq_true_iff.mp h
  obtain ⟨k_26, h⟩ := Bool.and_eq_true_iff.mp h
  obtain ⟨k_27, h⟩ := Bool.and_eq_true_iff.mp h
  obtain ⟨k_28, h⟩ := Bool.and_eq_true_iff.mp h
  unfold C_X0_init
  have k_1 := of_decide_eq_true k_1
  refine ⟨k_1, ?_⟩
  intro m_2 e
  have e : m_2 = ew_m m0 (L0_2 v0 n l) := e
  subst e
  refine EC_X7 k_2 ?_
  intro m_5 e
  have e : m_5 = ew_m m0 (L0_5 v0 n l) := e
  subst e
  have k_3 := of_decide_eq_true k_3
  refine ⟨k_3, ?_⟩
  intro m_7 e
  have e : m_7 = ew_m m0 (L0_7 v0 n l) := e
  subst e
  refine EC_X7 k_4 ?_
  intro m_10 e
  have e : m_10 = ew_m m0 (L0_10 v0 n l) := e
  subst e
  have k_5 := of_decide_eq_true k_5
  refine ⟨k_5, ?_⟩
  intro m_12 e
  have e : m_12 = ew_m m0 (L0_12 v0 n l) := e
  subst e
  refine EC_X7 k_6 ?_
  intro m_15 e
  have e : m_15 = ew_m m0 (L0_15 v0 n l) := e
  subst e
  have k_7 := of_decide_eq_true k_7
  refine ⟨k_7, ?_⟩
  intro m_17 e
  have e : m_17 = ew_m m0 (L0_17 v0 n l) := e
  subst e
  refine EC_X7 k_8 ?_
  intro m_20 e
  have e : m_20 = ew_m m0 (L0_20 v0 n l) := e
  subst e
  have k_9 := of_decide_eq_true k_9
  refine ⟨k_9, ?_⟩
  intro m_22 e
  have e : m_22 = ew_m m0 (L0_22 v0 n l) := e
  subst e
  refine EC_X7 k_10 ?_
  intro m_25 e
  have e : m_25 = ew_m m0 (L0_25 v0 n l) := e
  subst e
  have k_11 := of_decide_eq_true k_11
  refine ⟨k_11, ?_⟩
  intro m_27 e
  have e : m_27 = ew_m m0 (L0_27 v0 n l) := e
  subst e
  refine EC_X9 k_12 ?_
  intro m_30 e
  have e : m_30 = ew_m m0 (L0_30 v0 n l) := e
  subst e
  have k_13 := of_decide_eq_true k_13
  refine ⟨k_13, ?_⟩
  intro m_32 e
  have e : m_32 = ew_m m0 (L0_32 v0 n l) := e
  subst e
  intro m_33 e
  have e : m_33 = ew_m m0 (L0_33 v0 n l) := e
  subst e
  have k_14 := of_decide_eq_true k_14
  refine ⟨k_14, ?_⟩
  intro m_35 e
  have e : m_35 = ew_m m0 (L0_35 v0 n l) := e
  subst e
  intro m_36 e
  have e : m_36 = ew_m m0 (L0_36 v0 n l) := e
  subst e
  have k_15 := of_decide_eq_true k_15
  refine ⟨k_15, ?_⟩
  intro m_38 e
  have e : m_38 = ew_m m0 (L0_38 v0 n l) := e
  subst e
  intro m_39 e
  have e : m_39 = ew_m m0 (L0_39 v0 n l) := e
  subst e
  intro m_40 e
  have e : m_40 = ew_m m0 (L0_40 v0 n l) := e
  subst e
  intro m_41 e
  have e : m_41 = ew_m m0 (L0_41 v0 n l) := e
  subst e
  intro m_42 e
  have e : m_42 = ew_m m0 (L0_42 v0 n l) := e
  subst e
  intro m_43 e
  have e : m_43 = ew_m m0 (L0_43 v0 n l) := e
  subst e
  have k_16 := of_decide_eq_true k_16
  refine ⟨k_16, ?_⟩
  intro m_45 e
  have e : m_45 = ew_m m0 (L0_45 v0 n l) := e
  subst e
  have k_17 := of_decide_eq_true k_17
  refine ⟨k_17, ?_⟩
  intro m_47 e
  have e : m_47 = ew_m m0 (L0_47 v0 n l) := e
  subst e
  refine EC_X4 k_18 ?_
  intro m_50 e
  have e : m_50 = ew_m m0 (L0_50 v0 n l) := e
  subst e
  have k_19 := of_decide_eq_true k_19
  refine ⟨k_19, ?_⟩
  intro m_52 e
  have e : m_52 = ew_m m0 (L0_52 v0 n l) := e
  subst e
  refine EC_X4 k_20 ?_
  intro m_55 e
  have e : m_55 = ew_m m0 (L0_55 v0 n l) := e
  subst e
  have k_21 := of_decide_eq_true k_21
  refine ⟨k_21, ?_⟩
  intro m_57 e
  have e : m_57 = ew_m m0 (L0_57 v0 n l) := e
  subst e
  refine EC_X4 k_22 ?_
  intro m_60 e
  have e : m_60 = ew_m m0 (L0_60 v0 n l) := e
  subst e
  have k_23 := of_decide_eq_true k_23
  refine ⟨k_23, ?_⟩
  intro m_62 e
  have e : m_62 = ew_m m0 (L0_62 v0 n l) := e
  subst e
  refine EC_X4 k_24 ?_
  intro m_65 e
  have e : m_65 = ew_m m0 (L0_65 v0 n l) := e
  subst e
  have k_25 := of_decide_eq_true k_25
  refine ⟨k_25, ?_⟩
  intro m_67 e
  have e : m_67 = ew_m m0 (L0_67 v0 n l) := e
  subst e
  refine EC_X4 k_26 ?_
  intro m_70 e
  have e : m_70 = ew_m m0 (L0_70 v0 n l) := e
  subst e
  have k_27 := of_decide_eq_true k_27
  refine ⟨k_27, ?_⟩
  intro m_72 e
  have e : m_72 = ew_m m0 (L0_72 v0 n l) := e
  subst e
  refine EC_X4 k_28 ?_
  intro m_75 e
  have e : m_75 = ew_m m0 (L0_75 v0 n l) := e
  subst e
  intro m_76 e
  have e : m_76 = ew_m m0 (L0_76 v0 n l) := e
  subst e
  intro m_77 e
  have e : m_77 = ew_m m0 (L0_77 v0 n l) := e
  subst e
  exact k
def L2_2 (v0 : Int) (v1 : Int) (n : Nat) (l : List ew_E) : List ew_E := (some n, 0, 0, 0) :: l
def L2_3 (v0 : Int) (v1 : Int) (n : Nat) (l : List ew_E) : List ew_E := (none, v0, 0, ((n : Nat) : Int)) :: (L2_2 v0 v1 n l)
def L2_4 (v0 : Int) (v1 : Int) (n : Nat) (l : List ew_E) : List ew_E := (none, v0, 1, v1) :: (L2_3 v0 v1 n l)
def EV_X2 (v0 : Int) (v1 : Int) (n : Nat) (l : List ew_E) : List ew_E := (L2_4 v0 v1 n l)
def OK_X2 (v0 : Int) (v1 : Int) (n : Nat) (l : List ew_E) : Bool := (decide (((0 : Int) ≤ 504 ∧ 504 ≤ (100000 : Int) ∧ am_sh n = (20, Int.toNat 504)))) && (true)
set_option maxRecDepth 20000 in
theorem EC_X2 {m0 : am_M} {v0 v1 : Int} {K : am_M → Prop} {n : Nat} {l : List ew_E} (h : OK_X2 v0 v1 n l = true) (k : K (ew_m m0 (EV_X2 v0 v1 n l))) : C_X2_init v0 v1 K (ew_m m0 l) n := by
  unfold OK_X2 at h
  obtain ⟨k_1, h⟩ := Bool.and_eq_true_iff.mp h
  unfold C_X2_init
  have k_1 := of_decide_eq_true k_1
  refine ⟨k_1, ?_⟩
  intro m_2 e
  have e : m_2 = ew_m m0 (L2_2 v0 v1 n l) := e
  subst e
  intro m_3 e
  have e : m_3 = ew_m m0 (L2_3 v0 v1 n l) := e
  subst e
  intro m_4 e
  have e : m_4 = ew_m m0 (L2_4 v0 v1 n l) := e
  subst e
  exact k
def L5_1 (v0 : Int) (v1 : Int) (v2 : Int) (n : Nat) (l : List ew_E) : List ew_E := (none, v0, 6, (-1)) :: l
def L5_2 (v0 : Int) (v1 : Int) (v2 : Int) (n : Nat) (l : List ew_E) : List ew_E := (none, v0, 0, v1) :: (L5_1 v0 v1 v2 n l)
def L5_3 (v0 : Int) (v1 : Int) (v2 : Int) (n : Nat) (l : List ew_E) : List ew_E := (none, v0, 1, v2) :: (L5_2 v0 v1 v2 n l)
def EV_X5 (v0 : Int) (v1 : Int) (v2 : Int) (n : Nat) (l : List ew_E) : List ew_E := (L5_3 v0 v1 v2 n l)
def OK_X5 (v0 : Int) (v1 : Int) (v2 : Int) (n : Nat) (l : List ew_E) : Bool := true
set_option maxRecDepth 20000 in
theorem EC_X5 {m0 : am_M} {v0 v1 v2 : Int} {K : am_M → Prop} {n : Nat} {l : List ew_E} (h : OK_X5 v0 v1 v2 n l = true) (k : K (ew_m m0 (EV_X5 v0 v1 v2 n l))) : C_X5_init v0 v1 v2 K (ew_m m0 l) n := by
  unfold OK_X5 at h
  unfold C_X5_init
  intro m_1 e
  have e : m_1 = ew_m m0 (L5_1 v0 v1 v2 n l) := e
  subst e
  intro m_2 e
  have e : m_2 = ew_m m0 (L5_2 v0 v1 v2 n l) := e
  subst e
  intro m_3 e
  have e : m_3 = ew_m m0 (L5_3 v0 v1 v2 n l) := e
  subst e
  exact k
def L11_2 (v0 : Int) (n : Nat) (l : List ew_E) : List ew_E := (some n, 0, 0, 0) :: l
def L11_3 (v0 : Int) (n : Nat) (l : List ew_E) : List ew_E := EV_X0 ((n : Nat) : Int) (n + 1) (L11_2 v0 n l)
def L11_5 (v0 : Int) (n : Nat) (l : List ew_E) : List ew_E := (none, v0, 0, ((n : Nat) : Int)) :: (L11_3 v0 n l)
def L11_7 (v0 : Int) (n : Nat) (l : List ew_E) : List ew_E := (some (n + 1 + 41), 0, 0, 0) :: (L11_5 v0 n l)
def L11_9 (v0 : Int) (n : Nat) (l : List ew_E) : List ew_E := (some (n + 1 + 41 + 1), 0, 0, 0) :: (L11_7 v0 n l)
def L11_10 (v0 : Int) (n : Nat) (l : List ew_E) : List ew_E := EV_X0 ((n + 1 + 41 + 1 : Nat) : Int) (n + 1 + 41 + 1 + 1) (L11_9 v0 n l)
def L11_12 (v0 : Int) (n : Nat) (l : List ew_E) : List ew_E := (none, ((n + 1 + 41 : Nat) : Int), 0, ((n + 1 + 41 + 1 : Nat) : Int)) :: (L11_10 v0 n l)
def L11_14 (v0 : Int) (n : Nat) (l : List ew_E) : List ew_E := (some (n + 1 + 41 + 1 + 1 + 41), 0, 0, 0) :: (L11_12 v0 n l)
def L11_15 (v0 : Int) (n : Nat) (l : List ew_E) : List ew_E := EV_X0 ((n + 1 + 41 + 1 + 1 + 41 : Nat) : Int) (n + 1 + 41 + 1 + 1 + 41 + 1) (L11_14 v0 n l)
def L11_17 (v0 : Int) (n : Nat) (l : List ew_E) : List ew_E := (none, ((n + 1 + 41 : Nat) : Int), 1, ((n + 1 + 41 + 1 + 1 + 41 : Nat) : Int)) :: (L11_15 v0 n l)
def L11_18 (v0 : Int) (n : Nat) (l : List ew_E) : List ew_E := (none, v0, 1, ((n + 1 + 41 : Nat) : Int)) :: (L11_17 v0 n l)
def L11_20 (v0 : Int) (n : Nat) (l : List ew_E) : List ew_E := (some (n + 1 + 41 + 1 + 1 + 41 + 1 + 41), 0, 0, 0) :: (L11_18 v0 n l)
def L11_21 (v0 : Int) (n : Nat) (l : List ew_E) : List ew_E := (none, v0, 2, ((n + 1 + 41 + 1 + 1 + 41 + 1 + 41 : Nat) : Int)) :: (L11_20 v0 n l)
def L11_23 (v0 : Int) (n : Nat) (l : List ew_E) : List ew_E := (some (n + 1 + 41 + 1 + 1 + 41 + 1 + 41 + 1), 0, 0, 0) :: (L11_21 v0 n l)
def L11_24 (v0 : Int) (n : Nat) (l : List ew_E) : List ew_E := EV_X7 ((n + 1 + 41 + 1 + 1 + 41 + 1 + 41 + 1 : Nat) : Int) 400 1 (n + 1 + 41 + 1 + 1 + 41 + 1 + 41 + 1 + 1) (L11_23 v0 n l)
def L11_26 (v0 : Int) (n : Nat) (l : List ew_E) : List ew_E := (none, v0, 3, ((n + 1 + 41 + 1 + 1 + 41 + 1 + 41 + 1 : Nat) : Int)) :: (L11_24 v0 n l)
def L11_28 (v0 : Int) (n : Nat) (l : List ew_E) : List ew_E := (some (n + 1 + 41 + 1 + 1 + 41 + 1 + 41 + 1 + 1 + 1), 0, 0, 0) :: (L11_26 v0 n l)
def L11_29 (v0 : Int) (n : Nat) (l : List ew_E) : List ew_E := EV_X4 ((n + 1 + 41 + 1 + 1 + 41 + 1 + 41 + 1 + 1 + 1 : Nat) : Int) (n + 1 + 41 + 1 + 1 + 41 + 1 + 41 + 1 + 1 + 1 + 1) (L11_28 v0 n l)
def L11_31 (v0 : Int) (n : Nat) (l : List ew_E) : List ew_E := (none, v0, 4, ((n + 1 + 41 + 1 + 1 + 41 + 1 + 41 + 1 + 1 + 1 : Nat) : Int)) :: (L11_29 v0 n l)
def L11_33 (v0 : Int) (n : Nat) (l : List ew_E) : List ew_E := (some (n + 1 + 41 + 1 + 1 + 41 + 1 + 41 + 1 + 1 + 1 + 1 + 3), 0, 0, 0) :: (L11_31 v0 n l)
def L11_34 (v0 : Int) (n : Nat) (l : List ew_E) : List ew_E := EV_X5 ((n + 1 + 41 + 1 + 1 + 41 + 1 + 41 + 1 + 1 + 1 + 1 + 3 : Nat) : Int) (ew_r (L11_33 v0 n l) v0 3) (ew_r (L11_33 v0 n l) v0 4) (n + 1 + 41 + 1 + 1 + 41 + 1 + 41 + 1 + 1 + 1 + 1 + 3 + 1) (L11_33 v0 n l)
def L11_36 (v0 : Int) (n : Nat) (l : List ew_E) : List ew_E := (none, v0, 5, ((n + 1 + 41 + 1 + 1 + 41 + 1 + 41 + 1 + 1 + 1 + 1 + 3 : Nat) : Int)) :: (L11_34 v0 n l)
def L11_38 (v0 : Int) (n : Nat) (l : List ew_E) : List ew_E := (some (n + 1 + 41 + 1 + 1 + 41 + 1 + 41 + 1 + 1 + 1 + 1 + 3 + 1), 0, 0, 0) :: (L11_36 v0 n l)
def L11_39 (v0 : Int) (n : Nat) (l : List ew_E) : List ew_E := EV_X3 ((n + 1 + 41 + 1 + 1 + 41 + 1 + 41 + 1 + 1 + 1 + 1 + 3 + 1 : Nat) : Int) (n + 1 + 41 + 1 + 1 + 41 + 1 + 41 + 1 + 1 + 1 + 1 + 3 + 1 + 1) (L11_38 v0 n l)
def L11_41 (v0 : Int) (n : Nat) (l : List ew_E) : List ew_E := (none, v0, 6, ((n + 1 + 41 + 1 + 1 + 41 + 1 + 41 + 1 + 1 + 1 + 1 + 3 + 1 : Nat) : Int)) :: (L11_39 v0 n l)
def L11_43 (v0 : Int) (n : Nat) (l : List ew_E) : List ew_E := (some (n + 1 + 41 + 1 + 1 + 41 + 1 + 41 + 1 + 1 + 1 + 1 + 3 + 1 + 1 + 3), 0, 0, 0) :: (L11_41 v0 n l)
def L11_44 (v0 : Int) (n : Nat) (l : List ew_E) : List ew_E := EV_X2 ((n + 1 + 41 + 1 + 1 + 41 + 1 + 41 + 1 + 1 + 1 + 1 + 3 + 1 + 1 + 3 : Nat) : Int) (ew_r (L11_43 v0 n l) v0 6) (n + 1 + 41 + 1 + 1 + 41 + 1 + 41 + 1 + 1 + 1 + 1 + 3 + 1 + 1 + 3 + 1) (L11_43 v0 n l)
def L11_46 (v0 : Int) (n : Nat) (l : List ew_E) : List ew_E := (none, v0, 7, ((n + 1 + 41 + 1 + 1 + 41 + 1 + 41 + 1 + 1 + 1 + 1 + 3 + 1 + 1 + 3 : Nat) : Int)) :: (L11_44 v0 n l)
def L11_48 (v0 : Int) (n : Nat) (l : List ew_E) : List ew_E := (some (n + 1 + 41 + 1 + 1 + 41 + 1 + 41 + 1 + 1 + 1 + 1 + 3 + 1 + 1 + 3 + 1 + 1), 0, 0, 0) :: (L11_46 v0 n l)
def L11_49 (v0 : Int) (n : Nat) (l : List ew_E) : List ew_E := EV_X9 ((n + 1 + 41 + 1 + 1 + 41 + 1 + 41 + 1 + 1 + 1 + 1 + 3 + 1 + 1 + 3 + 1 + 1 : Nat) : Int) (n + 1 + 41 + 1 + 1 + 41 + 1 + 41 + 1 + 1 + 1 + 1 + 3 + 1 + 1 + 3 + 1 + 1 + 1) (L11_48 v0 n l)
def L11_51 (v0 : Int) (n : Nat) (l : List ew_E) : List ew_E := (none, v0, 8, ((n + 1 + 41 + 1 + 1 + 41 + 1 + 41 + 1 + 1 + 1 + 1 + 3 + 1 + 1 + 3 + 1 + 1 : Nat) : Int)) :: (L11_49 v0 n l)
def L11_53 (v0 : Int) (n : Nat) (l : List ew_E) : List ew_E := (some (n + 1 + 41 + 1 + 1 + 41 + 1 + 41 + 1 + 1 + 1 + 1 + 3 + 1 + 1 + 3 + 1 + 1 + 1 + 2), 0, 0, 0) :: (L11_51 v0 n l)
def L11_54 (v0 : Int) (n : Nat) (l : List ew_E) : List ew_E := EV_X9 ((n + 1 + 41 + 1 + 1 + 41 + 1 + 41 + 1 + 1 + 1 + 1 + 3 + 1 + 1 + 3 + 1 + 1 + 1 + 2 : Nat) : Int) (n + 1 + 41 + 1 + 1 + 41 + 1 + 41 + 1 + 1 + 1 + 1 + 3 + 1 + 1 + 3 + 1 + 1 + 1 + 2 + 1) (L11_53 v0 n l)
def L11_56 (v0 : Int) (n : Nat) (l : List ew_E) : List ew_E := (none, v0, 9, ((n + 1 + 41 + 1 + 1 + 41 + 1 + 41 + 1 + 1 + 1 + 1 + 3 + 1 + 1 + 3 + 1 + 1 + 1 + 2 : Nat) : Int)) :: (L11_54 v0 n l)
def L11_58 (v0 : Int) (n : Nat) (l : List ew_E) : List ew_E := (some (n + 1 + 41 + 1 + 1 + 41 + 1 + 41 + 1 + 1 + 1 + 1 + 3 + 1 + 1 + 3 + 1 + 1 + 1 + 2 + 1 + 2), 0, 0, 0) :: (L11_56 v0 n l)
def L11_59 (v0 : Int) (n : Nat) (l : List ew_E) : List ew_E := EV_X7 ((n + 1 + 41 + 1 + 1 + 41 + 1 + 41 + 1 + 1 + 1 + 1 + 3 + 1 + 1 + 3 + 1 + 1 + 1 + 2 + 1 + 2 : Nat) : Int) 16 1 (n + 1 + 41 + 1 + 1 + 41 + 1 + 41 + 1 + 1 + 1 + 1 + 3 + 1 + 1 + 3 + 1 + 1 + 1 + 2 + 1 + 2 + 1) (L11_58 v0 n l)
def L11_61 (v0 : Int) (n : Nat) (l : List ew_E) : List ew_E := (none, v0, 10, ((n + 1 + 41 + 1 + 1 + 41 + 1 + 41 + 1 + 1 + 1 + 1 + 3 + 1 + 1 + 3 + 1 + 1 + 1 + 2 + 1 + 2 : Nat) : Int)) :: (L11_59 v0 n l)
def L11_63 (v0 : Int) (n : Nat) (l : List ew_E) : List ew_E := (some (n + 1 + 41 + 1 + 1 + 41 + 1 + 41 + 1 + 1 + 1 + 1 + 3 + 1 + 1 + 3 + 1 + 1 + 1 + 2 + 1 + 2 + 1 + 1), 0, 0, 0) :: (L11_61 v0 n l)
def L11_64 (v0 : Int) (n : Nat) (l : List ew_E) : List ew_E := EV_X7 ((n + 1 + 41 + 1 + 1 + 41 + 1 + 41 + 1 + 1 + 1 + 1 + 3 + 1 + 1 + 3 + 1 + 1 + 1 + 2 + 1 + 2 + 1 + 1 : Nat) : Int) 16 1 (n + 1 + 41 + 1 + 1 + 41 + 1 + 41 + 1 + 1 + 1 + 1 + 3 + 1 + 1 + 3 + 1 + 1 + 1 + 2 + 1 + 2 + 1 + 1 + 1) (L11_63 v0 n l)
def L11_66 (v0 : Int) (n : Nat) (l : List ew_E) : List ew_E := (none, v0, 11, ((n + 1 + 41 + 1 + 1 + 41 + 1 + 41 + 1 + 1 + 1 + 1 + 3 + 1 + 1 + 3 + 1 + 1 + 1 + 2 + 1 + 2 + 1 + 1 : Nat) : Int)) :: (L11_64 v0 n l)
def L11_68 (v0 : Int) (n : Nat) (l : List ew_E) : List ew_E := (some (n + 1 + 41 + 1 + 1 + 41 + 1 + 41 + 1 + 1 + 1 + 1 + 3 + 1 + 1 + 3 + 1 + 1 + 1 + 2 + 1 + 2 + 1 + 1 + 1 + 1), 0, 0, 0) :: (L11_66 v0 n l)
def L11_69 (v0 : Int) (n : Nat) (l : List ew_E) : List ew_E := EV_X10 ((n + 1 + 41 + 1 + 1 + 41 + 1 + 41 + 1 + 1 + 1 + 1 + 3 + 1 + 1 + 3 + 1 + 1 + 1 + 2 + 1 + 2 + 1 + 1 + 1 + 1 : Nat) : Int) (n + 1 + 41 + 1 + 1 + 41 + 1 + 41 + 1 + 1 + 1 + 1 + 3 + 1 + 1 + 3 + 1 + 1 + 1 + 2 + 1 + 2 + 1 + 1 + 1 + 1 + 1) (L11_68 v0 n l)
def L11_71 (v0 : Int) (n : Nat) (l : List ew_E) : List ew_E := (none, v0, 12, ((n + 1 + 41 + 1 + 1 + 41 + 1 + 41 + 1 + 1 + 1 + 1 + 3 + 1 + 1 + 3 + 1 + 1 + 1 + 2 + 1 + 2 + 1 + 1 + 1 + 1 : Nat) : Int)) :: (L11_69 v0 n l)
def L11_73 (v0 : Int) (n : Nat) (l : List ew_E) : List ew_E := (some (n + 1 + 41 + 1 + 1 + 41 + 1 + 41 + 1 + 1 + 1 + 1 + 3 + 1 + 1 + 3 + 1 + 1 + 1 + 2 + 1 + 2 + 1 + 1 + 1 + 1 + 1 + 3), 0, 0, 0) :: (L11_71 v0 n l)
def L11_74 (v0 : Int) (n : Nat) (l : List ew_E) : List ew_E := EV_X1 ((n + 1 + 41 + 1 + 1 + 41 + 1 + 41 + 1 + 1 + 1 + 1 + 3 + 1 + 1 + 3 + 1 + 1 + 1 + 2 + 1 + 2 + 1 + 1 + 1 + 1 + 1 + 3 : Nat) : Int) (n + 1 + 41 + 1 + 1 + 41 + 1 + 41 + 1 + 1 + 1 + 1 + 3 + 1 + 1 + 3 + 1 + 1 + 1 + 2 + 1 + 2 + 1 + 1 + 1 + 1 + 1 + 3 + 1) (L11_73 v0 n l)
def L11_76 (v0 : Int) (n : Nat) (l : List ew_E) : List ew_E := (none, v0, 13, ((n + 1 + 41 + 1 + 1 + 41 + 1 + 41 + 1 + 1 + 1 + 1 + 3 + 1 + 1 + 3 + 1 + 1 + 1 + 2 + 1 + 2 + 1 + 1 + 1 + 1 + 1 + 3 : Nat) : Int)) :: (L11_74 v0 n l)
def L11_78 (v0 : Int) (n : Nat) (l : List ew_E) : List ew_E := (some (n + 1 + 41 + 1 + 1 + 41 + 1 + 41 + 1 + 1 + 1 + 1 + 3 + 1 + 1 + 3 + 1 + 1 + 1 + 2 + 1 + 2 + 1 + 1 + 1 + 1 + 1 + 3 + 1 + 6), 0, 0, 0) :: (L11_76 v0 n l)
def L11_79 (v0 : Int) (n : Nat) (l : List ew_E) : List ew_E := EV_X8 ((n + 1 + 41 + 1 + 1 + 41 + 1 + 41 + 1 + 1 + 1 + 1 + 3 + 1 + 1 + 3 + 1 + 1 + 1 + 2 + 1 + 2 + 1 + 1 + 1 + 1 + 1 + 3 + 1 + 6 : Nat) : Int) (n + 1 + 41 + 1 + 1 + 41 + 1 + 41 + 1 + 1 + 1 + 1 + 3 + 1 + 1 + 3 + 1 + 1 + 1 + 2 + 1 + 2 + 1 + 1 + 1 + 1 + 1 + 3 + 1 + 6 + 1) (L11_78 v0 n l)
def L11_81 (v0 : Int) (n : Nat) (l : List ew_E) : List ew_E := (none, v0, 14, ((n + 1 + 41 + 1 + 1 + 41 + 1 + 41 + 1 + 1 + 1 + 1 + 3 + 1 + 1 + 3 + 1 + 1 + 1 + 2 + 1 + 2 + 1 + 1 + 1 + 1 + 1 + 3 + 1 + 6 : Nat) : Int)) :: (L11_79 v0 n l)
def L11_83 (v0 : Int) (n : Nat) (l : List ew_E) : List ew_E := (some (n + 1 + 41 + 1 + 1 + 41 + 1 + 41 + 1 + 1 + 1 + 1 + 3 + 1 + 1 + 3 + 1 + 1 + 1 + 2 + 1 + 2 + 1 + 1 + 1 + 1 + 1 + 3 + 1 + 6 + 1 + 2), 0, 0, 0) :: (L11_81 v0 n l)
def L11_84 (v0 : Int) (n : Nat) (l : List ew_E) : List ew_E := (none, v0, 15, ((n + 1 + 41 + 1 + 1 + 41 + 1 + 41 + 1 + 1 + 1 + 1 + 3 + 1 + 1 + 3 + 1 + 1 + 1 + 2 + 1 + 2 + 1 + 1 + 1 + 1 + 1 + 3 + 1 + 6 + 1 + 2 : Nat) : Int)) :: (L11_83 v0 n l)
def L11_86 (v0 : Int) (n : Nat) (l : List ew_E) : List ew_E := (some (n + 1 + 41 + 1 + 1 + 41 + 1 + 41 + 1 + 1 + 1 + 1 + 3 + 1 + 1 + 3 + 1 + 1 + 1 + 2 + 1 + 2 + 1 + 1 + 1 + 1 + 1 + 3 + 1 + 6 + 1 + 2 + 1), 0, 0, 0) :: (L11_84 v0 n l)
def L11_87 (v0 : Int) (n : Nat) (l : List ew_E) : List ew_E := (none, v0, 16, ((n + 1 + 41 + 1 + 1 + 41 + 1 + 41 + 1 + 1 + 1 + 1 + 3 + 1 + 1 + 3 + 1 + 1 + 1 + 2 + 1 + 2 + 1 + 1 + 1 + 1 + 1 + 3 + 1 + 6 + 1 + 2 + 1 : Nat) : Int)) :: (L11_86 v0 n l)
def L11_88 (v0 : Int) (n : Nat) (l : List ew_E) : List ew_E := (none, v0, 19, (-1)) :: (L11_87 v0 n l)
def EV_X11 (v0 : Int) (n : Nat) (l : List ew_E) : List ew_E := (L11_88 v0 n l)
def OK_X11 (v0 : Int) (n : Nat) (l : List ew_E) : Bool := (decide (am_sh n = (0, am_N 0))) && ((OK_X0 ((n : Nat) : Int) (n + 1) (L11_2 v0 n l)) && ((decide (((0 : Int) ≤ 2 ∧ 2 ≤ (100000 : Int) ∧ am_sh (n + 1 + 41) = (24, Int.toNat 2)))) && ((decide (am_sh (n + 1 + 41 + 1) = (0, am_N 0))) && ((OK_X0 ((n + 1 + 41 + 1 : Nat) : Int) (n + 1 + 41 + 1 + 1) (L11_9 v0 n l)) && ((decide (am_sh (n + 1 + 41 + 1 + 1 + 41) = (0, am_N 0))) && ((OK_X0 ((n + 1 + 41 + 1 + 1 + 41 : Nat) : Int) (n + 1 + 41 + 1 + 1 + 41 + 1) (L11_14 v0 n l)) && ((decide (((0 : Int) ≤ 2 ∧ 2 ≤ (100000 : Int) ∧ am_sh (n + 1 + 41 + 1 + 1 + 41 + 1 + 41) = (22, Int.toNat 2)))) && ((decide (am_sh (n + 1 + 41 + 1 + 1 + 41 + 1 + 41 + 1) = (7, am_N 7))) && ((OK_X7 ((n + 1 + 41 + 1 + 1 + 41 + 1 + 41 + 1 : Nat) : Int) 400 1 (n + 1 + 41 + 1 + 1 + 41 + 1 + 41 + 1 + 1) (L11_23 v0 n l)) && ((decide (am_sh (n + 1 + 41 + 1 + 1 + 41 + 1 + 41 + 1 + 1 + 1) = (4, am_N 4))) && ((OK_X4 ((n + 1 + 41 + 1 + 1 + 41 + 1 + 41 + 1 + 1 + 1 : Nat) : Int) (n + 1 + 41 + 1 + 1 + 41 + 1 + 41 + 1 + 1 + 1 + 1) (L11_28 v0 n l)) && ((decide (am_sh (n + 1 + 41 + 1 + 1 + 41 + 1 + 41 + 1 + 1 + 1 + 1 + 3) = (5, am_N 5))) && (((ew_g (L11_33 v0 n l) v0 3).isSome) && (((ew_g (L11_33 v0 n l) v0 4).isSome) && ((OK_X5 ((n + 1 + 41 + 1 + 1 + 41 + 1 + 41 + 1 + 1 + 1 + 1 + 3 : Nat) : Int) (ew_r (L11_33 v0 n l) v0 3) (ew_r (L11_33 v0 n l) v0 4) (n + 1 + 41 + 1 + 1 + 41 + 1 + 41 + 1 + 1 + 1 + 1 + 3 + 1) (L11_33 v0 n l)) && ((decide (am_sh (n + 1 + 41 + 1 + 1 + 41 + 1 + 41 + 1 + 1 + 1 + 1 + 3 + 1) = (3, am_N 3))) && ((OK_X3 ((n + 1 + 41 + 1 + 1 + 41 + 1 + 41 + 1 + 1 + 1 + 1 + 3 + 1 : Nat) : Int) (n + 1 + 41 + 1 + 1 + 41 + 1 + 41 + 1 + 1 + 1 + 1 + 3 + 1 + 1) (L11_38 v0 n l)) && ((decide (am_sh (n + 1 + 41 + 1 + 1 + 41 + 1 + 41 + 1 + 1 + 1 + 1 + 3 + 1 + 1 + 3) = (2, am_N 2))) && (((ew_g (L11_43 v0 n l) v0 6).isSome) && ((OK_X2 ((n + 1 + 41 + 1 + 1 + 41 + 1 + 41 + 1 + 1 + 1 + 1 + 3 + 1 + 1 + 3 : Nat) : Int) (ew_r (L11_43 v0 n l) v0 6) (n + 1 + 41 + 1 + 1 + 41 + 1 + 41 + 1 + 1 + 1 + 1 + 3 + 1 + 1 + 3 + 1) (L11_43 v0 n l)) && ((decide (am_sh (n + 1 + 41 + 1 + 1 + 41 + 1 + 41 + 1 + 1 + 1 + 1 + 3 + 1 + 1 + 3 + 1 + 1) = (9, am_N 9))) && ((OK_X9 ((n + 1 + 41 + 1 + 1 + 41 + 1 + 41 + 1 + 1 + 1 + 1 + 3 + 1 + 1 + 3 + 1 + 1 : Nat) : Int) (n + 1 + 41 + 1 + 1 + 41 + 1 + 41 + 1 + 1 + 1 + 1 + 3 + 1 + 1 + 3 + 1 + 1 + 1) (L11_48 v0 n l)) && ((decide (am_sh (n + 1 + 41 + 1 + 1 + 41 + 1 + 41 + 1 + 1 + 1 + 1 + 3 + 1 + 1 + 3 + 1 + 1 + 1 + 2) = (9, am_N 9))) && ((OK_X9 ((n + 1 + 41 + 1 + 1 + 41 + 1 + 41 + 1 + 1 + 1 + 1 + 3 + 1 + 1 + 3 + 1 + 1 + 1 + 2 : Nat) : Int) (n + 1 + 41 + 1 + 1 + 41 + 1 + 41 + 1 + 1 + 1 + 1 + 3 + 1 + 1 + 3 + 1 + 1 + 1 + 2 + 1) (L11_53 v0 n l)) && ((decide (am_sh (n + 1 + 41 + 1 + 1 + 41 + 1 + 41 + 1 + 1 + 1 + 1 + 3 + 1 + 1 + 3 + 1 + 1 + 1 + 2 + 1 + 2) = (7, am_N 7))) && ((OK_X7 ((n + 1 + 41 + 1 + 1 + 41 + 1 + 41 + 1 + 1 + 1 + 1 + 3 + 1 + 1 + 3 + 1 + 1 + 1 + 2 + 1 + 2 : Nat) : Int) 16 1 (n + 1 + 41 + 1 + 1 + 41 + 1 + 41 + 1 + 1 + 1 + 1 + 3 + 1 + 1 + 3 + 1 + 1 + 1 + 2 + 1 + 2 + 1) (L11_58 v0 n l)) && ((decide (am_sh (n + 1 + 41 + 1 + 1 + 41 + 1 + 41 + 1 + 1 + 1 + 1 + 3 + 1 + 1 + 3 + 1 + 1 + 1 + 2 + 1 + 2 + 1 + 1) = (7, am_N 7))) && ((OK_X7 ((n + 1 + 41 + 1 + 1 + 41 + 1 + 41 + 1 + 1 + 1 + 1 + 3 + 1 + 1 + 3 + 1 + 1 + 1 + 2 + 1 + 2 + 1 + 1 : Nat) : Int) 16 1 (n + 1 + 41 + 1 + 1 + 41 + 1 + 41 + 1 + 1 + 1 + 1 + 3 + 1 + 1 + 3 + 1 + 1 + 1 + 2 + 1 + 2 + 1 + 1 + 1) (L11_63 v0 n l)) && ((decide (am_sh (n + 1 + 41 + 1 + 1 + 41 + 1 + 41 + 1 + 1 + 1 + 1 + 3 + 1 + 1 + 3 + 1 + 1 + 1 + 2 + 1 + 2 + 1 + 1 + 1 + 1) = (10, am_N 10))) && ((OK_X10 ((n + 1 + 41 + 1 + 1 + 41 + 1 + 41 + 1 + 1 + 1 + 1 + 3 + 1 + 1 + 3 + 1 + 1 + 1 + 2 + 1 + 2 + 1 + 1 + 1 + 1 : Nat) : Int) (n + 1 + 41 + 1 + 1 + 41 + 1 + 41 + 1 + 1 + 1 + 1 + 3 + 1 + 1 + 3 + 1 + 1 + 1 + 2 + 1 + 2 + 1 + 1 + 1 + 1 + 1) (L11_68 v0 n l)) && ((decide (am_sh (n + 1 + 41 + 1 + 1 + 41 + 1 + 41 + 1 + 1 + 1 + 1 + 3 + 1 + 1 + 3 + 1 + 1 + 1 + 2 + 1 + 2 + 1 + 1 + 1 + 1 + 1 + 3) = (1, am_N 1))) && ((OK_X1 ((n + 1 + 41 + 1 + 1 + 41 + 1 + 41 + 1 + 1 + 1 + 1 + 3 + 1 + 1 + 3 + 1 + 1 + 1 + 2 + 1 + 2 + 1 + 1 + 1 + 1 + 1 + 3 : Nat) : Int) (n + 1 + 41 + 1 + 1 + 41 + 1 + 41 + 1 + 1 + 1 + 1 + 3 + 1 + 1 + 3 + 1 + 1 + 1 + 2 + 1 + 2 + 1 + 1 + 1 + 1 + 1 + 3 + 1) (L11_73 v0 n l)) && ((decide (am_sh (n + 1 + 41 + 1 + 1 + 41 + 1 + 41 + 1 + 1 + 1 + 1 + 3 + 1 + 1 + 3 + 1 + 1 + 1 + 2 + 1 + 2 + 1 + 1 + 1 + 1 + 1 + 3 + 1 + 6) = (8, am_N 8))) && ((OK_X8 ((n + 1 + 41 + 1 + 1 + 41 + 1 + 41 + 1 + 1 + 1 + 1 + 3 + 1 + 1 + 3 + 1 + 1 + 1 + 2 + 1 + 2 + 1 + 1 + 1 + 1 + 1 + 3 + 1 + 6 : Nat) : Int) (n + 1 + 41 + 1 + 1 + 41 + 1 + 41 + 1 + 1 + 1 + 1 + 3 + 1 + 1 + 3 + 1 + 1 + 1 + 2 + 1 + 2 + 1 + 1 + 1 + 1 + 1 + 3 + 1 + 6 + 1) (L11_78 v0 n l)) && ((decide (((0 : Int) ≤ 24 ∧ 24 ≤ (100000 : Int) ∧ am_sh (n + 1 + 41 + 1 + 1 + 41 + 1 + 41 + 1 + 1 + 1 + 1 + 3 + 1 + 1 + 3 + 1 + 1 + 1 + 2 + 1 + 2 + 1 + 1 + 1 + 1 + 1 + 3 + 1 + 6 + 1 + 2) = (20, Int.toNat 24)))) && ((decide (((0 : Int) ≤ 7 ∧ 7 ≤ (100000 : Int) ∧ am_sh (n + 1 + 41 + 1 + 1 + 41 + 1 + 41 + 1 + 1 + 1 + 1 + 3 + 1 + 1 + 3 + 1 + 1 + 1 + 2 + 1 + 2 + 1 + 1 + 1 + 1 + 1 + 3 + 1 + 6 + 1 + 2 + 1) = (20, Int.toNat 7)))) && (true)))))))))))))))))))))))))))))))))))))
set_option maxRecDepth 20000 in
theorem EC_X11 {m0 : am_M} {v0 : Int} {K : am_M → Prop} {n : Nat} {l : List ew_E} (h : OK_X11 v0 n l = true) (k : K (ew_m m0 (EV_X11 v0 n l))) : C_X11_init v0 K (ew_m m0 l) n := by
  unfold OK_X11 at h
  obtain ⟨k_1, h⟩ := Bool.and_eq_true_iff.mp h
  obtain ⟨k_2, h⟩ := Bool.and_eq_true_iff.mp h
  obtain ⟨k_3, h⟩ := Bool.and_eq_true_iff.mp h
  obtain ⟨k_4, h⟩ := Bool.and_eq_true_iff.mp h
  obtain ⟨k_5, h⟩ := Bool.and_eq_true_iff.mp h
  obtain ⟨k_6, h⟩ := Bool.and_eq_true_iff.mp h
  obtain ⟨k_7, h⟩ := Bool.and_eq_true_iff.mp h
  obtain ⟨k_8, h⟩ := Bool.and_eq_true_iff.mp h
  obtain ⟨k_9, h⟩ := Bool.and_eq_true_iff.mp h
  obtain ⟨k_10, h⟩ := Bool.and_eq_true_iff.mp h
  obtain ⟨k_11, h⟩ := Bool.and_eq_true_iff.mp h
  obtain ⟨k_12, h⟩ := Bool.and_eq_true_iff.mp h
  obtain ⟨k_13, h⟩ := Bool.and_eq_true_iff.mp h
  obtain ⟨q_33_3, h⟩ := Bool.and_eq_true_iff.mp h
  obtain ⟨q_33_4, h⟩ := Bool.and_eq_true_iff.mp h
  obtain ⟨k_14, h⟩ := Bool.and_eq_true_iff.mp h
  obtain ⟨k_15, h⟩ := Bool.and_eq_true_iff.mp h
  obtain ⟨k_16, h⟩ := Bool.and_eq_true_iff.mp h
  obtain ⟨k_17, h⟩ := Bool.and_eq_true_iff.mp h
  obtain ⟨q_43_6, h⟩ := Bool.and_eq_true_iff.mp h
  obtain ⟨k_18, h⟩ := Bool.and_eq_true_iff.mp h
  obtain ⟨k_19, h⟩ := Bool.and_eq_true_iff.mp h
  obtain ⟨k_20, h⟩ := Bool.and_eq_true_iff.mp h
  obtain ⟨k_21, h⟩ := Bool.and_eq_true_iff.mp h
  obtain ⟨k_22, h⟩ := Bool.and_eq_true_iff.mp h
  obtain ⟨k_23, h⟩ := Bool.and_eq_true_iff.mp h
  obtain ⟨k_24, h⟩ := Bool.and_eq_true_iff.mp h
  obtain ⟨k_25, h⟩ := Bool.and_eq_true_iff.mp h
  obtain ⟨k_26, h⟩ := Bool.and_eq_true_iff.mp h
  obtain ⟨k_27, h⟩ := Bool.and_eq_true_iff.mp h
  obtain ⟨k_28, h⟩ := Bool.and_eq_true_iff.mp h
  obtain ⟨k_29, h⟩ := Bool.and_eq_true_iff.mp h
  obtain ⟨k_30, h⟩ := Bool.and_eq_true_iff.mp h
  obtain ⟨k_31, h⟩ := Bool.and_eq_true_iff.mp h
  obtain ⟨k_32, h⟩ := Bool.and_eq_true_iff.mp h
  obtain ⟨k_33, h⟩ := Bool.and_eq_true_iff.mp h
  obtain ⟨k_34, h⟩ := Bool.and_eq_true_iff.mp h
  unfold C_X11_init
  have k_1 := of_decide_eq_true k_1
  refine ⟨k_1, ?_⟩
  intro m_2 e
  have e : m_2 = ew_m m0 (L11_2 v0 n l) := e
  subst e
  refine EC_X0 k_2 ?_
  intro m_5 e
  have e : m_5 = ew_m m0 (L11_5 v0 n l) := e
  subst e
  have k_3 := of_decide_eq_true k_3
  refine ⟨k_3, ?_⟩
  intro m_7 e
  have e : m_7 = ew_m m0 (L11_7 v0 n l) := e
  subst e
  have k_4 := of_decide_eq_true k_4
  refine ⟨k_4, ?_⟩
  intro m_9 e
  have e : m_9 = ew_m m0 (L11_9 v0 n l) := e
  subst e
  refine EC_X0 k_5 ?_
  intro m_12 e
  have e : m_12 = ew_m m0 (L11_12 v0 n l) := e
  subst e
  have k_6 := of_decide_eq_true k_6
  refine ⟨k_6, ?_⟩
  intro m_14 e
  have e : m_14 = ew_m m0 (L11_14 v0 n l) := e
  subst e
  refine EC_X0 k_7 ?_
  intro m_17 e
  have e : m_17 = ew_m m0 (L11_17 v0 n l) := e
  subst e
  intro m_18 e
  have e : m_18 = ew_m m0 (L11_18 v0 n l) := e
  subst e
  have k_8 := of_decide_eq_true k_8
  refine ⟨k_8, ?_⟩
  intro m_20 e
  have e : m_20 = ew_m m0 (L11_20 v0 n l) := e
  subst e
  intro m_21 e
  have e : m_21 = ew_m m0 (L11_21 v0 n l) := e
  subst e
  have k_9 := of_decide_eq_true k_9
  refine ⟨k_9, ?_⟩
  intro m_23 e
  have e : m_23 = ew_m m0 (L11_23 v0 n l) := e
  subst e
  refine EC_X7 k_10 ?_
  intro m_26 e
  have e : m_26 = ew_m m0 (L11_26 v0 n l) := e
  subst e
  have k_11 := of_decide_eq_true k_11
  refine ⟨k_11, ?_⟩
  intro m_28 e
  have e : m_28 = ew_m m0 (L11_28 v0 n l) := e
  subst e
  refine EC_X4 k_12 ?_
  intro m_31 e
  have e : m_31 = ew_m m0 (L11_31 v0 n l) := e
  subst e
  have k_13 := of_decide_eq_true k_13
  refine ⟨k_13, ?_⟩
  intro m_33 e
  have e : m_33 = ew_m m0 (L11_33 v0 n l) := e
  subst e
  rw [ew_rd (m0 := m0) q_33_3]
  rw [ew_rd (m0 := m0) q_33_4]
  refine EC_X5 k_14 ?_
  intro m_36 e
  have e : m_36 = ew_m m0 (L11_36 v0 n l) := e
  subst e
  have k_15 := of_decide_eq_true k_15
  refine ⟨k_15, ?_⟩
  intro m_38 e
  have e : m_38 = ew_m m0 (L11_38 v0 n l) := e
  subst e
  refine EC_X3 k_16 ?_
  intro m_41 e
  have e : m_41 = ew_m m0 (L11_41 v0 n l) := e
  subst e
  have k_17 := of_decide_eq_true k_17
  refine ⟨k_17, ?_⟩
  intro m_43 e
  have e : m_43 = ew_m m0 (L11_43 v0 n l) := e
  subst e
  rw [ew_rd (m0 := m0) q_43_6]
  refine EC_X2 k_18 ?_
  intro m_46 e
  have e : m_46 = ew_m m0 (L11_46 v0 n l) := e
  subst e
  have k_19 := of_decide_eq_true k_19
  refine ⟨k_19, ?_⟩
  intro m_48 e
  have e : m_48 = ew_m m0 (L11_48 v0 n l) := e
  subst e
  refine EC_X9 k_20 ?_
  intro m_51 e
  have e : m_51 = ew_m m0 (L11_51 v0 n l) := e
  subst e
  have k_21 := of_decide_eq_true k_21
  refine ⟨k_21, ?_⟩
  intro m_53 e
  have e : m_53 = ew_m m0 (L11_53 v0 n l) := e
  subst e
  refine EC_X9 k_22 ?_
  intro m_56 e
  have e : m_56 = ew_m m0 (L11_56 v0 n l) := e
  subst e
  have k_23 := of_decide_eq_true k_23
  refine ⟨k_23, ?_⟩
  intro m_58 e
  have e : m_58 = ew_m m0 (L11_58 v0 n l) := e
  subst e
  refine EC_X7 k_24 ?_
  intro m_61 e
  have e : m_61 = ew_m m0 (L11_61 v0 n l) := e
  subst e
  have k_25 := of_decide_eq_true k_25
  refine ⟨k_25, ?_⟩
  intro m_63 e
  have e : m_63 = ew_m m0 (L11_63 v0 n l) := e
  subst e
  refine EC_X7 k_26 ?_
  intro m_66 e
  have e : m_66 = ew_m m0 (L11_66 v0 n l) := e
  subst e
  have k_27 := of_decide_eq_true k_27
  refine ⟨k_27, ?_⟩
  intro m_68 e
  have e : m_68 = ew_m m0 (L11_68 v0 n l) := e
  subst e
  refine EC_X10 k_28 ?_
  intro m_71 e
  have e : m_71 = ew_m m0 (L11_71 v0 n l) := e
  subst e
  have k_29 := of_decide_eq_true k_29
  refine ⟨k_29, ?_⟩
  intro m_73 e
  have e : m_73 = ew_m m0 (L11_73 v0 n l) := e
  subst e
  refine EC_X1 k_30 ?_
  intro m_76 e
  have e : m_76 = ew_m m0 (L11_76 v0 n l) := e
  subst e
  have k_31 := of_decide_eq_true k_31
  refine ⟨k_31, ?_⟩
  intro m_78 e
  have e : m_78 = ew_m m0 (L11_78 v0 n l) := e
  subst e
  refine EC_X8 k_32 ?_
  intro m_81 e
  have e : m_81 = ew_m m0 (L11_81 v0 n l) := e
  subst e
  have k_33 := of_decide_eq_true k_33
  refine ⟨k_33, ?_⟩
  intro m_83 e
  have e : m_83 = ew_m m0 (L11_83 v0 n l) := e
  subst e
  intro m_84 e
  have e : m_84 = ew_m m0 (L11_84 v0 n l) := e
  subst e
  have k_34 := of_decide_eq_true k_34
  refine ⟨k_34, ?_⟩
  intro m_86 e
  have e : m_86 = ew_m m0 (L11_86 v0 n l) := e
  subst e
  intro m_87 e
  have e : m_87 = ew_m m0 (L11_87 v0 n l) := e
  subst e
  intro m_88 e
  have e : m_88 = ew_m m0 (L11_88 v0 n l) := e
  subst e
  exact k
def L12_2 (v0 : Int) (n : Nat) (l : List ew_E) : List ew_E := (some n, 0, 0, 0) :: l
def L12_3 (v0 : Int) (n : Nat) (l : List ew_E) : List ew_E := (none, v0, 1, ((n : Nat) : Int)) :: (L12_2 v0 n l)
def L12_5 (v0 : Int) (n : Nat) (l : List ew_E) : List ew_E := (some (n + 1), 0, 0, 0) :: (L12_3 v0 n l)
def L12_6 (v0 : Int) (n : Nat) (l : List ew_E) : List ew_E := (none, v0, 2, ((n + 1 : Nat) : Int)) :: (L12_5 v0 n l)
def L12_8 (v0 : Int) (n : Nat) (l : List ew_E) : List ew_E := (some (n + 1 + 1), 0, 0, 0) :: (L12_6 v0 n l)
def L12_9 (v0 : Int) (n : Nat) (l : List ew_E) : List ew_E := (none, v0, 3, ((n + 1 + 1 : Nat) : Int)) :: (L12_8 v0 n l)
def L12_11 (v0 : Int) (n : Nat) (l : List ew_E) : List ew_E := (some (n + 1 + 1 + 1), 0, 0, 0) :: (L12_9 v0 n l)
def L12_12 (v0 : Int) (n : Nat) (l : List ew_E) : List ew_E := (none, v0, 4, ((n + 1 + 1 + 1 : Nat) : Int)) :: (L12_11 v0 n l)
def L12_14 (v0 : Int) (n : Nat) (l : List ew_E) : List ew_E := (some (n + 1 + 1 + 1 + 1), 0, 0, 0) :: (L12_12 v0 n l)
def L12_15 (v0 : Int) (n : Nat) (l : List ew_E) : List ew_E := (none, v0, 5, ((n + 1 + 1 + 1 + 1 : Nat) : Int)) :: (L12_14 v0 n l)
def L12_17 (v0 : Int) (n : Nat) (l : List ew_E) : List ew_E := (some (n + 1 + 1 + 1 + 1 + 1), 0, 0, 0) :: (L12_15 v0 n l)
def L12_18 (v0 : Int) (n : Nat) (l : List ew_E) : List ew_E := (none, ((n + 1 + 1 + 1 + 1 + 1 : Nat) : Int), 0, 114) :: (L12_17 v0 n l)
def L12_19 (v0 : Int) (n : Nat) (l : List ew_E) : List ew_E := (none, ((n + 1 + 1 + 1 + 1 + 1 : Nat) : Int), 1, 97) :: (L12_18 v0 n l)
def L12_20 (v0 : Int) (n : Nat) (l : List ew_E) : List ew_E := (none, ((n + 1 + 1 + 1 + 1 + 1 : Nat) : Int), 2, 110) :: (L12_19 v0 n l)
def L12_21 (v0 : Int) (n : Nat) (l : List ew_E) : List ew_E := (none, ((n + 1 + 1 + 1 + 1 + 1 : Nat) : Int), 3, 107) :: (L12_20 v0 n l)
def L12_22 (v0 : Int) (n : Nat) (l : List ew_E) : List ew_E := (none, ((n + 1 + 1 + 1 + 1 + 1 : Nat) : Int), 4, 32) :: (L12_21 v0 n l)
def L12_23 (v0 : Int) (n : Nat) (l : List ew_E) : List ew_E := (none, ((n + 1 + 1 + 1 + 1 + 1 : Nat) : Int), 5, 98) :: (L12_22 v0 n l)
def L12_24 (v0 : Int) (n : Nat) (l : List ew_E) : List ew_E := (none, ((n + 1 + 1 + 1 + 1 + 1 : Nat) : Int), 6, 114) :: (L12_23 v0 n l)
def L12_25 (v0 : Int) (n : Nat) (l : List ew_E) : List ew_E := (none, ((n + 1 + 1 + 1 + 1 + 1 : Nat) : Int), 7, 101) :: (L12_24 v0 n l)
def L12_26 (v0 : Int) (n : Nat) (l : List ew_E) : List ew_E := (none, ((n + 1 + 1 + 1 + 1 + 1 : Nat) : Int), 8, 97) :: (L12_25 v0 n l)
def L12_27 (v0 : Int) (n : Nat) (l : List ew_E) : List ew_E := (none, ((n + 1 + 1 + 1 + 1 + 1 : Nat) : Int), 9, 116) :: (L12_26 v0 n l)
def L12_28 (v0 : Int) (n : Nat) (l : List ew_E) : List ew_E := (none, ((n + 1 + 1 + 1 + 1 + 1 : Nat) : Int), 10, 104) :: (L12_27 v0 n l)
def L12_29 (v0 : Int) (n : Nat) (l : List ew_E) : List ew_E := (none, ((n + 1 + 1 + 1 + 1 + 1 : Nat) : Int), 11, 32) :: (L12_28 v0 n l)
def L12_30 (v0 : Int) (n : Nat) (l : List ew_E) : List ew_E := (none, ((n + 1 + 1 + 1 + 1 + 1 : Nat) : Int), 12, 98) :: (L12_29 v0 n l)
def L12_31 (v0 : Int) (n : Nat) (l : List ew_E) : List ew_E := (none, ((n + 1 + 1 + 1 + 1 + 1 : Nat) : Int), 13, 97) :: (L12_30 v0 n l)
def L12_32 (v0 : Int) (n : Nat) (l : List ew_E) : List ew_E := (none, ((n + 1 + 1 + 1 + 1 + 1 : Nat) : Int), 14, 114) :: (L12_31 v0 n l)
def L12_33 (v0 : Int) (n : Nat) (l : List ew_E) : List ew_E := (none, ((n + 1 + 1 + 1 + 1 + 1 : Nat) : Int), 15, 115) :: (L12_32 v0 n l)
def L12_34 (v0 : Int) (n : Nat) (l : List ew_E) : List ew_E := (none, ((n + 1 + 1 + 1 + 1 + 1 : Nat) : Int), 16, 32) :: (L12_33 v0 n l)
def L12_35 (v0 : Int) (n : Nat) (l : List ew_E) : List ew_E := (none, ((n + 1 + 1 + 1 + 1 + 1 : Nat) : Int), 17, 105) :: (L12_34 v0 n l)
def L12_36 (v0 : Int) (n : Nat) (l : List ew_E) : List ew_E := (none, ((n + 1 + 1 + 1 + 1 + 1 : Nat) : Int), 18, 102) :: (L12_35 v0 n l)
def L12_37 (v0 : Int) (n : Nat) (l : List ew_E) : List ew_E := (none, ((n + 1 + 1 + 1 + 1 + 1 : Nat) : Int), 19, 32) :: (L12_36 v0 n l)
def L12_38 (v0 : Int) (n : Nat) (l : List ew_E) : List ew_E := (none, ((n + 1 + 1 + 1 + 1 + 1 : Nat) : Int), 20, 111) :: (L12_37 v0 n l)
def L12_39 (v0 : Int) (n : Nat) (l : List ew_E) : List ew_E := (none, ((n + 1 + 1 + 1 + 1 + 1 : Nat) : Int), 21, 114) :: (L12_38 v0 n l)
def L12_40 (v0 : Int) (n : Nat) (l : List ew_E) : List ew_E := (none, ((n + 1 + 1 + 1 + 1 + 1 : Nat) : Int), 22, 32) :: (L12_39 v0 n l)
def L12_41 (v0 : Int) (n : Nat) (l : List ew_E) : List ew_E := (none, ((n + 1 + 1 + 1 + 1 + 1 : Nat) : Int), 23, 97) :: (L12_40 v0 n l)
def L12_42 (v0 : Int) (n : Nat) (l : List ew_E) : List ew_E := (none, ((n + 1 + 1 + 1 + 1 + 1 : Nat) : Int), 24, 110) :: (L12_41 v0 n l)
def L12_43 (v0 : Int) (n : Nat) (l : List ew_E) : List ew_E := (none, ((n + 1 + 1 + 1 + 1 + 1 : Nat) : Int), 25, 100) :: (L12_42 v0 n l)
def L12_44 (v0 : Int) (n : Nat) (l : List ew_E) : List ew_E := (none, ((n + 1 + 1 + 1 + 1 + 1 : Nat) : Int), 26, 32) :: (L12_43 v0 n l)
def L12_45 (v0 : Int) (n : Nat) (l : List ew_E) : List ew_E := (none, ((n + 1 + 1 + 1 + 1 + 1 : Nat) : Int), 27, 110) :: (L12_44 v0 n l)
def L12_46 (v0 : Int) (n : Nat) (l : List ew_E) : List ew_E := (none, ((n + 1 + 1 + 1 + 1 + 1 : Nat) : Int), 28, 111) :: (L12_45 v0 n l)
def L12_47 (v0 : Int) (n : Nat) (l : List ew_E) : List ew_E := (none, ((n + 1 + 1 + 1 + 1 + 1 : Nat) : Int), 29, 116) :: (L12_46 v0 n l)
def L12_48 (v0 : Int) (n : Nat) (l : List ew_E) : List ew_E := (none, ((n + 1 + 1 + 1 + 1 + 1 : Nat) : Int), 30, 32) :: (L12_47 v0 n l)
def L12_49 (v0 : Int) (n : Nat) (l : List ew_E) : List ew_E := (none, ((n + 1 + 1 + 1 + 1 + 1 : Nat) : Int), 31, 108) :: (L12_48 v0 n l)
def L12_50 (v0 : Int) (n : Nat) (l : List ew_E) : List ew_E := (none, ((n + 1 + 1 + 1 + 1 + 1 : Nat) : Int), 32, 101) :: (L12_49 v0 n l)
def L12_51 (v0 : Int) (n : Nat) (l : List ew_E) : List ew_E := (none, ((n + 1 + 1 + 1 + 1 + 1 : Nat) : Int), 33, 110) :: (L12_50 v0 n l)
def L12_52 (v0 : Int) (n : Nat) (l : List ew_E) : List ew_E := (none, ((n + 1 + 1 + 1 + 1 + 1 : Nat) : Int), 34, 103) :: (L12_51 v0 n l)
def L12_53 (v0 : Int) (n : Nat) (l : List ew_E) : List ew_E := (none, ((n + 1 + 1 + 1 + 1 + 1 : Nat) : Int), 35, 116) :: (L12_52 v0 n l)
def L12_54 (v0 : Int) (n : Nat) (l : List ew_E) : List ew_E := (none, ((n + 1 + 1 + 1 + 1 + 1 : Nat) : Int), 36, 104) :: (L12_53 v0 n l)
def L12_55 (v0 : Int) (n : Nat) (l : List ew_E) : List ew_E := (none, ((n + 1 + 1 + 1 + 1 + 1 : Nat) : Int), 37, 32) :: (L12_54 v0 n l)
def L12_56 (v0 : Int) (n : Nat) (l : List ew_E) : List ew_E := (none, ((n + 1 + 1 + 1 + 1 + 1 : Nat) : Int), 38, 118) :: (L12_55 v0 n l)
def L12_57 (v0 : Int) (n : Nat) (l : List ew_E) : List ew_E := (none, ((n + 1 + 1 + 1 + 1 + 1 : Nat) : Int), 39, 111) :: (L12_56 v0 n l)
def L12_58 (v0 : Int) (n : Nat) (l : List ew_E) : List ew_E := (none, ((n + 1 + 1 + 1 + 1 + 1 : Nat) : Int), 40, 105) :: (L12_57 v0 n l)
def L12_59 (v0 : Int) (n : Nat) (l : List ew_E) : List ew_E := (none, ((n + 1 + 1 + 1 + 1 + 1 : Nat) : Int), 41, 99) :: (L12_58 v0 n l)
def L12_60 (v0 : Int) (n : Nat) (l : List ew_E) : List ew_E := (none, ((n + 1 + 1 + 1 + 1 + 1 : Nat) : Int), 42, 101) :: (L12_59 v0 n l)
def L12_61 (v0 : Int) (n : Nat) (l : List ew_E) : List ew_E := (none, ((n + 1 + 1 + 1 + 1 + 1 : Nat) : Int), 43, 115) :: (L12_60 v0 n l)
def L12_62 (v0 : Int) (n : Nat) (l : List ew_E) : List ew_E := (none, ((n + 1 + 1 + 1 + 1 + 1 : Nat) : Int), 44, 32) :: (L12_61 v0 n l)
def L12_63 (v0 : Int) (n : Nat) (l : List ew_E) : List ew_E := (none, ((n + 1 + 1 + 1 + 1 + 1 : Nat) : Int), 45, 97) :: (L12_62 v0 n l)
def L12_64 (v0 : Int) (n : Nat) (l : List ew_E) : List ew_E := (none, ((n + 1 + 1 + 1 + 1 + 1 : Nat) : Int), 46, 115) :: (L12_63 v0 n l)
def L12_65 (v0 : Int) (n : Nat) (l : List ew_E) : List ew_E := (none, ((n + 1 + 1 + 1 + 1 + 1 : Nat) : Int), 47, 107) :: (L12_64 v0 n l)
def L12_66 (v0 : Int) (n : Nat) (l : List ew_E) : List ew_E := (none, ((n + 1 + 1 + 1 + 1 + 1 : Nat) : Int), 48, 101) :: (L12_65 v0 n l)
def L12_67 (v0 : Int) (n : Nat) (l : List ew_E) : List ew_E := (none, ((n + 1 + 1 + 1 + 1 + 1 : Nat) : Int), 49, 114) :: (L12_66 v0 n l)
def L12_68 (v0 : Int) (n : Nat) (l : List ew_E) : List ew_E := (none, ((n + 1 + 1 + 1 + 1 + 1 : Nat) : Int), 50, 32) :: (L12_67 v0 n l)
def L12_69 (v0 : Int) (n : Nat) (l : List ew_E) : List ew_E := (none, ((n + 1 + 1 + 1 + 1 + 1 : Nat) : Int), 51, 97) :: (L12_68 v0 n l)
def L12_70 (v0 : Int) (n : Nat) (l : List ew_E) : List ew_E := (none, ((n + 1 + 1 + 1 + 1 + 1 : Nat) : Int), 52, 103) :: (L12_69 v0 n l)
def L12_71 (v0 : Int) (n : Nat) (l : List ew_E) : List ew_E := (none, ((n + 1 + 1 + 1 + 1 + 1 : Nat) : Int), 53, 101) :: (L12_70 v0 n l)
def L12_72 (v0 : Int) (n : Nat) (l : List ew_E) : List ew_E := (none, ((n + 1 + 1 + 1 + 1 + 1 : Nat) : Int), 54, 32) :: (L12_71 v0 n l)
def L12_73 (v0 : Int) (n : Nat) (l : List ew_E) : List ew_E := (none, ((n + 1 + 1 + 1 + 1 + 1 : Nat) : Int), 55, 116) :: (L12_72 v0 n l)
def L12_74 (v0 : Int) (n : Nat) (l : List ew_E) : List ew_E := (none, ((n + 1 + 1 + 1 + 1 + 1 : Nat) : Int), 56, 104) :: (L12_73 v0 n l)
def L12_75 (v0 : Int) (n : Nat) (l : List ew_E) : List ew_E := (none, ((n + 1 + 1 + 1 + 1 + 1 : Nat) : Int), 57, 105) :: (L12_74 v0 n l)
def L12_76 (v0 : Int) (n : Nat) (l : List ew_E) : List ew_E := (none, ((n + 1 + 1 + 1 + 1 + 1 : Nat) : Int), 58, 110) :: (L12_75 v0 n l)
def L12_77 (v0 : Int) (n : Nat) (l : List ew_E) : List ew_E := (none, ((n + 1 + 1 + 1 + 1 + 1 : Nat) : Int), 59, 103) :: (L12_76 v0 n l)
def L12_78 (v0 : Int) (n : Nat) (l : List ew_E) : List ew_E := (none, ((n + 1 + 1 + 1 + 1 + 1 : Nat) : Int), 60, 32) :: (L12_77 v0 n l)
def L12_79 (v0 : Int) (n : Nat) (l : List ew_E) : List ew_E := (none, ((n + 1 + 1 + 1 + 1 + 1 : Nat) : Int), 61, 119) :: (L12_78 v0 n l)
def L12_80 (v0 : Int) (n : Nat) (l : List ew_E) : List ew_E := (none, ((n + 1 + 1 + 1 + 1 + 1 : Nat) : Int), 62, 97) :: (L12_79 v0 n l)
def L12_81 (v0 : Int) (n : Nat) (l : List ew_E) : List ew_E := (none, ((n + 1 + 1 + 1 + 1 + 1 : Nat) : Int), 63, 105) :: (L12_80 v0 n l)
def L12_82 (v0 : Int) (n : Nat) (l : List ew_E) : List ew_E := (none, ((n + 1 + 1 + 1 + 1 + 1 : Nat) : Int), 64, 116) :: (L12_81 v0 n l)
def L12_83 (v0 : Int) (n : Nat) (l : List ew_E) : List ew_E := (none, ((n + 1 + 1 + 1 + 1 + 1 : Nat) : Int), 65, 115) :: (L12_82 v0 n l)
def L12_84 (v0 : Int) (n : Nat) (l : List ew_E) : List ew_E := (none, ((n + 1 + 1 + 1 + 1 + 1 : Nat) : Int), 66, 32) :: (L12_83 v0 n l)
def L12_85 (v0 : Int) (n : Nat) (l : List ew_E) : List ew_E := (none, ((n + 1 + 1 + 1 + 1 + 1 : Nat) : Int), 67, 109) :: (L12_84 v0 n l)
def L12_86 (v0 : Int) (n : Nat) (l : List ew_E) : List ew_E := (none, ((n + 1 + 1 + 1 + 1 + 1 : Nat) : Int), 68, 111) :: (L12_85 v0 n l)
def L12_87 (v0 : Int) (n : Nat) (l : List ew_E) : List ew_E := (none, ((n + 1 + 1 + 1 + 1 + 1 : Nat) : Int), 69, 111) :: (L12_86 v0 n l)
def L12_88 (v0 : Int) (n : Nat) (l : List ew_E) : List ew_E := (none, ((n + 1 + 1 + 1 + 1 + 1 : Nat) : Int), 70, 100) :: (L12_87 v0 n l)
def L12_89 (v0 : Int) (n : Nat) (l : List ew_E) : List ew_E := (none, ((n + 1 + 1 + 1 + 1 + 1 : Nat) : Int), 71, 32) :: (L12_88 v0 n l)
def L12_90 (v0 : Int) (n : Nat) (l : List ew_E) : List ew_E := (none, ((n + 1 + 1 + 1 + 1 + 1 : Nat) : Int), 72, 100) :: (L12_89 v0 n l)
def L12_91 (v0 : Int) (n : Nat) (l : List ew_E) : List ew_E := (none, ((n + 1 + 1 + 1 + 1 + 1 : Nat) : Int), 73, 97) :: (L12_90 v0 n l)
def L12_92 (v0 : Int) (n : Nat) (l : List ew_E) : List ew_E := (none, ((n + 1 + 1 + 1 + 1 + 1 : Nat) : Int), 74, 121) :: (L12_91 v0 n l)
def L12_93 (v0 : Int) (n : Nat) (l : List ew_E) : List ew_E := (none, ((n + 1 + 1 + 1 + 1 + 1 : Nat) : Int), 75, 32) :: (L12_92 v0 n l)
def L12_94 (v0 : Int) (n : Nat) (l : List ew_E) : List ew_E := (none, ((n + 1 + 1 + 1 + 1 + 1 : Nat) : Int), 76, 112) :: (L12_93 v0 n l)
def L12_95 (v0 : Int) (n : Nat) (l : List ew_E) : List ew_E := (none, ((n + 1 + 1 + 1 + 1 + 1 : Nat) : Int), 77, 114) :: (L12_94 v0 n l)
def L12_96 (v0 : Int) (n : Nat) (l : List ew_E) : List ew_E := (none, ((n + 1 + 1 + 1 + 1 + 1 : Nat) : Int), 78, 97) :: (L12_95 v0 n l)
def L12_97 (v0 : Int) (n : Nat) (l : List ew_E) : List ew_E := (none, ((n + 1 + 1 + 1 + 1 + 1 : Nat) : Int), 79, 121) :: (L12_96 v0 n l)
def L12_98 (v0 : Int) (n : Nat) (l : List ew_E) : List ew_E := (none, ((n + 1 + 1 + 1 + 1 + 1 : Nat) : Int), 80, 101) :: (L12_97 v0 n l)
def L12_99 (v0 : Int) (n : Nat) (l : List ew_E) : List ew_E := (none, ((n + 1 + 1 + 1 + 1 + 1 : Nat) : Int), 81, 114) :: (L12_98 v0 n l)
def L12_100 (v0 : Int) (n : Nat) (l : List ew_E) : List ew_E := (none, ((n + 1 + 1 + 1 + 1 + 1 : Nat) : Int), 82, 115) :: (L12_99 v0 n l)
def L12_101 (v0 : Int) (n : Nat) (l : List ew_E) : List ew_E := (none, ((n + 1 + 1 + 1 + 1 + 1 : Nat) : Int), 83, 32) :: (L12_100 v0 n l)
def L12_102 (v0 : Int) (n : Nat) (l : List ew_E) : List ew_E := (none, ((n + 1 + 1 + 1 + 1 + 1 : Nat) : Int), 84, 119) :: (L12_101 v0 n l)
def L12_103 (v0 : Int) (n : Nat) (l : List ew_E) : List ew_E := (none, ((n + 1 + 1 + 1 + 1 + 1 : Nat) : Int), 85, 97) :: (L12_102 v0 n l)
def L12_104 (v0 : Int) (n : Nat) (l : List ew_E) : List ew_E := (none, ((n + 1 + 1 + 1 + 1 + 1 : Nat) : Int), 86, 105) :: (L12_103 v0 n l)
def L12_105 (v0 : Int) (n : Nat) (l : List ew_E) : List ew_E := (none, ((n + 1 + 1 + 1 + 1 + 1 : Nat) : Int), 87, 116) :: (L12_104 v0 n l)
def L12_106 (v0 : Int) (n : Nat) (l : List ew_E) : List ew_E := (none, ((n + 1 + 1 + 1 + 1 + 1 : Nat) : Int), 88, 105) :: (L12_105 v0 n l)
def L12_107 (v0 : Int) (n : Nat) (l : List ew_E) : List ew_E := (none, ((n + 1 + 1 + 1 + 1 + 1 : Nat) : Int), 89, 110) :: (L12_106 v0 n l)
def L12_108 (v0 : Int) (n : Nat) (l : List ew_E) : List ew_E := (none, ((n + 1 + 1 + 1 + 1 + 1 : Nat) : Int), 90, 103) :: (L12_107 v0 n l)
def L12_109 (v0 : Int) (n : Nat) (l : List ew_E) : List ew_E := (none, ((n + 1 + 1 + 1 + 1 + 1 : Nat) : Int), 91, 32) :: (L12_108 v0 n l)
def L12_110 (v0 : Int) (n : Nat) (l : List ew_E) : List ew_E := (none, ((n + 1 + 1 + 1 + 1 + 1 : Nat) : Int), 92, 100) :: (L12_109 v0 n l)
def L12_111 (v0 : Int) (n : Nat) (l : List ew_E) : List ew_E := (none, ((n + 1 + 1 + 1 + 1 + 1 : Nat) : Int), 93, 111) :: (L12_110 v0 n l)
def L12_112 (v0 : Int) (n : Nat) (l : List ew_E) : List ew_E := (none, ((n + 1 + 1 + 1 + 1 + 1 : Nat) : Int), 94, 110) :: (L12_111 v0 n l)
def L12_113 (v0 : Int) (n : Nat) (l : List ew_E) : List ew_E := (none, ((n + 1 + 1 + 1 + 1 + 1 : Nat) : Int), 95, 101) :: (L12_112 v0 n l)
def L12_114 (v0 : Int) (n : Nat) (l : List ew_E) : List ew_E := (none, ((n + 1 + 1 + 1 + 1 + 1 : Nat) : Int), 96, 32) :: (L12_113 v0 n l)
def L12_115 (v0 : Int) (n : Nat) (l : List ew_E) : List ew_E := (none, ((n + 1 + 1 + 1 + 1 + 1 : Nat) : Int), 97, 115) :: (L12_114 v0 n l)
def L12_116 (v0 : Int) (n : Nat) (l : List ew_E) : List ew_E := (none, ((n + 1 + 1 + 1 + 1 + 1 : Nat) : Int), 98, 97) :: (L12_115 v0 n l)
def L12_117 (v0 : Int) (n : Nat) (l : List ew_E) : List ew_E := (none, ((n + 1 + 1 + 1 + 1 + 1 : Nat) : Int), 99, 105) :: (L12_116 v0 n l)
def L12_118 (v0 : Int) (n : Nat) (l : List ew_E) : List ew_E := (none, ((n + 1 + 1 + 1 + 1 + 1 : Nat) : Int), 100, 100) :: (L12_117 v0 n l)
def L12_119 (v0 : Int) (n : Nat) (l : List ew_E) : List ew_E := (none, ((n + 1 + 1 + 1 + 1 + 1 : Nat) : Int), 101, 32) :: (L12_118 v0 n l)
def L12_120 (v0 : Int) (n : Nat) (l : List ew_E) : List ew_E := (none, ((n + 1 + 1 + 1 + 1 + 1 : Nat) : Int), 102, 103) :: (L12_119 v0 n l)
def L12_121 (v0 : Int) (n : Nat) (l : List ew_E) : List ew_E := (none, ((n + 1 + 1 + 1 + 1 + 1 : Nat) : Int), 103, 114) :: (L12_120 v0 n l)
def L12_122 (v0 : Int) (n : Nat) (l : List ew_E) : List ew_E := (none, ((n + 1 + 1 + 1 + 1 + 1 : Nat) : Int), 104, 97) :: (L12_121 v0 n l)
def L12_123 (v0 : Int) (n : Nat) (l : List ew_E) : List ew_E := (none, ((n + 1 + 1 + 1 + 1 + 1 : Nat) : Int), 105, 110) :: (L12_122 v0 n l)
def L12_124 (v0 : Int) (n : Nat) (l : List ew_E) : List ew_E := (none, ((n + 1 + 1 + 1 + 1 + 1 : Nat) : Int), 106, 116) :: (L12_123 v0 n l)
def L12_125 (v0 : Int) (n : Nat) (l : List ew_E) : List ew_E := (none, ((n + 1 + 1 + 1 + 1 + 1 : Nat) : Int), 107, 101) :: (L12_124 v0 n l)
def L12_126 (v0 : Int) (n : Nat) (l : List ew_E) : List ew_E := (none, ((n + 1 + 1 + 1 + 1 + 1 : Nat) : Int), 108, 100) :: (L12_125 v0 n l)
def L12_127 (v0 : Int) (n : Nat) (l : List ew_E) : List ew_E := (none, ((n + 1 + 1 + 1 + 1 + 1 : Nat) : Int), 109, 32) :: (L12_126 v0 n l)
def L12_128 (v0 : Int) (n : Nat) (l : List ew_E) : List ew_E := (none, ((n + 1 + 1 + 1 + 1 + 1 : Nat) : Int), 110, 112) :: (L12_127 v0 n l)
def L12_129 (v0 : Int) (n : Nat) (l : List ew_E) : List ew_E := (none, ((n + 1 + 1 + 1 + 1 + 1 : Nat) : Int), 111, 114) :: (L12_128 v0 n l)
def L12_130 (v0 : Int) (n : Nat) (l : List ew_E) : List ew_E := (none, ((n + 1 + 1 + 1 + 1 + 1 : Nat) : Int), 112, 97) :: (L12_129 v0 n l)
def L12_131 (v0 : Int) (n : Nat) (l : List ew_E) : List ew_E := (none, ((n + 1 + 1 + 1 + 1 + 1 : Nat) : Int), 113, 121) :: (L12_130 v0 n l)
def L12_132 (v0 : Int) (n : Nat) (l : List ew_E) : List ew_E := (none, ((n + 1 + 1 + 1 + 1 + 1 : Nat) : Int), 114, 32) :: (L12_131 v0 n l)
def L12_133 (v0 : Int) (n : Nat) (l : List ew_E) : List ew_E := (none, ((n + 1 + 1 + 1 + 1 + 1 : Nat) : Int), 115, 102) :: (L12_132 v0 n l)
def L12_134 (v0 : Int) (n : Nat) (l : List ew_E) : List ew_E := (none, ((n + 1 + 1 + 1 + 1 + 1 : Nat) : Int), 116, 111) :: (L12_133 v0 n l)
def L12_135 (v0 : Int) (n : Nat) (l : List ew_E) : List ew_E := (none, ((n + 1 + 1 + 1 + 1 + 1 : Nat) : Int), 117, 114) :: (L12_134 v0 n l)
def L12_136 (v0 : Int) (n : Nat) (l : List ew_E) : List ew_E := (none, ((n + 1 + 1 + 1 + 1 + 1 : Nat) : Int), 118, 32) :: (L12_135 v0 n l)
def L12_137 (v0 : Int) (n : Nat) (l : List ew_E) : List ew_E := (none, ((n + 1 + 1 + 1 + 1 + 1 : Nat) : Int), 119, 111) :: (L12_136 v0 n l)
def L12_138 (v0 : Int) (n : Nat) (l : List ew_E) : List ew_E := (none, ((n + 1 + 1 + 1 + 1 + 1 : Nat) : Int), 120, 102) :: (L12_137 v0 n l)
def L12_139 (v0 : Int) (n : Nat) (l : List ew_E) : List ew_E := (none, ((n + 1 + 1 + 1 + 1 + 1 : Nat) : Int), 121, 32) :: (L12_138 v0 n l)
def L12_140 (v0 : Int) (n : Nat) (l : List ew_E) : List ew_E := (none, ((n + 1 + 1 + 1 + 1 + 1 : Nat) : Int), 122, 100) :: (L12_139 v0 n l)
def L12_141 (v0 : Int) (n : Nat) (l : List ew_E) : List ew_E := (none, ((n + 1 + 1 + 1 + 1 + 1 : Nat) : Int), 123, 97) :: (L12_140 v0 n l)
def L12_142 (v0 : Int) (n : Nat) (l : List ew_E) : List ew_E := (none, ((n + 1 + 1 + 1 + 1 + 1 : Nat) : Int), 124, 119) :: (L12_141 v0 n l)
def L12_143 (v0 : Int) (n : Nat) (l : List ew_E) : List ew_E := (none, ((n + 1 + 1 + 1 + 1 + 1 : Nat) : Int), 125, 110) :: (L12_142 v0 n l)
def L12_144 (v0 : Int) (n : Nat) (l : List ew_E) : List ew_E := (none, ((n + 1 + 1 + 1 + 1 + 1 : Nat) : Int), 126, 32) :: (L12_143 v0 n l)
def L12_145 (v0 : Int) (n : Nat) (l : List ew_E) : List ew_E := (none, ((n + 1 + 1 + 1 + 1 + 1 : Nat) : Int), 127, 116) :: (L12_144 v0 n l)
def L12_146 (v0 : Int) (n : Nat) (l : List ew_E) : List ew_E := (none, ((n + 1 + 1 + 1 + 1 + 1 : Nat) : Int), 128, 105) :: (L12_145 v0 n l)
def L12_147 (v0 : Int) (n : Nat) (l : List ew_E) : List ew_E := (none, ((n + 1 + 1 + 1 + 1 + 1 : Nat) : Int), 129, 109) :: (L12_146 v0 n l)
def L12_148 (v0 : Int) (n : Nat) (l : List ew_E) : List ew_E := (none, ((n + 1 + 1 + 1 + 1 + 1 : Nat) : Int), 130, 101) :: (L12_147 v0 n l)
def L12_149 (v0 : Int) (n : Nat) (l : List ew_E) : List ew_E := (none, ((n + 1 + 1 + 1 + 1 + 1 : Nat) : Int), 131, 115) :: (L12_148 v0 n l)
def L12_150 (v0 : Int) (n : Nat) (l : List ew_E) : List ew_E := (none, ((n + 1 + 1 + 1 + 1 + 1 : Nat) : Int), 132, 32) :: (L12_149 v0 n l)
def L12_151 (v0 : Int) (n : Nat) (l : List ew_E) : List ew_E := (none, v0, 7, ((n + 1 + 1 + 1 + 1 + 1 : Nat) : Int)) :: (L12_150 v0 n l)
def L12_153 (v0 : Int) (n : Nat) (l : List ew_E) : List ew_E := (some (n + 1 + 1 + 1 + 1 + 1 + 1), 0, 0, 0) :: (L12_151 v0 n l)
def L12_154 (v0 : Int) (n : Nat) (l : List ew_E) : List ew_E := (none, v0, 11, ((n + 1 + 1 + 1 + 1 + 1 + 1 : Nat) : Int)) :: (L12_153 v0 n l)
def L12_156 (v0 : Int) (n : Nat) (l : List ew_E) : List ew_E := (some (n + 1 + 1 + 1 + 1 + 1 + 1 + 1), 0, 0, 0) :: (L12_154 v0 n l)
def L12_157 (v0 : Int) (n : Nat) (l : List ew_E) : List ew_E := (none, v0, 12, ((n + 1 + 1 + 1 + 1 + 1 + 1 + 1 : Nat) : Int)) :: (L12_156 v0 n l)
def L12_158 (v0 : Int) (n : Nat) (l : List ew_E) : List ew_E := (none, v0, 14, (-1)) :: (L12_157 v0 n l)
def L12_160 (v0 : Int) (n : Nat) (l : List ew_E) : List ew_E := (some (n + 1 + 1 + 1 + 1 + 1 + 1 + 1 + 1), 0, 0, 0) :: (L12_158 v0 n l)
def L12_161 (v0 : Int) (n : Nat) (l : List ew_E) : List ew_E := (none, v0, 15, ((n + 1 + 1 + 1 + 1 + 1 + 1 + 1 + 1 : Nat) : Int)) :: (L12_160 v0 n l)
def L12_163 (v0 : Int) (n : Nat) (l : List ew_E) : List ew_E := (some (n + 1 + 1 + 1 + 1 + 1 + 1 + 1 + 1 + 1), 0, 0, 0) :: (L12_161 v0 n l)
def L12_164 (v0 : Int) (n : Nat) (l : List ew_E) : List ew_E := (none, v0, 16, ((n + 1 + 1 + 1 + 1 + 1 + 1 + 1 + 1 + 1 : Nat) : Int)) :: (L12_163 v0 n l)
def L12_166 (v0 : Int) (n : Nat) (l : List ew_E) : List ew_E := (some (n + 1 + 1 + 1 + 1 + 1 + 1 + 1 + 1 + 1 + 1), 0, 0, 0) :: (L12_164 v0 n l)
def L12_167 (v0 : Int) (n : Nat) (l : List ew_E) : List ew_E := (none, v0, 17, ((n + 1 + 1 + 1 + 1 + 1 + 1 + 1 + 1 + 1 + 1 : Nat) : Int)) :: (L12_166 v0 n l)
def L12_169 (v0 : Int) (n : Nat) (l : List ew_E) : List ew_E := (some (n + 1 + 1 + 1 + 1 + 1 + 1 + 1 + 1 + 1 + 1 + 1), 0, 0, 0) :: (L12_167 v0 n l)
def L12_170 (v0 : Int) (n : Nat) (l : List ew_E) : List ew_E := (none, v0, 25, ((n + 1 + 1 + 1 + 1 + 1 + 1 + 1 + 1 + 1 + 1 + 1 : Nat) : Int)) :: (L12_169 v0 n l)
def L12_172 (v0 : Int) (n : Nat) (l : List ew_E) : List ew_E := (some (n + 1 + 1 + 1 + 1 + 1 + 1 + 1 + 1 + 1 + 1 + 1 + 1), 0, 0, 0) :: (L12_170 v0 n l)
def L12_173 (v0 : Int) (n : Nat) (l : List ew_E) : List ew_E := (none, v0, 26, ((n + 1 + 1 + 1 + 1 + 1 + 1 + 1 + 1 + 1 + 1 + 1 + 1 : Nat) : Int)) :: (L12_172 v0 n l)
def L12_175 (v0 : Int) (n : Nat) (l : List ew_E) : List ew_E := (some (n + 1 + 1 + 1 + 1 + 1 + 1 + 1 + 1 + 1 + 1 + 1 + 1 + 1), 0, 0, 0) :: (L12_173 v0 n l)
def L12_176 (v0 : Int) (n : Nat) (l : List ew_E) : List ew_E := (none, v0, 27, ((n + 1 + 1 + 1 + 1 + 1 + 1 + 1 + 1 + 1 + 1 + 1 + 1 + 1 : Nat) : Int)) :: (L12_175 v0 n l)
def L12_178 (v0 : Int) (n : Nat) (l : List ew_E) : List ew_E := (some (n + 1 + 1 + 1 + 1 + 1 + 1 + 1 + 1 + 1 + 1 + 1 + 1 + 1 + 1), 0, 0, 0) :: (L12_176 v0 n l)
def L12_179 (v0 : Int) (n : Nat) (l : List ew_E) : List ew_E := (none, v0, 28, ((n + 1 + 1 + 1 + 1 + 1 + 1 + 1 + 1 + 1 + 1 + 1 + 1 + 1 + 1 : Nat) : Int)) :: (L12_178 v0 n l)
def L12_181 (v0 : Int) (n : Nat) (l : List ew_E) : List ew_E := (some (n + 1 + 1 + 1 + 1 + 1 + 1 + 1 + 1 + 1 + 1 + 1 + 1 + 1 + 1 + 1), 0, 0, 0) :: (L12_179 v0 n l)
def L12_182 (v0 : Int) (n : Nat) (l : List ew_E) : List ew_E := (none, v0, 29, ((n + 1 + 1 + 1 + 1 + 1 + 1 + 1 + 1 + 1 + 1 + 1 + 1 + 1 + 1 + 1 : Nat) : Int)) :: (L12_181 v0 n l)
def L12_184 (v0 : Int) (n : Nat) (l : List ew_E) : List ew_E := (some (n + 1 + 1 + 1 + 1 + 1 + 1 + 1 + 1 + 1 + 1 + 1 + 1 + 1 + 1 + 1 + 1), 0, 0, 0) :: (L12_182 v0 n l)
def L12_185 (v0 : Int) (n : Nat) (l : List ew_E) : List ew_E := (none, v0, 30, ((n + 1 + 1 + 1 + 1 + 1 + 1 + 1 + 1 + 1 + 1 + 1 + 1 + 1 + 1 + 1 + 1 : Nat) : Int)) :: (L12_184 v0 n l)
def L12_187 (v0 : Int) (n : Nat) (l : List ew_E) : List ew_E := (some (n + 1 + 1 + 1 + 1 + 1 + 1 + 1 + 1 + 1 + 1 + 1 + 1 + 1 + 1 + 1 + 1 + 1), 0, 0, 0) :: (L12_185 v0 n l)
def L12_188 (v0 : Int) (n : Nat) (l : List ew_E) : List ew_E := (none, v0, 31, ((n + 1 + 1 + 1 + 1 + 1 + 1 + 1 + 1 + 1 + 1 + 1 + 1 + 1 + 1 + 1 + 1 + 1 : Nat) : Int)) :: (L12_187 v0 n l)
def L12_190 (v0 : Int) (n : Nat) (l : List ew_E) : List ew_E := (some (n + 1 + 1 + 1 + 1 + 1 + 1 + 1 + 1 + 1 + 1 + 1 + 1 + 1 + 1 + 1 + 1 + 1 + 1), 0, 0, 0) :: (L12_188 v0 n l)
def L12_191 (v0 : Int) (n : Nat) (l : List ew_E) : List ew_E := (none, v0, 32, ((n + 1 + 1 + 1 + 1 + 1 + 1 + 1 + 1 + 1 + 1 + 1 + 1 + 1 + 1 + 1 + 1 + 1 + 1 : Nat) : Int)) :: (L12_190 v0 n l)
def L12_193 (v0 : Int) (n : Nat) (l : List ew_E) : List ew_E := (some (n + 1 + 1 + 1 + 1 + 1 + 1 + 1 + 1 + 1 + 1 + 1 + 1 + 1 + 1 + 1 + 1 + 1 + 1 + 1), 0, 0, 0) :: (L12_191 v0 n l)
def L12_194 (v0 : Int) (n : Nat) (l : List ew_E) : List ew_E := (none, v0, 33, ((n + 1 + 1 + 1 + 1 + 1 + 1 + 1 + 1 + 1 + 1 + 1 + 1 + 1 + 1 + 1 + 1 + 1 + 1 + 1 : Nat) : Int)) :: (L12_193 v0 n l)
def L12_196 (v0 : Int) (n : Nat) (l : List ew_E) : List ew_E := (some (n + 1 + 1 + 1 + 1 + 1 + 1 + 1 + 1 + 1 + 1 + 1 + 1 + 1 + 1 + 1 + 1 + 1 + 1 + 1 + 1), 0, 0, 0) :: (L12_194 v0 n l)
def L12_197 (v0 : Int) (n : Nat) (l : List ew_E) : List ew_E := (none, v0, 36, ((n + 1 + 1 + 1 + 1 + 1 + 1 + 1 + 1 + 1 + 1 + 1 + 1 + 1 + 1 + 1 + 1 + 1 + 1 + 1 + 1 : Nat) : Int)) :: (L12_196 v0 n l)
def L12_199 (v0 : Int) (n : Nat) (l : List ew_E) : List ew_E := (some (n + 1 + 1 + 1 + 1 + 1 + 1 + 1 + 1 + 1 + 1 + 1 + 1 + 1 + 1 + 1 + 1 + 1 + 1 + 1 + 1 + 1), 0, 0, 0) :: (L12_197 v0 n l)
def L12_200 (v0 : Int) (n : Nat) (l : List ew_E) : List ew_E := (none, v0, 37, ((n + 1 + 1 + 1 + 1 + 1 + 1 + 1 + 1 + 1 + 1 + 1 + 1 + 1 + 1 + 1 + 1 + 1 + 1 + 1 + 1 + 1 : Nat) : Int)) :: (L12_199 v0 n l)
def L12_202 (v0 : Int) (n : Nat) (l : List ew_E) : List ew_E := (some (n + 1 + 1 + 1 + 1 + 1 + 1 + 1 + 1 + 1 + 1 + 1 + 1 + 1 + 1 + 1 + 1 + 1 + 1 + 1 + 1 + 1 + 1), 0, 0, 0) :: (L12_200 v0 n l)
def L12_203 (v0 : Int) (n : Nat) (l : List ew_E) : List ew_E := (none, v0, 39, ((n + 1 + 1 + 1 + 1 + 1 + 1 + 1 + 1 + 1 + 1 + 1 + 1 + 1 + 1 + 1 + 1 + 1 + 1 + 1 + 1 + 1 + 1 : Nat) : Int)) :: (L12_202 v0 n l)
def L12_205 (v0 : Int) (n : Nat) (l : List ew_E) : List ew_E := (some (n + 1 + 1 + 1 + 1 + 1 + 1 + 1 + 1 + 1 + 1 + 1 + 1 + 1 + 1 + 1 + 1 + 1 + 1 + 1 + 1 + 1 + 1 + 1), 0, 0, 0) :: (L12_203 v0 n l)
def L12_206 (v0 : Int) (n : Nat) (l : List ew_E) : List ew_E := (none, v0, 40, ((n + 1 + 1 + 1 + 1 + 1 + 1 + 1 + 1 + 1 + 1 + 1 + 1 + 1 + 1 + 1 + 1 + 1 + 1 + 1 + 1 + 1 + 1 + 1 : Nat) : Int)) :: (L12_205 v0 n l)
def L12_208 (v0 : Int) (n : Nat) (l : List ew_E) : List ew_E := (some (n + 1 + 1 + 1 + 1 + 1 + 1 + 1 + 1 + 1 + 1 + 1 + 1 + 1 + 1 + 1 + 1 + 1 + 1 + 1 + 1 + 1 + 1 + 1 + 1), 0, 0, 0) :: (L12_206 v0 n l)
def L12_209 (v0 : Int) (n : Nat) (l : List ew_E) : List ew_E := (none, v0, 41, ((n + 1 + 1 + 1 + 1 + 1 + 1 + 1 + 1 + 1 + 1 + 1 + 1 + 1 + 1 + 1 + 1 + 1 + 1 + 1 + 1 + 1 + 1 + 1 + 1 : Nat) : Int)) :: (L12_208 v0 n l)
def L12_211 (v0 : Int) (n : Nat) (l : List ew_E) : List ew_E := (some (n + 1 + 1 + 1 + 1 + 1 + 1 + 1 + 1 + 1 + 1 + 1 + 1 + 1 + 1 + 1 + 1 + 1 + 1 + 1 + 1 + 1 + 1 + 1 + 1 + 1), 0, 0, 0) :: (L12_209 v0 n l)
def L12_212 (v0 : Int) (n : Nat) (l : List ew_E) : List ew_E := (none, v0, 42, ((n + 1 + 1 + 1 + 1 + 1 + 1 + 1 + 1 + 1 + 1 + 1 + 1 + 1 + 1 + 1 + 1 + 1 + 1 + 1 + 1 + 1 + 1 + 1 + 1 + 1 : Nat) : Int)) :: (L12_211 v0 n l)
def L12_214 (v0 : Int) (n : Nat) (l : List ew_E) : List ew_E := (some (n + 1 + 1 + 1 + 1 + 1 + 1 + 1 + 1 + 1 + 1 + 1 + 1 + 1 + 1 + 1 + 1 + 1 + 1 + 1 + 1 + 1 + 1 + 1 + 1 + 1 + 1), 0, 0, 0) :: (L12_212 v0 n l)
def L12_215 (v0 : Int) (n : Nat) (l : List ew_E) : List ew_E := (none, v0, 43, ((n + 1 + 1 + 1 + 1 + 1 + 1 + 1 + 1 + 1 + 1 + 1 + 1 + 1 + 1 + 1 + 1 + 1 + 1 + 1 + 1 + 1 + 1 + 1 + 1 + 1 + 1 : Nat) : Int)) :: (L12_214 v0 n l)
def L12_217 (v0 : Int) (n : Nat) (l : List ew_E) : List ew_E := (some (n + 1 + 1 + 1 + 1 + 1 + 1 + 1 + 1 + 1 + 1 + 1 + 1 + 1 + 1 + 1 + 1 + 1 + 1 + 1 + 1 + 1 + 1 + 1 + 1 + 1 + 1 + 1), 0, 0, 0) :: (L12_215 v0 n l)
def L12_218 (v0 : Int) (n : Nat) (l : List ew_E) : List ew_E := (none, v0, 44, ((n + 1 + 1 + 1 + 1 + 1 + 1 + 1 + 1 + 1 + 1 + 1 + 1 + 1 + 1 + 1 + 1 + 1 + 1 + 1 + 1 + 1 + 1 + 1 + 1 + 1 + 1 + 1 : Nat) : Int)) :: (L12_217 v0 n l)
def L12_219 (v0 : Int) (n : Nat) (l : List ew_E) : List ew_E := (none, v0, 48, (-1)) :: (L12_218 v0 n l)
def L12_221 (v0 : Int) (n : Nat) (l : List ew_E) : List ew_E := (some (n + 1 + 1 + 1 + 1 + 1 + 1 + 1 + 1 + 1 + 1 + 1 + 1 + 1 + 1 + 1 + 1 + 1 + 1 + 1 + 1 + 1 + 1 + 1 + 1 + 1 + 1 + 1 + 1), 0, 0, 0) :: (L12_219 v0 n l)
def L12_222 (v0 : Int) (n : Nat) (l : List ew_E) : List ew_E := (none, v0, 55, ((n + 1 + 1 + 1 + 1 + 1 + 1 + 1 + 1 + 1 + 1 + 1 + 1 + 1 + 1 + 1 + 1 + 1 + 1 + 1 + 1 + 1 + 1 + 1 + 1 + 1 + 1 + 1 + 1 : Nat) : Int)) :: (L12_221 v0 n l)
def L12_224 (v0 : Int) (n : Nat) (l : List ew_E) : List ew_E := (some (n + 1 + 1 + 1 + 1 + 1 + 1 + 1 + 1 + 1 + 1 + 1 + 1 + 1 + 1 + 1 + 1 + 1 + 1 + 1 + 1 + 1 + 1 + 1 + 1 + 1 + 1 + 1 + 1 + 1), 0, 0, 0) :: (L12_222 v0 n l)
def L12_225 (v0 : Int) (n : Nat) (l : List ew_E) : List ew_E := (none, v0, 56, ((n + 1 + 1 + 1 + 1 + 1 + 1 + 1 + 1 + 1 + 1 + 1 + 1 + 1 + 1 + 1 + 1 + 1 + 1 + 1 + 1 + 1 + 1 + 1 + 1 + 1 + 1 + 1 + 1 + 1 : Nat) : Int)) :: (L12_224 v0 n l)
def L12_227 (v0 : Int) (n : Nat) (l : List ew_E) : List ew_E := (some (n + 1 + 1 + 1 + 1 + 1 + 1 + 1 + 1 + 1 + 1 + 1 + 1 + 1 + 1 + 1 + 1 + 1 + 1 + 1 + 1 + 1 + 1 + 1 + 1 + 1 + 1 + 1 + 1 + 1 + 1), 0, 0, 0) :: (L12_225 v0 n l)
def L12_228 (v0 : Int) (n : Nat) (l : List ew_E) : List ew_E := (none, v0, 57, ((n + 1 + 1 + 1 + 1 + 1 + 1 + 1 + 1 + 1 + 1 + 1 + 1 + 1 + 1 + 1 + 1 + 1 + 1 + 1 + 1 + 1 + 1 + 1 + 1 + 1 + 1 + 1 + 1 + 1 + 1 : Nat) : Int)) :: (L12_227 v0 n l)
def L12_229 (v0 : Int) (n : Nat) (l : List ew_E) : List ew_E := (none, (ew_r (L12_228 v0 n l) v0 2), 360, 1) :: (L12_228 v0 n l)
def L12_231 (v0 : Int) (n : Nat) (l : List ew_E) : List ew_E := (none, (ew_r (L12_229 v0 n l) v0 2), 361, 3) :: (L12_229 v0 n l)
def L12_233 (v0 : Int) (n : Nat) (l : List ew_E) : List ew_E := (none, (ew_r (L12_231 v0 n l) v0 2), 369, (-1)) :: (L12_231 v0 n l)
def EV_X12 (v0 : Int) (n : Nat) (l : List ew_E) : List ew_E := (L12_233 v0 n l)
def OK_X12 (v0 : Int) (n : Nat) (l : List ew_E) : Bool := (decide (((0 : Int) ≤ 7 ∧ 7 ≤ (100000 : Int) ∧ am_sh n = (20, Int.toNat 7)))) && ((decide (((0 : Int) ≤ 5977 ∧ 5977 ≤ (100000 : Int) ∧ am_sh (n + 1) = (20, Int.toNat 5977)))) && ((decide (((0 : Int) ≤ 11954 ∧ 11954 ≤ (100000 : Int) ∧ am_sh (n + 1 + 1) = (20, Int.toNat 11954)))) && ((decide (((0 : Int) ≤ 2 ∧ 2 ≤ (100000 : Int) ∧ am_sh (n + 1 + 1 + 1) = (22, Int.toNat 2)))) && ((decide (((0 : Int) ≤ 340 ∧ 340 ≤ (100000 : Int) ∧ am_sh (n + 1 + 1 + 1 + 1) = (20, Int.toNat 340)))) && ((decide (((0 : Int) ≤ 133 ∧ 133 ≤ (100000 : Int) ∧ am_sh (n + 1 + 1 + 1 + 1 + 1) = (21, Int.toNat 133)))) && ((decide (((0 : Int) ≤ 400 ∧ 400 ≤ (100000 : Int) ∧ am_sh (n + 1 + 1 + 1 + 1 + 1 + 1) = (21, Int.toNat 400)))) && ((decide (((0 : Int) ≤ 5 ∧ 5 ≤ (100000 : Int) ∧ am_sh (n + 1 + 1 + 1 + 1 + 1 + 1 + 1) = (20, Int.toNat 5)))) && ((decide (((0 : Int) ≤ 401 ∧ 401 ≤ (100000 : Int) ∧ am_sh (n + 1 + 1 + 1 + 1 + 1 + 1 + 1 + 1) = (20, Int.toNat 401)))) && ((decide (((0 : Int) ≤ 401 ∧ 401 ≤ (100000 : Int) ∧ am_sh (n + 1 + 1 + 1 + 1 + 1 + 1 + 1 + 1 + 1) = (20, Int.toNat 401)))) && ((decide (((0 : Int) ≤ 401 ∧ 401 ≤ (100000 : Int) ∧ am_sh (n + 1 + 1 + 1 + 1 + 1 + 1 + 1 + 1 + 1 + 1) = (20, Int.toNat 401)))) && ((decide (((0 : Int) ≤ 8 ∧ 8 ≤ (100000 : Int) ∧ am_sh (n + 1 + 1 + 1 + 1 + 1 + 1 + 1 + 1 + 1 + 1 + 1) = (20, Int.toNat 8)))) && ((decide (((0 : Int) ≤ 8 ∧ 8 ≤ (100000 : Int) ∧ am_sh (n + 1 + 1 + 1 + 1 + 1 + 1 + 1 + 1 + 1 + 1 + 1 + 1) = (20, Int.toNat 8)))) && ((decide (((0 : Int) ≤ 8 ∧ 8 ≤ (100000 : Int) ∧ am_sh (n + 1 + 1 + 1 + 1 + 1 + 1 + 1 + 1 + 1 + 1 + 1 + 1 + 1) = (20, Int.toNat 8)))) && ((decide (((0 : Int) ≤ 8 ∧ 8 ≤ (100000 : Int) ∧ am_sh (n + 1 + 1 + 1 + 1 + 1 + 1 + 1 + 1 + 1 + 1 + 1 + 1 + 1 + 1) = (20, Int.toNat 8)))) && ((decide (((0 : Int) ≤ 8 ∧ 8 ≤ (100000 : Int) ∧ am_sh (n + 1 + 1 + 1 + 1 + 1 + 1 + 1 + 1 + 1 + 1 + 1 + 1 + 1 + 1 + 1) = (20, Int.toNat 8)))) && ((decide (((0 : Int) ≤ 8 ∧ 8 ≤ (100000 : Int) ∧ am_sh (n + 1 + 1 + 1 + 1 + 1 + 1 + 1 + 1 + 1 + 1 + 1 + 1 + 1 + 1 + 1 + 1) = (20, Int.toNat 8)))) && ((decide (((0 : Int) ≤ 8 ∧ 8 ≤ (100000 : Int) ∧ am_sh (n + 1 + 1 + 1 + 1 + 1 + 1 + 1 + 1 + 1 + 1 + 1 + 1 + 1 + 1 + 1 + 1 + 1) = (20, Int.toNat 8)))) && ((decide (((0 : Int) ≤ 24 ∧ 24 ≤ (100000 : Int) ∧ am_sh (n + 1 + 1 + 1 + 1 + 1 + 1 + 1 + 1 + 1 + 1 + 1 + 1 + 1 + 1 + 1 + 1 + 1 + 1) = (20, Int.toNat 24)))) && ((decide (((0 : Int) ≤ 24 ∧ 24 ≤ (100000 : Int) ∧ am_sh (n + 1 + 1 + 1 + 1 + 1 + 1 + 1 + 1 + 1 + 1 + 1 + 1 + 1 + 1 + 1 + 1 + 1 + 1 + 1) = (20, Int.toNat 24)))) && ((decide (((0 : Int) ≤ 2736 ∧ 2736 ≤ (100000 : Int) ∧ am_sh (n + 1 + 1 + 1 + 1 + 1 + 1 + 1 + 1 + 1 + 1 + 1 + 1 + 1 + 1 + 1 + 1 + 1 + 1 + 1 + 1) = (20, Int.toNat 2736)))) && ((decide (((0 : Int) ≤ 2736 ∧ 2736 ≤ (100000 : Int) ∧ am_sh (n + 1 + 1 + 1 + 1 + 1 + 1 + 1 + 1 + 1 + 1 + 1 + 1 + 1 + 1 + 1 + 1 + 1 + 1 + 1 + 1 + 1) = (20, Int.toNat 2736)))) && ((decide (((0 : Int) ≤ 3 ∧ 3 ≤ (100000 : Int) ∧ am_sh (n + 1 + 1 + 1 + 1 + 1 + 1 + 1 + 1 + 1 + 1 + 1 + 1 + 1 + 1 + 1 + 1 + 1 + 1 + 1 + 1 + 1 + 1) = (20, Int.toNat 3)))) && ((decide (((0 : Int) ≤ 8 ∧ 8 ≤ (100000 : Int) ∧ am_sh (n + 1 + 1 + 1 + 1 + 1 + 1 + 1 + 1 + 1 + 1 + 1 + 1 + 1 + 1 + 1 + 1 + 1 + 1 + 1 + 1 + 1 + 1 + 1) = (20, Int.toNat 8)))) && ((decide (((0 : Int) ≤ 36 ∧ 36 ≤ (100000 : Int) ∧ am_sh (n + 1 + 1 + 1 + 1 + 1 + 1 + 1 + 1 + 1 + 1 + 1 + 1 + 1 + 1 + 1 + 1 + 1 + 1 + 1 + 1 + 1 + 1 + 1 + 1) = (20, Int.toNat 36)))) && ((decide (((0 : Int) ≤ 6 ∧ 6 ≤ (100000 : Int) ∧ am_sh (n + 1 + 1 + 1 + 1 + 1 + 1 + 1 + 1 + 1 + 1 + 1 + 1 + 1 + 1 + 1 + 1 + 1 + 1 + 1 + 1 + 1 + 1 + 1 + 1 + 1) = (20, Int.toNat 6)))) && ((decide (((0 : Int) ≤ 6 ∧ 6 ≤ (100000 : Int) ∧ am_sh (n + 1 + 1 + 1 + 1 + 1 + 1 + 1 + 1 + 1 + 1 + 1 + 1 + 1 + 1 + 1 + 1 + 1 + 1 + 1 + 1 + 1 + 1 + 1 + 1 + 1 + 1) = (20, Int.toNat 6)))) && ((decide (((0 : Int) ≤ 6 ∧ 6 ≤ (100000 : Int) ∧ am_sh (n + 1 + 1 + 1 + 1 + 1 + 1 + 1 + 1 + 1 + 1 + 1 + 1 + 1 + 1 + 1 + 1 + 1 + 1 + 1 + 1 + 1 + 1 + 1 + 1 + 1 + 1 + 1) = (20, Int.toNat 6)))) && ((decide (((0 : Int) ≤ 3 ∧ 3 ≤ (100000 : Int) ∧ am_sh (n + 1 + 1 + 1 + 1 + 1 + 1 + 1 + 1 + 1 + 1 + 1 + 1 + 1 + 1 + 1 + 1 + 1 + 1 + 1 + 1 + 1 + 1 + 1 + 1 + 1 + 1 + 1 + 1) = (23, Int.toNat 3)))) && ((decide (((0 : Int) ≤ 6 ∧ 6 ≤ (100000 : Int) ∧ am_sh (n + 1 + 1 + 1 + 1 + 1 + 1 + 1 + 1 + 1 + 1 + 1 + 1 + 1 + 1 + 1 + 1 + 1 + 1 + 1 + 1 + 1 + 1 + 1 + 1 + 1 + 1 + 1 + 1 + 1) = (20, Int.toNat 6)))) && ((decide (((0 : Int) ≤ 18 ∧ 18 ≤ (100000 : Int) ∧ am_sh (n + 1 + 1 + 1 + 1 + 1 + 1 + 1 + 1 + 1 + 1 + 1 + 1 + 1 + 1 + 1 + 1 + 1 + 1 + 1 + 1 + 1 + 1 + 1 + 1 + 1 + 1 + 1 + 1 + 1 + 1) = (20, Int.toNat 18)))) && (((ew_g (L12_228 v0 n l) v0 2).isSome) && ((decide ((0 ≤ (ew_r (L12_228 v0 n l) v0 2) ∧ Int.toNat (ew_r (L12_228 v0 n l) v0 2) < (n + 1 + 1 + 1 + 1 + 1 + 1 + 1 + 1 + 1 + 1 + 1 + 1 + 1 + 1 + 1 + 1 + 1 + 1 + 1 + 1 + 1 + 1 + 1 + 1 + 1 + 1 + 1 + 1 + 1 + 1 + 1) ∧ (am_sh (Int.toNat (ew_r (L12_228 v0 n l) v0 2))).1 = 20 ∧ am_len (ew_r (L12_228 v0 n l) v0 2) = ((am_sh (Int.toNat (ew_r (L12_228 v0 n l) v0 2))).2 : Int)) ∧ 360 < am_len (ew_r (L12_228 v0 n l) v0 2))) && (((ew_g (L12_229 v0 n l) v0 2).isSome) && ((decide ((0 ≤ (ew_r (L12_229 v0 n l) v0 2) ∧ Int.toNat (ew_r (L12_229 v0 n l) v0 2) < (n + 1 + 1 + 1 + 1 + 1 + 1 + 1 + 1 + 1 + 1 + 1 + 1 + 1 + 1 + 1 + 1 + 1 + 1 + 1 + 1 + 1 + 1 + 1 + 1 + 1 + 1 + 1 + 1 + 1 + 1 + 1) ∧ (am_sh (Int.toNat (ew_r (L12_229 v0 n l) v0 2))).1 = 20 ∧ am_len (ew_r (L12_229 v0 n l) v0 2) = ((am_sh (Int.toNat (ew_r (L12_229 v0 n l) v0 2))).2 : Int)) ∧ 361 < am_len (ew_r (L12_229 v0 n l) v0 2))) && (((ew_g (L12_231 v0 n l) v0 2).isSome) && ((decide ((0 ≤ (ew_r (L12_231 v0 n l) v0 2) ∧ Int.toNat (ew_r (L12_231 v0 n l) v0 2) < (n + 1 + 1 + 1 + 1 + 1 + 1 + 1 + 1 + 1 + 1 + 1 + 1 + 1 + 1 + 1 + 1 + 1 + 1 + 1 + 1 + 1 + 1 + 1 + 1 + 1 + 1 + 1 + 1 + 1 + 1 + 1) ∧ (am_sh (Int.toNat (ew_r (L12_231 v0 n l) v0 2))).1 = 20 ∧ am_len (ew_r (L12_231 v0 n l) v0 2) = ((am_sh (Int.toNat (ew_r (L12_231 v0 n l) v0 2))).2 : Int)) ∧ 369 < am_len (ew_r (L12_231 v0 n l) v0 2))) && (true)))))))))))))))))))))))))))))))))))))
set_option maxRecDepth 20000 in
theorem EC_X12 {m0 : am_M} {v0 : Int} {K : am_M → Prop} {n : Nat} {l : List ew_E} (h : OK_X12 v0 n l = true) (k : K (ew_m m0 (EV_X12 v0 n l))) : C_X12_init v0 K (ew_m m0 l) n := by
  unfold OK_X12 at h
  obtain ⟨k_1, h⟩ := Bool.and_eq_true_iff.mp h
  obtain ⟨k_2, h⟩ := Bool.and_eq_true_iff.mp h
  obtain ⟨k_3, h⟩ := Bool.and_eq_true_iff.mp h
  obtain ⟨k_4, h⟩ := Bool.and_eq_true_iff.mp h
  obtain ⟨k_5, h⟩ := Bool.and_eq_true_iff.mp h
  obtain ⟨k_6, h⟩ := Bool.and_eq_true_iff.mp h
  obtain ⟨k_7, h⟩ := Bool.and_eq_true_iff.mp h
  obtain ⟨k_8, h⟩ := Bool.and_eq_true_iff.mp h
  obtain ⟨k_9, h⟩ := Bool.and_eq_true_iff.mp h
  obtain ⟨k_10, h⟩ := Bool.and_eq_true_iff.mp h
  obtain ⟨k_11, h⟩ := Bool.and_eq_true_iff.mp h
  obtain ⟨k_12, h⟩ := Bool.and_eq_true_iff.mp h
  obtain ⟨k_13, h⟩ := Bool.and_eq_true_iff.mp h
  obtain ⟨k_14, h⟩ := Bool.and_eq_true_iff.mp h
  obtain ⟨k_15, h⟩ := Bool.and_eq_true_iff.mp h
  obtain ⟨k_16, h⟩ := Bool.and_eq_true_iff.mp h
  obtain ⟨k_17, h⟩ := Bool.and_eq_true_iff.mp h
  obtain ⟨k_18, h⟩ := Bool.and_eq_true_iff.mp h
  obtain ⟨k_19, h⟩ := Bool.and_eq_true_iff.mp h
  obtain ⟨k_20, h⟩ := Bool.and_eq_true_iff.mp h
  obtain ⟨k_21, h⟩ := Bool.and_eq_true_iff.mp h
  obtain ⟨k_22, h⟩ := Bool.and_eq_true_iff.mp h
  obtain ⟨k_23, h⟩ := Bool.and_eq_true_iff.mp h
  obtain ⟨k_24, h⟩ := Bool.and_eq_true_iff.mp h
  obtain ⟨k_25, h⟩ := Bool.and_eq_true_iff.mp h
  obtain ⟨k_26, h⟩ := Bool.and_eq_true_iff.mp h
  obtain ⟨k_27, h⟩ := Bool.and_eq_true_iff.mp h
  obtain ⟨k_28, h⟩ := Bool.and_eq_true_iff.mp h
  obtain ⟨k_29, h⟩ := Bool.and_eq_true_iff.mp h
  obtain ⟨k_30, h⟩ := Bool.and_eq_true_iff.mp h
  obtain ⟨k_31, h⟩ := Bool.and_eq_true_iff.mp h
  obtain ⟨q_228_2, h⟩ := Bool.and_eq_true_iff.mp h
  obtain ⟨k_32, h⟩ := Bool.and_eq_true_iff.mp h
  obtain ⟨q_229_2, h⟩ := Bool.and_eq_true_iff.mp h
  obtain ⟨k_33, h⟩ := Bool.and_eq_true_iff.mp h
  obtain ⟨q_231_2, h⟩ := Bool.and_eq_true_iff.mp h
  obtain ⟨k_34, h⟩ := Bool.and_eq_true_iff.mp h
  unfold C_X12_init
  have k_1 := of_decide_eq_true k_1
  refine ⟨k_1, ?_⟩
  intro m_2 e
  have e : m_2 = ew_m m0 (L12_2 v0 n l) := e
  subst e
  intro m_3 e
  have e : m_3 = ew_m m0 (L12_3 v0 n l) := e
  subst e
  have k_2 := of_decide_eq_true k_2
  refine ⟨k_2, ?_⟩
  intro m_5 e
  have e : m_5 = ew_m m0 (L12_5 v0 n l) := e
  subst e
  intro m_6 e
  have e : m_6 = ew_m m0 (L12_6 v0 n l) := e
  subst e
  have k_3 := of_decide_eq_true k_3
  refine ⟨k_3, ?_⟩
  intro m_8 e
  have e : m_8 = ew_m m0 (L12_8 v0 n l) := e
  subst e
  intro m_9 e
  have e : m_9 = ew_m m0 (L12_9 v0 n l) := e
  subst e
  have k_4 := of_decide_eq_true k_4
  refine ⟨k_4, ?_⟩
  intro m_11 e
  have e : m_11 = ew_m m0 (L12_11 v0 n l) := e
  subst e
  intro m_12 e
  have e : m_12 = ew_m m0 (L12_12 v0 n l) := e
  subst e
  have k_5 := of_decide_eq_true k_5
  refine ⟨k_5, ?_⟩
  intro m_14 e
  have e : m_14 = ew_m m0 (L12_14 v0 n l) := e
  subst e
  intro m_15 e
  have e : m_15 = ew_m m0 (L12_15 v0 n l) := e
  subst e
  have k_6 := of_decide_eq_true k_6
  refine ⟨k_6, ?_⟩
  intro m_17 e
  have e : m_17 = ew_m m0 (L12_17 v0 n l) := e
  subst e
  intro m_18 e
  have e : m_18 = ew_m m0 (L12_18 v0 n l) := e
  subst e
  intro m_19 e
  have e : m_19 = ew_m m0 (L12_19 v0 n l) := e
  subst e
  intro m_20 e
  have e : m_20 = ew_m m0 (L12_20 v0 n l) := e
  subst e
  intro m_21 e
  have e : m_21 = ew_m m0 (L12_21 v0 n l) := e
  subst e
  intro m_22 e
  have e : m_22 = ew_m m0 (L12_22 v0 n l) := e
  subst e
  intro m_23 e
  have e : m_23 = ew_m m0 (L12_23 v0 n l) := e
  subst e
  intro m_24 e
  have e : m_24 = ew_m m0 (L12_24 v0 n l) := e
  subst e
  intro m_25 e
  have e : m_25 = ew_m m0 (L12_25 v0 n l) := e
  subst e
  intro m_26 e
  have e : m_26 = ew_m m0 (L12_26 v0 n l) := e
  subst e
  intro m_27 e
  have e : m_27 = ew_m m0 (L12_27 v0 n l) := e
  subst e
  intro m_28 e
  have e : m_28 = ew_m m0 (L12_28 v0 n l) := e
  subst e
  intro m_29 e
  have e : m_29 = ew_m m0 (L12_29 v0 n l) := e
  subst e
  intro m_30 e
  have e : m_30 = ew_m m0 (L12_30 v0 n l) := e
  subst e
  intro m_31 e
  have e : m_31 = ew_m m0 (L12_31 v0 n l) := e
  subst e
  intro m_32 e
  have e : m_32 = ew_m m0 (L12_32 v0 n l) := e
  subst e
  intro m_33 e
  have e : m_33 = ew_m m0 (L12_33 v0 n l) := e
  subst e
  intro m_34 e
  have e : m_34 = ew_m m0 (L12_34 v0 n l) := e
  subst e
  intro m_35 e
  have e : m_35 = ew_m m0 (L12_35 v0 n l) := e
  subst e
  intro m_36 e
  have e : m_36 = ew_m m0 (L12_36 v0 n l) := e
  subst e
  intro m_37 e
  have e : m_37 = ew_m m0 (L12_37 v0 n l) := e
  subst e
  intro m_38 e
  have e : m_38 = ew_m m0 (L12_38 v0 n l) := e
  subst e
  intro m_39 e
  have e : m_39 = ew_m m0 (L12_39 v0 n l) := e
  subst e
  intro m_40 e
  have e : m_40 = ew_m m0 (L12_40 v0 n l) := e
  subst e
  intro m_41 e
  have e : m_41 = ew_m m0 (L12_41 v0 n l) := e
  subst e
  intro m_42 e
  have e : m_42 = ew_m m0 (L12_42 v0 n l) := e
  subst e
  intro m_43 e
  have e : m_43 = ew_m m0 (L12_43 v0 n l) := e
  subst e
  intro m_44 e
  have e : m_44 = ew_m m0 (L12_44 v0 n l) := e
  subst e
  intro m_45 e
  have e : m_45 = ew_m m0 (L12_45 v0 n l) := e
  subst e
  intro m_46 e
  have e : m_46 = ew_m m0 (L12_46 v0 n l) := e
  subst e
  intro m_47 e
  have e : m_47 = ew_m m0 (L12_47 v0 n l) := e
  subst e
  intro m_48 e
  have e : m_48 = ew_m m0 (L12_48 v0 n l) := e
  subst e
  intro m_49 e
  have e : m_49 = ew_m m0 (L12_49 v0 n l) := e
  subst e
  intro m_50 e
  have e : m_50 = ew_m m0 (L12_50 v0 n l) := e
  subst e
  intro m_51 e
  have e : m_51 = ew_m m0 (L12_51 v0 n l) := e
  subst e
  intro m_52 e
  have e : m_52 = ew_m m0 (L12_52 v0 n l) := e
  subst e
  intro m_53 e
  have e : m_53 = ew_m m0 (L12_53 v0 n l) := e
  subst e
  intro m_54 e
  have e : m_54 = ew_m m0 (L12_54 v0 n l) := e
  subst e
  intro m_55 e
  have e : m_55 = ew_m m0 (L12_55 v0 n l) := e
  subst e
  intro m_56 e
  have e : m_56 = ew_m m0 (L12_56 v0 n l) := e
  subst e
  intro m_57 e
  have e : m_57 = ew_m m0 (L12_57 v0 n l) := e
  subst e
  intro m_58 e
  have e : m_58 = ew_m m0 (L12_58 v0 n l) := e
  subst e
  intro m_59 e
  have e : m_59 = ew_m m0 (L12_59 v0 n l) := e
  subst e
  intro m_60 e
  have e : m_60 = ew_m m0 (L12_60 v0 n l) := e
  subst e
  intro m_61 e
  have e : m_61 = ew_m m0 (L12_61 v0 n l) := e
  subst e
  intro m_62 e
  have e : m_62 = ew_m m0 (L12_62 v0 n l) := e
  subst e
  intro m_63 e
  have e : m_63 = ew_m m0 (L12_63 v0 n l) := e
  subst e
  intro m_64 e
  have e : m_64 = ew_m m0 (L12_64 v0 n l) := e
  subst e
  intro m_65 e
  have e : m_65 = ew_m m0 (L12_65 v0 n l) := e
  subst e
  intro m_66 e
  have e : m_66 = ew_m m0 (L12_66 v0 n l) := e
  subst e
  intro m_67 e
  have e : m_67 = ew_m m0 (L12_67 v0 n l) := e
  subst e
  intro m_68 e
  have e : m_68 = ew_m m0 (L12_68 v0 n l) := e
  subst e
  intro m_69 e
  have e : m_69 = ew_m m0 (L12_69 v0 n l) := e
  subst e
  intro m_70 e
  have e : m_70 = ew_m m0 (L12_70 v0 n l) := e
  subst e
  intro m_71 e
  have e : m_71 = ew_m m0 (L12_71 v0 n l) := e
  subst e
  intro m_72 e
  have e : m_72 = ew_m m0 (L12_72 v0 n l) := e
  subst e
  intro m_73 e
  have e : m_73 = ew_m m0 (L12_73 v0 n l) := e
  subst e
  intro m_74 e
  have e : m_74 = ew_m m0 (L12_74 v0 n l) := e
  subst e
  intro m_75 e
  have e : m_75 = ew_m m0 (L12_75 v0 n l) := e
  subst e
  intro m_76 e
  have e : m_76 = ew_m m0 (L12_76 v0 n l) := e
  subst e
  intro m_77 e
  have e : m_77 = ew_m m0 (L12_77 v0 n l) := e
  subst e
  intro m_78 e
  have e : m_78 = ew_m m0 (L12_78 v0 n l) := e
  subst e
  intro m_79 e
  have e : m_79 = ew_m m0 (L12_79 v0 n l) := e
  subst e
  intro m_80 e
  have e : m_80 = ew_m m0 (L12_80 v0 n l) := e
  subst e
  intro m_81 e
  have e : m_81 = ew_m m0 (L12_81 v0 n l) := e
  subst e
  intro m_82 e
  have e : m_82 = ew_m m0 (L12_82 v0 n l) := e
  subst e
  intro m_83 e
  have e : m_83 = ew_m m0 (L12_83 v0 n l) := e
  subst e
  intro m_84 e
  have e : m_84 = ew_m m0 (L12_84 v0 n l) := e
  subst e
  intro m_85 e
  have e : m_85 = ew_m m0 (L12_85 v0 n l) := e
  subst e
  intro m_86 e
  have e : m_86 = ew_m m0 (L12_86 v0 n l) := e
  subst e
  intro m_87 e
  have e : m_87 = ew_m m0 (L12_87 v0 n l) := e
  subst e
  intro m_88 e
  have e : m_88 = ew_m m0 (L12_88 v0 n l) := e
  subst e
  intro m_89 e
  have e : m_89 = ew_m m0 (L12_89 v0 n l) := e
  subst e
  intro m_90 e
  have e : m_90 = ew_m m0 (L12_90 v0 n l) := e
  subst e
  intro m_91 e
  have e : m_91 = ew_m m0 (L12_91 v0 n l) := e
  subst e
  intro m_92 e
  have e : m_92 = ew_m m0 (L12_92 v0 n l) := e
  subst e
  intro m_93 e
  have e : m_93 = ew_m m0 (L12_93 v0 n l) := e
  subst e
  intro m_94 e
  have e : m_94 = ew_m m0 (L12_94 v0 n l) := e
  subst e
  intro m_95 e
  have e : m_95 = ew_m m0 (L12_95 v0 n l) := e
  subst e
  intro m_96 e
  have e : m_96 = ew_m m0 (L12_96 v0 n l) := e
  subst e
  intro m_97 e
  have e : m_97 = ew_m m0 (L12_97 v0 n l) := e
  subst e
  intro m_98 e
  have e : m_98 = ew_m m0 (L12_98 v0 n l) := e
  subst e
  intro m_99 e
  have e : m_99 = ew_m m0 (L12_99 v0 n l) := e
  subst e
  intro m_100 e
  have e : m_100 = ew_m m0 (L12_100 v0 n l) := e
  subst e
  intro m_101 e
  have e : m_101 = ew_m m0 (L12_101 v0 n l) := e
  subst e
  intro m_102 e
  have e : m_102 = ew_m m0 (L12_102 v0 n l) := e
  subst e
  intro m_103 e
  have e : m_103 = ew_m m0 (L12_103 v0 n l) := e
  subst e
  intro m_104 e
  have e : m_104 = ew_m m0 (L12_104 v0 n l) := e
  subst e
  intro m_105 e
  have e : m_105 = ew_m m0 (L12_105 v0 n l) := e
  subst e
  intro m_106 e
  have e : m_106 = ew_m m0 (L12_106 v0 n l) := e
  subst e
  intro m_107 e
  have e : m_107 = ew_m m0 (L12_107 v0 n l) := e
  subst e
  intro m_108 e
  have e : m_108 = ew_m m0 (L12_108 v0 n l) := e
  subst e
  intro m_109 e
  have e : m_109 = ew_m m0 (L12_109 v0 n l) := e
  subst e
  intro m_110 e
  have e : m_110 = ew_m m0 (L12_110 v0 n l) := e
  subst e
  intro m_111 e
  have e : m_111 = ew_m m0 (L12_111 v0 n l) := e
  subst e
  intro m_112 e
  have e : m_112 = ew_m m0 (L12_112 v0 n l) := e
  subst e
  intro m_113 e
  have e : m_113 = ew_m m0 (L12_113 v0 n l) := e
  subst e
  intro m_114 e
  have e : m_114 = ew_m m0 (L12_114 v0 n l) := e
  subst e
  intro m_115 e
  have e : m_115 = ew_m m0 (L12_115 v0 n l) := e
  subst e
  intro m_116 e
  have e : m_116 = ew_m m0 (L12_116 v0 n l) := e
  subst e
  intro m_117 e
  have e : m_117 = ew_m m0 (L12_117 v0 n l) := e
  subst e
  intro m_118 e
  have e : m_118 = ew_m m0 (L12_118 v0 n l) := e
  subst e
  intro m_119 e
  have e : m_119 = ew_m m0 (L12_119 v0 n l) := e
  subst e
  intro m_120 e
  have e : m_120 = ew_m m0 (L12_120 v0 n l) := e
  subst e
  intro m_121 e
  have e : m_121 = ew_m m0 (L12_121 v0 n l) := e
  subst e
  intro m_122 e
  have e : m_122 = ew_m m0 (L12_122 v0 n l) := e
  subst e
  intro m_123 e
  have e : m_123 = ew_m m0 (L12_123 v0 n l) := e
  subst e
  intro m_124 e
  have e : m_124 = ew_m m0 (L12_124 v0 n l) := e
  subst e
  intro m_125 e
  have e : m_125 = ew_m m0 (L12_125 v0 n l) := e
  subst e
  intro m_126 e
  have e : m_126 = ew_m m0 (L12_126 v0 n l) := e
  subst e
  intro m_127 e
  have e : m_127 = ew_m m0 (L12_127 v0 n l) := e
  subst e
  intro m_128 e
  have e : m_128 = ew_m m0 (L12_128 v0 n l) := e
  subst e
  intro m_129 e
  have e : m_129 = ew_m m0 (L12_129 v0 n l) := e
  subst e
  intro m_130 e
  have e : m_130 = ew_m m0 (L12_130 v0 n l) := e
  subst e
  intro m_131 e
  have e : m_131 = ew_m m0 (L12_131 v0 n l) := e
  subst e
  intro m_132 e
  have e : m_132 = ew_m m0 (L12_132 v0 n l) := e
  subst e
  intro m_133 e
  have e : m_133 = ew_m m0 (L12_133 v0 n l) := e
  subst e
  intro m_134 e
  have e : m_134 = ew_m m0 (L12_134 v0 n l) := e
  subst e
  intro m_135 e
  have e : m_135 = ew_m m0 (L12_135 v0 n l) := e
  subst e
  intro m_136 e
  have e : m_136 = ew_m m0 (L12_136 v0 n l) := e
  subst e
  intro m_137 e
  have e : m_137 = ew_m m0 (L12_137 v0 n l) := e
  subst e
  intro m_138 e
  have e : m_138 = ew_m m0 (L12_138 v0 n l) := e
  subst e
  intro m_139 e
  have e : m_139 = ew_m m0 (L12_139 v0 n l) := e
  subst e
  intro m_140 e
  have e : m_140 = ew_m m0 (L12_140 v0 n l) := e
  subst e
  intro m_141 e
  have e : m_141 = ew_m m0 (L12_141 v0 n l) := e
  subst e
  intro m_142 e
  have e : m_142 = ew_m m0 (L12_142 v0 n l) := e
  subst e
  intro m_143 e
  have e : m_143 = ew_m m0 (L12_143 v0 n l) := e
  subst e
  intro m_144 e
  have e : m_144 = ew_m m0 (L12_144 v0 n l) := e
  subst e
  intro m_145 e
  have e : m_145 = ew_m m0 (L12_145 v0 n l) := e
  subst e
  intro m_146 e
  have e : m_146 = ew_m m0 (L12_146 v0 n l) := e
  subst e
  intro m_147 e
  have e : m_147 = ew_m m0 (L12_147 v0 n l) := e
  subst e
  intro m_148 e
  have e : m_148 = ew_m m0 (L12_148 v0 n l) := e
  subst e
  intro m_149 e
  have e : m_149 = ew_m m0 (L12_149 v0 n l) := e
  subst e
  intro m_150 e
  have e : m_150 = ew_m m0 (L12_150 v0 n l) := e
  subst e
  intro m_151 e
  have e : m_151 = ew_m m0 (L12_151 v0 n l) := e
  subst e
  have k_7 := of_decide_eq_true k_7
  refine ⟨k_7, ?_⟩
  intro m_153 e
  have e : m_153 = ew_m m0 (L12_153 v0 n l) := e
  subst e
  intro m_154 e
  have e : m_154 = ew_m m0 (L12_154 v0 n l) := e
  subst e
  have k_8 := of_decide_eq_true k_8
  refine ⟨k_8, ?_⟩
  intro m_156 e
  have e : m_156 = ew_m m0 (L12_156 v0 n l) := e
  subst e
  intro m_157 e
  have e : m_157 = ew_m m0 (L12_157 v0 n l) := e
  subst e
  intro m_158 e
  have e : m_158 = ew_m m0 (L12_158 v0 n l) := e
  subst e
  have k_9 := of_decide_eq_true k_9
  refine ⟨k_9, ?_⟩
  intro m_160 e
  have e : m_160 = ew_m m0 (L12_160 v0 n l) := e
  subst e
  intro m_161 e
  have e : m_161 = ew_m m0 (L12_161 v0 n l) := e
  subst e
  have k_10 := of_decide_eq_true k_10
  refine ⟨k_10, ?_⟩
  intro m_163 e
  have e : m_163 = ew_m m0 (L12_163 v0 n l) := e
  subst e
  intro m_164 e
  have e : m_164 = ew_m m0 (L12_164 v0 n l) := e
  subst e
  have k_11 := of_decide_eq_true k_11
  refine ⟨k_11, ?_⟩
  intro m_166 e
  have e : m_166 = ew_m m0 (L12_166 v0 n l) := e
  subst e
  intro m_167 e
  have e : m_167 = ew_m m0 (L12_167 v0 n l) := e
  subst e
  have k_12 := of_decide_eq_true k_12
  refine ⟨k_12, ?_⟩
  intro m_169 e
  have e : m_169 = ew_m m0 (L12_169 v0 n l) := e
  subst e
  intro m_170 e
  have e : m_170 = ew_m m0 (L12_170 v0 n l) := e
  subst e
  have k_13 := of_decide_eq_true k_13
  refine ⟨k_13, ?_⟩
  intro m_172 e
  have e : m_172 = ew_m m0 (L12_172 v0 n l) := e
  subst e
  intro m_173 e
  have e : m_173 = ew_m m0 (L12_173 v0 n l) := e
  subst e
  have k_14 := of_decide_eq_true k_14
  refine ⟨k_14, ?_⟩
  intro m_175 e
  have e : m_175 = ew_m m0 (L12_175 v0 n l) := e
  subst e
  intro m_176 e
  have e : m_176 = ew_m m0 (L12_176 v0 n l) := e
  subst e
  have k_15 := of_decide_eq_true k_15
  refine ⟨k_15, ?_⟩
  intro m_178 e
  have e : m_178 = ew_m m0 (L12_178 v0 n l) := e
  subst e
  intro m_179 e
  have e : m_179 = ew_m m0 (L12_179 v0 n l) := e
  subst e
  have k_16 := of_decide_eq_true k_16
  refine ⟨k_16, ?_⟩
  intro m_181 e
  have e : m_181 = ew_m m0 (L12_181 v0 n l) := e
  subst e
  intro m_182 e
  have e : m_182 = ew_m m0 (L12_182 v0 n l) := e
  subst e
  have k_17 := of_decide_eq_true k_17
  refine ⟨k_17, ?_⟩
  intro m_184 e
  have e : m_184 = ew_m m0 (L12_184 v0 n l) := e
  subst e
  intro m_185 e
  have e : m_185 = ew_m m0 (L12_185 v0 n l) := e
  subst e
  have k_18 := of_decide_eq_true k_18
  refine ⟨k_18, ?_⟩
  intro m_187 e
  have e : m_187 = ew_m m0 (L12_187 v0 n l) := e
  subst e
  intro m_188 e
  have e : m_188 = ew_m m0 (L12_188 v0 n l) := e
  subst e
  have k_19 := of_decide_eq_true k_19
  refine ⟨k_19, ?_⟩
  intro m_190 e
  have e : m_190 = ew_m m0 (L12_190 v0 n l) := e
  subst e
  intro m_191 e
  have e : m_191 = ew_m m0 (L12_191 v0 n l) := e
  subst e
  have k_20 := of_decide_eq_true k_20
  refine ⟨k_20, ?_⟩
  intro m_193 e
  have e : m_193 = ew_m m0 (L12_193 v0 n l) := e
  subst e
  intro m_194 e
  have e : m_194 = ew_m m0 (L12_194 v0 n l) := e
  subst e
  have k_21 := of_decide_eq_true k_21
  refine ⟨k_21, ?_⟩
  intro m_196 e
  have e : m_196 = ew_m m0 (L12_196 v0 n l) := e
  subst e
  intro m_197 e
  have e : m_197 = ew_m m0 (L12_197 v0 n l) := e
  subst e
  have k_22 := of_decide_eq_true k_22
  refine ⟨k_22, ?_⟩
  intro m_199 e
  have e : m_199 = ew_m m0 (L12_199 v0 n l) := e
  subst e
  intro m_200 e
  have e : m_200 = ew_m m0 (L12_200 v0 n l) := e
  subst e
  have k_23 := of_decide_eq_true k_23
  refine ⟨k_23, ?_⟩
  intro m_202 e
  have e : m_202 = ew_m m0 (L12_202 v0 n l) := e
  subst e
  intro m_203 e
  have e : m_203 = ew_m m0 (L12_203 v0 n l) := e
  subst e
  have k_24 := of_decide_eq_true k_24
  refine ⟨k_24, ?_⟩
  intro m_205 e
  have e : m_205 = ew_m m0 (L12_205 v0 n l) := e
  subst e
  intro m_206 e
  have e : m_206 = ew_m m0 (L12_206 v0 n l) := e
  subst e
  have k_25 := of_decide_eq_true k_25
  refine ⟨k_25, ?_⟩
  intro m_208 e
  have e : m_208 = ew_m m0 (L12_208 v0 n l) := e
  subst e
  intro m_209 e
  have e : m_209 = ew_m m0 (L12_209 v0 n l) := e
  subst e
  have k_26 := of_decide_eq_true k_26
  refine ⟨k_26, ?_⟩
  intro m_211 e
  have e : m_211 = ew_m m0 (L12_211 v0 n l) := e
  subst e
  intro m_212 e
  have e : m_212 = ew_m m0 (L12_212 v0 n l) := e
  subst e
  have k_27 := of_decide_eq_true k_27
  refine ⟨k_27, ?_⟩
  intro m_214 e
  have e : m_214 = ew_m m0 (L12_214 v0 n l) := e
  subst e
  intro m_215 e
  have e : m_215 = ew_m m0 (L12_215 v0 n l) := e
  subst e
  have k_28 := of_decide_eq_true k_28
  refine ⟨k_28, ?_⟩
  intro m_217 e
  have e : m_217 = ew_m m0 (L12_217 v0 n l) := e
  subst e
  intro m_218 e
  have e : m_218 = ew_m m0 (L12_218 v0 n l) := e
  subst e
  intro m_219 e
  have e : m_219 = ew_m m0 (L12_219 v0 n l) := e
  subst e
  have k_29 := of_decide_eq_true k_29
  refine ⟨k_29, ?_⟩
  intro m_221 e
  have e : m_221 = ew_m m0 (L12_221 v0 n l) := e
  subst e
  intro m_222 e
  have e : m_222 = ew_m m0 (L12_222 v0 n l) := e
  subst e
  have k_30 := of_decide_eq_true k_30
  refine ⟨k_30, ?_⟩
  intro m_224 e
  have e : m_224 = ew_m m0 (L12_224 v0 n l) := e
  subst e
  intro m_225 e
  have e : m_225 = ew_m m0 (L12_225 v0 n l) := e
  subst e
  have k_31 := of_decide_eq_true k_31
  refine ⟨k_31, ?_⟩
  intro m_227 e
  have e : m_227 = ew_m m0 (L12_227 v0 n l) := e
  subst e
  intro m_228 e
  have e : m_228 = ew_m m0 (L12_228 v0 n l) := e
  subst e
  rw [ew_rd (m0 := m0) q_228_2]
  have k_32 := of_decide_eq_true k_32
  refine ⟨k_32, ?_⟩
  intro m_229 e
  try rw [ew_rd (m0 := m0) q_228_2] at e
  have e : m_229 = ew_m m0 (L12_229 v0 n l) := e
  subst e
  rw [ew_rd (m0 := m0) q_229_2]
  have k_33 := of_decide_eq_true k_33
  refine ⟨k_33, ?_⟩
  intro m_231 e
  try rw [ew_rd (m0 := m0) q_229_2] at e
  have e : m_231 = ew_m m0 (L12_231 v0 n l) := e
  subst e
  rw [ew_rd (m0 := m0) q_231_2]
  have k_34 := of_decide_eq_true k_34
  refine ⟨k_34, ?_⟩
  intro m_233 e
  try rw [ew_rd (m0 := m0) q_231_2] at e
  have e : m_233 = ew_m m0 (L12_233 v0 n l) := e
  subst e
  exact k
