/-! STEPS: the stack machine of the Reckoner, without memory. -/
abbrev am_Val : Type := (Int → Int) → Option Int
def am_bd (z : Int) : Option Int := if z < -1000000000 ∨ 1000000000 < z then none else some z
def am_jn (how a b : Int) : Option Int :=
  if how = 5 then some (if a < b then 1 else 0) else if how = 6 then some (if b < a then 1 else 0) else if how = 7 then some (if a = b then 1 else 0)
  else if how = 8 then am_bd (a + b) else if how = 9 then am_bd (a - b) else if how = 10 then am_bd (a * b)
  else if how = 11 then (if b = 0 then none else am_bd (Int.tdiv a b)) else if how = 12 then (if b = 0 then none else am_bd (Int.tmod a b)) else none
def am_rn (env P : Int → Int) (lim to : Int) : Nat → Int → List Int → Option Int
  | 0, _, _ => none
  | n + 1, i, S =>
    if to ≤ i then (match S with | [v] => some v | _ => none)
    else if Int.tdiv (P i) 2048 = 0 then (if 64 ≤ S.length then none else am_rn env P lim to n (i + 1) (Int.tmod (P i) 2048 :: S))
    else if Int.tdiv (P i) 2048 = 1 then (if 64 ≤ S.length ∨ lim ≤ Int.tmod (P i) 2048 then none else am_rn env P lim to n (i + 1) (env (Int.tmod (P i) 2048) :: S))
    else match S with
      | [] => none
      | a :: S1 =>
        if Int.tdiv (P i) 2048 = 2 then am_rn env P lim to n (i + 1) ((1 - a) :: S1)
        else if Int.tdiv (P i) 2048 = 3 ∨ Int.tdiv (P i) 2048 = 4 then
          (if a = (if Int.tdiv (P i) 2048 = 4 then 1 else 0) then am_rn env P lim to n (i + Int.tmod (P i) 2048 + 1) S else am_rn env P lim to n (i + 1) S1)
        else match S1 with
          | [] => none
          | b :: S2 => match am_jn (Int.tdiv (P i) 2048) b a with
            | none => none
            | some c => am_rn env P lim to n (i + 1) (c :: S2)
theorem am_rn_fuel {env P : Int → Int} {lim to : Int} (hP : ∀ i, 0 ≤ P i) : ∀ (n n' : Nat) (i : Int) (S : List Int), (to - i).toNat < n → (to - i).toNat < n' → am_rn env P lim to n i S = am_rn env P lim to n' i S := by
  intro n
  induction n with
  | zero => intro n' i S h; omega
  | succ n ih =>
    intro n' i S h h'
    obtain ⟨k, rfl⟩ : ∃ k, n' = k + 1 := ⟨n' - 1, by omega⟩
    have hp : 0 ≤ Int.tmod (P i) 2048 := Int.tmod_nonneg _ (hP i)
    unfold am_rn
    by_cases c : to ≤ i
    · rw [if_pos c, if_pos c]
    · rw [if_neg c, if_neg c]
      have key : ∀ (d : Int) (T : List Int), 1 ≤ d → am_rn env P lim to n (i + d) T = am_rn env P lim to k (i + d) T := fun d T hd => ih k (i + d) T (by omega) (by omega)
      have k1 := key 1
      simp only [k1 _ (by omega)]
      have k2 := key (Int.tmod (P i) 2048 + 1) 
      rw [show i + Int.tmod (P i) 2048 + 1 = i + (Int.tmod (P i) 2048 + 1) by omega]
      simp only [k2 _ (by omega)]
