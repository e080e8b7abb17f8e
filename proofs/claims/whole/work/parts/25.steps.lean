/-! STEPS: the stack machine of the Reckoner, without memory. -/
abbrev am_Val : Type := (Int → Int) → Option Int
def am_bd (z : Int) : Option Int := if z < -1000000000 ∨ 1000000000 < z then none else some z
def am_jn (how a b : Int) : Option Int :=
  if how = 5 then some (if a < b then 1 else 0) else if how = 6 then some (if b < a then 1 else 0) else if how = 7 then some (if a = b then 1 else 0)
  else if how = 8 then am_bd (a + b) else if how = 9 then am_bd (a - b) else if how = 10 then am_bd (a * b)
  else if how = 11 then (if b = 0 then none else am_bd (Int.tdiv a b)) else if how = 12 then (if b = 0 then none else am_bd (Int.tmod a b)) else none
def am_rn (env P : Int → Int) (lim to : Int) : Nat → Int → List Int → Option Int
  | 0, _, _ => none
  | n + 1, i, S =>
    if to ≤ i then (match S with | [v] => some v | _ => none)
    else if Int.tdiv (P i) 2048 = 0 then (if 64 ≤ S.length then none else am_rn env P lim to n (i + 1) (Int.tmod (P i) 2048 :: S))
    else if Int.tdiv (P i) 2048 = 1 then (if 64 ≤ S.length ∨ lim ≤ Int.tmod (P i) 2048 then none else am_rn env P lim to n (i + 1) (env (Int.tmod (P i) 2048) :: S))
    else match S with
      | [] => none
      | a :: S1 =>
        if Int.tdiv (P i) 2048 = 2 then am_rn env P lim to n (i + 1) ((1 - a) :: S1)
        else if Int.tdiv (P i) 2048 = 3 ∨ Int.tdiv (P i) 2048 = 4 then
          (if a = (if Int.tdiv (P i) 2048 = 4 then 1 else 0) then am_rn env P lim to n (i + Int.tmod (P i) 2048 + 1) S else am_rn env P lim to n (i + 1) S1)
        else match S1 with
          | [] => none
          | b :: S2 => match am_jn (Int.tdiv (P i) 2048) b a with
            | none => none
            | some c => am_rn env P lim to n (i + 1) (c :: S2)
