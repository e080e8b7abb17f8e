/-! THE LANGUAGE OF LAWS AND ORDERS: a parser without memory over TOKENS (code c, value v, place by place), which tells the fault, or where it stops, how many PARTS, the steps, the value. -/
abbrev pz_R : Type := Sum Int (Int × Int × List Int × am_Val)
def pz_bd {α β : Type} (x : Sum Int α) (f : α → Sum Int β) : Sum Int β := match x with
  | .inl e => .inl e
  | .inr a => f a
theorem pz_bd_inr {α β : Type} {x : Sum Int α} {f : α → Sum Int β} {b : β} (h : pz_bd x f = .inr b) : ∃ a, x = .inr a ∧ f a = .inr b := by
  cases x with
  | inl e => cases h
  | inr a => exact ⟨a, rfl, h⟩
theorem pz_bd_inl {α β : Type} {x : Sum Int α} {f : α → Sum Int β} {e : Int} (h : pz_bd x f = .inl e) : x = .inl e ∨ ∃ a, x = .inr a ∧ f a = .inl e := by
  cases x with
  | inl e' => cases h; exact Or.inl rfl
  | inr a => exact Or.inr ⟨a, rfl, h⟩
def pz_jn (how : Int) (d e : am_Val) : am_Val := fun env => match d env, e env with
  | some a, some b => am_jn how a b
  | _, _ => none
def pz_lj (how : Int) (d e : am_Val) : am_Val := fun env => match d env with
  | none => none
  | some a => if a = (if how = 4 then 1 else 0) then some a else e env
def pz_not (d : am_Val) : am_Val := fun env => (d env).map (fun a => 1 - a)
/-- which fact a word asks for -/
def pz_fc (od c : Int) : Int := if od = 0 then (if c = 14 then 7 else if c = 15 then 6 else c - 8) else if c = 19 then 8 else if c = 20 then 16 else c - 15
abbrev pz_wd (od c : Int) : Prop := (if od = 0 then 8 else 15) ≤ c ∧ c ≤ (if od = 0 then 15 else 20)
def pz_leaf (od : Int) (c v : Int → Int) (i l : Int) : pz_R :=
  if (c i = 50 ∧ v i ≤ 1000) ∨ pz_wd od (c i) then
    if 50 ≤ l then .inl i
    else if c i = 19 ∨ c i = 20 then
      (if c (i + 1) = 50 ∧ v (i + 1) ≤ 7 then .inr (i + 2, l + 1, [2048 + (pz_fc od (c i) + v (i + 1))], fun env => some (env (pz_fc od (c i) + v (i + 1)))) else .inl (i + 1))
    else if c i = 50 then .inr (i + 1, l + 1, [v i], fun _ => some (v i))
    else .inr (i + 1, l + 1, [2048 + pz_fc od (c i)], fun env => some (env (pz_fc od (c i))))
  else .inl i
/-- in brackets -/
def pz_in (c : Int → Int) (close : Int) (S : Option (Int → Int → pz_R)) (i l : Int) : pz_R := match S with
  | none => .inl i
  | some P => pz_bd (P (i + 1) l) fun r => if c r.1 = close then .inr (r.1 + 1, r.2) else .inl r.1
def pz_part (od : Int) (c v : Int → Int) (S : Option (Int → Int → pz_R)) (i l : Int) : pz_R :=
  if c i = 191 then pz_in c 193 S i l else pz_leaf od c v i l
def pz_loop (ops : Int → Option Int) (P : Int → Int → pz_R) (c : Int → Int) : Nat → Int → Int → List Int → am_Val → pz_R
  | 0, i, l, st, d => .inr (i, l, st, d)
  | n + 1, i, l, st, d => match ops (c i) with
    | none => .inr (i, l, st, d)
    | some h => pz_bd (P (i + 1) l) fun r => pz_loop ops P c n r.1 r.2.1 (st ++ r.2.2.1 ++ [h * 2048]) (pz_jn h d r.2.2.2)
def pz_chain (ops : Int → Option Int) (P : Int → Int → pz_R) (c : Int → Int) (i l : Int) : pz_R :=
  pz_bd (P i l) fun r => pz_loop ops P c 400 r.1 r.2.1 r.2.2.1 r.2.2.2
def pz_adds (x : Int) : Option Int := if x = 143 then some 8 else if x = 145 then some 9 else none
def pz_muls (x : Int) : Option Int := if x = 142 then some 10 else if x = 147 then some 11 else if x = 137 then some 12 else none
def pz_term (od : Int) (c v : Int → Int) (S : Option (Int → Int → pz_R)) : Int → Int → pz_R := pz_chain pz_muls (pz_part od c v S) c
def pz_sumS (od : Int) (c v : Int → Int) (S : Option (Int → Int → pz_R)) : Int → Int → pz_R := pz_chain pz_adds (pz_term od c v S) c
def pz_sum (od : Int) (c v : Int → Int) : Nat → Int → Int → pz_R
  | 0 => pz_sumS od c v none
  | k + 1 => pz_sumS od c v (some (pz_sum od c v k))
/-- what stands in a bracket, by how many may still be opened -/
def pz_sumI (od : Int) (c v : Int → Int) : Nat → Option (Int → Int → pz_R)
  | 0 => none
  | k + 1 => some (pz_sum od c v k)
theorem pz_sum_eq (od : Int) (c v : Int → Int) (k : Nat) : pz_sum od c v k = pz_sumS od c v (pz_sumI od c v k) := by cases k <;> rfl
def pz_lloop (op how : Int) (P : Int → Int → pz_R) (c : Int → Int) : Nat → Int → Int → List Int → am_Val → pz_R
  | 0, i, l, st, d => .inr (i, l, st, d)
  | n + 1, i, l, st, d => if c i = op then pz_bd (P (i + 1) l) fun r => pz_lloop op how P c n r.1 r.2.1 (st ++ [how * 2048 + (r.2.2.1.length : Int)] ++ r.2.2.1) (pz_lj how d r.2.2.2) else .inr (i, l, st, d)
def pz_lchain (op how : Int) (P : Int → Int → pz_R) (c : Int → Int) (i l : Int) : pz_R :=
  pz_bd (P i l) fun r => pz_lloop op how P c 400 r.1 r.2.1 r.2.2.1 r.2.2.2
def pz_nots (c : Int → Int) : Nat → Int → Int
  | 0, _ => 0
  | n + 1, i => if c i = 7 then pz_nots c n (i + 1) + 1 else 0
def pz_cmp (x : Int) : Option Int := if x = 160 then some 5 else if x = 162 then some 6 else if x = 161 then some 7 else none
def pz_comp (c : Int → Int) (S : Int → Int → pz_R) (i l : Int) : pz_R :=
  pz_bd (S i l) fun r => match pz_cmp (c r.1) with
    | none => .inl r.1
    | some h => pz_bd (S (r.1 + 1) r.2.1) fun q => .inr (q.1, q.2.1, r.2.2.1 ++ q.2.2.1 ++ [h * 2048], pz_jn h r.2.2.2 q.2.2.2)
def pz_pos (c : Int → Int) (S : Int → Int → pz_R) (T : Option (Int → Int → pz_R)) (i l : Int) : pz_R :=
  if c i = 140 then pz_in c 141 T i l else pz_comp c S i l
def pz_plain (c : Int → Int) (S : Int → Int → pz_R) (T : Option (Int → Int → pz_R)) (i l : Int) : pz_R :=
  pz_bd (pz_pos c S T (i + pz_nots c 400 i) l) fun r => if pz_nots c 400 i % 2 = 1 then .inr (r.1, r.2.1, r.2.2.1 ++ [4096], pz_not r.2.2.2) else .inr r
def pz_both (c : Int → Int) (S : Int → Int → pz_R) (T : Option (Int → Int → pz_R)) : Int → Int → pz_R := pz_lchain 6 3 (pz_plain c S T) c
def pz_testS (c : Int → Int) (S : Int → Int → pz_R) (T : Option (Int → Int → pz_R)) : Int → Int → pz_R := pz_lchain 5 4 (pz_both c S T) c
def pz_test (od : Int) (c v : Int → Int) : Nat → Int → Int → pz_R
  | 0 => pz_testS c (pz_sum od c v 0) none
  | k + 1 => pz_testS c (pz_sum od c v (k + 1)) (some (pz_test od c v k))
def pz_testI (od : Int) (c v : Int → Int) : Nat → Option (Int → Int → pz_R)
  | 0 => none
  | k + 1 => some (pz_test od c v k)
theorem pz_test_eq (od : Int) (c v : Int → Int) (k : Nat) : pz_test od c v k = pz_testS c (pz_sum od c v k) (pz_testI od c v k) := by cases k <;> rfl
/-- a CLAUSE: its kind, how often, its SUMS, its TEST -/
abbrev pz_S : Type := List Int × am_Val
abbrev pz_C : Type := Int × Int × pz_S × pz_S × pz_S × pz_S
def pz_one : pz_S := ([], fun _ => some 1)
def pz_if (od : Int) (c v : Int → Int) (i l : Int) : Sum Int (Int × Int × pz_S) :=
  if c i = 4 then pz_bd (pz_test od c v 8 (i + 1) l) fun r => .inr (r.1, r.2.1, r.2.2) else .inr (i, l, pz_one)
def pz_times (c v : Int → Int) (i : Int) : Sum Int (Int × Int) :=
  if c i = 25 then (if c (i + 1) = 50 ∧ 1 ≤ v (i + 1) ∧ v (i + 1) ≤ 20 then .inr (i + 2, v (i + 1)) else .inl (i + 1)) else .inr (i, 1)
def pz_tail (od : Int) (c v : Int → Int) (kind : Int) (s0 s1 s2 : pz_S) (i l : Int) : Sum Int (Int × Int × pz_C) :=
  pz_bd (if od = 0 then .inr (i, 1) else pz_times c v i) fun t => pz_bd (pz_if od c v t.1 l) fun r => .inr (r.1, r.2.1, (kind, t.2, s0, s1, s2, r.2.2))
def pz_law (c v : Int → Int) (i l : Int) : Sum Int (Int × Int × pz_C) :=
  if c i = 1 ∨ c i = 2 then pz_bd (pz_sum 0 c v 8 (i + 1) l) fun r => pz_tail 0 c v (c i - 1) r.2.2 pz_one pz_one r.1 r.2.1
  else if c i = 3 then pz_tail 0 c v 2 pz_one pz_one pz_one (i + 1) l
  else .inl i
def pz_pray (c v : Int → Int) (i l : Int) : Sum Int (Int × Int × pz_S × pz_S × pz_S) :=
  pz_bd (pz_sum 1 c v 8 i l) fun r => if c r.1 = 22 then
    pz_bd (pz_sum 1 c v 8 (r.1 + 1) r.2.1) fun q => if c q.1 = 23 then
      pz_bd (pz_sum 1 c v 8 (q.1 + 1) q.2.1) fun p => .inr (p.1, p.2.1, r.2.2, q.2.2, p.2.2)
    else .inl q.1
  else .inl r.1
def pz_order (c v : Int → Int) (i l : Int) : Sum Int (Int × Int × pz_C) :=
  if c i = 21 then pz_bd (pz_pray c v (i + 1) l) fun r => pz_tail 1 c v 3 r.2.2.1 r.2.2.2.1 r.2.2.2.2 r.1 r.2.1
  else if c i = 24 then pz_tail 1 c v 4 pz_one pz_one pz_one (i + 1) l
  else .inl i
def pz_clause (od : Int) (c v : Int → Int) : Int → Int → Sum Int (Int × Int × pz_C) := if od = 0 then pz_law c v else pz_order c v
def pz_text (C : Int → Int → Sum Int (Int × Int × pz_C)) (c : Int → Int) (N : Int) : Nat → Int → Int → Sum Int (List pz_C)
  | 0, i, _ => .inl i
  | n + 1, i, l => pz_bd (C i l) fun r => if N ≤ r.1 then .inr [r.2.2] else if c r.1 = 159 then pz_bd (pz_text C c N n (r.1 + 1) r.2.1) fun cs => .inr (r.2.2 :: cs) else .inl r.1
def pz_read (od : Int) (c v : Int → Int) (N : Int) : Sum Int (List pz_C) := pz_text (pz_clause od c v) c N 12 0 0
