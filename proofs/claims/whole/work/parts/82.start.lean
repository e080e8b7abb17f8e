/-! THE START: what the Statement gives of it, as the plain machine wants it. Written by gen_start.py. -/
def st_L : List Cond := flatC (Jvm.Cond.and given_1 narrow_1)
abbrev st_V (i : Nat) : Term := .field (.string RX5 i) "java/lang/String" "value" "[B"
theorem am_str {args : Array Value} {s : State} {A : Nat → Prop} {i len : Nat} {tx : String} {f : Nat → Int32} (hN : len < 2 ^ 31) (h1 : (Cond.stringRef RX5 i tx).before args s = true) (hex : (Cond.exactly (.string RX5 i) "java/lang/String").before args s = true) (hco : (Cond.eq (.field (.string RX5 i) "java/lang/String" "coder" "B") (.int 0)).before args s = true) (har : (Cond.arrayOf (st_V i) .byte).before args s = true) (hle : (Cond.eq (.length (st_V i)) (.int (Int32.ofNat len))).before args s = true)
    (hel : ∀ j : Nat, j < len → (Cond.eq (.elem (st_V i) (.int (Int32.ofNat j))) (.int (f j))).before args s = true) (hA : ∀ a : Nat, a < s.heap.size → ¬ A a) : ∃ q : Nat × Nat, vk_R RX5 i tx q.1 s ∧ va_O "java/lang/String" q.1 A s s.heap ∧ va_OF "java/lang/String" "coder" "B" (.int 0) q.1 A s s.heap ∧ va_OF "java/lang/String" "value" "[B" (.ref q.2) q.1 A s s.heap ∧ va_T .byte q.2 len (fun j => .int (f j)) A s s.heap := by
  obtain ⟨a, c, cA, kA, q1, q2, q3, q4, q5, q6, -⟩ := Cond.exactly_spec (args := args) (first := s) (o := none) (s := s) (idx := []) (t := .string RX5 i) (cls := "java/lang/String") hex
  obtain ⟨t, ht, hT⟩ := va_Tof (f := fun j => .int (f j)) (A := A) hN har (va_eqt hle) (fun j hj => va_eqt (hel j hj)) hA
  have ht' : (Term.field (.string RX5 i) "java/lang/String" "value" "[B").eval args s none [] s = some (.ref t) := ht
  exact ⟨(a, t), vk_R.of h1 q1, ⟨cA, q3, q5, by rw [q6]; exact q2, hA a (Array.getElem?_eq_some_iff.mp q3).1⟩, vk_OFof q1 (va_eqt hco) hA, vk_OFof q1 ht' hA, hT⟩
theorem am_str_0 {args : Array Value} {s : State} {A : Nat → Prop} (hts : ∀ w ∈ lw_tbl, w.before args s = true) (hs : ∀ c ∈ st_L, c.before args s = true) (hA : ∀ a : Nat, a < s.heap.size → ¬ A a) : ∃ q : Nat × Nat, vk_R RX5 (am_sx.getD 0 0) (am_stx.getD 0 "") q.1 s ∧ va_O "java/lang/String" q.1 A s s.heap ∧ va_OF "java/lang/String" "coder" "B" (.int 0) q.1 A s s.heap ∧ va_OF "java/lang/String" "value" "[B" (.ref q.2) q.1 A s s.heap ∧ va_T .byte q.2 (am_slen 0) (fun j => .int (Int32.ofInt (am_sch 0 j))) A s s.heap := by
  have h1 : (Cond.stringRef RX5 120 "pray").before args s = true := hts _ (tb_3 (List.mem_of_getElem? (i := 76) rfl))
  have hex : (Cond.exactly (.string RX5 120) "java/lang/String").before args s = true := hs _ (List.mem_of_getElem? (i := 35) rfl)
  have hco : (Cond.eq (.field (.string RX5 120) "java/lang/String" "coder" "B") (.int 0)).before args s = true := hs _ (List.mem_of_getElem? (i := 36) rfl)
  have har : (Cond.arrayOf (st_V 120) .byte).before args s = true := hs _ (List.mem_of_getElem? (i := 37) rfl)
  have hle : (Cond.eq (.length (st_V 120)) (.int 4)).before args s = true := hs _ (List.mem_of_getElem? (i := 38) rfl)
  have e0 : (Cond.eq (.elem (st_V 120) (.int 0)) (.int 112)).before args s = true := hs _ (List.mem_of_getElem? (i := 39) rfl)
  have f0 : Int32.ofInt (am_sch 0 0) = 112 := by decide +kernel
  have e1 : (Cond.eq (.elem (st_V 120) (.int 1)) (.int 114)).before args s = true := hs _ (List.mem_of_getElem? (i := 40) rfl)
  have f1 : Int32.ofInt (am_sch 0 1) = 114 := by decide +kernel
  have e2 : (Cond.eq (.elem (st_V 120) (.int 2)) (.int 97)).before args s = true := hs _ (List.mem_of_getElem? (i := 41) rfl)
  have f2 : Int32.ofInt (am_sch 0 2) = 97 := by decide +kernel
  have e3 : (Cond.eq (.elem (st_V 120) (.int 3)) (.int 121)).before args s = true := hs _ (List.mem_of_getElem? (i := 42) rfl)
  have f3 : Int32.ofInt (am_sch 0 3) = 121 := by decide +kernel
  refine am_str (i := 120) (len := 4) (f := fun j => Int32.ofInt (am_sch 0 j)) (by decide) h1 hex hco har hle (fun j hj => ?_) hA
  match j, hj with
  | 0, _ => show (Cond.eq (.elem (st_V 120) (.int (Int32.ofNat 0))) (.int (Int32.ofInt (am_sch 0 0)))).before args s = true; rw [f0]; exact e0
  | 1, _ => show (Cond.eq (.elem (st_V 120) (.int (Int32.ofNat 1))) (.int (Int32.ofInt (am_sch 0 1)))).before args s = true; rw [f1]; exact e1
  | 2, _ => show (Cond.eq (.elem (st_V 120) (.int (Int32.ofNat 2))) (.int (Int32.ofInt (am_sch 0 2)))).before args s = true; rw [f2]; exact e2
  | 3, _ => show (Cond.eq (.elem (st_V 120) (.int (Int32.ofNat 3))) (.int (Int32.ofInt (am_sch 0 3)))).before args s = true; rw [f3]; exact e3
  | q + 4, hj => exact absurd hj (by omega)
theorem am_str_1 {args : Array Value} {s : State} {A : Nat → Prop} (hts : ∀ w ∈ lw_tbl, w.before args s = true) (hs : ∀ c ∈ st_L, c.before args s = true) (hA : ∀ a : Nat, a < s.heap.size → ¬ A a) : ∃ q : Nat × Nat, vk_R RX5 (am_sx.getD 1 0) (am_stx.getD 1 "") q.1 s ∧ va_O "java/lang/String" q.1 A s s.heap ∧ va_OF "java/lang/String" "coder" "B" (.int 0) q.1 A s s.heap ∧ va_OF "java/lang/String" "value" "[B" (.ref q.2) q.1 A s s.heap ∧ va_T .byte q.2 (am_slen 1) (fun j => .int (Int32.ofInt (am_sch 1 j))) A s s.heap := by
  have h1 : (Cond.stringRef RX5 122 "dawn").before args s = true := hts _ (tb_3 (List.mem_of_getElem? (i := 129) rfl))
  have hex : (Cond.exactly (.string RX5 122) "java/lang/String").before args s = true := hs _ (List.mem_of_getElem? (i := 43) rfl)
  have hco : (Cond.eq (.field (.string RX5 122) "java/lang/String" "coder" "B") (.int 0)).before args s = true := hs _ (List.mem_of_getElem? (i := 44) rfl)
  have har : (Cond.arrayOf (st_V 122) .byte).before args s = true := hs _ (List.mem_of_getElem? (i := 45) rfl)
  have hle : (Cond.eq (.length (st_V 122)) (.int 4)).before args s = true := hs _ (List.mem_of_getElem? (i := 46) rfl)
  have e0 : (Cond.eq (.elem (st_V 122) (.int 0)) (.int 100)).before args s = true := hs _ (List.mem_of_getElem? (i := 47) rfl)
  have f0 : Int32.ofInt (am_sch 1 0) = 100 := by decide +kernel
  have e1 : (Cond.eq (.elem (st_V 122) (.int 1)) (.int 97)).before args s = true := hs _ (List.mem_of_getElem? (i := 48) rfl)
  have f1 : Int32.ofInt (am_sch 1 1) = 97 := by decide +kernel
  have e2 : (Cond.eq (.elem (st_V 122) (.int 2)) (.int 119)).before args s = true := hs _ (List.mem_of_getElem? (i := 49) rfl)
  have f2 : Int32.ofInt (am_sch 1 2) = 119 := by decide +kernel
  have e3 : (Cond.eq (.elem (st_V 122) (.int 3)) (.int 110)).before args s = true := hs _ (List.mem_of_getElem? (i := 50) rfl)
  have f3 : Int32.ofInt (am_sch 1 3) = 110 := by decide +kernel
  refine am_str (i := 122) (len := 4) (f := fun j => Int32.ofInt (am_sch 1 j)) (by decide) h1 hex hco har hle (fun j hj => ?_) hA
  match j, hj with
  | 0, _ => show (Cond.eq (.elem (st_V 122) (.int (Int32.ofNat 0))) (.int (Int32.ofInt (am_sch 1 0)))).before args s = true; rw [f0]; exact e0
  | 1, _ => show (Cond.eq (.elem (st_V 122) (.int (Int32.ofNat 1))) (.int (Int32.ofInt (am_sch 1 1)))).before args s = true; rw [f1]; exact e1
  | 2, _ => show (Cond.eq (.elem (st_V 122) (.int (Int32.ofNat 2))) (.int (Int32.ofInt (am_sch 1 2)))).before args s = true; rw [f2]; exact e2
  | 3, _ => show (Cond.eq (.elem (st_V 122) (.int (Int32.ofNat 3))) (.int (Int32.ofInt (am_sch 1 3)))).before args s = true; rw [f3]; exact e3
  | q + 4, hj => exact absurd hj (by omega)
theorem am_str_2 {args : Array Value} {s : State} {A : Nat → Prop} (hts : ∀ w ∈ lw_tbl, w.before args s = true) (hs : ∀ c ∈ st_L, c.before args s = true) (hA : ∀ a : Nat, a < s.heap.size → ¬ A a) : ∃ q : Nat × Nat, vk_R RX5 (am_sx.getD 2 0) (am_stx.getD 2 "") q.1 s ∧ va_O "java/lang/String" q.1 A s s.heap ∧ va_OF "java/lang/String" "coder" "B" (.int 0) q.1 A s s.heap ∧ va_OF "java/lang/String" "value" "[B" (.ref q.2) q.1 A s s.heap ∧ va_T .byte q.2 (am_slen 2) (fun j => .int (Int32.ofInt (am_sch 2 j))) A s s.heap := by
  have h1 : (Cond.stringRef RX5 124 "rank").before args s = true := hts _ (tb_3 (List.mem_of_getElem? (i := 130) rfl))
  have hex : (Cond.exactly (.string RX5 124) "java/lang/String").before args s = true := hs _ (List.mem_of_getElem? (i := 51) rfl)
  have hco : (Cond.eq (.field (.string RX5 124) "java/lang/String" "coder" "B") (.int 0)).before args s = true := hs _ (List.mem_of_getElem? (i := 52) rfl)
  have har : (Cond.arrayOf (st_V 124) .byte).before args s = true := hs _ (List.mem_of_getElem? (i := 53) rfl)
  have hle : (Cond.eq (.length (st_V 124)) (.int 4)).before args s = true := hs _ (List.mem_of_getElem? (i := 54) rfl)
  have e0 : (Cond.eq (.elem (st_V 124) (.int 0)) (.int 114)).before args s = true := hs _ (List.mem_of_getElem? (i := 55) rfl)
  have f0 : Int32.ofInt (am_sch 2 0) = 114 := by decide +kernel
  have e1 : (Cond.eq (.elem (st_V 124) (.int 1)) (.int 97)).before args s = true := hs _ (List.mem_of_getElem? (i := 56) rfl)
  have f1 : Int32.ofInt (am_sch 2 1) = 97 := by decide +kernel
  have e2 : (Cond.eq (.elem (st_V 124) (.int 2)) (.int 110)).before args s = true := hs _ (List.mem_of_getElem? (i := 57) rfl)
  have f2 : Int32.ofInt (am_sch 2 2) = 110 := by decide +kernel
  have e3 : (Cond.eq (.elem (st_V 124) (.int 3)) (.int 107)).before args s = true := hs _ (List.mem_of_getElem? (i := 58) rfl)
  have f3 : Int32.ofInt (am_sch 2 3) = 107 := by decide +kernel
  refine am_str (i := 124) (len := 4) (f := fun j => Int32.ofInt (am_sch 2 j)) (by decide) h1 hex hco har hle (fun j hj => ?_) hA
  match j, hj with
  | 0, _ => show (Cond.eq (.elem (st_V 124) (.int (Int32.ofNat 0))) (.int (Int32.ofInt (am_sch 2 0)))).before args s = true; rw [f0]; exact e0
  | 1, _ => show (Cond.eq (.elem (st_V 124) (.int (Int32.ofNat 1))) (.int (Int32.ofInt (am_sch 2 1)))).before args s = true; rw [f1]; exact e1
  | 2, _ => show (Cond.eq (.elem (st_V 124) (.int (Int32.ofNat 2))) (.int (Int32.ofInt (am_sch 2 2)))).before args s = true; rw [f2]; exact e2
  | 3, _ => show (Cond.eq (.elem (st_V 124) (.int (Int32.ofNat 3))) (.int (Int32.ofInt (am_sch 2 3)))).before args s = true; rw [f3]; exact e3
  | q + 4, hj => exact absurd hj (by omega)
theorem am_str_3 {args : Array Value} {s : State} {A : Nat → Prop} (hts : ∀ w ∈ lw_tbl, w.before args s = true) (hs : ∀ c ∈ st_L, c.before args s = true) (hA : ∀ a : Nat, a < s.heap.size → ¬ A a) : ∃ q : Nat × Nat, vk_R RX5 (am_sx.getD 3 0) (am_stx.getD 3 "") q.1 s ∧ va_O "java/lang/String" q.1 A s s.heap ∧ va_OF "java/lang/String" "coder" "B" (.int 0) q.1 A s s.heap ∧ va_OF "java/lang/String" "value" "[B" (.ref q.2) q.1 A s s.heap ∧ va_T .byte q.2 (am_slen 3) (fun j => .int (Int32.ofInt (am_sch 3 j))) A s s.heap := by
  have h1 : (Cond.stringRef RX5 126 "breath").before args s = true := hts _ (tb_3 (List.mem_of_getElem? (i := 131) rfl))
  have hex : (Cond.exactly (.string RX5 126) "java/lang/String").before args s = true := hs _ (List.mem_of_getElem? (i := 59) rfl)
  have hco : (Cond.eq (.field (.string RX5 126) "java/lang/String" "coder" "B") (.int 0)).before args s = true := hs _ (List.mem_of_getElem? (i := 60) rfl)
  have har : (Cond.arrayOf (st_V 126) .byte).before args s = true := hs _ (List.mem_of_getElem? (i := 61) rfl)
  have hle : (Cond.eq (.length (st_V 126)) (.int 6)).before args s = true := hs _ (List.mem_of_getElem? (i := 62) rfl)
  have e0 : (Cond.eq (.elem (st_V 126) (.int 0)) (.int 98)).before args s = true := hs _ (List.mem_of_getElem? (i := 63) rfl)
  have f0 : Int32.ofInt (am_sch 3 0) = 98 := by decide +kernel
  have e1 : (Cond.eq (.elem (st_V 126) (.int 1)) (.int 114)).before args s = true := hs _ (List.mem_of_getElem? (i := 64) rfl)
  have f1 : Int32.ofInt (am_sch 3 1) = 114 := by decide +kernel
  have e2 : (Cond.eq (.elem (st_V 126) (.int 2)) (.int 101)).before args s = true := hs _ (List.mem_of_getElem? (i := 65) rfl)
  have f2 : Int32.ofInt (am_sch 3 2) = 101 := by decide +kernel
  have e3 : (Cond.eq (.elem (st_V 126) (.int 3)) (.int 97)).before args s = true := hs _ (List.mem_of_getElem? (i := 66) rfl)
  have f3 : Int32.ofInt (am_sch 3 3) = 97 := by decide +kernel
  have e4 : (Cond.eq (.elem (st_V 126) (.int 4)) (.int 116)).before args s = true := hs _ (List.mem_of_getElem? (i := 67) rfl)
  have f4 : Int32.ofInt (am_sch 3 4) = 116 := by decide +kernel
  have e5 : (Cond.eq (.elem (st_V 126) (.int 5)) (.int 104)).before args s = true := hs _ (List.mem_of_getElem? (i := 68) rfl)
  have f5 : Int32.ofInt (am_sch 3 5) = 104 := by decide +kernel
  refine am_str (i := 126) (len := 6) (f := fun j => Int32.ofInt (am_sch 3 j)) (by decide) h1 hex hco har hle (fun j hj => ?_) hA
  match j, hj with
  | 0, _ => show (Cond.eq (.elem (st_V 126) (.int (Int32.ofNat 0))) (.int (Int32.ofInt (am_sch 3 0)))).before args s = true; rw [f0]; exact e0
  | 1, _ => show (Cond.eq (.elem (st_V 126) (.int (Int32.ofNat 1))) (.int (Int32.ofInt (am_sch 3 1)))).before args s = true; rw [f1]; exact e1
  | 2, _ => show (Cond.eq (.elem (st_V 126) (.int (Int32.ofNat 2))) (.int (Int32.ofInt (am_sch 3 2)))).before args s = true; rw [f2]; exact e2
  | 3, _ => show (Cond.eq (.elem (st_V 126) (.int (Int32.ofNat 3))) (.int (Int32.ofInt (am_sch 3 3)))).before args s = true; rw [f3]; exact e3
  | 4, _ => show (Cond.eq (.elem (st_V 126) (.int (Int32.ofNat 4))) (.int (Int32.ofInt (am_sch 3 4)))).before args s = true; rw [f4]; exact e4
  | 5, _ => show (Cond.eq (.elem (st_V 126) (.int (Int32.ofNat 5))) (.int (Int32.ofInt (am_sch 3 5)))).before args s = true; rw [f5]; exact e5
  | q + 6, hj => exact absurd hj (by omega)
theorem am_str_4 {args : Array Value} {s : State} {A : Nat → Prop} (hts : ∀ w ∈ lw_tbl, w.before args s = true) (hs : ∀ c ∈ st_L, c.before args s = true) (hA : ∀ a : Nat, a < s.heap.size → ¬ A a) : ∃ q : Nat × Nat, vk_R RX5 (am_sx.getD 4 0) (am_stx.getD 4 "") q.1 s ∧ va_O "java/lang/String" q.1 A s s.heap ∧ va_OF "java/lang/String" "coder" "B" (.int 0) q.1 A s s.heap ∧ va_OF "java/lang/String" "value" "[B" (.ref q.2) q.1 A s s.heap ∧ va_T .byte q.2 (am_slen 4) (fun j => .int (Int32.ofInt (am_sch 4 j))) A s s.heap := by
  have h1 : (Cond.stringRef RX5 128 "bars").before args s = true := hts _ (tb_3 (List.mem_of_getElem? (i := 132) rfl))
  have hex : (Cond.exactly (.string RX5 128) "java/lang/String").before args s = true := hs _ (List.mem_of_getElem? (i := 69) rfl)
  have hco : (Cond.eq (.field (.string RX5 128) "java/lang/String" "coder" "B") (.int 0)).before args s = true := hs _ (List.mem_of_getElem? (i := 70) rfl)
  have har : (Cond.arrayOf (st_V 128) .byte).before args s = true := hs _ (List.mem_of_getElem? (i := 71) rfl)
  have hle : (Cond.eq (.length (st_V 128)) (.int 4)).before args s = true := hs _ (List.mem_of_getElem? (i := 72) rfl)
  have e0 : (Cond.eq (.elem (st_V 128) (.int 0)) (.int 98)).before args s = true := hs _ (List.mem_of_getElem? (i := 73) rfl)
  have f0 : Int32.ofInt (am_sch 4 0) = 98 := by decide +kernel
  have e1 : (Cond.eq (.elem (st_V 128) (.int 1)) (.int 97)).before args s = true := hs _ (List.mem_of_getElem? (i := 74) rfl)
  have f1 : Int32.ofInt (am_sch 4 1) = 97 := by decide +kernel
  have e2 : (Cond.eq (.elem (st_V 128) (.int 2)) (.int 114)).before args s = true := hs _ (List.mem_of_getElem? (i := 75) rfl)
  have f2 : Int32.ofInt (am_sch 4 2) = 114 := by decide +kernel
  have e3 : (Cond.eq (.elem (st_V 128) (.int 3)) (.int 115)).before args s = true := hs _ (List.mem_of_getElem? (i := 76) rfl)
  have f3 : Int32.ofInt (am_sch 4 3) = 115 := by decide +kernel
  refine am_str (i := 128) (len := 4) (f := fun j => Int32.ofInt (am_sch 4 j)) (by decide) h1 hex hco har hle (fun j hj => ?_) hA
  match j, hj with
  | 0, _ => show (Cond.eq (.elem (st_V 128) (.int (Int32.ofNat 0))) (.int (Int32.ofInt (am_sch 4 0)))).before args s = true; rw [f0]; exact e0
  | 1, _ => show (Cond.eq (.elem (st_V 128) (.int (Int32.ofNat 1))) (.int (Int32.ofInt (am_sch 4 1)))).before args s = true; rw [f1]; exact e1
  | 2, _ => show (Cond.eq (.elem (st_V 128) (.int (Int32.ofNat 2))) (.int (Int32.ofInt (am_sch 4 2)))).before args s = true; rw [f2]; exact e2
  | 3, _ => show (Cond.eq (.elem (st_V 128) (.int (Int32.ofNat 3))) (.int (Int32.ofInt (am_sch 4 3)))).before args s = true; rw [f3]; exact e3
  | q + 4, hj => exact absurd hj (by omega)
theorem am_str_5 {args : Array Value} {s : State} {A : Nat → Prop} (hts : ∀ w ∈ lw_tbl, w.before args s = true) (hs : ∀ c ∈ st_L, c.before args s = true) (hA : ∀ a : Nat, a < s.heap.size → ¬ A a) : ∃ q : Nat × Nat, vk_R RX5 (am_sx.getD 5 0) (am_stx.getD 5 "") q.1 s ∧ va_O "java/lang/String" q.1 A s s.heap ∧ va_OF "java/lang/String" "coder" "B" (.int 0) q.1 A s s.heap ∧ va_OF "java/lang/String" "value" "[B" (.ref q.2) q.1 A s s.heap ∧ va_T .byte q.2 (am_slen 5) (fun j => .int (Int32.ofInt (am_sch 5 j))) A s s.heap := by
  have h1 : (Cond.stringRef RX5 130 "for").before args s = true := hts _ (tb_3 (List.mem_of_getElem? (i := 148) rfl))
  have hex : (Cond.exactly (.string RX5 130) "java/lang/String").before args s = true := hs _ (List.mem_of_getElem? (i := 77) rfl)
  have hco : (Cond.eq (.field (.string RX5 130) "java/lang/String" "coder" "B") (.int 0)).before args s = true := hs _ (List.mem_of_getElem? (i := 78) rfl)
  have har : (Cond.arrayOf (st_V 130) .byte).before args s = true := hs _ (List.mem_of_getElem? (i := 79) rfl)
  have hle : (Cond.eq (.length (st_V 130)) (.int 3)).before args s = true := hs _ (List.mem_of_getElem? (i := 80) rfl)
  have e0 : (Cond.eq (.elem (st_V 130) (.int 0)) (.int 102)).before args s = true := hs _ (List.mem_of_getElem? (i := 81) rfl)
  have f0 : Int32.ofInt (am_sch 5 0) = 102 := by decide +kernel
  have e1 : (Cond.eq (.elem (st_V 130) (.int 1)) (.int 111)).before args s = true := hs _ (List.mem_of_getElem? (i := 82) rfl)
  have f1 : Int32.ofInt (am_sch 5 1) = 111 := by decide +kernel
  have e2 : (Cond.eq (.elem (st_V 130) (.int 2)) (.int 114)).before args s = true := hs _ (List.mem_of_getElem? (i := 83) rfl)
  have f2 : Int32.ofInt (am_sch 5 2) = 114 := by decide +kernel
  refine am_str (i := 130) (len := 3) (f := fun j => Int32.ofInt (am_sch 5 j)) (by decide) h1 hex hco har hle (fun j hj => ?_) hA
  match j, hj with
  | 0, _ => show (Cond.eq (.elem (st_V 130) (.int (Int32.ofNat 0))) (.int (Int32.ofInt (am_sch 5 0)))).before args s = true; rw [f0]; exact e0
  | 1, _ => show (Cond.eq (.elem (st_V 130) (.int (Int32.ofNat 1))) (.int (Int32.ofInt (am_sch 5 1)))).before args s = true; rw [f1]; exact e1
  | 2, _ => show (Cond.eq (.elem (st_V 130) (.int (Int32.ofNat 2))) (.int (Int32.ofInt (am_sch 5 2)))).before args s = true; rw [f2]; exact e2
  | q + 3, hj => exact absurd hj (by omega)
theorem am_str_6 {args : Array Value} {s : State} {A : Nat → Prop} (hts : ∀ w ∈ lw_tbl, w.before args s = true) (hs : ∀ c ∈ st_L, c.before args s = true) (hA : ∀ a : Nat, a < s.heap.size → ¬ A a) : ∃ q : Nat × Nat, vk_R RX5 (am_sx.getD 6 0) (am_stx.getD 6 "") q.1 s ∧ va_O "java/lang/String" q.1 A s s.heap ∧ va_OF "java/lang/String" "coder" "B" (.int 0) q.1 A s s.heap ∧ va_OF "java/lang/String" "value" "[B" (.ref q.2) q.1 A s s.heap ∧ va_T .byte q.2 (am_slen 6) (fun j => .int (Int32.ofInt (am_sch 6 j))) A s s.heap := by
  have h1 : (Cond.stringRef RX5 132 "of").before args s = true := hts _ (tb_3 (List.mem_of_getElem? (i := 149) rfl))
  have hex : (Cond.exactly (.string RX5 132) "java/lang/String").before args s = true := hs _ (List.mem_of_getElem? (i := 84) rfl)
  have hco : (Cond.eq (.field (.string RX5 132) "java/lang/String" "coder" "B") (.int 0)).before args s = true := hs _ (List.mem_of_getElem? (i := 85) rfl)
  have har : (Cond.arrayOf (st_V 132) .byte).before args s = true := hs _ (List.mem_of_getElem? (i := 86) rfl)
  have hle : (Cond.eq (.length (st_V 132)) (.int 2)).before args s = true := hs _ (List.mem_of_getElem? (i := 87) rfl)
  have e0 : (Cond.eq (.elem (st_V 132) (.int 0)) (.int 111)).before args s = true := hs _ (List.mem_of_getElem? (i := 88) rfl)
  have f0 : Int32.ofInt (am_sch 6 0) = 111 := by decide +kernel
  have e1 : (Cond.eq (.elem (st_V 132) (.int 1)) (.int 102)).before args s = true := hs _ (List.mem_of_getElem? (i := 89) rfl)
  have f1 : Int32.ofInt (am_sch 6 1) = 102 := by decide +kernel
  refine am_str (i := 132) (len := 2) (f := fun j => Int32.ofInt (am_sch 6 j)) (by decide) h1 hex hco har hle (fun j hj => ?_) hA
  match j, hj with
  | 0, _ => show (Cond.eq (.elem (st_V 132) (.int (Int32.ofNat 0))) (.int (Int32.ofInt (am_sch 6 0)))).before args s = true; rw [f0]; exact e0
  | 1, _ => show (Cond.eq (.elem (st_V 132) (.int (Int32.ofNat 1))) (.int (Int32.ofInt (am_sch 6 1)))).before args s = true; rw [f1]; exact e1
  | q + 2, hj => exact absurd hj (by omega)
theorem am_str_7 {args : Array Value} {s : State} {A : Nat → Prop} (hts : ∀ w ∈ lw_tbl, w.before args s = true) (hs : ∀ c ∈ st_L, c.before args s = true) (hA : ∀ a : Nat, a < s.heap.size → ¬ A a) : ∃ q : Nat × Nat, vk_R RX5 (am_sx.getD 7 0) (am_stx.getD 7 "") q.1 s ∧ va_O "java/lang/String" q.1 A s s.heap ∧ va_OF "java/lang/String" "coder" "B" (.int 0) q.1 A s s.heap ∧ va_OF "java/lang/String" "value" "[B" (.ref q.2) q.1 A s s.heap ∧ va_T .byte q.2 (am_slen 7) (fun j => .int (Int32.ofInt (am_sch 7 j))) A s s.heap := by
  have h1 : (Cond.stringRef RX5 188 "[").before args s = true := hts _ (tb_3 (List.mem_of_getElem? (i := 166) rfl))
  have hex : (Cond.exactly (.string RX5 188) "java/lang/String").before args s = true := hs _ (List.mem_of_getElem? (i := 90) rfl)
  have hco : (Cond.eq (.field (.string RX5 188) "java/lang/String" "coder" "B") (.int 0)).before args s = true := hs _ (List.mem_of_getElem? (i := 91) rfl)
  have har : (Cond.arrayOf (st_V 188) .byte).before args s = true := hs _ (List.mem_of_getElem? (i := 92) rfl)
  have hle : (Cond.eq (.length (st_V 188)) (.int 1)).before args s = true := hs _ (List.mem_of_getElem? (i := 93) rfl)
  have e0 : (Cond.eq (.elem (st_V 188) (.int 0)) (.int 91)).before args s = true := hs _ (List.mem_of_getElem? (i := 94) rfl)
  have f0 : Int32.ofInt (am_sch 7 0) = 91 := by decide +kernel
  refine am_str (i := 188) (len := 1) (f := fun j => Int32.ofInt (am_sch 7 j)) (by decide) h1 hex hco har hle (fun j hj => ?_) hA
  match j, hj with
  | 0, _ => show (Cond.eq (.elem (st_V 188) (.int (Int32.ofNat 0))) (.int (Int32.ofInt (am_sch 7 0)))).before args s = true; rw [f0]; exact e0
  | q + 1, hj => exact absurd hj (by omega)
theorem am_str_8 {args : Array Value} {s : State} {A : Nat → Prop} (hts : ∀ w ∈ lw_tbl, w.before args s = true) (hs : ∀ c ∈ st_L, c.before args s = true) (hA : ∀ a : Nat, a < s.heap.size → ¬ A a) : ∃ q : Nat × Nat, vk_R RX5 (am_sx.getD 8 0) (am_stx.getD 8 "") q.1 s ∧ va_O "java/lang/String" q.1 A s s.heap ∧ va_OF "java/lang/String" "coder" "B" (.int 0) q.1 A s s.heap ∧ va_OF "java/lang/String" "value" "[B" (.ref q.2) q.1 A s s.heap ∧ va_T .byte q.2 (am_slen 8) (fun j => .int (Int32.ofInt (am_sch 8 j))) A s s.heap := by
  have h1 : (Cond.stringRef RX5 190 "]").before args s = true := hts _ (tb_3 (List.mem_of_getElem? (i := 171) rfl))
  have hex : (Cond.exactly (.string RX5 190) "java/lang/String").before args s = true := hs _ (List.mem_of_getElem? (i := 95) rfl)
  have hco : (Cond.eq (.field (.string RX5 190) "java/lang/String" "coder" "B") (.int 0)).before args s = true := hs _ (List.mem_of_getElem? (i := 96) rfl)
  have har : (Cond.arrayOf (st_V 190) .byte).before args s = true := hs _ (List.mem_of_getElem? (i := 97) rfl)
  have hle : (Cond.eq (.length (st_V 190)) (.int 1)).before args s = true := hs _ (List.mem_of_getElem? (i := 98) rfl)
  have e0 : (Cond.eq (.elem (st_V 190) (.int 0)) (.int 93)).before args s = true := hs _ (List.mem_of_getElem? (i := 99) rfl)
  have f0 : Int32.ofInt (am_sch 8 0) = 93 := by decide +kernel
  refine am_str (i := 190) (len := 1) (f := fun j => Int32.ofInt (am_sch 8 j)) (by decide) h1 hex hco har hle (fun j hj => ?_) hA
  match j, hj with
  | 0, _ => show (Cond.eq (.elem (st_V 190) (.int (Int32.ofNat 0))) (.int (Int32.ofInt (am_sch 8 0)))).before args s = true; rw [f0]; exact e0
  | q + 1, hj => exact absurd hj (by omega)
theorem am_str_9 {args : Array Value} {s : State} {A : Nat → Prop} (hts : ∀ w ∈ lw_tbl, w.before args s = true) (hs : ∀ c ∈ st_L, c.before args s = true) (hA : ∀ a : Nat, a < s.heap.size → ¬ A a) : ∃ q : Nat × Nat, vk_R RX5 (am_sx.getD 9 0) (am_stx.getD 9 "") q.1 s ∧ va_O "java/lang/String" q.1 A s s.heap ∧ va_OF "java/lang/String" "coder" "B" (.int 0) q.1 A s s.heap ∧ va_OF "java/lang/String" "value" "[B" (.ref q.2) q.1 A s s.heap ∧ va_T .byte q.2 (am_slen 9) (fun j => .int (Int32.ofInt (am_sch 9 j))) A s s.heap := by
  have h1 : (Cond.stringRef RX5 198 "day").before args s = true := hts _ (tb_3 (List.mem_of_getElem? (i := 181) rfl))
  have hex : (Cond.exactly (.string RX5 198) "java/lang/String").before args s = true := hs _ (List.mem_of_getElem? (i := 100) rfl)
  have hco : (Cond.eq (.field (.string RX5 198) "java/lang/String" "coder" "B") (.int 0)).before args s = true := hs _ (List.mem_of_getElem? (i := 101) rfl)
  have har : (Cond.arrayOf (st_V 198) .byte).before args s = true := hs _ (List.mem_of_getElem? (i := 102) rfl)
  have hle : (Cond.eq (.length (st_V 198)) (.int 3)).before args s = true := hs _ (List.mem_of_getElem? (i := 103) rfl)
  have e0 : (Cond.eq (.elem (st_V 198) (.int 0)) (.int 100)).before args s = true := hs _ (List.mem_of_getElem? (i := 104) rfl)
  have f0 : Int32.ofInt (am_sch 9 0) = 100 := by decide +kernel
  have e1 : (Cond.eq (.elem (st_V 198) (.int 1)) (.int 97)).before args s = true := hs _ (List.mem_of_getElem? (i := 105) rfl)
  have f1 : Int32.ofInt (am_sch 9 1) = 97 := by decide +kernel
  have e2 : (Cond.eq (.elem (st_V 198) (.int 2)) (.int 121)).before args s = true := hs _ (List.mem_of_getElem? (i := 106) rfl)
  have f2 : Int32.ofInt (am_sch 9 2) = 121 := by decide +kernel
  refine am_str (i := 198) (len := 3) (f := fun j => Int32.ofInt (am_sch 9 j)) (by decide) h1 hex hco har hle (fun j hj => ?_) hA
  match j, hj with
  | 0, _ => show (Cond.eq (.elem (st_V 198) (.int (Int32.ofNat 0))) (.int (Int32.ofInt (am_sch 9 0)))).before args s = true; rw [f0]; exact e0
  | 1, _ => show (Cond.eq (.elem (st_V 198) (.int (Int32.ofNat 1))) (.int (Int32.ofInt (am_sch 9 1)))).before args s = true; rw [f1]; exact e1
  | 2, _ => show (Cond.eq (.elem (st_V 198) (.int (Int32.ofNat 2))) (.int (Int32.ofInt (am_sch 9 2)))).before args s = true; rw [f2]; exact e2
  | q + 3, hj => exact absurd hj (by omega)
theorem am_str_10 {args : Array Value} {s : State} {A : Nat → Prop} (hts : ∀ w ∈ lw_tbl, w.before args s = true) (hs : ∀ c ∈ st_L, c.before args s = true) (hA : ∀ a : Nat, a < s.heap.size → ¬ A a) : ∃ q : Nat × Nat, vk_R RX5 (am_sx.getD 10 0) (am_stx.getD 10 "") q.1 s ∧ va_O "java/lang/String" q.1 A s s.heap ∧ va_OF "java/lang/String" "coder" "B" (.int 0) q.1 A s s.heap ∧ va_OF "java/lang/String" "value" "[B" (.ref q.2) q.1 A s s.heap ∧ va_T .byte q.2 (am_slen 10) (fun j => .int (Int32.ofInt (am_sch 10 j))) A s s.heap := by
  have h1 : (Cond.stringRef RX5 200 "prayers").before args s = true := hts _ (tb_3 (List.mem_of_getElem? (i := 182) rfl))
  have hex : (Cond.exactly (.string RX5 200) "java/lang/String").before args s = true := hs _ (List.mem_of_getElem? (i := 107) rfl)
  have hco : (Cond.eq (.field (.string RX5 200) "java/lang/String" "coder" "B") (.int 0)).before args s = true := hs _ (List.mem_of_getElem? (i := 108) rfl)
  have har : (Cond.arrayOf (st_V 200) .byte).before args s = true := hs _ (List.mem_of_getElem? (i := 109) rfl)
  have hle : (Cond.eq (.length (st_V 200)) (.int 7)).before args s = true := hs _ (List.mem_of_getElem? (i := 110) rfl)
  have e0 : (Cond.eq (.elem (st_V 200) (.int 0)) (.int 112)).before args s = true := hs _ (List.mem_of_getElem? (i := 111) rfl)
  have f0 : Int32.ofInt (am_sch 10 0) = 112 := by decide +kernel
  have e1 : (Cond.eq (.elem (st_V 200) (.int 1)) (.int 114)).before args s = true := hs _ (List.mem_of_getElem? (i := 112) rfl)
  have f1 : Int32.ofInt (am_sch 10 1) = 114 := by decide +kernel
  have e2 : (Cond.eq (.elem (st_V 200) (.int 2)) (.int 97)).before args s = true := hs _ (List.mem_of_getElem? (i := 113) rfl)
  have f2 : Int32.ofInt (am_sch 10 2) = 97 := by decide +kernel
  have e3 : (Cond.eq (.elem (st_V 200) (.int 3)) (.int 121)).before args s = true := hs _ (List.mem_of_getElem? (i := 114) rfl)
  have f3 : Int32.ofInt (am_sch 10 3) = 121 := by decide +kernel
  have e4 : (Cond.eq (.elem (st_V 200) (.int 4)) (.int 101)).before args s = true := hs _ (List.mem_of_getElem? (i := 115) rfl)
  have f4 : Int32.ofInt (am_sch 10 4) = 101 := by decide +kernel
  have e5 : (Cond.eq (.elem (st_V 200) (.int 5)) (.int 114)).before args s = true := hs _ (List.mem_of_getElem? (i := 116) rfl)
  have f5 : Int32.ofInt (am_sch 10 5) = 114 := by decide +kernel
  have e6 : (Cond.eq (.elem (st_V 200) (.int 6)) (.int 115)).before args s = true := hs _ (List.mem_of_getElem? (i := 117) rfl)
  have f6 : Int32.ofInt (am_sch 10 6) = 115 := by decide +kernel
  refine am_str (i := 200) (len := 7) (f := fun j => Int32.ofInt (am_sch 10 j)) (by decide) h1 hex hco har hle (fun j hj => ?_) hA
  match j, hj with
  | 0, _ => show (Cond.eq (.elem (st_V 200) (.int (Int32.ofNat 0))) (.int (Int32.ofInt (am_sch 10 0)))).before args s = true; rw [f0]; exact e0
  | 1, _ => show (Cond.eq (.elem (st_V 200) (.int (Int32.ofNat 1))) (.int (Int32.ofInt (am_sch 10 1)))).before args s = true; rw [f1]; exact e1
  | 2, _ => show (Cond.eq (.elem (st_V 200) (.int (Int32.ofNat 2))) (.int (Int32.ofInt (am_sch 10 2)))).before args s = true; rw [f2]; exact e2
  | 3, _ => show (Cond.eq (.elem (st_V 200) (.int (Int32.ofNat 3))) (.int (Int32.ofInt (am_sch 10 3)))).before args s = true; rw [f3]; exact e3
  | 4, _ => show (Cond.eq (.elem (st_V 200) (.int (Int32.ofNat 4))) (.int (Int32.ofInt (am_sch 10 4)))).before args s = true; rw [f4]; exact e4
  | 5, _ => show (Cond.eq (.elem (st_V 200) (.int (Int32.ofNat 5))) (.int (Int32.ofInt (am_sch 10 5)))).before args s = true; rw [f5]; exact e5
  | 6, _ => show (Cond.eq (.elem (st_V 200) (.int (Int32.ofNat 6))) (.int (Int32.ofInt (am_sch 10 6)))).before args s = true; rw [f6]; exact e6
  | q + 7, hj => exact absurd hj (by omega)
theorem am_str_11 {args : Array Value} {s : State} {A : Nat → Prop} (hts : ∀ w ∈ lw_tbl, w.before args s = true) (hs : ∀ c ∈ st_L, c.before args s = true) (hA : ∀ a : Nat, a < s.heap.size → ¬ A a) : ∃ q : Nat × Nat, vk_R RX5 (am_sx.getD 11 0) (am_stx.getD 11 "") q.1 s ∧ va_O "java/lang/String" q.1 A s s.heap ∧ va_OF "java/lang/String" "coder" "B" (.int 0) q.1 A s s.heap ∧ va_OF "java/lang/String" "value" "[B" (.ref q.2) q.1 A s s.heap ∧ va_T .byte q.2 (am_slen 11) (fun j => .int (Int32.ofInt (am_sch 11 j))) A s s.heap := by
  have h1 : (Cond.stringRef RX5 202 "waiting").before args s = true := hts _ (tb_3 (List.mem_of_getElem? (i := 183) rfl))
  have hex : (Cond.exactly (.string RX5 202) "java/lang/String").before args s = true := hs _ (List.mem_of_getElem? (i := 118) rfl)
  have hco : (Cond.eq (.field (.string RX5 202) "java/lang/String" "coder" "B") (.int 0)).before args s = true := hs _ (List.mem_of_getElem? (i := 119) rfl)
  have har : (Cond.arrayOf (st_V 202) .byte).before args s = true := hs _ (List.mem_of_getElem? (i := 120) rfl)
  have hle : (Cond.eq (.length (st_V 202)) (.int 7)).before args s = true := hs _ (List.mem_of_getElem? (i := 121) rfl)
  have e0 : (Cond.eq (.elem (st_V 202) (.int 0)) (.int 119)).before args s = true := hs _ (List.mem_of_getElem? (i := 122) rfl)
  have f0 : Int32.ofInt (am_sch 11 0) = 119 := by decide +kernel
  have e1 : (Cond.eq (.elem (st_V 202) (.int 1)) (.int 97)).before args s = true := hs _ (List.mem_of_getElem? (i := 123) rfl)
  have f1 : Int32.ofInt (am_sch 11 1) = 97 := by decide +kernel
  have e2 : (Cond.eq (.elem (st_V 202) (.int 2)) (.int 105)).before args s = true := hs _ (List.mem_of_getElem? (i := 124) rfl)
  have f2 : Int32.ofInt (am_sch 11 2) = 105 := by decide +kernel
  have e3 : (Cond.eq (.elem (st_V 202) (.int 3)) (.int 116)).before args s = true := hs _ (List.mem_of_getElem? (i := 125) rfl)
  have f3 : Int32.ofInt (am_sch 11 3) = 116 := by decide +kernel
  have e4 : (Cond.eq (.elem (st_V 202) (.int 4)) (.int 105)).before args s = true := hs _ (List.mem_of_getElem? (i := 126) rfl)
  have f4 : Int32.ofInt (am_sch 11 4) = 105 := by decide +kernel
  have e5 : (Cond.eq (.elem (st_V 202) (.int 5)) (.int 110)).before args s = true := hs _ (List.mem_of_getElem? (i := 127) rfl)
  have f5 : Int32.ofInt (am_sch 11 5) = 110 := by decide +kernel
  have e6 : (Cond.eq (.elem (st_V 202) (.int 6)) (.int 103)).before args s = true := hs _ (List.mem_of_getElem? (i := 128) rfl)
  have f6 : Int32.ofInt (am_sch 11 6) = 103 := by decide +kernel
  refine am_str (i := 202) (len := 7) (f := fun j => Int32.ofInt (am_sch 11 j)) (by decide) h1 hex hco har hle (fun j hj => ?_) hA
  match j, hj with
  | 0, _ => show (Cond.eq (.elem (st_V 202) (.int (Int32.ofNat 0))) (.int (Int32.ofInt (am_sch 11 0)))).before args s = true; rw [f0]; exact e0
  | 1, _ => show (Cond.eq (.elem (st_V 202) (.int (Int32.ofNat 1))) (.int (Int32.ofInt (am_sch 11 1)))).before args s = true; rw [f1]; exact e1
  | 2, _ => show (Cond.eq (.elem (st_V 202) (.int (Int32.ofNat 2))) (.int (Int32.ofInt (am_sch 11 2)))).before args s = true; rw [f2]; exact e2
  | 3, _ => show (Cond.eq (.elem (st_V 202) (.int (Int32.ofNat 3))) (.int (Int32.ofInt (am_sch 11 3)))).before args s = true; rw [f3]; exact e3
  | 4, _ => show (Cond.eq (.elem (st_V 202) (.int (Int32.ofNat 4))) (.int (Int32.ofInt (am_sch 11 4)))).before args s = true; rw [f4]; exact e4
  | 5, _ => show (Cond.eq (.elem (st_V 202) (.int (Int32.ofNat 5))) (.int (Int32.ofInt (am_sch 11 5)))).before args s = true; rw [f5]; exact e5
  | 6, _ => show (Cond.eq (.elem (st_V 202) (.int (Int32.ofNat 6))) (.int (Int32.ofInt (am_sch 11 6)))).before args s = true; rw [f6]; exact e6
  | q + 7, hj => exact absurd hj (by omega)
theorem am_str_12 {args : Array Value} {s : State} {A : Nat → Prop} (hts : ∀ w ∈ lw_tbl, w.before args s = true) (hs : ∀ c ∈ st_L, c.before args s = true) (hA : ∀ a : Nat, a < s.heap.size → ¬ A a) : ∃ q : Nat × Nat, vk_R RX5 (am_sx.getD 12 0) (am_stx.getD 12 "") q.1 s ∧ va_O "java/lang/String" q.1 A s s.heap ∧ va_OF "java/lang/String" "coder" "B" (.int 0) q.1 A s s.heap ∧ va_OF "java/lang/String" "value" "[B" (.ref q.2) q.1 A s s.heap ∧ va_T .byte q.2 (am_slen 12) (fun j => .int (Int32.ofInt (am_sch 12 j))) A s s.heap := by
  have h1 : (Cond.stringRef RX5 204 "done").before args s = true := hts _ (tb_3 (List.mem_of_getElem? (i := 184) rfl))
  have hex : (Cond.exactly (.string RX5 204) "java/lang/String").before args s = true := hs _ (List.mem_of_getElem? (i := 129) rfl)
  have hco : (Cond.eq (.field (.string RX5 204) "java/lang/String" "coder" "B") (.int 0)).before args s = true := hs _ (List.mem_of_getElem? (i := 130) rfl)
  have har : (Cond.arrayOf (st_V 204) .byte).before args s = true := hs _ (List.mem_of_getElem? (i := 131) rfl)
  have hle : (Cond.eq (.length (st_V 204)) (.int 4)).before args s = true := hs _ (List.mem_of_getElem? (i := 132) rfl)
  have e0 : (Cond.eq (.elem (st_V 204) (.int 0)) (.int 100)).before args s = true := hs _ (List.mem_of_getElem? (i := 133) rfl)
  have f0 : Int32.ofInt (am_sch 12 0) = 100 := by decide +kernel
  have e1 : (Cond.eq (.elem (st_V 204) (.int 1)) (.int 111)).before args s = true := hs _ (List.mem_of_getElem? (i := 134) rfl)
  have f1 : Int32.ofInt (am_sch 12 1) = 111 := by decide +kernel
  have e2 : (Cond.eq (.elem (st_V 204) (.int 2)) (.int 110)).before args s = true := hs _ (List.mem_of_getElem? (i := 135) rfl)
  have f2 : Int32.ofInt (am_sch 12 2) = 110 := by decide +kernel
  have e3 : (Cond.eq (.elem (st_V 204) (.int 3)) (.int 101)).before args s = true := hs _ (List.mem_of_getElem? (i := 136) rfl)
  have f3 : Int32.ofInt (am_sch 12 3) = 101 := by decide +kernel
  refine am_str (i := 204) (len := 4) (f := fun j => Int32.ofInt (am_sch 12 j)) (by decide) h1 hex hco har hle (fun j hj => ?_) hA
  match j, hj with
  | 0, _ => show (Cond.eq (.elem (st_V 204) (.int (Int32.ofNat 0))) (.int (Int32.ofInt (am_sch 12 0)))).before args s = true; rw [f0]; exact e0
  | 1, _ => show (Cond.eq (.elem (st_V 204) (.int (Int32.ofNat 1))) (.int (Int32.ofInt (am_sch 12 1)))).before args s = true; rw [f1]; exact e1
  | 2, _ => show (Cond.eq (.elem (st_V 204) (.int (Int32.ofNat 2))) (.int (Int32.ofInt (am_sch 12 2)))).before args s = true; rw [f2]; exact e2
  | 3, _ => show (Cond.eq (.elem (st_V 204) (.int (Int32.ofNat 3))) (.int (Int32.ofInt (am_sch 12 3)))).before args s = true; rw [f3]; exact e3
  | q + 4, hj => exact absurd hj (by omega)
theorem am_str_13 {args : Array Value} {s : State} {A : Nat → Prop} (hts : ∀ w ∈ lw_tbl, w.before args s = true) (hs : ∀ c ∈ st_L, c.before args s = true) (hA : ∀ a : Nat, a < s.heap.size → ¬ A a) : ∃ q : Nat × Nat, vk_R RX5 (am_sx.getD 13 0) (am_stx.getD 13 "") q.1 s ∧ va_O "java/lang/String" q.1 A s s.heap ∧ va_OF "java/lang/String" "coder" "B" (.int 0) q.1 A s s.heap ∧ va_OF "java/lang/String" "value" "[B" (.ref q.2) q.1 A s s.heap ∧ va_T .byte q.2 (am_slen 13) (fun j => .int (Int32.ofInt (am_sch 13 j))) A s s.heap := by
  have h1 : (Cond.stringRef RX5 206 "said").before args s = true := hts _ (tb_3 (List.mem_of_getElem? (i := 185) rfl))
  have hex : (Cond.exactly (.string RX5 206) "java/lang/String").before args s = true := hs _ (List.mem_of_getElem? (i := 137) rfl)
  have hco : (Cond.eq (.field (.string RX5 206) "java/lang/String" "coder" "B") (.int 0)).before args s = true := hs _ (List.mem_of_getElem? (i := 138) rfl)
  have har : (Cond.arrayOf (st_V 206) .byte).before args s = true := hs _ (List.mem_of_getElem? (i := 139) rfl)
  have hle : (Cond.eq (.length (st_V 206)) (.int 4)).before args s = true := hs _ (List.mem_of_getElem? (i := 140) rfl)
  have e0 : (Cond.eq (.elem (st_V 206) (.int 0)) (.int 115)).before args s = true := hs _ (List.mem_of_getElem? (i := 141) rfl)
  have f0 : Int32.ofInt (am_sch 13 0) = 115 := by decide +kernel
  have e1 : (Cond.eq (.elem (st_V 206) (.int 1)) (.int 97)).before args s = true := hs _ (List.mem_of_getElem? (i := 142) rfl)
  have f1 : Int32.ofInt (am_sch 13 1) = 97 := by decide +kernel
  have e2 : (Cond.eq (.elem (st_V 206) (.int 2)) (.int 105)).before args s = true := hs _ (List.mem_of_getElem? (i := 143) rfl)
  have f2 : Int32.ofInt (am_sch 13 2) = 105 := by decide +kernel
  have e3 : (Cond.eq (.elem (st_V 206) (.int 3)) (.int 100)).before args s = true := hs _ (List.mem_of_getElem? (i := 144) rfl)
  have f3 : Int32.ofInt (am_sch 13 3) = 100 := by decide +kernel
  refine am_str (i := 206) (len := 4) (f := fun j => Int32.ofInt (am_sch 13 j)) (by decide) h1 hex hco har hle (fun j hj => ?_) hA
  match j, hj with
  | 0, _ => show (Cond.eq (.elem (st_V 206) (.int (Int32.ofNat 0))) (.int (Int32.ofInt (am_sch 13 0)))).before args s = true; rw [f0]; exact e0
  | 1, _ => show (Cond.eq (.elem (st_V 206) (.int (Int32.ofNat 1))) (.int (Int32.ofInt (am_sch 13 1)))).before args s = true; rw [f1]; exact e1
  | 2, _ => show (Cond.eq (.elem (st_V 206) (.int (Int32.ofNat 2))) (.int (Int32.ofInt (am_sch 13 2)))).before args s = true; rw [f2]; exact e2
  | 3, _ => show (Cond.eq (.elem (st_V 206) (.int (Int32.ofNat 3))) (.int (Int32.ofInt (am_sch 13 3)))).before args s = true; rw [f3]; exact e3
  | q + 4, hj => exact absurd hj (by omega)
theorem am_str_14 {args : Array Value} {s : State} {A : Nat → Prop} (hts : ∀ w ∈ lw_tbl, w.before args s = true) (hs : ∀ c ∈ st_L, c.before args s = true) (hA : ∀ a : Nat, a < s.heap.size → ¬ A a) : ∃ q : Nat × Nat, vk_R RX5 (am_sx.getD 14 0) (am_stx.getD 14 "") q.1 s ∧ va_O "java/lang/String" q.1 A s s.heap ∧ va_OF "java/lang/String" "coder" "B" (.int 0) q.1 A s s.heap ∧ va_OF "java/lang/String" "value" "[B" (.ref q.2) q.1 A s s.heap ∧ va_T .byte q.2 (am_slen 14) (fun j => .int (Int32.ofInt (am_sch 14 j))) A s s.heap := by
  have h1 : (Cond.stringRef RX5 208 "granted").before args s = true := hts _ (tb_3 (List.mem_of_getElem? (i := 186) rfl))
  have hex : (Cond.exactly (.string RX5 208) "java/lang/String").before args s = true := hs _ (List.mem_of_getElem? (i := 145) rfl)
  have hco : (Cond.eq (.field (.string RX5 208) "java/lang/String" "coder" "B") (.int 0)).before args s = true := hs _ (List.mem_of_getElem? (i := 146) rfl)
  have har : (Cond.arrayOf (st_V 208) .byte).before args s = true := hs _ (List.mem_of_getElem? (i := 147) rfl)
  have hle : (Cond.eq (.length (st_V 208)) (.int 7)).before args s = true := hs _ (List.mem_of_getElem? (i := 148) rfl)
  have e0 : (Cond.eq (.elem (st_V 208) (.int 0)) (.int 103)).before args s = true := hs _ (List.mem_of_getElem? (i := 149) rfl)
  have f0 : Int32.ofInt (am_sch 14 0) = 103 := by decide +kernel
  have e1 : (Cond.eq (.elem (st_V 208) (.int 1)) (.int 114)).before args s = true := hs _ (List.mem_of_getElem? (i := 150) rfl)
  have f1 : Int32.ofInt (am_sch 14 1) = 114 := by decide +kernel
  have e2 : (Cond.eq (.elem (st_V 208) (.int 2)) (.int 97)).before args s = true := hs _ (List.mem_of_getElem? (i := 151) rfl)
  have f2 : Int32.ofInt (am_sch 14 2) = 97 := by decide +kernel
  have e3 : (Cond.eq (.elem (st_V 208) (.int 3)) (.int 110)).before args s = true := hs _ (List.mem_of_getElem? (i := 152) rfl)
  have f3 : Int32.ofInt (am_sch 14 3) = 110 := by decide +kernel
  have e4 : (Cond.eq (.elem (st_V 208) (.int 4)) (.int 116)).before args s = true := hs _ (List.mem_of_getElem? (i := 153) rfl)
  have f4 : Int32.ofInt (am_sch 14 4) = 116 := by decide +kernel
  have e5 : (Cond.eq (.elem (st_V 208) (.int 5)) (.int 101)).before args s = true := hs _ (List.mem_of_getElem? (i := 154) rfl)
  have f5 : Int32.ofInt (am_sch 14 5) = 101 := by decide +kernel
  have e6 : (Cond.eq (.elem (st_V 208) (.int 6)) (.int 100)).before args s = true := hs _ (List.mem_of_getElem? (i := 155) rfl)
  have f6 : Int32.ofInt (am_sch 14 6) = 100 := by decide +kernel
  refine am_str (i := 208) (len := 7) (f := fun j => Int32.ofInt (am_sch 14 j)) (by decide) h1 hex hco har hle (fun j hj => ?_) hA
  match j, hj with
  | 0, _ => show (Cond.eq (.elem (st_V 208) (.int (Int32.ofNat 0))) (.int (Int32.ofInt (am_sch 14 0)))).before args s = true; rw [f0]; exact e0
  | 1, _ => show (Cond.eq (.elem (st_V 208) (.int (Int32.ofNat 1))) (.int (Int32.ofInt (am_sch 14 1)))).before args s = true; rw [f1]; exact e1
  | 2, _ => show (Cond.eq (.elem (st_V 208) (.int (Int32.ofNat 2))) (.int (Int32.ofInt (am_sch 14 2)))).before args s = true; rw [f2]; exact e2
  | 3, _ => show (Cond.eq (.elem (st_V 208) (.int (Int32.ofNat 3))) (.int (Int32.ofInt (am_sch 14 3)))).before args s = true; rw [f3]; exact e3
  | 4, _ => show (Cond.eq (.elem (st_V 208) (.int (Int32.ofNat 4))) (.int (Int32.ofInt (am_sch 14 4)))).before args s = true; rw [f4]; exact e4
  | 5, _ => show (Cond.eq (.elem (st_V 208) (.int (Int32.ofNat 5))) (.int (Int32.ofInt (am_sch 14 5)))).before args s = true; rw [f5]; exact e5
  | 6, _ => show (Cond.eq (.elem (st_V 208) (.int (Int32.ofNat 6))) (.int (Int32.ofInt (am_sch 14 6)))).before args s = true; rw [f6]; exact e6
  | q + 7, hj => exact absurd hj (by omega)
theorem am_str_15 {args : Array Value} {s : State} {A : Nat → Prop} (hts : ∀ w ∈ lw_tbl, w.before args s = true) (hs : ∀ c ∈ st_L, c.before args s = true) (hA : ∀ a : Nat, a < s.heap.size → ¬ A a) : ∃ q : Nat × Nat, vk_R RX5 (am_sx.getD 15 0) (am_stx.getD 15 "") q.1 s ∧ va_O "java/lang/String" q.1 A s s.heap ∧ va_OF "java/lang/String" "coder" "B" (.int 0) q.1 A s s.heap ∧ va_OF "java/lang/String" "value" "[B" (.ref q.2) q.1 A s s.heap ∧ va_T .byte q.2 (am_slen 15) (fun j => .int (Int32.ofInt (am_sch 15 j))) A s s.heap := by
  have h1 : (Cond.stringRef RX5 210 "length").before args s = true := hts _ (tb_3 (List.mem_of_getElem? (i := 191) rfl))
  have hex : (Cond.exactly (.string RX5 210) "java/lang/String").before args s = true := hs _ (List.mem_of_getElem? (i := 156) rfl)
  have hco : (Cond.eq (.field (.string RX5 210) "java/lang/String" "coder" "B") (.int 0)).before args s = true := hs _ (List.mem_of_getElem? (i := 157) rfl)
  have har : (Cond.arrayOf (st_V 210) .byte).before args s = true := hs _ (List.mem_of_getElem? (i := 158) rfl)
  have hle : (Cond.eq (.length (st_V 210)) (.int 6)).before args s = true := hs _ (List.mem_of_getElem? (i := 159) rfl)
  have e0 : (Cond.eq (.elem (st_V 210) (.int 0)) (.int 108)).before args s = true := hs _ (List.mem_of_getElem? (i := 160) rfl)
  have f0 : Int32.ofInt (am_sch 15 0) = 108 := by decide +kernel
  have e1 : (Cond.eq (.elem (st_V 210) (.int 1)) (.int 101)).before args s = true := hs _ (List.mem_of_getElem? (i := 161) rfl)
  have f1 : Int32.ofInt (am_sch 15 1) = 101 := by decide +kernel
  have e2 : (Cond.eq (.elem (st_V 210) (.int 2)) (.int 110)).before args s = true := hs _ (List.mem_of_getElem? (i := 162) rfl)
  have f2 : Int32.ofInt (am_sch 15 2) = 110 := by decide +kernel
  have e3 : (Cond.eq (.elem (st_V 210) (.int 3)) (.int 103)).before args s = true := hs _ (List.mem_of_getElem? (i := 163) rfl)
  have f3 : Int32.ofInt (am_sch 15 3) = 103 := by decide +kernel
  have e4 : (Cond.eq (.elem (st_V 210) (.int 4)) (.int 116)).before args s = true := hs _ (List.mem_of_getElem? (i := 164) rfl)
  have f4 : Int32.ofInt (am_sch 15 4) = 116 := by decide +kernel
  have e5 : (Cond.eq (.elem (st_V 210) (.int 5)) (.int 104)).before args s = true := hs _ (List.mem_of_getElem? (i := 165) rfl)
  have f5 : Int32.ofInt (am_sch 15 5) = 104 := by decide +kernel
  refine am_str (i := 210) (len := 6) (f := fun j => Int32.ofInt (am_sch 15 j)) (by decide) h1 hex hco har hle (fun j hj => ?_) hA
  match j, hj with
  | 0, _ => show (Cond.eq (.elem (st_V 210) (.int (Int32.ofNat 0))) (.int (Int32.ofInt (am_sch 15 0)))).before args s = true; rw [f0]; exact e0
  | 1, _ => show (Cond.eq (.elem (st_V 210) (.int (Int32.ofNat 1))) (.int (Int32.ofInt (am_sch 15 1)))).before args s = true; rw [f1]; exact e1
  | 2, _ => show (Cond.eq (.elem (st_V 210) (.int (Int32.ofNat 2))) (.int (Int32.ofInt (am_sch 15 2)))).before args s = true; rw [f2]; exact e2
  | 3, _ => show (Cond.eq (.elem (st_V 210) (.int (Int32.ofNat 3))) (.int (Int32.ofInt (am_sch 15 3)))).before args s = true; rw [f3]; exact e3
  | 4, _ => show (Cond.eq (.elem (st_V 210) (.int (Int32.ofNat 4))) (.int (Int32.ofInt (am_sch 15 4)))).before args s = true; rw [f4]; exact e4
  | 5, _ => show (Cond.eq (.elem (st_V 210) (.int (Int32.ofNat 5))) (.int (Int32.ofInt (am_sch 15 5)))).before args s = true; rw [f5]; exact e5
  | q + 6, hj => exact absurd hj (by omega)
theorem am_str_16 {args : Array Value} {s : State} {A : Nat → Prop} (hts : ∀ w ∈ lw_tbl, w.before args s = true) (hs : ∀ c ∈ st_L, c.before args s = true) (hA : ∀ a : Nat, a < s.heap.size → ¬ A a) : ∃ q : Nat × Nat, vk_R RX5 (am_sx.getD 16 0) (am_stx.getD 16 "") q.1 s ∧ va_O "java/lang/String" q.1 A s s.heap ∧ va_OF "java/lang/String" "coder" "B" (.int 0) q.1 A s s.heap ∧ va_OF "java/lang/String" "value" "[B" (.ref q.2) q.1 A s s.heap ∧ va_T .byte q.2 (am_slen 16) (fun j => .int (Int32.ofInt (am_sch 16 j))) A s s.heap := by
  have h1 : (Cond.stringRef RX5 213 "voices").before args s = true := hts _ (tb_3 (List.mem_of_getElem? (i := 192) rfl))
  have hex : (Cond.exactly (.string RX5 213) "java/lang/String").before args s = true := hs _ (List.mem_of_getElem? (i := 166) rfl)
  have hco : (Cond.eq (.field (.string RX5 213) "java/lang/String" "coder" "B") (.int 0)).before args s = true := hs _ (List.mem_of_getElem? (i := 167) rfl)
  have har : (Cond.arrayOf (st_V 213) .byte).before args s = true := hs _ (List.mem_of_getElem? (i := 168) rfl)
  have hle : (Cond.eq (.length (st_V 213)) (.int 6)).before args s = true := hs _ (List.mem_of_getElem? (i := 169) rfl)
  have e0 : (Cond.eq (.elem (st_V 213) (.int 0)) (.int 118)).before args s = true := hs _ (List.mem_of_getElem? (i := 170) rfl)
  have f0 : Int32.ofInt (am_sch 16 0) = 118 := by decide +kernel
  have e1 : (Cond.eq (.elem (st_V 213) (.int 1)) (.int 111)).before args s = true := hs _ (List.mem_of_getElem? (i := 171) rfl)
  have f1 : Int32.ofInt (am_sch 16 1) = 111 := by decide +kernel
  have e2 : (Cond.eq (.elem (st_V 213) (.int 2)) (.int 105)).before args s = true := hs _ (List.mem_of_getElem? (i := 172) rfl)
  have f2 : Int32.ofInt (am_sch 16 2) = 105 := by decide +kernel
  have e3 : (Cond.eq (.elem (st_V 213) (.int 3)) (.int 99)).before args s = true := hs _ (List.mem_of_getElem? (i := 173) rfl)
  have f3 : Int32.ofInt (am_sch 16 3) = 99 := by decide +kernel
  have e4 : (Cond.eq (.elem (st_V 213) (.int 4)) (.int 101)).before args s = true := hs _ (List.mem_of_getElem? (i := 174) rfl)
  have f4 : Int32.ofInt (am_sch 16 4) = 101 := by decide +kernel
  have e5 : (Cond.eq (.elem (st_V 213) (.int 5)) (.int 115)).before args s = true := hs _ (List.mem_of_getElem? (i := 175) rfl)
  have f5 : Int32.ofInt (am_sch 16 5) = 115 := by decide +kernel
  refine am_str (i := 213) (len := 6) (f := fun j => Int32.ofInt (am_sch 16 j)) (by decide) h1 hex hco har hle (fun j hj => ?_) hA
  match j, hj with
  | 0, _ => show (Cond.eq (.elem (st_V 213) (.int (Int32.ofNat 0))) (.int (Int32.ofInt (am_sch 16 0)))).before args s = true; rw [f0]; exact e0
  | 1, _ => show (Cond.eq (.elem (st_V 213) (.int (Int32.ofNat 1))) (.int (Int32.ofInt (am_sch 16 1)))).before args s = true; rw [f1]; exact e1
  | 2, _ => show (Cond.eq (.elem (st_V 213) (.int (Int32.ofNat 2))) (.int (Int32.ofInt (am_sch 16 2)))).before args s = true; rw [f2]; exact e2
  | 3, _ => show (Cond.eq (.elem (st_V 213) (.int (Int32.ofNat 3))) (.int (Int32.ofInt (am_sch 16 3)))).before args s = true; rw [f3]; exact e3
  | 4, _ => show (Cond.eq (.elem (st_V 213) (.int (Int32.ofNat 4))) (.int (Int32.ofInt (am_sch 16 4)))).before args s = true; rw [f4]; exact e4
  | 5, _ => show (Cond.eq (.elem (st_V 213) (.int (Int32.ofNat 5))) (.int (Int32.ofInt (am_sch 16 5)))).before args s = true; rw [f5]; exact e5
  | q + 6, hj => exact absurd hj (by omega)
theorem am_str_17 {args : Array Value} {s : State} {A : Nat → Prop} (hts : ∀ w ∈ lw_tbl, w.before args s = true) (hs : ∀ c ∈ st_L, c.before args s = true) (hA : ∀ a : Nat, a < s.heap.size → ¬ A a) : ∃ q : Nat × Nat, vk_R RX5 (am_sx.getD 17 0) (am_stx.getD 17 "") q.1 s ∧ va_O "java/lang/String" q.1 A s s.heap ∧ va_OF "java/lang/String" "coder" "B" (.int 0) q.1 A s s.heap ∧ va_OF "java/lang/String" "value" "[B" (.ref q.2) q.1 A s s.heap ∧ va_T .byte q.2 (am_slen 17) (fun j => .int (Int32.ofInt (am_sch 17 j))) A s s.heap := by
  have h1 : (Cond.stringRef RX5 215 "asker").before args s = true := hts _ (tb_3 (List.mem_of_getElem? (i := 193) rfl))
  have hex : (Cond.exactly (.string RX5 215) "java/lang/String").before args s = true := hs _ (List.mem_of_getElem? (i := 176) rfl)
  have hco : (Cond.eq (.field (.string RX5 215) "java/lang/String" "coder" "B") (.int 0)).before args s = true := hs _ (List.mem_of_getElem? (i := 177) rfl)
  have har : (Cond.arrayOf (st_V 215) .byte).before args s = true := hs _ (List.mem_of_getElem? (i := 178) rfl)
  have hle : (Cond.eq (.length (st_V 215)) (.int 5)).before args s = true := hs _ (List.mem_of_getElem? (i := 179) rfl)
  have e0 : (Cond.eq (.elem (st_V 215) (.int 0)) (.int 97)).before args s = true := hs _ (List.mem_of_getElem? (i := 180) rfl)
  have f0 : Int32.ofInt (am_sch 17 0) = 97 := by decide +kernel
  have e1 : (Cond.eq (.elem (st_V 215) (.int 1)) (.int 115)).before args s = true := hs _ (List.mem_of_getElem? (i := 181) rfl)
  have f1 : Int32.ofInt (am_sch 17 1) = 115 := by decide +kernel
  have e2 : (Cond.eq (.elem (st_V 215) (.int 2)) (.int 107)).before args s = true := hs _ (List.mem_of_getElem? (i := 182) rfl)
  have f2 : Int32.ofInt (am_sch 17 2) = 107 := by decide +kernel
  have e3 : (Cond.eq (.elem (st_V 215) (.int 3)) (.int 101)).before args s = true := hs _ (List.mem_of_getElem? (i := 183) rfl)
  have f3 : Int32.ofInt (am_sch 17 3) = 101 := by decide +kernel
  have e4 : (Cond.eq (.elem (st_V 215) (.int 4)) (.int 114)).before args s = true := hs _ (List.mem_of_getElem? (i := 184) rfl)
  have f4 : Int32.ofInt (am_sch 17 4) = 114 := by decide +kernel
  refine am_str (i := 215) (len := 5) (f := fun j => Int32.ofInt (am_sch 17 j)) (by decide) h1 hex hco har hle (fun j hj => ?_) hA
  match j, hj with
  | 0, _ => show (Cond.eq (.elem (st_V 215) (.int (Int32.ofNat 0))) (.int (Int32.ofInt (am_sch 17 0)))).before args s = true; rw [f0]; exact e0
  | 1, _ => show (Cond.eq (.elem (st_V 215) (.int (Int32.ofNat 1))) (.int (Int32.ofInt (am_sch 17 1)))).before args s = true; rw [f1]; exact e1
  | 2, _ => show (Cond.eq (.elem (st_V 215) (.int (Int32.ofNat 2))) (.int (Int32.ofInt (am_sch 17 2)))).before args s = true; rw [f2]; exact e2
  | 3, _ => show (Cond.eq (.elem (st_V 215) (.int (Int32.ofNat 3))) (.int (Int32.ofInt (am_sch 17 3)))).before args s = true; rw [f3]; exact e3
  | 4, _ => show (Cond.eq (.elem (st_V 215) (.int (Int32.ofNat 4))) (.int (Int32.ofInt (am_sch 17 4)))).before args s = true; rw [f4]; exact e4
  | q + 5, hj => exact absurd hj (by omega)
theorem am_str_18 {args : Array Value} {s : State} {A : Nat → Prop} (hts : ∀ w ∈ lw_tbl, w.before args s = true) (hs : ∀ c ∈ st_L, c.before args s = true) (hA : ∀ a : Nat, a < s.heap.size → ¬ A a) : ∃ q : Nat × Nat, vk_R RX5 (am_sx.getD 18 0) (am_stx.getD 18 "") q.1 s ∧ va_O "java/lang/String" q.1 A s s.heap ∧ va_OF "java/lang/String" "coder" "B" (.int 0) q.1 A s s.heap ∧ va_OF "java/lang/String" "value" "[B" (.ref q.2) q.1 A s s.heap ∧ va_T .byte q.2 (am_slen 18) (fun j => .int (Int32.ofInt (am_sch 18 j))) A s s.heap := by
  have h1 : (Cond.stringRef RX5 217 "age").before args s = true := hts _ (tb_3 (List.mem_of_getElem? (i := 194) rfl))
  have hex : (Cond.exactly (.string RX5 217) "java/lang/String").before args s = true := hs _ (List.mem_of_getElem? (i := 185) rfl)
  have hco : (Cond.eq (.field (.string RX5 217) "java/lang/String" "coder" "B") (.int 0)).before args s = true := hs _ (List.mem_of_getElem? (i := 186) rfl)
  have har : (Cond.arrayOf (st_V 217) .byte).before args s = true := hs _ (List.mem_of_getElem? (i := 187) rfl)
  have hle : (Cond.eq (.length (st_V 217)) (.int 3)).before args s = true := hs _ (List.mem_of_getElem? (i := 188) rfl)
  have e0 : (Cond.eq (.elem (st_V 217) (.int 0)) (.int 97)).before args s = true := hs _ (List.mem_of_getElem? (i := 189) rfl)
  have f0 : Int32.ofInt (am_sch 18 0) = 97 := by decide +kernel
  have e1 : (Cond.eq (.elem (st_V 217) (.int 1)) (.int 103)).before args s = true := hs _ (List.mem_of_getElem? (i := 190) rfl)
  have f1 : Int32.ofInt (am_sch 18 1) = 103 := by decide +kernel
  have e2 : (Cond.eq (.elem (st_V 217) (.int 2)) (.int 101)).before args s = true := hs _ (List.mem_of_getElem? (i := 191) rfl)
  have f2 : Int32.ofInt (am_sch 18 2) = 101 := by decide +kernel
  refine am_str (i := 217) (len := 3) (f := fun j => Int32.ofInt (am_sch 18 j)) (by decide) h1 hex hco har hle (fun j hj => ?_) hA
  match j, hj with
  | 0, _ => show (Cond.eq (.elem (st_V 217) (.int (Int32.ofNat 0))) (.int (Int32.ofInt (am_sch 18 0)))).before args s = true; rw [f0]; exact e0
  | 1, _ => show (Cond.eq (.elem (st_V 217) (.int (Int32.ofNat 1))) (.int (Int32.ofInt (am_sch 18 1)))).before args s = true; rw [f1]; exact e1
  | 2, _ => show (Cond.eq (.elem (st_V 217) (.int (Int32.ofNat 2))) (.int (Int32.ofInt (am_sch 18 2)))).before args s = true; rw [f2]; exact e2
  | q + 3, hj => exact absurd hj (by omega)
theorem am_str_19 {args : Array Value} {s : State} {A : Nat → Prop} (hts : ∀ w ∈ lw_tbl, w.before args s = true) (hs : ∀ c ∈ st_L, c.before args s = true) (hA : ∀ a : Nat, a < s.heap.size → ¬ A a) : ∃ q : Nat × Nat, vk_R RX5 (am_sx.getD 19 0) (am_stx.getD 19 "") q.1 s ∧ va_O "java/lang/String" q.1 A s s.heap ∧ va_OF "java/lang/String" "coder" "B" (.int 0) q.1 A s s.heap ∧ va_OF "java/lang/String" "value" "[B" (.ref q.2) q.1 A s s.heap ∧ va_T .byte q.2 (am_slen 19) (fun j => .int (Int32.ofInt (am_sch 19 j))) A s s.heap := by
  have h1 : (Cond.stringRef RX5 219 "thing").before args s = true := hts _ (tb_3 (List.mem_of_getElem? (i := 195) rfl))
  have hex : (Cond.exactly (.string RX5 219) "java/lang/String").before args s = true := hs _ (List.mem_of_getElem? (i := 192) rfl)
  have hco : (Cond.eq (.field (.string RX5 219) "java/lang/String" "coder" "B") (.int 0)).before args s = true := hs _ (List.mem_of_getElem? (i := 193) rfl)
  have har : (Cond.arrayOf (st_V 219) .byte).before args s = true := hs _ (List.mem_of_getElem? (i := 194) rfl)
  have hle : (Cond.eq (.length (st_V 219)) (.int 5)).before args s = true := hs _ (List.mem_of_getElem? (i := 195) rfl)
  have e0 : (Cond.eq (.elem (st_V 219) (.int 0)) (.int 116)).before args s = true := hs _ (List.mem_of_getElem? (i := 196) rfl)
  have f0 : Int32.ofInt (am_sch 19 0) = 116 := by decide +kernel
  have e1 : (Cond.eq (.elem (st_V 219) (.int 1)) (.int 104)).before args s = true := hs _ (List.mem_of_getElem? (i := 197) rfl)
  have f1 : Int32.ofInt (am_sch 19 1) = 104 := by decide +kernel
  have e2 : (Cond.eq (.elem (st_V 219) (.int 2)) (.int 105)).before args s = true := hs _ (List.mem_of_getElem? (i := 198) rfl)
  have f2 : Int32.ofInt (am_sch 19 2) = 105 := by decide +kernel
  have e3 : (Cond.eq (.elem (st_V 219) (.int 3)) (.int 110)).before args s = true := hs _ (List.mem_of_getElem? (i := 199) rfl)
  have f3 : Int32.ofInt (am_sch 19 3) = 110 := by decide +kernel
  have e4 : (Cond.eq (.elem (st_V 219) (.int 4)) (.int 103)).before args s = true := hs _ (List.mem_of_getElem? (i := 200) rfl)
  have f4 : Int32.ofInt (am_sch 19 4) = 103 := by decide +kernel
  refine am_str (i := 219) (len := 5) (f := fun j => Int32.ofInt (am_sch 19 j)) (by decide) h1 hex hco har hle (fun j hj => ?_) hA
  match j, hj with
  | 0, _ => show (Cond.eq (.elem (st_V 219) (.int (Int32.ofNat 0))) (.int (Int32.ofInt (am_sch 19 0)))).before args s = true; rw [f0]; exact e0
  | 1, _ => show (Cond.eq (.elem (st_V 219) (.int (Int32.ofNat 1))) (.int (Int32.ofInt (am_sch 19 1)))).before args s = true; rw [f1]; exact e1
  | 2, _ => show (Cond.eq (.elem (st_V 219) (.int (Int32.ofNat 2))) (.int (Int32.ofInt (am_sch 19 2)))).before args s = true; rw [f2]; exact e2
  | 3, _ => show (Cond.eq (.elem (st_V 219) (.int (Int32.ofNat 3))) (.int (Int32.ofInt (am_sch 19 3)))).before args s = true; rw [f3]; exact e3
  | 4, _ => show (Cond.eq (.elem (st_V 219) (.int (Int32.ofNat 4))) (.int (Int32.ofInt (am_sch 19 4)))).before args s = true; rw [f4]; exact e4
  | q + 5, hj => exact absurd hj (by omega)
theorem am_str_20 {args : Array Value} {s : State} {A : Nat → Prop} (hts : ∀ w ∈ lw_tbl, w.before args s = true) (hs : ∀ c ∈ st_L, c.before args s = true) (hA : ∀ a : Nat, a < s.heap.size → ¬ A a) : ∃ q : Nat × Nat, vk_R RX5 (am_sx.getD 20 0) (am_stx.getD 20 "") q.1 s ∧ va_O "java/lang/String" q.1 A s s.heap ∧ va_OF "java/lang/String" "coder" "B" (.int 0) q.1 A s s.heap ∧ va_OF "java/lang/String" "value" "[B" (.ref q.2) q.1 A s s.heap ∧ va_T .byte q.2 (am_slen 20) (fun j => .int (Int32.ofInt (am_sch 20 j))) A s s.heap := by
  have h1 : (Cond.stringRef RX5 221 "waits").before args s = true := hts _ (tb_3 (List.mem_of_getElem? (i := 196) rfl))
  have hex : (Cond.exactly (.string RX5 221) "java/lang/String").before args s = true := hs _ (List.mem_of_getElem? (i := 201) rfl)
  have hco : (Cond.eq (.field (.string RX5 221) "java/lang/String" "coder" "B") (.int 0)).before args s = true := hs _ (List.mem_of_getElem? (i := 202) rfl)
  have har : (Cond.arrayOf (st_V 221) .byte).before args s = true := hs _ (List.mem_of_getElem? (i := 203) rfl)
  have hle : (Cond.eq (.length (st_V 221)) (.int 5)).before args s = true := hs _ (List.mem_of_getElem? (i := 204) rfl)
  have e0 : (Cond.eq (.elem (st_V 221) (.int 0)) (.int 119)).before args s = true := hs _ (List.mem_of_getElem? (i := 205) rfl)
  have f0 : Int32.ofInt (am_sch 20 0) = 119 := by decide +kernel
  have e1 : (Cond.eq (.elem (st_V 221) (.int 1)) (.int 97)).before args s = true := hs _ (List.mem_of_getElem? (i := 206) rfl)
  have f1 : Int32.ofInt (am_sch 20 1) = 97 := by decide +kernel
  have e2 : (Cond.eq (.elem (st_V 221) (.int 2)) (.int 105)).before args s = true := hs _ (List.mem_of_getElem? (i := 207) rfl)
  have f2 : Int32.ofInt (am_sch 20 2) = 105 := by decide +kernel
  have e3 : (Cond.eq (.elem (st_V 221) (.int 3)) (.int 116)).before args s = true := hs _ (List.mem_of_getElem? (i := 208) rfl)
  have f3 : Int32.ofInt (am_sch 20 3) = 116 := by decide +kernel
  have e4 : (Cond.eq (.elem (st_V 221) (.int 4)) (.int 115)).before args s = true := hs _ (List.mem_of_getElem? (i := 209) rfl)
  have f4 : Int32.ofInt (am_sch 20 4) = 115 := by decide +kernel
  refine am_str (i := 221) (len := 5) (f := fun j => Int32.ofInt (am_sch 20 j)) (by decide) h1 hex hco har hle (fun j hj => ?_) hA
  match j, hj with
  | 0, _ => show (Cond.eq (.elem (st_V 221) (.int (Int32.ofNat 0))) (.int (Int32.ofInt (am_sch 20 0)))).before args s = true; rw [f0]; exact e0
  | 1, _ => show (Cond.eq (.elem (st_V 221) (.int (Int32.ofNat 1))) (.int (Int32.ofInt (am_sch 20 1)))).before args s = true; rw [f1]; exact e1
  | 2, _ => show (Cond.eq (.elem (st_V 221) (.int (Int32.ofNat 2))) (.int (Int32.ofInt (am_sch 20 2)))).before args s = true; rw [f2]; exact e2
  | 3, _ => show (Cond.eq (.elem (st_V 221) (.int (Int32.ofNat 3))) (.int (Int32.ofInt (am_sch 20 3)))).before args s = true; rw [f3]; exact e3
  | 4, _ => show (Cond.eq (.elem (st_V 221) (.int (Int32.ofNat 4))) (.int (Int32.ofInt (am_sch 20 4)))).before args s = true; rw [f4]; exact e4
  | q + 5, hj => exact absurd hj (by omega)
theorem am_str_21 {args : Array Value} {s : State} {A : Nat → Prop} (hts : ∀ w ∈ lw_tbl, w.before args s = true) (hs : ∀ c ∈ st_L, c.before args s = true) (hA : ∀ a : Nat, a < s.heap.size → ¬ A a) : ∃ q : Nat × Nat, vk_R RX5 (am_sx.getD 21 0) (am_stx.getD 21 "") q.1 s ∧ va_O "java/lang/String" q.1 A s s.heap ∧ va_OF "java/lang/String" "coder" "B" (.int 0) q.1 A s s.heap ∧ va_OF "java/lang/String" "value" "[B" (.ref q.2) q.1 A s s.heap ∧ va_T .byte q.2 (am_slen 21) (fun j => .int (Int32.ofInt (am_sch 21 j))) A s s.heap := by
  have h1 : (Cond.stringRef RX5 223 "mood").before args s = true := hts _ (tb_3 (List.mem_of_getElem? (i := 197) rfl))
  have hex : (Cond.exactly (.string RX5 223) "java/lang/String").before args s = true := hs _ (List.mem_of_getElem? (i := 210) rfl)
  have hco : (Cond.eq (.field (.string RX5 223) "java/lang/String" "coder" "B") (.int 0)).before args s = true := hs _ (List.mem_of_getElem? (i := 211) rfl)
  have har : (Cond.arrayOf (st_V 223) .byte).before args s = true := hs _ (List.mem_of_getElem? (i := 212) rfl)
  have hle : (Cond.eq (.length (st_V 223)) (.int 4)).before args s = true := hs _ (List.mem_of_getElem? (i := 213) rfl)
  have e0 : (Cond.eq (.elem (st_V 223) (.int 0)) (.int 109)).before args s = true := hs _ (List.mem_of_getElem? (i := 214) rfl)
  have f0 : Int32.ofInt (am_sch 21 0) = 109 := by decide +kernel
  have e1 : (Cond.eq (.elem (st_V 223) (.int 1)) (.int 111)).before args s = true := hs _ (List.mem_of_getElem? (i := 215) rfl)
  have f1 : Int32.ofInt (am_sch 21 1) = 111 := by decide +kernel
  have e2 : (Cond.eq (.elem (st_V 223) (.int 2)) (.int 111)).before args s = true := hs _ (List.mem_of_getElem? (i := 216) rfl)
  have f2 : Int32.ofInt (am_sch 21 2) = 111 := by decide +kernel
  have e3 : (Cond.eq (.elem (st_V 223) (.int 3)) (.int 100)).before args s = true := hs _ (List.mem_of_getElem? (i := 217) rfl)
  have f3 : Int32.ofInt (am_sch 21 3) = 100 := by decide +kernel
  refine am_str (i := 223) (len := 4) (f := fun j => Int32.ofInt (am_sch 21 j)) (by decide) h1 hex hco har hle (fun j hj => ?_) hA
  match j, hj with
  | 0, _ => show (Cond.eq (.elem (st_V 223) (.int (Int32.ofNat 0))) (.int (Int32.ofInt (am_sch 21 0)))).before args s = true; rw [f0]; exact e0
  | 1, _ => show (Cond.eq (.elem (st_V 223) (.int (Int32.ofNat 1))) (.int (Int32.ofInt (am_sch 21 1)))).before args s = true; rw [f1]; exact e1
  | 2, _ => show (Cond.eq (.elem (st_V 223) (.int (Int32.ofNat 2))) (.int (Int32.ofInt (am_sch 21 2)))).before args s = true; rw [f2]; exact e2
  | 3, _ => show (Cond.eq (.elem (st_V 223) (.int (Int32.ofNat 3))) (.int (Int32.ofInt (am_sch 21 3)))).before args s = true; rw [f3]; exact e3
  | q + 4, hj => exact absurd hj (by omega)
theorem am_str_22 {args : Array Value} {s : State} {A : Nat → Prop} (hts : ∀ w ∈ lw_tbl, w.before args s = true) (hs : ∀ c ∈ st_L, c.before args s = true) (hA : ∀ a : Nat, a < s.heap.size → ¬ A a) : ∃ q : Nat × Nat, vk_R RX5 (am_sx.getD 22 0) (am_stx.getD 22 "") q.1 s ∧ va_O "java/lang/String" q.1 A s s.heap ∧ va_OF "java/lang/String" "coder" "B" (.int 0) q.1 A s s.heap ∧ va_OF "java/lang/String" "value" "[B" (.ref q.2) q.1 A s s.heap ∧ va_T .byte q.2 (am_slen 22) (fun j => .int (Int32.ofInt (am_sch 22 j))) A s s.heap := by
  have h1 : (Cond.stringRef RX5 182 "*").before args s = true := hts _ (tb_3 (List.mem_of_getElem? (i := 202) rfl))
  have hex : (Cond.exactly (.string RX5 182) "java/lang/String").before args s = true := hs _ (List.mem_of_getElem? (i := 218) rfl)
  have hco : (Cond.eq (.field (.string RX5 182) "java/lang/String" "coder" "B") (.int 0)).before args s = true := hs _ (List.mem_of_getElem? (i := 219) rfl)
  have har : (Cond.arrayOf (st_V 182) .byte).before args s = true := hs _ (List.mem_of_getElem? (i := 220) rfl)
  have hle : (Cond.eq (.length (st_V 182)) (.int 1)).before args s = true := hs _ (List.mem_of_getElem? (i := 221) rfl)
  have e0 : (Cond.eq (.elem (st_V 182) (.int 0)) (.int 42)).before args s = true := hs _ (List.mem_of_getElem? (i := 222) rfl)
  have f0 : Int32.ofInt (am_sch 22 0) = 42 := by decide +kernel
  refine am_str (i := 182) (len := 1) (f := fun j => Int32.ofInt (am_sch 22 j)) (by decide) h1 hex hco har hle (fun j hj => ?_) hA
  match j, hj with
  | 0, _ => show (Cond.eq (.elem (st_V 182) (.int (Int32.ofNat 0))) (.int (Int32.ofInt (am_sch 22 0)))).before args s = true; rw [f0]; exact e0
  | q + 1, hj => exact absurd hj (by omega)
theorem am_str_23 {args : Array Value} {s : State} {A : Nat → Prop} (hts : ∀ w ∈ lw_tbl, w.before args s = true) (hs : ∀ c ∈ st_L, c.before args s = true) (hA : ∀ a : Nat, a < s.heap.size → ¬ A a) : ∃ q : Nat × Nat, vk_R RX5 (am_sx.getD 23 0) (am_stx.getD 23 "") q.1 s ∧ va_O "java/lang/String" q.1 A s s.heap ∧ va_OF "java/lang/String" "coder" "B" (.int 0) q.1 A s s.heap ∧ va_OF "java/lang/String" "value" "[B" (.ref q.2) q.1 A s s.heap ∧ va_T .byte q.2 (am_slen 23) (fun j => .int (Int32.ofInt (am_sch 23 j))) A s s.heap := by
  have h1 : (Cond.stringRef RX5 184 "/").before args s = true := hts _ (tb_3 (List.mem_of_getElem? (i := 203) rfl))
  have hex : (Cond.exactly (.string RX5 184) "java/lang/String").before args s = true := hs _ (List.mem_of_getElem? (i := 223) rfl)
  have hco : (Cond.eq (.field (.string RX5 184) "java/lang/String" "coder" "B") (.int 0)).before args s = true := hs _ (List.mem_of_getElem? (i := 224) rfl)
  have har : (Cond.arrayOf (st_V 184) .byte).before args s = true := hs _ (List.mem_of_getElem? (i := 225) rfl)
  have hle : (Cond.eq (.length (st_V 184)) (.int 1)).before args s = true := hs _ (List.mem_of_getElem? (i := 226) rfl)
  have e0 : (Cond.eq (.elem (st_V 184) (.int 0)) (.int 47)).before args s = true := hs _ (List.mem_of_getElem? (i := 227) rfl)
  have f0 : Int32.ofInt (am_sch 23 0) = 47 := by decide +kernel
  refine am_str (i := 184) (len := 1) (f := fun j => Int32.ofInt (am_sch 23 j)) (by decide) h1 hex hco har hle (fun j hj => ?_) hA
  match j, hj with
  | 0, _ => show (Cond.eq (.elem (st_V 184) (.int (Int32.ofNat 0))) (.int (Int32.ofInt (am_sch 23 0)))).before args s = true; rw [f0]; exact e0
  | q + 1, hj => exact absurd hj (by omega)
theorem am_str_24 {args : Array Value} {s : State} {A : Nat → Prop} (hts : ∀ w ∈ lw_tbl, w.before args s = true) (hs : ∀ c ∈ st_L, c.before args s = true) (hA : ∀ a : Nat, a < s.heap.size → ¬ A a) : ∃ q : Nat × Nat, vk_R RX5 (am_sx.getD 24 0) (am_stx.getD 24 "") q.1 s ∧ va_O "java/lang/String" q.1 A s s.heap ∧ va_OF "java/lang/String" "coder" "B" (.int 0) q.1 A s s.heap ∧ va_OF "java/lang/String" "value" "[B" (.ref q.2) q.1 A s s.heap ∧ va_T .byte q.2 (am_slen 24) (fun j => .int (Int32.ofInt (am_sch 24 j))) A s s.heap := by
  have h1 : (Cond.stringRef RX5 186 "%").before args s = true := hts _ (tb_3 (List.mem_of_getElem? (i := 204) rfl))
  have hex : (Cond.exactly (.string RX5 186) "java/lang/String").before args s = true := hs _ (List.mem_of_getElem? (i := 228) rfl)
  have hco : (Cond.eq (.field (.string RX5 186) "java/lang/String" "coder" "B") (.int 0)).before args s = true := hs _ (List.mem_of_getElem? (i := 229) rfl)
  have har : (Cond.arrayOf (st_V 186) .byte).before args s = true := hs _ (List.mem_of_getElem? (i := 230) rfl)
  have hle : (Cond.eq (.length (st_V 186)) (.int 1)).before args s = true := hs _ (List.mem_of_getElem? (i := 231) rfl)
  have e0 : (Cond.eq (.elem (st_V 186) (.int 0)) (.int 37)).before args s = true := hs _ (List.mem_of_getElem? (i := 232) rfl)
  have f0 : Int32.ofInt (am_sch 24 0) = 37 := by decide +kernel
  refine am_str (i := 186) (len := 1) (f := fun j => Int32.ofInt (am_sch 24 j)) (by decide) h1 hex hco har hle (fun j hj => ?_) hA
  match j, hj with
  | 0, _ => show (Cond.eq (.elem (st_V 186) (.int (Int32.ofNat 0))) (.int (Int32.ofInt (am_sch 24 0)))).before args s = true; rw [f0]; exact e0
  | q + 1, hj => exact absurd hj (by omega)
theorem am_str_25 {args : Array Value} {s : State} {A : Nat → Prop} (hts : ∀ w ∈ lw_tbl, w.before args s = true) (hs : ∀ c ∈ st_L, c.before args s = true) (hA : ∀ a : Nat, a < s.heap.size → ¬ A a) : ∃ q : Nat × Nat, vk_R RX5 (am_sx.getD 25 0) (am_stx.getD 25 "") q.1 s ∧ va_O "java/lang/String" q.1 A s s.heap ∧ va_OF "java/lang/String" "coder" "B" (.int 0) q.1 A s s.heap ∧ va_OF "java/lang/String" "value" "[B" (.ref q.2) q.1 A s s.heap ∧ va_T .byte q.2 (am_slen 25) (fun j => .int (Int32.ofInt (am_sch 25 j))) A s s.heap := by
  have h1 : (Cond.stringRef RX5 175 "+").before args s = true := hts _ (tb_3 (List.mem_of_getElem? (i := 205) rfl))
  have hex : (Cond.exactly (.string RX5 175) "java/lang/String").before args s = true := hs _ (List.mem_of_getElem? (i := 233) rfl)
  have hco : (Cond.eq (.field (.string RX5 175) "java/lang/String" "coder" "B") (.int 0)).before args s = true := hs _ (List.mem_of_getElem? (i := 234) rfl)
  have har : (Cond.arrayOf (st_V 175) .byte).before args s = true := hs _ (List.mem_of_getElem? (i := 235) rfl)
  have hle : (Cond.eq (.length (st_V 175)) (.int 1)).before args s = true := hs _ (List.mem_of_getElem? (i := 236) rfl)
  have e0 : (Cond.eq (.elem (st_V 175) (.int 0)) (.int 43)).before args s = true := hs _ (List.mem_of_getElem? (i := 237) rfl)
  have f0 : Int32.ofInt (am_sch 25 0) = 43 := by decide +kernel
  refine am_str (i := 175) (len := 1) (f := fun j => Int32.ofInt (am_sch 25 j)) (by decide) h1 hex hco har hle (fun j hj => ?_) hA
  match j, hj with
  | 0, _ => show (Cond.eq (.elem (st_V 175) (.int (Int32.ofNat 0))) (.int (Int32.ofInt (am_sch 25 0)))).before args s = true; rw [f0]; exact e0
  | q + 1, hj => exact absurd hj (by omega)
theorem am_str_26 {args : Array Value} {s : State} {A : Nat → Prop} (hts : ∀ w ∈ lw_tbl, w.before args s = true) (hs : ∀ c ∈ st_L, c.before args s = true) (hA : ∀ a : Nat, a < s.heap.size → ¬ A a) : ∃ q : Nat × Nat, vk_R RX5 (am_sx.getD 26 0) (am_stx.getD 26 "") q.1 s ∧ va_O "java/lang/String" q.1 A s s.heap ∧ va_OF "java/lang/String" "coder" "B" (.int 0) q.1 A s s.heap ∧ va_OF "java/lang/String" "value" "[B" (.ref q.2) q.1 A s s.heap ∧ va_T .byte q.2 (am_slen 26) (fun j => .int (Int32.ofInt (am_sch 26 j))) A s s.heap := by
  have h1 : (Cond.stringRef RX5 177 "-").before args s = true := hts _ (tb_3 (List.mem_of_getElem? (i := 206) rfl))
  have hex : (Cond.exactly (.string RX5 177) "java/lang/String").before args s = true := hs _ (List.mem_of_getElem? (i := 238) rfl)
  have hco : (Cond.eq (.field (.string RX5 177) "java/lang/String" "coder" "B") (.int 0)).before args s = true := hs _ (List.mem_of_getElem? (i := 239) rfl)
  have har : (Cond.arrayOf (st_V 177) .byte).before args s = true := hs _ (List.mem_of_getElem? (i := 240) rfl)
  have hle : (Cond.eq (.length (st_V 177)) (.int 1)).before args s = true := hs _ (List.mem_of_getElem? (i := 241) rfl)
  have e0 : (Cond.eq (.elem (st_V 177) (.int 0)) (.int 45)).before args s = true := hs _ (List.mem_of_getElem? (i := 242) rfl)
  have f0 : Int32.ofInt (am_sch 26 0) = 45 := by decide +kernel
  refine am_str (i := 177) (len := 1) (f := fun j => Int32.ofInt (am_sch 26 j)) (by decide) h1 hex hco har hle (fun j hj => ?_) hA
  match j, hj with
  | 0, _ => show (Cond.eq (.elem (st_V 177) (.int (Int32.ofNat 0))) (.int (Int32.ofInt (am_sch 26 0)))).before args s = true; rw [f0]; exact e0
  | q + 1, hj => exact absurd hj (by omega)
theorem am_str_27 {args : Array Value} {s : State} {A : Nat → Prop} (hts : ∀ w ∈ lw_tbl, w.before args s = true) (hs : ∀ c ∈ st_L, c.before args s = true) (hA : ∀ a : Nat, a < s.heap.size → ¬ A a) : ∃ q : Nat × Nat, vk_R RX5 (am_sx.getD 27 0) (am_stx.getD 27 "") q.1 s ∧ va_O "java/lang/String" q.1 A s s.heap ∧ va_OF "java/lang/String" "coder" "B" (.int 0) q.1 A s s.heap ∧ va_OF "java/lang/String" "value" "[B" (.ref q.2) q.1 A s s.heap ∧ va_T .byte q.2 (am_slen 27) (fun j => .int (Int32.ofInt (am_sch 27 j))) A s s.heap := by
  have h1 : (Cond.stringRef RX5 106 "times").before args s = true := hts _ (tb_3 (List.mem_of_getElem? (i := 207) rfl))
  have hex : (Cond.exactly (.string RX5 106) "java/lang/String").before args s = true := hs _ (List.mem_of_getElem? (i := 243) rfl)
  have hco : (Cond.eq (.field (.string RX5 106) "java/lang/String" "coder" "B") (.int 0)).before args s = true := hs _ (List.mem_of_getElem? (i := 244) rfl)
  have har : (Cond.arrayOf (st_V 106) .byte).before args s = true := hs _ (List.mem_of_getElem? (i := 245) rfl)
  have hle : (Cond.eq (.length (st_V 106)) (.int 5)).before args s = true := hs _ (List.mem_of_getElem? (i := 246) rfl)
  have e0 : (Cond.eq (.elem (st_V 106) (.int 0)) (.int 116)).before args s = true := hs _ (List.mem_of_getElem? (i := 247) rfl)
  have f0 : Int32.ofInt (am_sch 27 0) = 116 := by decide +kernel
  have e1 : (Cond.eq (.elem (st_V 106) (.int 1)) (.int 105)).before args s = true := hs _ (List.mem_of_getElem? (i := 248) rfl)
  have f1 : Int32.ofInt (am_sch 27 1) = 105 := by decide +kernel
  have e2 : (Cond.eq (.elem (st_V 106) (.int 2)) (.int 109)).before args s = true := hs _ (List.mem_of_getElem? (i := 249) rfl)
  have f2 : Int32.ofInt (am_sch 27 2) = 109 := by decide +kernel
  have e3 : (Cond.eq (.elem (st_V 106) (.int 3)) (.int 101)).before args s = true := hs _ (List.mem_of_getElem? (i := 250) rfl)
  have f3 : Int32.ofInt (am_sch 27 3) = 101 := by decide +kernel
  have e4 : (Cond.eq (.elem (st_V 106) (.int 4)) (.int 115)).before args s = true := hs _ (List.mem_of_getElem? (i := 251) rfl)
  have f4 : Int32.ofInt (am_sch 27 4) = 115 := by decide +kernel
  refine am_str (i := 106) (len := 5) (f := fun j => Int32.ofInt (am_sch 27 j)) (by decide) h1 hex hco har hle (fun j hj => ?_) hA
  match j, hj with
  | 0, _ => show (Cond.eq (.elem (st_V 106) (.int (Int32.ofNat 0))) (.int (Int32.ofInt (am_sch 27 0)))).before args s = true; rw [f0]; exact e0
  | 1, _ => show (Cond.eq (.elem (st_V 106) (.int (Int32.ofNat 1))) (.int (Int32.ofInt (am_sch 27 1)))).before args s = true; rw [f1]; exact e1
  | 2, _ => show (Cond.eq (.elem (st_V 106) (.int (Int32.ofNat 2))) (.int (Int32.ofInt (am_sch 27 2)))).before args s = true; rw [f2]; exact e2
  | 3, _ => show (Cond.eq (.elem (st_V 106) (.int (Int32.ofNat 3))) (.int (Int32.ofInt (am_sch 27 3)))).before args s = true; rw [f3]; exact e3
  | 4, _ => show (Cond.eq (.elem (st_V 106) (.int (Int32.ofNat 4))) (.int (Int32.ofInt (am_sch 27 4)))).before args s = true; rw [f4]; exact e4
  | q + 5, hj => exact absurd hj (by omega)
theorem am_str_28 {args : Array Value} {s : State} {A : Nat → Prop} (hts : ∀ w ∈ lw_tbl, w.before args s = true) (hs : ∀ c ∈ st_L, c.before args s = true) (hA : ∀ a : Nat, a < s.heap.size → ¬ A a) : ∃ q : Nat × Nat, vk_R RX5 (am_sx.getD 28 0) (am_stx.getD 28 "") q.1 s ∧ va_O "java/lang/String" q.1 A s s.heap ∧ va_OF "java/lang/String" "coder" "B" (.int 0) q.1 A s s.heap ∧ va_OF "java/lang/String" "value" "[B" (.ref q.2) q.1 A s s.heap ∧ va_T .byte q.2 (am_slen 28) (fun j => .int (Int32.ofInt (am_sch 28 j))) A s s.heap := by
  have h1 : (Cond.stringRef RX5 111 "if").before args s = true := hts _ (tb_3 (List.mem_of_getElem? (i := 208) rfl))
  have hex : (Cond.exactly (.string RX5 111) "java/lang/String").before args s = true := hs _ (List.mem_of_getElem? (i := 252) rfl)
  have hco : (Cond.eq (.field (.string RX5 111) "java/lang/String" "coder" "B") (.int 0)).before args s = true := hs _ (List.mem_of_getElem? (i := 253) rfl)
  have har : (Cond.arrayOf (st_V 111) .byte).before args s = true := hs _ (List.mem_of_getElem? (i := 254) rfl)
  have hle : (Cond.eq (.length (st_V 111)) (.int 2)).before args s = true := hs _ (List.mem_of_getElem? (i := 255) rfl)
  have e0 : (Cond.eq (.elem (st_V 111) (.int 0)) (.int 105)).before args s = true := hs _ (List.mem_of_getElem? (i := 256) rfl)
  have f0 : Int32.ofInt (am_sch 28 0) = 105 := by decide +kernel
  have e1 : (Cond.eq (.elem (st_V 111) (.int 1)) (.int 102)).before args s = true := hs _ (List.mem_of_getElem? (i := 257) rfl)
  have f1 : Int32.ofInt (am_sch 28 1) = 102 := by decide +kernel
  refine am_str (i := 111) (len := 2) (f := fun j => Int32.ofInt (am_sch 28 j)) (by decide) h1 hex hco har hle (fun j hj => ?_) hA
  match j, hj with
  | 0, _ => show (Cond.eq (.elem (st_V 111) (.int (Int32.ofNat 0))) (.int (Int32.ofInt (am_sch 28 0)))).before args s = true; rw [f0]; exact e0
  | 1, _ => show (Cond.eq (.elem (st_V 111) (.int (Int32.ofNat 1))) (.int (Int32.ofInt (am_sch 28 1)))).before args s = true; rw [f1]; exact e1
  | q + 2, hj => exact absurd hj (by omega)
theorem am_str_29 {args : Array Value} {s : State} {A : Nat → Prop} (hts : ∀ w ∈ lw_tbl, w.before args s = true) (hs : ∀ c ∈ st_L, c.before args s = true) (hA : ∀ a : Nat, a < s.heap.size → ¬ A a) : ∃ q : Nat × Nat, vk_R RX5 (am_sx.getD 29 0) (am_stx.getD 29 "") q.1 s ∧ va_O "java/lang/String" q.1 A s s.heap ∧ va_OF "java/lang/String" "coder" "B" (.int 0) q.1 A s s.heap ∧ va_OF "java/lang/String" "value" "[B" (.ref q.2) q.1 A s s.heap ∧ va_T .byte q.2 (am_slen 29) (fun j => .int (Int32.ofInt (am_sch 29 j))) A s s.heap := by
  have h1 : (Cond.stringRef RX5 157 "not").before args s = true := hts _ (tb_3 (List.mem_of_getElem? (i := 221) rfl))
  have hex : (Cond.exactly (.string RX5 157) "java/lang/String").before args s = true := hs _ (List.mem_of_getElem? (i := 258) rfl)
  have hco : (Cond.eq (.field (.string RX5 157) "java/lang/String" "coder" "B") (.int 0)).before args s = true := hs _ (List.mem_of_getElem? (i := 259) rfl)
  have har : (Cond.arrayOf (st_V 157) .byte).before args s = true := hs _ (List.mem_of_getElem? (i := 260) rfl)
  have hle : (Cond.eq (.length (st_V 157)) (.int 3)).before args s = true := hs _ (List.mem_of_getElem? (i := 261) rfl)
  have e0 : (Cond.eq (.elem (st_V 157) (.int 0)) (.int 110)).before args s = true := hs _ (List.mem_of_getElem? (i := 262) rfl)
  have f0 : Int32.ofInt (am_sch 29 0) = 110 := by decide +kernel
  have e1 : (Cond.eq (.elem (st_V 157) (.int 1)) (.int 111)).before args s = true := hs _ (List.mem_of_getElem? (i := 263) rfl)
  have f1 : Int32.ofInt (am_sch 29 1) = 111 := by decide +kernel
  have e2 : (Cond.eq (.elem (st_V 157) (.int 2)) (.int 116)).before args s = true := hs _ (List.mem_of_getElem? (i := 264) rfl)
  have f2 : Int32.ofInt (am_sch 29 2) = 116 := by decide +kernel
  refine am_str (i := 157) (len := 3) (f := fun j => Int32.ofInt (am_sch 29 j)) (by decide) h1 hex hco har hle (fun j hj => ?_) hA
  match j, hj with
  | 0, _ => show (Cond.eq (.elem (st_V 157) (.int (Int32.ofNat 0))) (.int (Int32.ofInt (am_sch 29 0)))).before args s = true; rw [f0]; exact e0
  | 1, _ => show (Cond.eq (.elem (st_V 157) (.int (Int32.ofNat 1))) (.int (Int32.ofInt (am_sch 29 1)))).before args s = true; rw [f1]; exact e1
  | 2, _ => show (Cond.eq (.elem (st_V 157) (.int (Int32.ofNat 2))) (.int (Int32.ofInt (am_sch 29 2)))).before args s = true; rw [f2]; exact e2
  | q + 3, hj => exact absurd hj (by omega)
theorem am_str_30 {args : Array Value} {s : State} {A : Nat → Prop} (hts : ∀ w ∈ lw_tbl, w.before args s = true) (hs : ∀ c ∈ st_L, c.before args s = true) (hA : ∀ a : Nat, a < s.heap.size → ¬ A a) : ∃ q : Nat × Nat, vk_R RX5 (am_sx.getD 30 0) (am_stx.getD 30 "") q.1 s ∧ va_O "java/lang/String" q.1 A s s.heap ∧ va_OF "java/lang/String" "coder" "B" (.int 0) q.1 A s s.heap ∧ va_OF "java/lang/String" "value" "[B" (.ref q.2) q.1 A s s.heap ∧ va_T .byte q.2 (am_slen 30) (fun j => .int (Int32.ofInt (am_sch 30 j))) A s s.heap := by
  have h1 : (Cond.stringRef RX5 159 "(").before args s = true := hts _ (tb_3 (List.mem_of_getElem? (i := 222) rfl))
  have hex : (Cond.exactly (.string RX5 159) "java/lang/String").before args s = true := hs _ (List.mem_of_getElem? (i := 265) rfl)
  have hco : (Cond.eq (.field (.string RX5 159) "java/lang/String" "coder" "B") (.int 0)).before args s = true := hs _ (List.mem_of_getElem? (i := 266) rfl)
  have har : (Cond.arrayOf (st_V 159) .byte).before args s = true := hs _ (List.mem_of_getElem? (i := 267) rfl)
  have hle : (Cond.eq (.length (st_V 159)) (.int 1)).before args s = true := hs _ (List.mem_of_getElem? (i := 268) rfl)
  have e0 : (Cond.eq (.elem (st_V 159) (.int 0)) (.int 40)).before args s = true := hs _ (List.mem_of_getElem? (i := 269) rfl)
  have f0 : Int32.ofInt (am_sch 30 0) = 40 := by decide +kernel
  refine am_str (i := 159) (len := 1) (f := fun j => Int32.ofInt (am_sch 30 j)) (by decide) h1 hex hco har hle (fun j hj => ?_) hA
  match j, hj with
  | 0, _ => show (Cond.eq (.elem (st_V 159) (.int (Int32.ofNat 0))) (.int (Int32.ofInt (am_sch 30 0)))).before args s = true; rw [f0]; exact e0
  | q + 1, hj => exact absurd hj (by omega)
theorem am_str_31 {args : Array Value} {s : State} {A : Nat → Prop} (hts : ∀ w ∈ lw_tbl, w.before args s = true) (hs : ∀ c ∈ st_L, c.before args s = true) (hA : ∀ a : Nat, a < s.heap.size → ¬ A a) : ∃ q : Nat × Nat, vk_R RX5 (am_sx.getD 31 0) (am_stx.getD 31 "") q.1 s ∧ va_O "java/lang/String" q.1 A s s.heap ∧ va_OF "java/lang/String" "coder" "B" (.int 0) q.1 A s s.heap ∧ va_OF "java/lang/String" "value" "[B" (.ref q.2) q.1 A s s.heap ∧ va_T .byte q.2 (am_slen 31) (fun j => .int (Int32.ofInt (am_sch 31 j))) A s s.heap := by
  have h1 : (Cond.stringRef RX5 164 ")").before args s = true := hts _ (tb_3 (List.mem_of_getElem? (i := 223) rfl))
  have hex : (Cond.exactly (.string RX5 164) "java/lang/String").before args s = true := hs _ (List.mem_of_getElem? (i := 270) rfl)
  have hco : (Cond.eq (.field (.string RX5 164) "java/lang/String" "coder" "B") (.int 0)).before args s = true := hs _ (List.mem_of_getElem? (i := 271) rfl)
  have har : (Cond.arrayOf (st_V 164) .byte).before args s = true := hs _ (List.mem_of_getElem? (i := 272) rfl)
  have hle : (Cond.eq (.length (st_V 164)) (.int 1)).before args s = true := hs _ (List.mem_of_getElem? (i := 273) rfl)
  have e0 : (Cond.eq (.elem (st_V 164) (.int 0)) (.int 41)).before args s = true := hs _ (List.mem_of_getElem? (i := 274) rfl)
  have f0 : Int32.ofInt (am_sch 31 0) = 41 := by decide +kernel
  refine am_str (i := 164) (len := 1) (f := fun j => Int32.ofInt (am_sch 31 j)) (by decide) h1 hex hco har hle (fun j hj => ?_) hA
  match j, hj with
  | 0, _ => show (Cond.eq (.elem (st_V 164) (.int (Int32.ofNat 0))) (.int (Int32.ofInt (am_sch 31 0)))).before args s = true; rw [f0]; exact e0
  | q + 1, hj => exact absurd hj (by omega)
theorem am_str_32 {args : Array Value} {s : State} {A : Nat → Prop} (hts : ∀ w ∈ lw_tbl, w.before args s = true) (hs : ∀ c ∈ st_L, c.before args s = true) (hA : ∀ a : Nat, a < s.heap.size → ¬ A a) : ∃ q : Nat × Nat, vk_R RX5 (am_sx.getD 32 0) (am_stx.getD 32 "") q.1 s ∧ va_O "java/lang/String" q.1 A s s.heap ∧ va_OF "java/lang/String" "coder" "B" (.int 0) q.1 A s s.heap ∧ va_OF "java/lang/String" "value" "[B" (.ref q.2) q.1 A s s.heap ∧ va_T .byte q.2 (am_slen 32) (fun j => .int (Int32.ofInt (am_sch 32 j))) A s s.heap := by
  have h1 : (Cond.stringRef RX5 166 "<").before args s = true := hts _ (tb_3 (List.mem_of_getElem? (i := 224) rfl))
  have hex : (Cond.exactly (.string RX5 166) "java/lang/String").before args s = true := hs _ (List.mem_of_getElem? (i := 275) rfl)
  have hco : (Cond.eq (.field (.string RX5 166) "java/lang/String" "coder" "B") (.int 0)).before args s = true := hs _ (List.mem_of_getElem? (i := 276) rfl)
  have har : (Cond.arrayOf (st_V 166) .byte).before args s = true := hs _ (List.mem_of_getElem? (i := 277) rfl)
  have hle : (Cond.eq (.length (st_V 166)) (.int 1)).before args s = true := hs _ (List.mem_of_getElem? (i := 278) rfl)
  have e0 : (Cond.eq (.elem (st_V 166) (.int 0)) (.int 60)).before args s = true := hs _ (List.mem_of_getElem? (i := 279) rfl)
  have f0 : Int32.ofInt (am_sch 32 0) = 60 := by decide +kernel
  refine am_str (i := 166) (len := 1) (f := fun j => Int32.ofInt (am_sch 32 j)) (by decide) h1 hex hco har hle (fun j hj => ?_) hA
  match j, hj with
  | 0, _ => show (Cond.eq (.elem (st_V 166) (.int (Int32.ofNat 0))) (.int (Int32.ofInt (am_sch 32 0)))).before args s = true; rw [f0]; exact e0
  | q + 1, hj => exact absurd hj (by omega)
theorem am_str_33 {args : Array Value} {s : State} {A : Nat → Prop} (hts : ∀ w ∈ lw_tbl, w.before args s = true) (hs : ∀ c ∈ st_L, c.before args s = true) (hA : ∀ a : Nat, a < s.heap.size → ¬ A a) : ∃ q : Nat × Nat, vk_R RX5 (am_sx.getD 33 0) (am_stx.getD 33 "") q.1 s ∧ va_O "java/lang/String" q.1 A s s.heap ∧ va_OF "java/lang/String" "coder" "B" (.int 0) q.1 A s s.heap ∧ va_OF "java/lang/String" "value" "[B" (.ref q.2) q.1 A s s.heap ∧ va_T .byte q.2 (am_slen 33) (fun j => .int (Int32.ofInt (am_sch 33 j))) A s s.heap := by
  have h1 : (Cond.stringRef RX5 168 ">").before args s = true := hts _ (tb_3 (List.mem_of_getElem? (i := 225) rfl))
  have hex : (Cond.exactly (.string RX5 168) "java/lang/String").before args s = true := hs _ (List.mem_of_getElem? (i := 280) rfl)
  have hco : (Cond.eq (.field (.string RX5 168) "java/lang/String" "coder" "B") (.int 0)).before args s = true := hs _ (List.mem_of_getElem? (i := 281) rfl)
  have har : (Cond.arrayOf (st_V 168) .byte).before args s = true := hs _ (List.mem_of_getElem? (i := 282) rfl)
  have hle : (Cond.eq (.length (st_V 168)) (.int 1)).before args s = true := hs _ (List.mem_of_getElem? (i := 283) rfl)
  have e0 : (Cond.eq (.elem (st_V 168) (.int 0)) (.int 62)).before args s = true := hs _ (List.mem_of_getElem? (i := 284) rfl)
  have f0 : Int32.ofInt (am_sch 33 0) = 62 := by decide +kernel
  refine am_str (i := 168) (len := 1) (f := fun j => Int32.ofInt (am_sch 33 j)) (by decide) h1 hex hco har hle (fun j hj => ?_) hA
  match j, hj with
  | 0, _ => show (Cond.eq (.elem (st_V 168) (.int (Int32.ofNat 0))) (.int (Int32.ofInt (am_sch 33 0)))).before args s = true; rw [f0]; exact e0
  | q + 1, hj => exact absurd hj (by omega)
theorem am_str_34 {args : Array Value} {s : State} {A : Nat → Prop} (hts : ∀ w ∈ lw_tbl, w.before args s = true) (hs : ∀ c ∈ st_L, c.before args s = true) (hA : ∀ a : Nat, a < s.heap.size → ¬ A a) : ∃ q : Nat × Nat, vk_R RX5 (am_sx.getD 34 0) (am_stx.getD 34 "") q.1 s ∧ va_O "java/lang/String" q.1 A s s.heap ∧ va_OF "java/lang/String" "coder" "B" (.int 0) q.1 A s s.heap ∧ va_OF "java/lang/String" "value" "[B" (.ref q.2) q.1 A s s.heap ∧ va_T .byte q.2 (am_slen 34) (fun j => .int (Int32.ofInt (am_sch 34 j))) A s s.heap := by
  have h1 : (Cond.stringRef RX5 170 "=").before args s = true := hts _ (tb_3 (List.mem_of_getElem? (i := 226) rfl))
  have hex : (Cond.exactly (.string RX5 170) "java/lang/String").before args s = true := hs _ (List.mem_of_getElem? (i := 285) rfl)
  have hco : (Cond.eq (.field (.string RX5 170) "java/lang/String" "coder" "B") (.int 0)).before args s = true := hs _ (List.mem_of_getElem? (i := 286) rfl)
  have har : (Cond.arrayOf (st_V 170) .byte).before args s = true := hs _ (List.mem_of_getElem? (i := 287) rfl)
  have hle : (Cond.eq (.length (st_V 170)) (.int 1)).before args s = true := hs _ (List.mem_of_getElem? (i := 288) rfl)
  have e0 : (Cond.eq (.elem (st_V 170) (.int 0)) (.int 61)).before args s = true := hs _ (List.mem_of_getElem? (i := 289) rfl)
  have f0 : Int32.ofInt (am_sch 34 0) = 61 := by decide +kernel
  refine am_str (i := 170) (len := 1) (f := fun j => Int32.ofInt (am_sch 34 j)) (by decide) h1 hex hco har hle (fun j hj => ?_) hA
  match j, hj with
  | 0, _ => show (Cond.eq (.elem (st_V 170) (.int (Int32.ofNat 0))) (.int (Int32.ofInt (am_sch 34 0)))).before args s = true; rw [f0]; exact e0
  | q + 1, hj => exact absurd hj (by omega)
theorem am_str_35 {args : Array Value} {s : State} {A : Nat → Prop} (hts : ∀ w ∈ lw_tbl, w.before args s = true) (hs : ∀ c ∈ st_L, c.before args s = true) (hA : ∀ a : Nat, a < s.heap.size → ¬ A a) : ∃ q : Nat × Nat, vk_R RX5 (am_sx.getD 35 0) (am_stx.getD 35 "") q.1 s ∧ va_O "java/lang/String" q.1 A s s.heap ∧ va_OF "java/lang/String" "coder" "B" (.int 0) q.1 A s s.heap ∧ va_OF "java/lang/String" "value" "[B" (.ref q.2) q.1 A s s.heap ∧ va_T .byte q.2 (am_slen 35) (fun j => .int (Int32.ofInt (am_sch 35 j))) A s s.heap := by
  have h1 : (Cond.stringRef RX5 155 "and").before args s = true := hts _ (tb_3 (List.mem_of_getElem? (i := 227) rfl))
  have hex : (Cond.exactly (.string RX5 155) "java/lang/String").before args s = true := hs _ (List.mem_of_getElem? (i := 290) rfl)
  have hco : (Cond.eq (.field (.string RX5 155) "java/lang/String" "coder" "B") (.int 0)).before args s = true := hs _ (List.mem_of_getElem? (i := 291) rfl)
  have har : (Cond.arrayOf (st_V 155) .byte).before args s = true := hs _ (List.mem_of_getElem? (i := 292) rfl)
  have hle : (Cond.eq (.length (st_V 155)) (.int 3)).before args s = true := hs _ (List.mem_of_getElem? (i := 293) rfl)
  have e0 : (Cond.eq (.elem (st_V 155) (.int 0)) (.int 97)).before args s = true := hs _ (List.mem_of_getElem? (i := 294) rfl)
  have f0 : Int32.ofInt (am_sch 35 0) = 97 := by decide +kernel
  have e1 : (Cond.eq (.elem (st_V 155) (.int 1)) (.int 110)).before args s = true := hs _ (List.mem_of_getElem? (i := 295) rfl)
  have f1 : Int32.ofInt (am_sch 35 1) = 110 := by decide +kernel
  have e2 : (Cond.eq (.elem (st_V 155) (.int 2)) (.int 100)).before args s = true := hs _ (List.mem_of_getElem? (i := 296) rfl)
  have f2 : Int32.ofInt (am_sch 35 2) = 100 := by decide +kernel
  refine am_str (i := 155) (len := 3) (f := fun j => Int32.ofInt (am_sch 35 j)) (by decide) h1 hex hco har hle (fun j hj => ?_) hA
  match j, hj with
  | 0, _ => show (Cond.eq (.elem (st_V 155) (.int (Int32.ofNat 0))) (.int (Int32.ofInt (am_sch 35 0)))).before args s = true; rw [f0]; exact e0
  | 1, _ => show (Cond.eq (.elem (st_V 155) (.int (Int32.ofNat 1))) (.int (Int32.ofInt (am_sch 35 1)))).before args s = true; rw [f1]; exact e1
  | 2, _ => show (Cond.eq (.elem (st_V 155) (.int (Int32.ofNat 2))) (.int (Int32.ofInt (am_sch 35 2)))).before args s = true; rw [f2]; exact e2
  | q + 3, hj => exact absurd hj (by omega)
theorem am_str_36 {args : Array Value} {s : State} {A : Nat → Prop} (hts : ∀ w ∈ lw_tbl, w.before args s = true) (hs : ∀ c ∈ st_L, c.before args s = true) (hA : ∀ a : Nat, a < s.heap.size → ¬ A a) : ∃ q : Nat × Nat, vk_R RX5 (am_sx.getD 36 0) (am_stx.getD 36 "") q.1 s ∧ va_O "java/lang/String" q.1 A s s.heap ∧ va_OF "java/lang/String" "coder" "B" (.int 0) q.1 A s s.heap ∧ va_OF "java/lang/String" "value" "[B" (.ref q.2) q.1 A s s.heap ∧ va_T .byte q.2 (am_slen 36) (fun j => .int (Int32.ofInt (am_sch 36 j))) A s s.heap := by
  have h1 : (Cond.stringRef RX5 143 "or").before args s = true := hts _ (tb_3 (List.mem_of_getElem? (i := 232) rfl))
  have hex : (Cond.exactly (.string RX5 143) "java/lang/String").before args s = true := hs _ (List.mem_of_getElem? (i := 297) rfl)
  have hco : (Cond.eq (.field (.string RX5 143) "java/lang/String" "coder" "B") (.int 0)).before args s = true := hs _ (List.mem_of_getElem? (i := 298) rfl)
  have har : (Cond.arrayOf (st_V 143) .byte).before args s = true := hs _ (List.mem_of_getElem? (i := 299) rfl)
  have hle : (Cond.eq (.length (st_V 143)) (.int 2)).before args s = true := hs _ (List.mem_of_getElem? (i := 300) rfl)
  have e0 : (Cond.eq (.elem (st_V 143) (.int 0)) (.int 111)).before args s = true := hs _ (List.mem_of_getElem? (i := 301) rfl)
  have f0 : Int32.ofInt (am_sch 36 0) = 111 := by decide +kernel
  have e1 : (Cond.eq (.elem (st_V 143) (.int 1)) (.int 114)).before args s = true := hs _ (List.mem_of_getElem? (i := 302) rfl)
  have f1 : Int32.ofInt (am_sch 36 1) = 114 := by decide +kernel
  refine am_str (i := 143) (len := 2) (f := fun j => Int32.ofInt (am_sch 36 j)) (by decide) h1 hex hco har hle (fun j hj => ?_) hA
  match j, hj with
  | 0, _ => show (Cond.eq (.elem (st_V 143) (.int (Int32.ofNat 0))) (.int (Int32.ofInt (am_sch 36 0)))).before args s = true; rw [f0]; exact e0
  | 1, _ => show (Cond.eq (.elem (st_V 143) (.int (Int32.ofNat 1))) (.int (Int32.ofInt (am_sch 36 1)))).before args s = true; rw [f1]; exact e1
  | q + 2, hj => exact absurd hj (by omega)
theorem am_str_37 {args : Array Value} {s : State} {A : Nat → Prop} (hts : ∀ w ∈ lw_tbl, w.before args s = true) (hs : ∀ c ∈ st_L, c.before args s = true) (hA : ∀ a : Nat, a < s.heap.size → ¬ A a) : ∃ q : Nat × Nat, vk_R RX5 (am_sx.getD 37 0) (am_stx.getD 37 "") q.1 s ∧ va_O "java/lang/String" q.1 A s s.heap ∧ va_OF "java/lang/String" "coder" "B" (.int 0) q.1 A s s.heap ∧ va_OF "java/lang/String" "value" "[B" (.ref q.2) q.1 A s s.heap ∧ va_T .byte q.2 (am_slen 37) (fun j => .int (Int32.ofInt (am_sch 37 j))) A s s.heap := by
  have h1 : (Cond.stringRef RX5 53 ";").before args s = true := hts _ (tb_3 (List.mem_of_getElem? (i := 233) rfl))
  have hex : (Cond.exactly (.string RX5 53) "java/lang/String").before args s = true := hs _ (List.mem_of_getElem? (i := 303) rfl)
  have hco : (Cond.eq (.field (.string RX5 53) "java/lang/String" "coder" "B") (.int 0)).before args s = true := hs _ (List.mem_of_getElem? (i := 304) rfl)
  have har : (Cond.arrayOf (st_V 53) .byte).before args s = true := hs _ (List.mem_of_getElem? (i := 305) rfl)
  have hle : (Cond.eq (.length (st_V 53)) (.int 1)).before args s = true := hs _ (List.mem_of_getElem? (i := 306) rfl)
  have e0 : (Cond.eq (.elem (st_V 53) (.int 0)) (.int 59)).before args s = true := hs _ (List.mem_of_getElem? (i := 307) rfl)
  have f0 : Int32.ofInt (am_sch 37 0) = 59 := by decide +kernel
  refine am_str (i := 53) (len := 1) (f := fun j => Int32.ofInt (am_sch 37 j)) (by decide) h1 hex hco har hle (fun j hj => ?_) hA
  match j, hj with
  | 0, _ => show (Cond.eq (.elem (st_V 53) (.int (Int32.ofNat 0))) (.int (Int32.ofInt (am_sch 37 0)))).before args s = true; rw [f0]; exact e0
  | q + 1, hj => exact absurd hj (by omega)
theorem am_strs {args : Array Value} {s : State} {A : Nat → Prop} (hts : ∀ w ∈ lw_tbl, w.before args s = true) (hs : ∀ c ∈ st_L, c.before args s = true) (hA : ∀ a : Nat, a < s.heap.size → ¬ A a) : ∀ k, k < 38 → ∃ q : Nat × Nat, vk_R RX5 (am_sx.getD k 0) (am_stx.getD k "") q.1 s ∧ va_O "java/lang/String" q.1 A s s.heap ∧ va_OF "java/lang/String" "coder" "B" (.int 0) q.1 A s s.heap ∧ va_OF "java/lang/String" "value" "[B" (.ref q.2) q.1 A s s.heap ∧ va_T .byte q.2 (am_slen k) (fun j => .int (Int32.ofInt (am_sch k j))) A s s.heap := by
  intro k hk
  match k, hk with
  | 0, _ => exact am_str_0 hts hs hA
  | 1, _ => exact am_str_1 hts hs hA
  | 2, _ => exact am_str_2 hts hs hA
  | 3, _ => exact am_str_3 hts hs hA
  | 4, _ => exact am_str_4 hts hs hA
  | 5, _ => exact am_str_5 hts hs hA
  | 6, _ => exact am_str_6 hts hs hA
  | 7, _ => exact am_str_7 hts hs hA
  | 8, _ => exact am_str_8 hts hs hA
  | 9, _ => exact am_str_9 hts hs hA
  | 10, _ => exact am_str_10 hts hs hA
  | 11, _ => exact am_str_11 hts hs hA
  | 12, _ => exact am_str_12 hts hs hA
  | 13, _ => exact am_str_13 hts hs hA
  | 14, _ => exact am_str_14 hts hs hA
  | 15, _ => exact am_str_15 hts hs hA
  | 16, _ => exact am_str_16 hts hs hA
  | 17, _ => exact am_str_17 hts hs hA
  | 18, _ => exact am_str_18 hts hs hA
  | 19, _ => exact am_str_19 hts hs hA
  | 20, _ => exact am_str_20 hts hs hA
  | 21, _ => exact am_str_21 hts hs hA
  | 22, _ => exact am_str_22 hts hs hA
  | 23, _ => exact am_str_23 hts hs hA
  | 24, _ => exact am_str_24 hts hs hA
  | 25, _ => exact am_str_25 hts hs hA
  | 26, _ => exact am_str_26 hts hs hA
  | 27, _ => exact am_str_27 hts hs hA
  | 28, _ => exact am_str_28 hts hs hA
  | 29, _ => exact am_str_29 hts hs hA
  | 30, _ => exact am_str_30 hts hs hA
  | 31, _ => exact am_str_31 hts hs hA
  | 32, _ => exact am_str_32 hts hs hA
  | 33, _ => exact am_str_33 hts hs hA
  | 34, _ => exact am_str_34 hts hs hA
  | 35, _ => exact am_str_35 hts hs hA
  | 36, _ => exact am_str_36 hts hs hA
  | 37, _ => exact am_str_37 hts hs hA
  | q + 38, hk => exact absurd hk (by omega)
/-- the machine's things from outside, and the tables' numbers -/
theorem am_start {args : Array Value} {s : State} (hts : ∀ w ∈ lw_tbl, w.before args s = true) (hgv : (Jvm.Cond.and given_1 narrow_1).before args s = true) (b : Nat) : ∃ E : am_E, E.1 = s.heap.size ∧ E.2.1 38 = b ∧ va_K E.2.2.2.1 vwCl (am_tys E) s ∧ am_X E s := by
  have hs : ∀ c ∈ st_L, c.before args s = true := flat_of_before _ hgv
  have hT : ∀ w ∈ am_TB, w.before args s = true := fun w hw => hts w (List.mem_filter.mp hw).1
  have hA : ∀ a : Nat, a < s.heap.size → ¬ (s.heap.size ≤ a) := fun a h => Nat.not_le.mpr h
  -- the classes
  have hc : ∀ ci : Nat, ∃ q : ClassId × (Nat → Nat), ci < 13 → u_Kn s (am_C ci) (am_T ci) (am_N ci) q.1 q.2 := fun ci => by
    by_cases h : ci < 13
    · have hi : (Cond.instantiable (am_C ci) (am_N ci)) ∈ am_TB := by
        match ci, h with
        | 0, _ => exact tw_RX0
        | 1, _ => exact tw_RX1
        | 2, _ => exact tw_RX2
        | 3, _ => exact tw_RX3
        | 4, _ => exact tw_RX4
        | 5, _ => exact tw_RX5
        | 6, _ => exact tw_RX6
        | 7, _ => exact tw_RX7
        | 8, _ => exact tw_RX8
        | 9, _ => exact tw_RX9
        | 10, _ => exact tw_RX10
        | 11, _ => exact tw_RX11
        | 12, _ => exact tw_RX12
        | q + 13, h => exact absurd h (by omega)
      obtain ⟨cC, iS, hK⟩ := u_known hT (am_lay ci h) (hT _ hi)
      exact ⟨(cC, iS), fun _ => hK⟩
    · exact ⟨(0, fun _ => 0), fun z => absurd z h⟩
  obtain ⟨fc, hfc⟩ := Classical.axiomOfChoice hc
  -- the arrays
  obtain ⟨cI, kI, pI, iI1, iI2, iI3⟩ := Cond.arrayClass_spec (hT _ aw_int)
  obtain ⟨cB, kB, pB, iB1, iB2, iB3⟩ := Cond.arrayClass_spec (hT _ aw_byte)
  obtain ⟨cZ, kZ, pZ, iZ1, iZ2, iZ3⟩ := Cond.arrayClass_spec (hT _ aw_boolean)
  obtain ⟨cL, kL, pL, iL1, iL2, iL3⟩ := Cond.arrayClass_spec (hT _ aw_long)
  have o0 : (Cond.arrayOver (.object RX0)).before args s = true := hts _ (tb_1 (List.mem_of_getElem? (i := 165) rfl))
  have o4 : (Cond.arrayOver (.object RX4)).before args s = true := hts _ (tb_1 (List.mem_of_getElem? (i := 88) rfl))
  obtain ⟨pX, cX, kX, iX1, iX2, iX3, iX4, iX5⟩ := Cond.arrayOver_spec o0
  obtain ⟨pY, cY, kY, iY1, iY2, iY3, iY4, iY5⟩ := Cond.arrayOver_spec o4
  -- the texts
  have hq : ∀ k : Nat, ∃ q : Nat × Nat, k < 38 → vk_R RX5 (am_sx.getD k 0) (am_stx.getD k "") q.1 s ∧ va_O "java/lang/String" q.1 (fun q => s.heap.size ≤ q) s s.heap ∧ va_OF "java/lang/String" "coder" "B" (.int 0) q.1 (fun q => s.heap.size ≤ q) s s.heap ∧ va_OF "java/lang/String" "value" "[B" (.ref q.2) q.1 (fun q => s.heap.size ≤ q) s s.heap ∧ va_T .byte q.2 (am_slen k) (fun j => .int (Int32.ofInt (am_sch k j))) (fun q => s.heap.size ≤ q) s s.heap := fun k => by
    by_cases h : k < 38
    · obtain ⟨q, hq⟩ := am_strs hts hs hA k h
      exact ⟨q, fun _ => hq⟩
    · exact ⟨(0, 0), fun z => absurd z h⟩
  obtain ⟨fq, hfq⟩ := Classical.axiomOfChoice hq
  -- the statics
  have z1 : (Cond.eq (.static "java/lang/String" "COMPACT_STRINGS" "Z") (.int 1)).before args s = true := hs _ (List.mem_of_getElem? (i := 4) rfl)
  have z2 : (Cond.isRef (.static "jdk/internal/util/Preconditions" "SIOOBE_FORMATTER" "Ljava/util/function/BiFunction;")).before args s = true := hs _ (List.mem_of_getElem? (i := 5) rfl)
  have l1 : (Cond.laysStatic "java/lang/String" "COMPACT_STRINGS" "Z").before args s = true := hts _ (tb_3 (List.mem_of_getElem? (i := 90) rfl))
  have l2 : (Cond.laysStatic "jdk/internal/util/Preconditions" "SIOOBE_FORMATTER" "Ljava/util/function/BiFunction;").before args s = true := hts _ (tb_3 (List.mem_of_getElem? (i := 106) rfl))
  have i1 : (Cond.initialized "java/lang/String").before args s = true := hts _ (tb_1 (List.mem_of_getElem? (i := 15) rfl))
  have i2 : (Cond.initialized "jdk/internal/util/Preconditions").before args s = true := hts _ (tb_1 (List.mem_of_getElem? (i := 17) rfl))
  have Z1 := va_Zof (A := fun q => s.heap.size ≤ q) l1 i1 (va_eqi z1) hA
  have Z2 := va_Zqof (A := fun q => s.heap.size ≤ q) l2 i2 z2 hA
  obtain ⟨t99, Z2⟩ : ∃ t99 : Nat, va_Z "jdk/internal/util/Preconditions" "SIOOBE_FORMATTER" "Ljava/util/function/BiFunction;" .null (fun q => s.heap.size ≤ q) s s.heap ∨ va_Z "jdk/internal/util/Preconditions" "SIOOBE_FORMATTER" "Ljava/util/function/BiFunction;" (.ref t99) (fun q => s.heap.size ≤ q) s s.heap := by
    rcases Z2 with h | ⟨t, h⟩
    · exact ⟨0, Or.inl h⟩
    · exact ⟨t, Or.inr h⟩
  obtain ⟨ad, ad1, ad2, ad3, ad4⟩ : ∃ ad : Nat → Nat, (∀ k, k < 38 → ad k = (fq k).1) ∧ ad 38 = b ∧ ad 99 = t99 ∧ ∀ k, k < 38 → ad (100 + k) = (fq k).2 :=
    ⟨fun k => if k < 38 then (fq k).1 else if k = 38 then b else if k = 99 then t99 else (fq (k - 100)).2, fun k h => if_pos h, rfl, rfl, fun k h => by
      show (if 100 + k < 38 then (fq (100 + k)).1 else if 100 + k = 38 then b else if 100 + k = 99 then t99 else (fq (100 + k - 100)).2) = _
      rw [if_neg (by omega), if_neg (by omega), if_neg (by omega), Nat.add_sub_cancel_left]⟩
  obtain ⟨ar, ar0, ar1, ar2, ar3, ar4, ar5⟩ : ∃ ar : Nat → ClassId, ar 20 = cI ∧ ar 21 = cB ∧ ar 22 = cZ ∧ ar 23 = cL ∧ ar 24 = cX ∧ ar 25 = cY := ⟨fun k => if k = 20 then cI else if k = 21 then cB else if k = 22 then cZ else if k = 23 then cL else if k = 24 then cX else cY, rfl, rfl, rfl, rfl, rfl, rfl⟩
  refine ⟨(s.heap.size, ad, fun _ => 0, (fun c => (fc c).1, fun c => (fc c).2), ar), rfl, ad2, ⟨fun c q h => ?_, fun k q h => ?_⟩, fun w hw => ?_, fun k hk => ?_, fun k hk => ?_, Z1, ?_, o0, o4⟩
  · have hlt : c < 13 := (List.getElem?_eq_some_iff.mp h).1
    rw [am_cl c hlt] at h
    cases h
    exact hfc c hlt
  · match k, h with
    | 0, h => cases h; show ArrOfT s (ar 20) .int ∧ va_RA s (ar 20) .int; rw [ar0]; exact ⟨fun N z => ⟨(fun k h => by cases h), kI, iI2, pI, iI3⟩, iI1⟩
    | 1, h => cases h; show ArrOfT s (ar 21) .byte ∧ va_RA s (ar 21) .byte; rw [ar1]; exact ⟨fun N z => ⟨(fun k h => by cases h), kB, iB2, pB, iB3⟩, iB1⟩
    | 2, h => cases h; show ArrOfT s (ar 22) .boolean ∧ va_RA s (ar 22) .boolean; rw [ar2]; exact ⟨fun N z => ⟨(fun k h => by cases h), kZ, iZ2, pZ, iZ3⟩, iZ1⟩
    | 3, h => cases h; show ArrOfT s (ar 23) .long ∧ va_RA s (ar 23) .long; rw [ar3]; exact ⟨fun N z => ⟨(fun k h => by cases h), kL, iL2, pL, iL3⟩, iL1⟩
    | 4, h => cases h; show ArrOfT s (ar 24) (.object RX0) ∧ va_RA s (ar 24) (.object RX0); rw [ar4]; exact ⟨fun N z => ⟨(fun k h => by cases h), kX, iX3, pX, iX4⟩, kX, pX, iX3, iX4, iX1, iX5⟩
    | 5, h => cases h; show ArrOfT s (ar 25) (.object RX4) ∧ va_RA s (ar 25) (.object RX4); rw [ar5]; exact ⟨fun N z => ⟨(fun k h => by cases h), kY, iY3, pY, iY4⟩, kY, pY, iY3, iY4, iY1, iY5⟩
    | q + 6, h => cases h
  · have hw2 := hts w (am_nest_tbl w hw)
    rcases am_nest_kind w hw with ⟨a, i, b, n, d, g, rfl⟩ | ⟨a, i, x, g, rfl⟩
    · exact va_Nw.of rfl hw2
    · exact va_Nw.of rfl hw2
  · show vk_R RX5 (am_sx.getD k 0) (am_stx.getD k "") (ad k) s
    rw [ad1 k hk]; exact (hfq k hk).1
  · show va_O "java/lang/String" (ad k) _ s s.heap ∧ va_OF "java/lang/String" "coder" "B" (.int 0) (ad k) _ s s.heap ∧ va_OF "java/lang/String" "value" "[B" (.ref (ad (100 + k))) (ad k) _ s s.heap ∧ va_T .byte (ad (100 + k)) (am_slen k) _ _ s s.heap
    rw [ad1 k hk, ad4 k hk]; exact (hfq k hk).2
  · show va_Z "jdk/internal/util/Preconditions" "SIOOBE_FORMATTER" "Ljava/util/function/BiFunction;" .null _ s s.heap ∨ va_Z "jdk/internal/util/Preconditions" "SIOOBE_FORMATTER" "Ljava/util/function/BiFunction;" (.ref (ad 99)) _ s s.heap
    rw [ad3]; exact Z2
