/-! WORDS: where each word that the frames use stands in the tables. -/
theorem tb_1 {w : Cond} (h : w ∈ tables_1_1) : w ∈ lw_tbl := List.mem_append_right _ (List.mem_append_left _ h)
theorem tb_2 {w : Cond} (h : w ∈ tables_1_2) : w ∈ lw_tbl := List.mem_append_right _ (List.mem_append_right _ (List.mem_append_left _ h))
theorem tb_3 {w : Cond} (h : w ∈ tables_1_3) : w ∈ lw_tbl := List.mem_append_right _ (List.mem_append_right _ (List.mem_append_right _ (List.mem_append_left _ h)))
theorem tb_4 {w : Cond} (h : w ∈ tables_1_4) : w ∈ lw_tbl := List.mem_append_right _ (List.mem_append_right _ (List.mem_append_right _ (List.mem_append_right _ (List.mem_append_left _ h))))
theorem tb_5 {w : Cond} (h : w ∈ tables_1_5) : w ∈ lw_tbl := List.mem_append_right _ (List.mem_append_right _ (List.mem_append_right _ (List.mem_append_right _ (List.mem_append_right _ (List.mem_append_left _ h)))))
theorem tb_6 {w : Cond} (h : w ∈ tables_1_6) : w ∈ lw_tbl := List.mem_append_right _ (List.mem_append_right _ (List.mem_append_right _ (List.mem_append_right _ (List.mem_append_right _ (List.mem_append_right _ (List.mem_append_left _ h))))))
theorem tb_7 {w : Cond} (h : w ∈ tables_1_7) : w ∈ lw_tbl := List.mem_append_right _ (List.mem_append_right _ (List.mem_append_right _ (List.mem_append_right _ (List.mem_append_right _ (List.mem_append_right _ (List.mem_append_right _ (List.mem_append_left _ h)))))))
theorem tb_8 {w : Cond} (h : w ∈ tables_1_8) : w ∈ lw_tbl := List.mem_append_right _ (List.mem_append_right _ (List.mem_append_right _ (List.mem_append_right _ (List.mem_append_right _ (List.mem_append_right _ (List.mem_append_right _ (List.mem_append_right _ (h))))))))
theorem am_lay0 : ∀ k, k < 12 → u_lay RX0 TX0 k ∈ am_TB := by
  intro k h
  match k, h with
  | 0, _ => exact am_TB_mem (tb_1 (List.mem_of_getElem? (i := 140) rfl)) rfl
  | 1, _ => exact am_TB_mem (tb_1 (List.mem_of_getElem? (i := 142) rfl)) rfl
  | 2, _ => exact am_TB_mem (tb_1 (List.mem_of_getElem? (i := 144) rfl)) rfl
  | 3, _ => exact am_TB_mem (tb_1 (List.mem_of_getElem? (i := 146) rfl)) rfl
  | 4, _ => exact am_TB_mem (tb_1 (List.mem_of_getElem? (i := 148) rfl)) rfl
  | 5, _ => exact am_TB_mem (tb_1 (List.mem_of_getElem? (i := 150) rfl)) rfl
  | 6, _ => exact am_TB_mem (tb_1 (List.mem_of_getElem? (i := 152) rfl)) rfl
  | 7, _ => exact am_TB_mem (tb_1 (List.mem_of_getElem? (i := 154) rfl)) rfl
  | 8, _ => exact am_TB_mem (tb_1 (List.mem_of_getElem? (i := 156) rfl)) rfl
  | 9, _ => exact am_TB_mem (tb_1 (List.mem_of_getElem? (i := 158) rfl)) rfl
  | 10, _ => exact am_TB_mem (tb_1 (List.mem_of_getElem? (i := 160) rfl)) rfl
  | 11, _ => exact am_TB_mem (tb_1 (List.mem_of_getElem? (i := 162) rfl)) rfl
  | k + 12, h => omega
theorem am_lay1 : ∀ k, k < 8 → u_lay RX1 TX1 k ∈ am_TB := by
  intro k h
  match k, h with
  | 0, _ => exact am_TB_mem (tb_2 (List.mem_of_getElem? (i := 38) rfl)) rfl
  | 1, _ => exact am_TB_mem (tb_2 (List.mem_of_getElem? (i := 40) rfl)) rfl
  | 2, _ => exact am_TB_mem (tb_2 (List.mem_of_getElem? (i := 42) rfl)) rfl
  | 3, _ => exact am_TB_mem (tb_2 (List.mem_of_getElem? (i := 44) rfl)) rfl
  | 4, _ => exact am_TB_mem (tb_2 (List.mem_of_getElem? (i := 46) rfl)) rfl
  | 5, _ => exact am_TB_mem (tb_2 (List.mem_of_getElem? (i := 48) rfl)) rfl
  | 6, _ => exact am_TB_mem (tb_2 (List.mem_of_getElem? (i := 50) rfl)) rfl
  | 7, _ => exact am_TB_mem (tb_2 (List.mem_of_getElem? (i := 52) rfl)) rfl
  | k + 8, h => omega
theorem am_lay2 : ∀ k, k < 4 → u_lay RX2 TX2 k ∈ am_TB := by
  intro k h
  match k, h with
  | 0, _ => exact am_TB_mem (tb_1 (List.mem_of_getElem? (i := 236) rfl)) rfl
  | 1, _ => exact am_TB_mem (tb_1 (List.mem_of_getElem? (i := 238) rfl)) rfl
  | 2, _ => exact am_TB_mem (tb_2 (List.mem_of_getElem? (i := 0) rfl)) rfl
  | 3, _ => exact am_TB_mem (tb_2 (List.mem_of_getElem? (i := 2) rfl)) rfl
  | k + 4, h => omega
theorem am_lay3 : ∀ k, k < 2 → u_lay RX3 TX3 k ∈ am_TB := by
  intro k h
  match k, h with
  | 0, _ => exact am_TB_mem (tb_1 (List.mem_of_getElem? (i := 219) rfl)) rfl
  | 1, _ => exact am_TB_mem (tb_1 (List.mem_of_getElem? (i := 221) rfl)) rfl
  | k + 2, h => omega
theorem am_lay4 : ∀ k, k < 3 → u_lay RX4 TX4 k ∈ am_TB := by
  intro k h
  match k, h with
  | 0, _ => exact am_TB_mem (tb_1 (List.mem_of_getElem? (i := 106) rfl)) rfl
  | 1, _ => exact am_TB_mem (tb_1 (List.mem_of_getElem? (i := 108) rfl)) rfl
  | 2, _ => exact am_TB_mem (tb_1 (List.mem_of_getElem? (i := 110) rfl)) rfl
  | k + 3, h => omega
theorem am_lay5 : ∀ k, k < 7 → u_lay RX5 TX5 k ∈ am_TB := by
  intro k h
  match k, h with
  | 0, _ => exact am_TB_mem (tb_1 (List.mem_of_getElem? (i := 184) rfl)) rfl
  | 1, _ => exact am_TB_mem (tb_1 (List.mem_of_getElem? (i := 186) rfl)) rfl
  | 2, _ => exact am_TB_mem (tb_1 (List.mem_of_getElem? (i := 188) rfl)) rfl
  | 3, _ => exact am_TB_mem (tb_1 (List.mem_of_getElem? (i := 190) rfl)) rfl
  | 4, _ => exact am_TB_mem (tb_1 (List.mem_of_getElem? (i := 192) rfl)) rfl
  | 5, _ => exact am_TB_mem (tb_1 (List.mem_of_getElem? (i := 194) rfl)) rfl
  | 6, _ => exact am_TB_mem (tb_1 (List.mem_of_getElem? (i := 196) rfl)) rfl
  | k + 7, h => omega
theorem am_lay6 : ∀ k, k < 1 → u_lay RX6 TX6 k ∈ am_TB := by
  intro k h
  match k, h with
  | 0, _ => exact am_TB_mem (tb_1 (List.mem_of_getElem? (i := 213) rfl)) rfl
  | k + 1, h => omega
theorem am_lay7 : ∀ k, k < 3 → u_lay RX7 TX7 k ∈ am_TB := by
  intro k h
  match k, h with
  | 0, _ => exact am_TB_mem (tb_1 (List.mem_of_getElem? (i := 57) rfl)) rfl
  | 1, _ => exact am_TB_mem (tb_1 (List.mem_of_getElem? (i := 59) rfl)) rfl
  | 2, _ => exact am_TB_mem (tb_1 (List.mem_of_getElem? (i := 61) rfl)) rfl
  | k + 3, h => omega
theorem am_lay8 : ∀ k, k < 2 → u_lay RX8 TX8 k ∈ am_TB := by
  intro k h
  match k, h with
  | 0, _ => exact am_TB_mem (tb_2 (List.mem_of_getElem? (i := 65) rfl)) rfl
  | 1, _ => exact am_TB_mem (tb_2 (List.mem_of_getElem? (i := 67) rfl)) rfl
  | k + 2, h => omega
theorem am_lay9 : ∀ k, k < 2 → u_lay RX9 TX9 k ∈ am_TB := by
  intro k h
  match k, h with
  | 0, _ => exact am_TB_mem (tb_1 (List.mem_of_getElem? (i := 82) rfl)) rfl
  | 1, _ => exact am_TB_mem (tb_1 (List.mem_of_getElem? (i := 84) rfl)) rfl
  | k + 2, h => omega
theorem am_lay10 : ∀ k, k < 3 → u_lay RX10 TX10 k ∈ am_TB := by
  intro k h
  match k, h with
  | 0, _ => exact am_TB_mem (tb_2 (List.mem_of_getElem? (i := 16) rfl)) rfl
  | 1, _ => exact am_TB_mem (tb_2 (List.mem_of_getElem? (i := 18) rfl)) rfl
  | 2, _ => exact am_TB_mem (tb_2 (List.mem_of_getElem? (i := 20) rfl)) rfl
  | k + 3, h => omega
theorem am_lay11 : ∀ k, k < 20 → u_lay RX11 TX11 k ∈ am_TB := by
  intro k h
  match k, h with
  | 0, _ => exact am_TB_mem (tb_2 (List.mem_of_getElem? (i := 90) rfl)) rfl
  | 1, _ => exact am_TB_mem (tb_2 (List.mem_of_getElem? (i := 92) rfl)) rfl
  | 2, _ => exact am_TB_mem (tb_2 (List.mem_of_getElem? (i := 94) rfl)) rfl
  | 3, _ => exact am_TB_mem (tb_2 (List.mem_of_getElem? (i := 96) rfl)) rfl
  | 4, _ => exact am_TB_mem (tb_2 (List.mem_of_getElem? (i := 98) rfl)) rfl
  | 5, _ => exact am_TB_mem (tb_2 (List.mem_of_getElem? (i := 100) rfl)) rfl
  | 6, _ => exact am_TB_mem (tb_2 (List.mem_of_getElem? (i := 102) rfl)) rfl
  | 7, _ => exact am_TB_mem (tb_2 (List.mem_of_getElem? (i := 104) rfl)) rfl
  | 8, _ => exact am_TB_mem (tb_2 (List.mem_of_getElem? (i := 106) rfl)) rfl
  | 9, _ => exact am_TB_mem (tb_2 (List.mem_of_getElem? (i := 108) rfl)) rfl
  | 10, _ => exact am_TB_mem (tb_2 (List.mem_of_getElem? (i := 110) rfl)) rfl
  | 11, _ => exact am_TB_mem (tb_2 (List.mem_of_getElem? (i := 112) rfl)) rfl
  | 12, _ => exact am_TB_mem (tb_2 (List.mem_of_getElem? (i := 114) rfl)) rfl
  | 13, _ => exact am_TB_mem (tb_2 (List.mem_of_getElem? (i := 116) rfl)) rfl
  | 14, _ => exact am_TB_mem (tb_2 (List.mem_of_getElem? (i := 118) rfl)) rfl
  | 15, _ => exact am_TB_mem (tb_2 (List.mem_of_getElem? (i := 120) rfl)) rfl
  | 16, _ => exact am_TB_mem (tb_2 (List.mem_of_getElem? (i := 122) rfl)) rfl
  | 17, _ => exact am_TB_mem (tb_2 (List.mem_of_getElem? (i := 124) rfl)) rfl
  | 18, _ => exact am_TB_mem (tb_2 (List.mem_of_getElem? (i := 126) rfl)) rfl
  | 19, _ => exact am_TB_mem (tb_2 (List.mem_of_getElem? (i := 128) rfl)) rfl
  | k + 20, h => omega
theorem am_lay12 : ∀ k, k < 60 → u_lay RX12 TX12 k ∈ am_TB := by
  intro k h
  match k, h with
  | 0, _ => exact am_TB_mem (tb_5 (List.mem_of_getElem? (i := 215) rfl)) rfl
  | 1, _ => exact am_TB_mem (tb_5 (List.mem_of_getElem? (i := 217) rfl)) rfl
  | 2, _ => exact am_TB_mem (tb_5 (List.mem_of_getElem? (i := 219) rfl)) rfl
  | 3, _ => exact am_TB_mem (tb_5 (List.mem_of_getElem? (i := 221) rfl)) rfl
  | 4, _ => exact am_TB_mem (tb_5 (List.mem_of_getElem? (i := 223) rfl)) rfl
  | 5, _ => exact am_TB_mem (tb_5 (List.mem_of_getElem? (i := 225) rfl)) rfl
  | 6, _ => exact am_TB_mem (tb_5 (List.mem_of_getElem? (i := 227) rfl)) rfl
  | 7, _ => exact am_TB_mem (tb_5 (List.mem_of_getElem? (i := 229) rfl)) rfl
  | 8, _ => exact am_TB_mem (tb_5 (List.mem_of_getElem? (i := 231) rfl)) rfl
  | 9, _ => exact am_TB_mem (tb_5 (List.mem_of_getElem? (i := 233) rfl)) rfl
  | 10, _ => exact am_TB_mem (tb_5 (List.mem_of_getElem? (i := 235) rfl)) rfl
  | 11, _ => exact am_TB_mem (tb_5 (List.mem_of_getElem? (i := 237) rfl)) rfl
  | 12, _ => exact am_TB_mem (tb_5 (List.mem_of_getElem? (i := 239) rfl)) rfl
  | 13, _ => exact am_TB_mem (tb_6 (List.mem_of_getElem? (i := 1) rfl)) rfl
  | 14, _ => exact am_TB_mem (tb_6 (List.mem_of_getElem? (i := 3) rfl)) rfl
  | 15, _ => exact am_TB_mem (tb_6 (List.mem_of_getElem? (i := 5) rfl)) rfl
  | 16, _ => exact am_TB_mem (tb_6 (List.mem_of_getElem? (i := 7) rfl)) rfl
  | 17, _ => exact am_TB_mem (tb_6 (List.mem_of_getElem? (i := 9) rfl)) rfl
  | 18, _ => exact am_TB_mem (tb_6 (List.mem_of_getElem? (i := 11) rfl)) rfl
  | 19, _ => exact am_TB_mem (tb_6 (List.mem_of_getElem? (i := 13) rfl)) rfl
  | 20, _ => exact am_TB_mem (tb_6 (List.mem_of_getElem? (i := 15) rfl)) rfl
  | 21, _ => exact am_TB_mem (tb_6 (List.mem_of_getElem? (i := 17) rfl)) rfl
  | 22, _ => exact am_TB_mem (tb_6 (List.mem_of_getElem? (i := 19) rfl)) rfl
  | 23, _ => exact am_TB_mem (tb_6 (List.mem_of_getElem? (i := 21) rfl)) rfl
  | 24, _ => exact am_TB_mem (tb_6 (List.mem_of_getElem? (i := 23) rfl)) rfl
  | 25, _ => exact am_TB_mem (tb_6 (List.mem_of_getElem? (i := 25) rfl)) rfl
  | 26, _ => exact am_TB_mem (tb_6 (List.mem_of_getElem? (i := 27) rfl)) rfl
  | 27, _ => exact am_TB_mem (tb_6 (List.mem_of_getElem? (i := 29) rfl)) rfl
  | 28, _ => exact am_TB_mem (tb_6 (List.mem_of_getElem? (i := 31) rfl)) rfl
  | 29, _ => exact am_TB_mem (tb_6 (List.mem_of_getElem? (i := 33) rfl)) rfl
  | 30, _ => exact am_TB_mem (tb_6 (List.mem_of_getElem? (i := 35) rfl)) rfl
  | 31, _ => exact am_TB_mem (tb_6 (List.mem_of_getElem? (i := 37) rfl)) rfl
  | 32, _ => exact am_TB_mem (tb_6 (List.mem_of_getElem? (i := 39) rfl)) rfl
  | 33, _ => exact am_TB_mem (tb_6 (List.mem_of_getElem? (i := 41) rfl)) rfl
  | 34, _ => exact am_TB_mem (tb_6 (List.mem_of_getElem? (i := 43) rfl)) rfl
  | 35, _ => exact am_TB_mem (tb_6 (List.mem_of_getElem? (i := 45) rfl)) rfl
  | 36, _ => exact am_TB_mem (tb_6 (List.mem_of_getElem? (i := 47) rfl)) rfl
  | 37, _ => exact am_TB_mem (tb_6 (List.mem_of_getElem? (i := 49) rfl)) rfl
  | 38, _ => exact am_TB_mem (tb_6 (List.mem_of_getElem? (i := 51) rfl)) rfl
  | 39, _ => exact am_TB_mem (tb_6 (List.mem_of_getElem? (i := 53) rfl)) rfl
  | 40, _ => exact am_TB_mem (tb_6 (List.mem_of_getElem? (i := 55) rfl)) rfl
  | 41, _ => exact am_TB_mem (tb_6 (List.mem_of_getElem? (i := 57) rfl)) rfl
  | 42, _ => exact am_TB_mem (tb_6 (List.mem_of_getElem? (i := 59) rfl)) rfl
  | 43, _ => exact am_TB_mem (tb_6 (List.mem_of_getElem? (i := 61) rfl)) rfl
  | 44, _ => exact am_TB_mem (tb_6 (List.mem_of_getElem? (i := 63) rfl)) rfl
  | 45, _ => exact am_TB_mem (tb_6 (List.mem_of_getElem? (i := 65) rfl)) rfl
  | 46, _ => exact am_TB_mem (tb_6 (List.mem_of_getElem? (i := 67) rfl)) rfl
  | 47, _ => exact am_TB_mem (tb_6 (List.mem_of_getElem? (i := 69) rfl)) rfl
  | 48, _ => exact am_TB_mem (tb_6 (List.mem_of_getElem? (i := 71) rfl)) rfl
  | 49, _ => exact am_TB_mem (tb_6 (List.mem_of_getElem? (i := 73) rfl)) rfl
  | 50, _ => exact am_TB_mem (tb_6 (List.mem_of_getElem? (i := 75) rfl)) rfl
  | 51, _ => exact am_TB_mem (tb_6 (List.mem_of_getElem? (i := 77) rfl)) rfl
  | 52, _ => exact am_TB_mem (tb_6 (List.mem_of_getElem? (i := 79) rfl)) rfl
  | 53, _ => exact am_TB_mem (tb_6 (List.mem_of_getElem? (i := 81) rfl)) rfl
  | 54, _ => exact am_TB_mem (tb_6 (List.mem_of_getElem? (i := 83) rfl)) rfl
  | 55, _ => exact am_TB_mem (tb_6 (List.mem_of_getElem? (i := 85) rfl)) rfl
  | 56, _ => exact am_TB_mem (tb_6 (List.mem_of_getElem? (i := 87) rfl)) rfl
  | 57, _ => exact am_TB_mem (tb_6 (List.mem_of_getElem? (i := 89) rfl)) rfl
  | 58, _ => exact am_TB_mem (tb_6 (List.mem_of_getElem? (i := 91) rfl)) rfl
  | 59, _ => exact am_TB_mem (tb_6 (List.mem_of_getElem? (i := 93) rfl)) rfl
  | k + 60, h => omega
theorem am_lay : ∀ ci, ci < 13 → ∀ w ∈ u_ws (am_C ci) (am_T ci) (am_N ci), w ∈ am_TB := by
  intro ci h w hw
  obtain ⟨k, hk, rfl⟩ := List.mem_map.mp hw
  have hk := List.mem_range.mp hk
  match ci, h with
  | 0, _ => exact am_lay0 k hk
  | 1, _ => exact am_lay1 k hk
  | 2, _ => exact am_lay2 k hk
  | 3, _ => exact am_lay3 k hk
  | 4, _ => exact am_lay4 k hk
  | 5, _ => exact am_lay5 k hk
  | 6, _ => exact am_lay6 k hk
  | 7, _ => exact am_lay7 k hk
  | 8, _ => exact am_lay8 k hk
  | 9, _ => exact am_lay9 k hk
  | 10, _ => exact am_lay10 k hk
  | 11, _ => exact am_lay11 k hk
  | 12, _ => exact am_lay12 k hk
  | k + 13, h => omega
/-- links between nest mates -/
def am_nestW : List Cond := [(Cond.methodLinkNest "ShortPrayers" (9 : Nat) ({ cls := "ShortPrayers$Book", name := "<init>", desc := "()V" } : MethodName) "ShortPrayers"), (Cond.fieldLinkNest "ShortPrayers$Herald" (25 : Nat) "ShortPrayers$Rows" "size" "I" "ShortPrayers"), (Cond.fieldLinkNest "ShortPrayers$Wordings" (30 : Nat) "ShortPrayers$Rows" "size" "I" "ShortPrayers"), (Cond.fieldLinkNest "ShortPrayers$Reader" (48 : Nat) "ShortPrayers$Rows" "size" "I" "ShortPrayers"), (Cond.fieldLinkNest "ShortPrayers$Program" (28 : Nat) "ShortPrayers$Rows" "size" "I" "ShortPrayers"), (Cond.fieldLinkNest "ShortPrayers$Vigil" (24 : Nat) "ShortPrayers$Rows" "size" "I" "ShortPrayers"), (Cond.fieldLinkNest "ShortPrayers$Season" (45 : Nat) "ShortPrayers$Rows" "size" "I" "ShortPrayers"), (Cond.fieldLinkNest "ShortPrayers$Codes" (76 : Nat) "ShortPrayers$Rows" "size" "I" "ShortPrayers"), (Cond.fieldLinkNest "ShortPrayers$Judge" (56 : Nat) "ShortPrayers$Rows" "size" "I" "ShortPrayers"), (Cond.fieldLinkNest "ShortPrayers$Book" (74 : Nat) "ShortPrayers$Rows" "size" "I" "ShortPrayers"), (Cond.fieldLinkNest "ShortPrayers" (188 : Nat) "ShortPrayers$Rows" "size" "I" "ShortPrayers"), (Cond.methodLinkNest "ShortPrayers$Book" (34 : Nat) ({ cls := "ShortPrayers$Vigil", name := "<init>", desc := "()V" } : MethodName) "ShortPrayers"), (Cond.fieldLinkNest "ShortPrayers$Judge" (22 : Nat) "ShortPrayers$Vigil" "prayers" "LShortPrayers$Rows;" "ShortPrayers"), (Cond.fieldLinkNest "ShortPrayers$Herald" (21 : Nat) "ShortPrayers$Vigil" "prayers" "LShortPrayers$Rows;" "ShortPrayers"), (Cond.fieldLinkNest "ShortPrayers$Season" (40 : Nat) "ShortPrayers$Vigil" "prayers" "LShortPrayers$Rows;" "ShortPrayers"), (Cond.fieldLinkNest "ShortPrayers" (267 : Nat) "ShortPrayers$Vigil" "prayers" "LShortPrayers$Rows;" "ShortPrayers"), (Cond.fieldLinkNest "ShortPrayers$Book" (60 : Nat) "ShortPrayers$Vigil" "day" "I" "ShortPrayers"), (Cond.fieldLinkNest "ShortPrayers$Herald" (35 : Nat) "ShortPrayers$Vigil" "day" "I" "ShortPrayers"), (Cond.fieldLinkNest "ShortPrayers" (165 : Nat) "ShortPrayers$Vigil" "day" "I" "ShortPrayers"), (Cond.methodLinkNest "ShortPrayers$Book" (51 : Nat) ({ cls := "ShortPrayers$Program", name := "<init>", desc := "()V" } : MethodName) "ShortPrayers"), (Cond.fieldLinkNest "ShortPrayers$Reckoner" (36 : Nat) "ShortPrayers$Program" "steps" "[I" "ShortPrayers"), (Cond.fieldLinkNest "ShortPrayers$Reckoner" (27 : Nat) "ShortPrayers$Program" "size" "I" "ShortPrayers"), (Cond.fieldLinkNest "ShortPrayers$Reader" (145 : Nat) "ShortPrayers$Program" "size" "I" "ShortPrayers"), (Cond.fieldLinkNest "ShortPrayers$Reckoner" (15 : Nat) "ShortPrayers$Program" "clauses" "LShortPrayers$Rows;" "ShortPrayers"), (Cond.fieldLinkNest "ShortPrayers$Judge" (51 : Nat) "ShortPrayers$Program" "clauses" "LShortPrayers$Rows;" "ShortPrayers"), (Cond.fieldLinkNest "ShortPrayers$Reader" (92 : Nat) "ShortPrayers$Program" "clauses" "LShortPrayers$Rows;" "ShortPrayers"), (Cond.fieldLinkNest "ShortPrayers" (227 : Nat) "ShortPrayers$Program" "clauses" "LShortPrayers$Rows;" "ShortPrayers"), (Cond.fieldLinkNest "ShortPrayers" (121 : Nat) "ShortPrayers$Book" "words" "LShortPrayers$Rows;" "ShortPrayers"), (Cond.fieldLinkNest "ShortPrayers$Wordings" (56 : Nat) "ShortPrayers$Book" "words" "LShortPrayers$Rows;" "ShortPrayers"), (Cond.fieldLinkNest "ShortPrayers$Codes" (70 : Nat) "ShortPrayers$Book" "words" "LShortPrayers$Rows;" "ShortPrayers"), (Cond.fieldLinkNest "ShortPrayers$Wordings" (24 : Nat) "ShortPrayers$Book" "rules" "LShortPrayers$Rows;" "ShortPrayers"), (Cond.fieldLinkNest "ShortPrayers" (146 : Nat) "ShortPrayers$Book" "rules" "LShortPrayers$Rows;" "ShortPrayers"), (Cond.fieldLinkNest "ShortPrayers$Judge" (34 : Nat) "ShortPrayers$Book" "people" "LShortPrayers$Rows;" "ShortPrayers"), (Cond.fieldLinkNest "ShortPrayers" (156 : Nat) "ShortPrayers$Book" "people" "LShortPrayers$Rows;" "ShortPrayers"), (Cond.fieldLinkNest "ShortPrayers" (310 : Nat) "ShortPrayers$Book" "bundles" "LShortPrayers$Rows;" "ShortPrayers"), (Cond.fieldLinkNest "ShortPrayers" (337 : Nat) "ShortPrayers$Book" "answers" "LShortPrayers$Rows;" "ShortPrayers"), (Cond.fieldLinkNest "ShortPrayers" (162 : Nat) "ShortPrayers$Book" "vigil" "LShortPrayers$Vigil;" "ShortPrayers"), (Cond.fieldLinkNest "ShortPrayers$Codes" (85 : Nat) "ShortPrayers$Book" "often" "[I" "ShortPrayers"), (Cond.fieldLinkNest "ShortPrayers" (153 : Nat) "ShortPrayers$Book" "often" "[I" "ShortPrayers"), (Cond.fieldLinkNest "ShortPrayers" (204 : Nat) "ShortPrayers$Book" "laws" "[LShortPrayers$Program;" "ShortPrayers"), (Cond.fieldLinkNest "ShortPrayers" (201 : Nat) "ShortPrayers$Book" "lawCount" "I" "ShortPrayers"), (Cond.fieldLinkNest "ShortPrayers" (249 : Nat) "ShortPrayers$Book" "forced" "I" "ShortPrayers"), (Cond.methodLinkNest "ShortPrayers" (35 : Nat) ({ cls := "ShortPrayers$Program", name := "<init>", desc := "()V" } : MethodName) "ShortPrayers"), (Cond.fieldLinkNest "ShortPrayers" (246 : Nat) "ShortPrayers$Reader" "fault" "I" "ShortPrayers"), (Cond.methodLinkNest "ShortPrayers" (51 : Nat) ({ cls := "ShortPrayers$Judge", name := "<init>", desc := "()V" } : MethodName) "ShortPrayers"), (Cond.methodLinkNest "ShortPrayers$Judge" (17 : Nat) ({ cls := "ShortPrayers$Reckoner", name := "<init>", desc := "()V" } : MethodName) "ShortPrayers"), (Cond.fieldLinkNest "ShortPrayers" (233 : Nat) "ShortPrayers$Judge" "reckoner" "LShortPrayers$Reckoner;" "ShortPrayers"), (Cond.fieldLinkNest "ShortPrayers" (367 : Nat) "ShortPrayers$Herald" "heard" "I" "ShortPrayers"), (Cond.fieldLinkNest "ShortPrayers" (377 : Nat) "ShortPrayers$Herald" "grantedThings" "I" "ShortPrayers"), (Cond.methodLinkNest "ShortPrayers" (67 : Nat) ({ cls := "ShortPrayers$Vigil", name := "<init>", desc := "()V" } : MethodName) "ShortPrayers"), (Cond.methodLinkNest "ShortPrayers" (83 : Nat) ({ cls := "ShortPrayers$Wordings", name := "<init>", desc := "()V" } : MethodName) "ShortPrayers"), (Cond.methodLinkNest "ShortPrayers" (90 : Nat) ({ cls := "ShortPrayers$Codes", name := "<init>", desc := "()V" } : MethodName) "ShortPrayers"), (Cond.methodLinkNest "ShortPrayers" (97 : Nat) ({ cls := "ShortPrayers$Season", name := "<init>", desc := "()V" } : MethodName) "ShortPrayers"), (Cond.methodLinkNest "ShortPrayers$Book" (63 : Nat) ({ cls := "ShortPrayers", name := "isThing", desc := "(I)Z" } : MethodName) "ShortPrayers"), (Cond.methodLinkNest "ShortPrayers$Reader" (85 : Nat) ({ cls := "ShortPrayers", name := "within", desc := "(III)Z" } : MethodName) "ShortPrayers"), (Cond.methodLinkNest "ShortPrayers$Wordings" (44 : Nat) ({ cls := "ShortPrayers", name := "isThing", desc := "(I)Z" } : MethodName) "ShortPrayers"), (Cond.methodLinkNest "ShortPrayers$Herald" (61 : Nat) ({ cls := "ShortPrayers", name := "within", desc := "(III)Z" } : MethodName) "ShortPrayers"), (Cond.methodLinkNest "ShortPrayers$Codes" (63 : Nat) ({ cls := "ShortPrayers", name := "within", desc := "(III)Z" } : MethodName) "ShortPrayers"), (Cond.methodLinkNest "ShortPrayers$Codes" (88 : Nat) ({ cls := "ShortPrayers", name := "isThing", desc := "(I)Z" } : MethodName) "ShortPrayers")]
theorem am_nest_tbl : ∀ w ∈ am_nestW, w ∈ lw_tbl := by
  refine List.forall_mem_cons.mpr ⟨tb_1 (List.mem_of_getElem? (i := 31) rfl), List.forall_mem_cons.mpr ⟨tb_1 (List.mem_of_getElem? (i := 47) rfl), List.forall_mem_cons.mpr ⟨tb_1 (List.mem_of_getElem? (i := 48) rfl), List.forall_mem_cons.mpr ⟨tb_1 (List.mem_of_getElem? (i := 49) rfl), List.forall_mem_cons.mpr ⟨tb_1 (List.mem_of_getElem? (i := 50) rfl), List.forall_mem_cons.mpr ⟨tb_1 (List.mem_of_getElem? (i := 51) rfl), List.forall_mem_cons.mpr ⟨tb_1 (List.mem_of_getElem? (i := 52) rfl), List.forall_mem_cons.mpr ⟨tb_1 (List.mem_of_getElem? (i := 53) rfl), List.forall_mem_cons.mpr ⟨tb_1 (List.mem_of_getElem? (i := 54) rfl), List.forall_mem_cons.mpr ⟨tb_1 (List.mem_of_getElem? (i := 55) rfl), List.forall_mem_cons.mpr ⟨tb_1 (List.mem_of_getElem? (i := 56) rfl), List.forall_mem_cons.mpr ⟨tb_1 (List.mem_of_getElem? (i := 67) rfl), List.forall_mem_cons.mpr ⟨tb_1 (List.mem_of_getElem? (i := 74) rfl), List.forall_mem_cons.mpr ⟨tb_1 (List.mem_of_getElem? (i := 75) rfl), List.forall_mem_cons.mpr ⟨tb_1 (List.mem_of_getElem? (i := 76) rfl), List.forall_mem_cons.mpr ⟨tb_1 (List.mem_of_getElem? (i := 77) rfl), List.forall_mem_cons.mpr ⟨tb_1 (List.mem_of_getElem? (i := 78) rfl), List.forall_mem_cons.mpr ⟨tb_1 (List.mem_of_getElem? (i := 79) rfl), List.forall_mem_cons.mpr ⟨tb_1 (List.mem_of_getElem? (i := 81) rfl), List.forall_mem_cons.mpr ⟨tb_1 (List.mem_of_getElem? (i := 90) rfl), List.forall_mem_cons.mpr ⟨tb_1 (List.mem_of_getElem? (i := 97) rfl), List.forall_mem_cons.mpr ⟨tb_1 (List.mem_of_getElem? (i := 99) rfl), List.forall_mem_cons.mpr ⟨tb_1 (List.mem_of_getElem? (i := 100) rfl), List.forall_mem_cons.mpr ⟨tb_1 (List.mem_of_getElem? (i := 102) rfl), List.forall_mem_cons.mpr ⟨tb_1 (List.mem_of_getElem? (i := 103) rfl), List.forall_mem_cons.mpr ⟨tb_1 (List.mem_of_getElem? (i := 104) rfl), List.forall_mem_cons.mpr ⟨tb_1 (List.mem_of_getElem? (i := 105) rfl), List.forall_mem_cons.mpr ⟨tb_1 (List.mem_of_getElem? (i := 114) rfl), List.forall_mem_cons.mpr ⟨tb_1 (List.mem_of_getElem? (i := 115) rfl), List.forall_mem_cons.mpr ⟨tb_1 (List.mem_of_getElem? (i := 116) rfl), List.forall_mem_cons.mpr ⟨tb_1 (List.mem_of_getElem? (i := 118) rfl), List.forall_mem_cons.mpr ⟨tb_1 (List.mem_of_getElem? (i := 119) rfl), List.forall_mem_cons.mpr ⟨tb_1 (List.mem_of_getElem? (i := 121) rfl), List.forall_mem_cons.mpr ⟨tb_1 (List.mem_of_getElem? (i := 122) rfl), List.forall_mem_cons.mpr ⟨tb_1 (List.mem_of_getElem? (i := 124) rfl), List.forall_mem_cons.mpr ⟨tb_1 (List.mem_of_getElem? (i := 126) rfl), List.forall_mem_cons.mpr ⟨tb_1 (List.mem_of_getElem? (i := 128) rfl), List.forall_mem_cons.mpr ⟨tb_1 (List.mem_of_getElem? (i := 131) rfl), List.forall_mem_cons.mpr ⟨tb_1 (List.mem_of_getElem? (i := 132) rfl), List.forall_mem_cons.mpr ⟨tb_1 (List.mem_of_getElem? (i := 135) rfl), List.forall_mem_cons.mpr ⟨tb_1 (List.mem_of_getElem? (i := 137) rfl), List.forall_mem_cons.mpr ⟨tb_1 (List.mem_of_getElem? (i := 139) rfl), List.forall_mem_cons.mpr ⟨tb_1 (List.mem_of_getElem? (i := 169) rfl), List.forall_mem_cons.mpr ⟨tb_1 (List.mem_of_getElem? (i := 183) rfl), List.forall_mem_cons.mpr ⟨tb_1 (List.mem_of_getElem? (i := 202) rfl), List.forall_mem_cons.mpr ⟨tb_1 (List.mem_of_getElem? (i := 208) rfl), List.forall_mem_cons.mpr ⟨tb_1 (List.mem_of_getElem? (i := 218) rfl), List.forall_mem_cons.mpr ⟨tb_1 (List.mem_of_getElem? (i := 233) rfl), List.forall_mem_cons.mpr ⟨tb_1 (List.mem_of_getElem? (i := 235) rfl), List.forall_mem_cons.mpr ⟨tb_2 (List.mem_of_getElem? (i := 6) rfl), List.forall_mem_cons.mpr ⟨tb_2 (List.mem_of_getElem? (i := 9) rfl), List.forall_mem_cons.mpr ⟨tb_2 (List.mem_of_getElem? (i := 26) rfl), List.forall_mem_cons.mpr ⟨tb_2 (List.mem_of_getElem? (i := 57) rfl), List.forall_mem_cons.mpr ⟨tb_2 (List.mem_of_getElem? (i := 189) rfl), List.forall_mem_cons.mpr ⟨tb_3 (List.mem_of_getElem? (i := 176) rfl), List.forall_mem_cons.mpr ⟨tb_4 (List.mem_of_getElem? (i := 36) rfl), List.forall_mem_cons.mpr ⟨tb_4 (List.mem_of_getElem? (i := 88) rfl), List.forall_mem_cons.mpr ⟨tb_4 (List.mem_of_getElem? (i := 221) rfl), List.forall_mem_cons.mpr ⟨tb_4 (List.mem_of_getElem? (i := 231) rfl), fun _ h => absurd h List.not_mem_nil⟩⟩⟩⟩⟩⟩⟩⟩⟩⟩⟩⟩⟩⟩⟩⟩⟩⟩⟩⟩⟩⟩⟩⟩⟩⟩⟩⟩⟩⟩⟩⟩⟩⟩⟩⟩⟩⟩⟩⟩⟩⟩⟩⟩⟩⟩⟩⟩⟩⟩⟩⟩⟩⟩⟩⟩⟩⟩⟩
theorem am_nest_kind : ∀ w ∈ am_nestW, (∃ a i b n d h, w = .fieldLinkNest a i b n d h) ∨ ∃ a i x h, w = .methodLinkNest a i x h := by
  refine List.forall_mem_cons.mpr ⟨Or.inr ⟨_, _, _, _, rfl⟩, List.forall_mem_cons.mpr ⟨Or.inl ⟨_, _, _, _, _, _, rfl⟩, List.forall_mem_cons.mpr ⟨Or.inl ⟨_, _, _, _, _, _, rfl⟩, List.forall_mem_cons.mpr ⟨Or.inl ⟨_, _, _, _, _, _, rfl⟩, List.forall_mem_cons.mpr ⟨Or.inl ⟨_, _, _, _, _, _, rfl⟩, List.forall_mem_cons.mpr ⟨Or.inl ⟨_, _, _, _, _, _, rfl⟩, List.forall_mem_cons.mpr ⟨Or.inl ⟨_, _, _, _, _, _, rfl⟩, List.forall_mem_cons.mpr ⟨Or.inl ⟨_, _, _, _, _, _, rfl⟩, List.forall_mem_cons.mpr ⟨Or.inl ⟨_, _, _, _, _, _, rfl⟩, List.forall_mem_cons.mpr ⟨Or.inl ⟨_, _, _, _, _, _, rfl⟩, List.forall_mem_cons.mpr ⟨Or.inl ⟨_, _, _, _, _, _, rfl⟩, List.forall_mem_cons.mpr ⟨Or.inr ⟨_, _, _, _, rfl⟩, List.forall_mem_cons.mpr ⟨Or.inl ⟨_, _, _, _, _, _, rfl⟩, List.forall_mem_cons.mpr ⟨Or.inl ⟨_, _, _, _, _, _, rfl⟩, List.forall_mem_cons.mpr ⟨Or.inl ⟨_, _, _, _, _, _, rfl⟩, List.forall_mem_cons.mpr ⟨Or.inl ⟨_, _, _, _, _, _, rfl⟩, List.forall_mem_cons.mpr ⟨Or.inl ⟨_, _, _, _, _, _, rfl⟩, List.forall_mem_cons.mpr ⟨Or.inl ⟨_, _, _, _, _, _, rfl⟩, List.forall_mem_cons.mpr ⟨Or.inl ⟨_, _, _, _, _, _, rfl⟩, List.forall_mem_cons.mpr ⟨Or.inr ⟨_, _, _, _, rfl⟩, List.forall_mem_cons.mpr ⟨Or.inl ⟨_, _, _, _, _, _, rfl⟩, List.forall_mem_cons.mpr ⟨Or.inl ⟨_, _, _, _, _, _, rfl⟩, List.forall_mem_cons.mpr ⟨Or.inl ⟨_, _, _, _, _, _, rfl⟩, List.forall_mem_cons.mpr ⟨Or.inl ⟨_, _, _, _, _, _, rfl⟩, List.forall_mem_cons.mpr ⟨Or.inl ⟨_, _, _, _, _, _, rfl⟩, List.forall_mem_cons.mpr ⟨Or.inl ⟨_, _, _, _, _, _, rfl⟩, List.forall_mem_cons.mpr ⟨Or.inl ⟨_, _, _, _, _, _, rfl⟩, List.forall_mem_cons.mpr ⟨Or.inl ⟨_, _, _, _, _, _, rfl⟩, List.forall_mem_cons.mpr ⟨Or.inl ⟨_, _, _, _, _, _, rfl⟩, List.forall_mem_cons.mpr ⟨Or.inl ⟨_, _, _, _, _, _, rfl⟩, List.forall_mem_cons.mpr ⟨Or.inl ⟨_, _, _, _, _, _, rfl⟩, List.forall_mem_cons.mpr ⟨Or.inl ⟨_, _, _, _, _, _, rfl⟩, List.forall_mem_cons.mpr ⟨Or.inl ⟨_, _, _, _, _, _, rfl⟩, List.forall_mem_cons.mpr ⟨Or.inl ⟨_, _, _, _, _, _, rfl⟩, List.forall_mem_cons.mpr ⟨Or.inl ⟨_, _, _, _, _, _, rfl⟩, List.forall_mem_cons.mpr ⟨Or.inl ⟨_, _, _, _, _, _, rfl⟩, List.forall_mem_cons.mpr ⟨Or.inl ⟨_, _, _, _, _, _, rfl⟩, List.forall_mem_cons.mpr ⟨Or.inl ⟨_, _, _, _, _, _, rfl⟩, List.forall_mem_cons.mpr ⟨Or.inl ⟨_, _, _, _, _, _, rfl⟩, List.forall_mem_cons.mpr ⟨Or.inl ⟨_, _, _, _, _, _, rfl⟩, List.forall_mem_cons.mpr ⟨Or.inl ⟨_, _, _, _, _, _, rfl⟩, List.forall_mem_cons.mpr ⟨Or.inl ⟨_, _, _, _, _, _, rfl⟩, List.forall_mem_cons.mpr ⟨Or.inr ⟨_, _, _, _, rfl⟩, List.forall_mem_cons.mpr ⟨Or.inl ⟨_, _, _, _, _, _, rfl⟩, List.forall_mem_cons.mpr ⟨Or.inr ⟨_, _, _, _, rfl⟩, List.forall_mem_cons.mpr ⟨Or.inr ⟨_, _, _, _, rfl⟩, List.forall_mem_cons.mpr ⟨Or.inl ⟨_, _, _, _, _, _, rfl⟩, List.forall_mem_cons.mpr ⟨Or.inl ⟨_, _, _, _, _, _, rfl⟩, List.forall_mem_cons.mpr ⟨Or.inl ⟨_, _, _, _, _, _, rfl⟩, List.forall_mem_cons.mpr ⟨Or.inr ⟨_, _, _, _, rfl⟩, List.forall_mem_cons.mpr ⟨Or.inr ⟨_, _, _, _, rfl⟩, List.forall_mem_cons.mpr ⟨Or.inr ⟨_, _, _, _, rfl⟩, List.forall_mem_cons.mpr ⟨Or.inr ⟨_, _, _, _, rfl⟩, List.forall_mem_cons.mpr ⟨Or.inr ⟨_, _, _, _, rfl⟩, List.forall_mem_cons.mpr ⟨Or.inr ⟨_, _, _, _, rfl⟩, List.forall_mem_cons.mpr ⟨Or.inr ⟨_, _, _, _, rfl⟩, List.forall_mem_cons.mpr ⟨Or.inr ⟨_, _, _, _, rfl⟩, List.forall_mem_cons.mpr ⟨Or.inr ⟨_, _, _, _, rfl⟩, List.forall_mem_cons.mpr ⟨Or.inr ⟨_, _, _, _, rfl⟩, fun _ h => absurd h List.not_mem_nil⟩⟩⟩⟩⟩⟩⟩⟩⟩⟩⟩⟩⟩⟩⟩⟩⟩⟩⟩⟩⟩⟩⟩⟩⟩⟩⟩⟩⟩⟩⟩⟩⟩⟩⟩⟩⟩⟩⟩⟩⟩⟩⟩⟩⟩⟩⟩⟩⟩⟩⟩⟩⟩⟩⟩⟩⟩⟩⟩
def am_Fld (own : String) (idx ci k : Nat) : Prop := Cond.fieldLink own idx (am_C ci) (am_T ci k).2.1 (am_T ci k).2.2.1 ∈ am_TB ∨ Cond.fieldLinkNest own idx (am_C ci) (am_T ci k).2.1 (am_T ci k).2.2.1 RX11 ∈ am_nestW
theorem fl_RX7_21 : am_Fld RX7 21 7 0 := Or.inl (am_TB_mem (tb_1 (List.mem_of_getElem? (i := 44) rfl)) rfl)
theorem fl_RX7_15 : am_Fld RX7 15 7 1 := Or.inl (am_TB_mem (tb_1 (List.mem_of_getElem? (i := 45) rfl)) rfl)
theorem fl_RX7_25 : am_Fld RX7 25 7 2 := Or.inl (am_TB_mem (tb_1 (List.mem_of_getElem? (i := 46) rfl)) rfl)
theorem fl_RX2_25 : am_Fld RX2 25 7 2 := Or.inr (List.mem_of_getElem? (i := 1) rfl)
theorem fl_RX10_30 : am_Fld RX10 30 7 2 := Or.inr (List.mem_of_getElem? (i := 2) rfl)
theorem fl_RX5_48 : am_Fld RX5 48 7 2 := Or.inr (List.mem_of_getElem? (i := 3) rfl)
theorem fl_RX4_28 : am_Fld RX4 28 7 2 := Or.inr (List.mem_of_getElem? (i := 4) rfl)
theorem fl_RX9_24 : am_Fld RX9 24 7 2 := Or.inr (List.mem_of_getElem? (i := 5) rfl)
theorem fl_RX8_45 : am_Fld RX8 45 7 2 := Or.inr (List.mem_of_getElem? (i := 6) rfl)
theorem fl_RX1_76 : am_Fld RX1 76 7 2 := Or.inr (List.mem_of_getElem? (i := 7) rfl)
theorem fl_RX3_56 : am_Fld RX3 56 7 2 := Or.inr (List.mem_of_getElem? (i := 8) rfl)
theorem fl_RX0_74 : am_Fld RX0 74 7 2 := Or.inr (List.mem_of_getElem? (i := 9) rfl)
theorem fl_RX11_188 : am_Fld RX11 188 7 2 := Or.inr (List.mem_of_getElem? (i := 10) rfl)
theorem fl_RX9_16 : am_Fld RX9 16 9 0 := Or.inl (am_TB_mem (tb_1 (List.mem_of_getElem? (i := 73) rfl)) rfl)
theorem fl_RX3_22 : am_Fld RX3 22 9 0 := Or.inr (List.mem_of_getElem? (i := 12) rfl)
theorem fl_RX2_21 : am_Fld RX2 21 9 0 := Or.inr (List.mem_of_getElem? (i := 13) rfl)
theorem fl_RX8_40 : am_Fld RX8 40 9 0 := Or.inr (List.mem_of_getElem? (i := 14) rfl)
theorem fl_RX11_267 : am_Fld RX11 267 9 0 := Or.inr (List.mem_of_getElem? (i := 15) rfl)
theorem fl_RX0_60 : am_Fld RX0 60 9 1 := Or.inr (List.mem_of_getElem? (i := 16) rfl)
theorem fl_RX2_35 : am_Fld RX2 35 9 1 := Or.inr (List.mem_of_getElem? (i := 17) rfl)
theorem fl_RX9_40 : am_Fld RX9 40 9 1 := Or.inl (am_TB_mem (tb_1 (List.mem_of_getElem? (i := 80) rfl)) rfl)
theorem fl_RX11_165 : am_Fld RX11 165 9 1 := Or.inr (List.mem_of_getElem? (i := 18) rfl)
theorem fl_RX4_9 : am_Fld RX4 9 4 0 := Or.inl (am_TB_mem (tb_1 (List.mem_of_getElem? (i := 96) rfl)) rfl)
theorem fl_RX6_36 : am_Fld RX6 36 4 0 := Or.inr (List.mem_of_getElem? (i := 20) rfl)
theorem fl_RX4_24 : am_Fld RX4 24 4 1 := Or.inl (am_TB_mem (tb_1 (List.mem_of_getElem? (i := 98) rfl)) rfl)
theorem fl_RX6_27 : am_Fld RX6 27 4 1 := Or.inr (List.mem_of_getElem? (i := 21) rfl)
theorem fl_RX5_145 : am_Fld RX5 145 4 1 := Or.inr (List.mem_of_getElem? (i := 22) rfl)
theorem fl_RX4_20 : am_Fld RX4 20 4 2 := Or.inl (am_TB_mem (tb_1 (List.mem_of_getElem? (i := 101) rfl)) rfl)
theorem fl_RX6_15 : am_Fld RX6 15 4 2 := Or.inr (List.mem_of_getElem? (i := 23) rfl)
theorem fl_RX3_51 : am_Fld RX3 51 4 2 := Or.inr (List.mem_of_getElem? (i := 24) rfl)
theorem fl_RX5_92 : am_Fld RX5 92 4 2 := Or.inr (List.mem_of_getElem? (i := 25) rfl)
theorem fl_RX11_227 : am_Fld RX11 227 4 2 := Or.inr (List.mem_of_getElem? (i := 26) rfl)
theorem fl_RX0_14 : am_Fld RX0 14 0 0 := Or.inl (am_TB_mem (tb_1 (List.mem_of_getElem? (i := 113) rfl)) rfl)
theorem fl_RX11_121 : am_Fld RX11 121 0 0 := Or.inr (List.mem_of_getElem? (i := 27) rfl)
theorem fl_RX10_56 : am_Fld RX10 56 0 0 := Or.inr (List.mem_of_getElem? (i := 28) rfl)
theorem fl_RX1_70 : am_Fld RX1 70 0 0 := Or.inr (List.mem_of_getElem? (i := 29) rfl)
theorem fl_RX0_20 : am_Fld RX0 20 0 1 := Or.inl (am_TB_mem (tb_1 (List.mem_of_getElem? (i := 117) rfl)) rfl)
theorem fl_RX10_24 : am_Fld RX10 24 0 1 := Or.inr (List.mem_of_getElem? (i := 30) rfl)
theorem fl_RX11_146 : am_Fld RX11 146 0 1 := Or.inr (List.mem_of_getElem? (i := 31) rfl)
theorem fl_RX0_23 : am_Fld RX0 23 0 2 := Or.inl (am_TB_mem (tb_1 (List.mem_of_getElem? (i := 120) rfl)) rfl)
theorem fl_RX3_34 : am_Fld RX3 34 0 2 := Or.inr (List.mem_of_getElem? (i := 32) rfl)
theorem fl_RX11_156 : am_Fld RX11 156 0 2 := Or.inr (List.mem_of_getElem? (i := 33) rfl)
theorem fl_RX0_26 : am_Fld RX0 26 0 3 := Or.inl (am_TB_mem (tb_1 (List.mem_of_getElem? (i := 123) rfl)) rfl)
theorem fl_RX11_310 : am_Fld RX11 310 0 3 := Or.inr (List.mem_of_getElem? (i := 34) rfl)
theorem fl_RX0_29 : am_Fld RX0 29 0 4 := Or.inl (am_TB_mem (tb_1 (List.mem_of_getElem? (i := 125) rfl)) rfl)
theorem fl_RX11_337 : am_Fld RX11 337 0 4 := Or.inr (List.mem_of_getElem? (i := 35) rfl)
theorem fl_RX0_35 : am_Fld RX0 35 0 5 := Or.inl (am_TB_mem (tb_1 (List.mem_of_getElem? (i := 127) rfl)) rfl)
theorem fl_RX11_162 : am_Fld RX11 162 0 5 := Or.inr (List.mem_of_getElem? (i := 36) rfl)
theorem fl_RX0_39 : am_Fld RX0 39 0 6 := Or.inl (am_TB_mem (tb_1 (List.mem_of_getElem? (i := 129) rfl)) rfl)
theorem fl_RX0_43 : am_Fld RX0 43 0 7 := Or.inl (am_TB_mem (tb_1 (List.mem_of_getElem? (i := 130) rfl)) rfl)
theorem fl_RX1_85 : am_Fld RX1 85 0 7 := Or.inr (List.mem_of_getElem? (i := 37) rfl)
theorem fl_RX11_153 : am_Fld RX11 153 0 7 := Or.inr (List.mem_of_getElem? (i := 38) rfl)
theorem fl_RX0_46 : am_Fld RX0 46 0 8 := Or.inl (am_TB_mem (tb_1 (List.mem_of_getElem? (i := 133) rfl)) rfl)
theorem fl_RX0_52 : am_Fld RX0 52 0 9 := Or.inl (am_TB_mem (tb_1 (List.mem_of_getElem? (i := 134) rfl)) rfl)
theorem fl_RX11_204 : am_Fld RX11 204 0 9 := Or.inr (List.mem_of_getElem? (i := 39) rfl)
theorem fl_RX0_67 : am_Fld RX0 67 0 10 := Or.inl (am_TB_mem (tb_1 (List.mem_of_getElem? (i := 136) rfl)) rfl)
theorem fl_RX11_201 : am_Fld RX11 201 0 10 := Or.inr (List.mem_of_getElem? (i := 40) rfl)
theorem fl_RX0_56 : am_Fld RX0 56 0 11 := Or.inl (am_TB_mem (tb_1 (List.mem_of_getElem? (i := 138) rfl)) rfl)
theorem fl_RX11_249 : am_Fld RX11 249 0 11 := Or.inr (List.mem_of_getElem? (i := 41) rfl)
theorem fl_RX5_15 : am_Fld RX5 15 5 0 := Or.inl (am_TB_mem (tb_1 (List.mem_of_getElem? (i := 176) rfl)) rfl)
theorem fl_RX5_19 : am_Fld RX5 19 5 1 := Or.inl (am_TB_mem (tb_1 (List.mem_of_getElem? (i := 177) rfl)) rfl)
theorem fl_RX5_23 : am_Fld RX5 23 5 2 := Or.inl (am_TB_mem (tb_1 (List.mem_of_getElem? (i := 178) rfl)) rfl)
theorem fl_RX5_45 : am_Fld RX5 45 5 3 := Or.inl (am_TB_mem (tb_1 (List.mem_of_getElem? (i := 179) rfl)) rfl)
theorem fl_RX5_27 : am_Fld RX5 27 5 4 := Or.inl (am_TB_mem (tb_1 (List.mem_of_getElem? (i := 180) rfl)) rfl)
theorem fl_RX5_30 : am_Fld RX5 30 5 5 := Or.inl (am_TB_mem (tb_1 (List.mem_of_getElem? (i := 181) rfl)) rfl)
theorem fl_RX5_9 : am_Fld RX5 9 5 6 := Or.inl (am_TB_mem (tb_1 (List.mem_of_getElem? (i := 182) rfl)) rfl)
theorem fl_RX11_246 : am_Fld RX11 246 5 6 := Or.inr (List.mem_of_getElem? (i := 43) rfl)
theorem fl_RX6_9 : am_Fld RX6 9 6 0 := Or.inl (am_TB_mem (tb_1 (List.mem_of_getElem? (i := 212) rfl)) rfl)
theorem fl_RX3_9 : am_Fld RX3 9 3 0 := Or.inl (am_TB_mem (tb_1 (List.mem_of_getElem? (i := 216) rfl)) rfl)
theorem fl_RX3_18 : am_Fld RX3 18 3 1 := Or.inl (am_TB_mem (tb_1 (List.mem_of_getElem? (i := 217) rfl)) rfl)
theorem fl_RX11_233 : am_Fld RX11 233 3 1 := Or.inr (List.mem_of_getElem? (i := 46) rfl)
theorem fl_RX2_13 : am_Fld RX2 13 2 0 := Or.inl (am_TB_mem (tb_1 (List.mem_of_getElem? (i := 230) rfl)) rfl)
theorem fl_RX2_17 : am_Fld RX2 17 2 1 := Or.inl (am_TB_mem (tb_1 (List.mem_of_getElem? (i := 231) rfl)) rfl)
theorem fl_RX2_65 : am_Fld RX2 65 2 2 := Or.inl (am_TB_mem (tb_1 (List.mem_of_getElem? (i := 232) rfl)) rfl)
theorem fl_RX11_367 : am_Fld RX11 367 2 2 := Or.inr (List.mem_of_getElem? (i := 47) rfl)
theorem fl_RX2_68 : am_Fld RX2 68 2 3 := Or.inl (am_TB_mem (tb_1 (List.mem_of_getElem? (i := 234) rfl)) rfl)
theorem fl_RX11_377 : am_Fld RX11 377 2 3 := Or.inr (List.mem_of_getElem? (i := 48) rfl)
theorem fl_RX10_9 : am_Fld RX10 9 10 0 := Or.inl (am_TB_mem (tb_2 (List.mem_of_getElem? (i := 13) rfl)) rfl)
theorem fl_RX10_15 : am_Fld RX10 15 10 1 := Or.inl (am_TB_mem (tb_2 (List.mem_of_getElem? (i := 14) rfl)) rfl)
theorem fl_RX10_19 : am_Fld RX10 19 10 2 := Or.inl (am_TB_mem (tb_2 (List.mem_of_getElem? (i := 15) rfl)) rfl)
theorem fl_RX1_11 : am_Fld RX1 11 1 0 := Or.inl (am_TB_mem (tb_2 (List.mem_of_getElem? (i := 30) rfl)) rfl)
theorem fl_RX1_38 : am_Fld RX1 38 1 1 := Or.inl (am_TB_mem (tb_2 (List.mem_of_getElem? (i := 31) rfl)) rfl)
theorem fl_RX1_15 : am_Fld RX1 15 1 2 := Or.inl (am_TB_mem (tb_2 (List.mem_of_getElem? (i := 32) rfl)) rfl)
theorem fl_RX1_67 : am_Fld RX1 67 1 3 := Or.inl (am_TB_mem (tb_2 (List.mem_of_getElem? (i := 33) rfl)) rfl)
theorem fl_RX1_18 : am_Fld RX1 18 1 4 := Or.inl (am_TB_mem (tb_2 (List.mem_of_getElem? (i := 34) rfl)) rfl)
theorem fl_RX1_21 : am_Fld RX1 21 1 5 := Or.inl (am_TB_mem (tb_2 (List.mem_of_getElem? (i := 35) rfl)) rfl)
theorem fl_RX1_24 : am_Fld RX1 24 1 6 := Or.inl (am_TB_mem (tb_2 (List.mem_of_getElem? (i := 36) rfl)) rfl)
theorem fl_RX1_27 : am_Fld RX1 27 1 7 := Or.inl (am_TB_mem (tb_2 (List.mem_of_getElem? (i := 37) rfl)) rfl)
theorem fl_RX8_14 : am_Fld RX8 14 8 0 := Or.inl (am_TB_mem (tb_2 (List.mem_of_getElem? (i := 63) rfl)) rfl)
theorem fl_RX8_20 : am_Fld RX8 20 8 1 := Or.inl (am_TB_mem (tb_2 (List.mem_of_getElem? (i := 64) rfl)) rfl)
theorem fl_RX11_10 : am_Fld RX11 10 11 0 := Or.inl (am_TB_mem (tb_2 (List.mem_of_getElem? (i := 70) rfl)) rfl)
theorem fl_RX11_16 : am_Fld RX11 16 11 1 := Or.inl (am_TB_mem (tb_2 (List.mem_of_getElem? (i := 71) rfl)) rfl)
theorem fl_RX11_20 : am_Fld RX11 20 11 2 := Or.inl (am_TB_mem (tb_2 (List.mem_of_getElem? (i := 72) rfl)) rfl)
theorem fl_RX11_29 : am_Fld RX11 29 11 3 := Or.inl (am_TB_mem (tb_2 (List.mem_of_getElem? (i := 73) rfl)) rfl)
theorem fl_RX11_36 : am_Fld RX11 36 11 4 := Or.inl (am_TB_mem (tb_2 (List.mem_of_getElem? (i := 74) rfl)) rfl)
theorem fl_RX11_45 : am_Fld RX11 45 11 5 := Or.inl (am_TB_mem (tb_2 (List.mem_of_getElem? (i := 75) rfl)) rfl)
theorem fl_RX11_52 : am_Fld RX11 52 11 6 := Or.inl (am_TB_mem (tb_2 (List.mem_of_getElem? (i := 76) rfl)) rfl)
theorem fl_RX11_61 : am_Fld RX11 61 11 7 := Or.inl (am_TB_mem (tb_2 (List.mem_of_getElem? (i := 77) rfl)) rfl)
theorem fl_RX11_68 : am_Fld RX11 68 11 8 := Or.inl (am_TB_mem (tb_2 (List.mem_of_getElem? (i := 78) rfl)) rfl)
theorem fl_RX11_72 : am_Fld RX11 72 11 9 := Or.inl (am_TB_mem (tb_2 (List.mem_of_getElem? (i := 79) rfl)) rfl)
theorem fl_RX11_75 : am_Fld RX11 75 11 10 := Or.inl (am_TB_mem (tb_2 (List.mem_of_getElem? (i := 80) rfl)) rfl)
theorem fl_RX11_78 : am_Fld RX11 78 11 11 := Or.inl (am_TB_mem (tb_2 (List.mem_of_getElem? (i := 81) rfl)) rfl)
theorem fl_RX11_84 : am_Fld RX11 84 11 12 := Or.inl (am_TB_mem (tb_2 (List.mem_of_getElem? (i := 82) rfl)) rfl)
theorem fl_RX11_91 : am_Fld RX11 91 11 13 := Or.inl (am_TB_mem (tb_2 (List.mem_of_getElem? (i := 83) rfl)) rfl)
theorem fl_RX11_98 : am_Fld RX11 98 11 14 := Or.inl (am_TB_mem (tb_2 (List.mem_of_getElem? (i := 84) rfl)) rfl)
theorem fl_RX11_102 : am_Fld RX11 102 11 15 := Or.inl (am_TB_mem (tb_2 (List.mem_of_getElem? (i := 85) rfl)) rfl)
theorem fl_RX11_106 : am_Fld RX11 106 11 16 := Or.inl (am_TB_mem (tb_2 (List.mem_of_getElem? (i := 86) rfl)) rfl)
theorem fl_RX11_364 : am_Fld RX11 364 11 17 := Or.inl (am_TB_mem (tb_2 (List.mem_of_getElem? (i := 87) rfl)) rfl)
theorem fl_RX11_194 : am_Fld RX11 194 11 18 := Or.inl (am_TB_mem (tb_2 (List.mem_of_getElem? (i := 88) rfl)) rfl)
theorem fl_RX11_109 : am_Fld RX11 109 11 19 := Or.inl (am_TB_mem (tb_2 (List.mem_of_getElem? (i := 89) rfl)) rfl)
theorem fl_RX12_3 : am_Fld RX12 3 12 0 := Or.inl (am_TB_mem (tb_5 (List.mem_of_getElem? (i := 155) rfl)) rfl)
theorem fl_RX12_7 : am_Fld RX12 7 12 1 := Or.inl (am_TB_mem (tb_5 (List.mem_of_getElem? (i := 156) rfl)) rfl)
theorem fl_RX12_24 : am_Fld RX12 24 12 2 := Or.inl (am_TB_mem (tb_5 (List.mem_of_getElem? (i := 157) rfl)) rfl)
theorem fl_RX12_27 : am_Fld RX12 27 12 3 := Or.inl (am_TB_mem (tb_5 (List.mem_of_getElem? (i := 158) rfl)) rfl)
theorem fl_RX12_30 : am_Fld RX12 30 12 4 := Or.inl (am_TB_mem (tb_5 (List.mem_of_getElem? (i := 159) rfl)) rfl)
theorem fl_RX12_34 : am_Fld RX12 34 12 5 := Or.inl (am_TB_mem (tb_5 (List.mem_of_getElem? (i := 160) rfl)) rfl)
theorem fl_RX12_170 : am_Fld RX12 170 12 6 := Or.inl (am_TB_mem (tb_5 (List.mem_of_getElem? (i := 161) rfl)) rfl)
theorem fl_RX12_37 : am_Fld RX12 37 12 7 := Or.inl (am_TB_mem (tb_5 (List.mem_of_getElem? (i := 162) rfl)) rfl)
theorem fl_RX12_253 : am_Fld RX12 253 12 8 := Or.inl (am_TB_mem (tb_5 (List.mem_of_getElem? (i := 163) rfl)) rfl)
theorem fl_RX12_256 : am_Fld RX12 256 12 9 := Or.inl (am_TB_mem (tb_5 (List.mem_of_getElem? (i := 164) rfl)) rfl)
theorem fl_RX12_227 : am_Fld RX12 227 12 10 := Or.inl (am_TB_mem (tb_5 (List.mem_of_getElem? (i := 165) rfl)) rfl)
theorem fl_RX12_41 : am_Fld RX12 41 12 11 := Or.inl (am_TB_mem (tb_5 (List.mem_of_getElem? (i := 166) rfl)) rfl)
theorem fl_RX12_44 : am_Fld RX12 44 12 12 := Or.inl (am_TB_mem (tb_5 (List.mem_of_getElem? (i := 167) rfl)) rfl)
theorem fl_RX12_167 : am_Fld RX12 167 12 13 := Or.inl (am_TB_mem (tb_5 (List.mem_of_getElem? (i := 168) rfl)) rfl)
theorem fl_RX12_47 : am_Fld RX12 47 12 14 := Or.inl (am_TB_mem (tb_5 (List.mem_of_getElem? (i := 169) rfl)) rfl)
theorem fl_RX12_50 : am_Fld RX12 50 12 15 := Or.inl (am_TB_mem (tb_5 (List.mem_of_getElem? (i := 170) rfl)) rfl)
theorem fl_RX12_53 : am_Fld RX12 53 12 16 := Or.inl (am_TB_mem (tb_5 (List.mem_of_getElem? (i := 171) rfl)) rfl)
theorem fl_RX12_56 : am_Fld RX12 56 12 17 := Or.inl (am_TB_mem (tb_5 (List.mem_of_getElem? (i := 172) rfl)) rfl)
theorem fl_RX12_181 : am_Fld RX12 181 12 18 := Or.inl (am_TB_mem (tb_5 (List.mem_of_getElem? (i := 173) rfl)) rfl)
theorem fl_RX12_201 : am_Fld RX12 201 12 19 := Or.inl (am_TB_mem (tb_5 (List.mem_of_getElem? (i := 174) rfl)) rfl)
theorem fl_RX12_210 : am_Fld RX12 210 12 20 := Or.inl (am_TB_mem (tb_5 (List.mem_of_getElem? (i := 175) rfl)) rfl)
theorem fl_RX12_194 : am_Fld RX12 194 12 21 := Or.inl (am_TB_mem (tb_5 (List.mem_of_getElem? (i := 176) rfl)) rfl)
theorem fl_RX12_281 : am_Fld RX12 281 12 22 := Or.inl (am_TB_mem (tb_5 (List.mem_of_getElem? (i := 177) rfl)) rfl)
theorem fl_RX12_278 : am_Fld RX12 278 12 23 := Or.inl (am_TB_mem (tb_5 (List.mem_of_getElem? (i := 178) rfl)) rfl)
theorem fl_RX12_291 : am_Fld RX12 291 12 24 := Or.inl (am_TB_mem (tb_5 (List.mem_of_getElem? (i := 179) rfl)) rfl)
theorem fl_RX12_59 : am_Fld RX12 59 12 25 := Or.inl (am_TB_mem (tb_5 (List.mem_of_getElem? (i := 180) rfl)) rfl)
theorem fl_RX12_62 : am_Fld RX12 62 12 26 := Or.inl (am_TB_mem (tb_5 (List.mem_of_getElem? (i := 181) rfl)) rfl)
theorem fl_RX12_65 : am_Fld RX12 65 12 27 := Or.inl (am_TB_mem (tb_5 (List.mem_of_getElem? (i := 182) rfl)) rfl)
theorem fl_RX12_68 : am_Fld RX12 68 12 28 := Or.inl (am_TB_mem (tb_5 (List.mem_of_getElem? (i := 183) rfl)) rfl)
theorem fl_RX12_71 : am_Fld RX12 71 12 29 := Or.inl (am_TB_mem (tb_5 (List.mem_of_getElem? (i := 184) rfl)) rfl)
theorem fl_RX12_74 : am_Fld RX12 74 12 30 := Or.inl (am_TB_mem (tb_5 (List.mem_of_getElem? (i := 185) rfl)) rfl)
theorem fl_RX12_77 : am_Fld RX12 77 12 31 := Or.inl (am_TB_mem (tb_5 (List.mem_of_getElem? (i := 186) rfl)) rfl)
theorem fl_RX12_80 : am_Fld RX12 80 12 32 := Or.inl (am_TB_mem (tb_5 (List.mem_of_getElem? (i := 187) rfl)) rfl)
theorem fl_RX12_83 : am_Fld RX12 83 12 33 := Or.inl (am_TB_mem (tb_5 (List.mem_of_getElem? (i := 188) rfl)) rfl)
theorem fl_RX12_354 : am_Fld RX12 354 12 34 := Or.inl (am_TB_mem (tb_5 (List.mem_of_getElem? (i := 189) rfl)) rfl)
theorem fl_RX12_366 : am_Fld RX12 366 12 35 := Or.inl (am_TB_mem (tb_5 (List.mem_of_getElem? (i := 190) rfl)) rfl)
theorem fl_RX12_86 : am_Fld RX12 86 12 36 := Or.inl (am_TB_mem (tb_5 (List.mem_of_getElem? (i := 191) rfl)) rfl)
theorem fl_RX12_89 : am_Fld RX12 89 12 37 := Or.inl (am_TB_mem (tb_5 (List.mem_of_getElem? (i := 192) rfl)) rfl)
theorem fl_RX12_11 : am_Fld RX12 11 12 38 := Or.inl (am_TB_mem (tb_5 (List.mem_of_getElem? (i := 193) rfl)) rfl)
theorem fl_RX12_92 : am_Fld RX12 92 12 39 := Or.inl (am_TB_mem (tb_5 (List.mem_of_getElem? (i := 194) rfl)) rfl)
theorem fl_RX12_95 : am_Fld RX12 95 12 40 := Or.inl (am_TB_mem (tb_5 (List.mem_of_getElem? (i := 195) rfl)) rfl)
theorem fl_RX12_98 : am_Fld RX12 98 12 41 := Or.inl (am_TB_mem (tb_5 (List.mem_of_getElem? (i := 196) rfl)) rfl)
theorem fl_RX12_101 : am_Fld RX12 101 12 42 := Or.inl (am_TB_mem (tb_5 (List.mem_of_getElem? (i := 197) rfl)) rfl)
theorem fl_RX12_104 : am_Fld RX12 104 12 43 := Or.inl (am_TB_mem (tb_5 (List.mem_of_getElem? (i := 198) rfl)) rfl)
theorem fl_RX12_107 : am_Fld RX12 107 12 44 := Or.inl (am_TB_mem (tb_5 (List.mem_of_getElem? (i := 199) rfl)) rfl)
theorem fl_RX12_397 : am_Fld RX12 397 12 45 := Or.inl (am_TB_mem (tb_5 (List.mem_of_getElem? (i := 200) rfl)) rfl)
theorem fl_RX12_391 : am_Fld RX12 391 12 46 := Or.inl (am_TB_mem (tb_5 (List.mem_of_getElem? (i := 201) rfl)) rfl)
theorem fl_RX12_403 : am_Fld RX12 403 12 47 := Or.inl (am_TB_mem (tb_5 (List.mem_of_getElem? (i := 202) rfl)) rfl)
theorem fl_RX12_110 : am_Fld RX12 110 12 48 := Or.inl (am_TB_mem (tb_5 (List.mem_of_getElem? (i := 203) rfl)) rfl)
theorem fl_RX12_427 : am_Fld RX12 427 12 49 := Or.inl (am_TB_mem (tb_5 (List.mem_of_getElem? (i := 204) rfl)) rfl)
theorem fl_RX12_430 : am_Fld RX12 430 12 50 := Or.inl (am_TB_mem (tb_5 (List.mem_of_getElem? (i := 205) rfl)) rfl)
theorem fl_RX12_445 : am_Fld RX12 445 12 51 := Or.inl (am_TB_mem (tb_5 (List.mem_of_getElem? (i := 206) rfl)) rfl)
theorem fl_RX12_439 : am_Fld RX12 439 12 52 := Or.inl (am_TB_mem (tb_5 (List.mem_of_getElem? (i := 207) rfl)) rfl)
theorem fl_RX12_442 : am_Fld RX12 442 12 53 := Or.inl (am_TB_mem (tb_5 (List.mem_of_getElem? (i := 208) rfl)) rfl)
theorem fl_RX12_448 : am_Fld RX12 448 12 54 := Or.inl (am_TB_mem (tb_5 (List.mem_of_getElem? (i := 209) rfl)) rfl)
theorem fl_RX12_113 : am_Fld RX12 113 12 55 := Or.inl (am_TB_mem (tb_5 (List.mem_of_getElem? (i := 210) rfl)) rfl)
theorem fl_RX12_117 : am_Fld RX12 117 12 56 := Or.inl (am_TB_mem (tb_5 (List.mem_of_getElem? (i := 211) rfl)) rfl)
theorem fl_RX12_120 : am_Fld RX12 120 12 57 := Or.inl (am_TB_mem (tb_5 (List.mem_of_getElem? (i := 212) rfl)) rfl)
theorem fl_RX12_470 : am_Fld RX12 470 12 58 := Or.inl (am_TB_mem (tb_5 (List.mem_of_getElem? (i := 213) rfl)) rfl)
theorem fl_RX12_463 : am_Fld RX12 463 12 59 := Or.inl (am_TB_mem (tb_5 (List.mem_of_getElem? (i := 214) rfl)) rfl)
theorem cw_X0_init : Cond.code yX0_init cX0_init 1 none ∈ am_TB := am_TB_mem (tb_1 (List.mem_of_getElem? (i := 33) rfl)) rfl
theorem iw_X0_init : Cond.instanceMethod yX0_init ∈ am_TB := am_TB_mem (tb_1 (List.mem_of_getElem? (i := 32) rfl)) rfl
theorem cw_X0_term : Cond.code yX0_term cX0_term 2 (some .int) ∈ am_TB := am_TB_mem (tb_2 (List.mem_of_getElem? (i := 210) rfl)) rfl
theorem iw_X0_term : Cond.instanceMethod yX0_term ∈ am_TB := am_TB_mem (tb_2 (List.mem_of_getElem? (i := 208) rfl)) rfl
theorem vw_X0_term : Cond.selects RX0 yX0_term yX0_term ∈ am_TB := am_TB_mem (tb_2 (List.mem_of_getElem? (i := 209) rfl)) rfl
theorem cw_X0_setTerm : Cond.code yX0_setTerm cX0_setTerm 3 none ∈ am_TB := am_TB_mem (tb_3 (List.mem_of_getElem? (i := 11) rfl)) rfl
theorem iw_X0_setTerm : Cond.instanceMethod yX0_setTerm ∈ am_TB := am_TB_mem (tb_3 (List.mem_of_getElem? (i := 9) rfl)) rfl
theorem vw_X0_setTerm : Cond.selects RX0 yX0_setTerm yX0_setTerm ∈ am_TB := am_TB_mem (tb_3 (List.mem_of_getElem? (i := 10) rfl)) rfl
theorem cw_X0_setClash : Cond.code yX0_setClash cX0_setClash 5 (some .int) ∈ am_TB := am_TB_mem (tb_2 (List.mem_of_getElem? (i := 188) rfl)) rfl
theorem iw_X0_setClash : Cond.instanceMethod yX0_setClash ∈ am_TB := am_TB_mem (tb_2 (List.mem_of_getElem? (i := 186) rfl)) rfl
theorem vw_X0_setClash : Cond.selects RX0 yX0_setClash yX0_setClash ∈ am_TB := am_TB_mem (tb_2 (List.mem_of_getElem? (i := 187) rfl)) rfl
theorem cw_X0_keptOffBy : Cond.code yX0_keptOffBy cX0_keptOffBy 2 (some .int) ∈ am_TB := am_TB_mem (tb_4 (List.mem_of_getElem? (i := 111) rfl)) rfl
theorem iw_X0_keptOffBy : Cond.instanceMethod yX0_keptOffBy ∈ am_TB := am_TB_mem (tb_4 (List.mem_of_getElem? (i := 109) rfl)) rfl
theorem vw_X0_keptOffBy : Cond.selects RX0 yX0_keptOffBy yX0_keptOffBy ∈ am_TB := am_TB_mem (tb_4 (List.mem_of_getElem? (i := 110) rfl)) rfl
theorem cw_X0_addLaw : Cond.code yX0_addLaw cX0_addLaw 2 (some .int) ∈ am_TB := am_TB_mem (tb_3 (List.mem_of_getElem? (i := 237) rfl)) rfl
theorem iw_X0_addLaw : Cond.instanceMethod yX0_addLaw ∈ am_TB := am_TB_mem (tb_3 (List.mem_of_getElem? (i := 235) rfl)) rfl
theorem vw_X0_addLaw : Cond.selects RX0 yX0_addLaw yX0_addLaw ∈ am_TB := am_TB_mem (tb_3 (List.mem_of_getElem? (i := 236) rfl)) rfl
theorem cw_X0_ruling : Cond.code yX0_ruling cX0_ruling 1 (some (.object "ShortPrayers$Program")) ∈ am_TB := am_TB_mem (tb_2 (List.mem_of_getElem? (i := 218) rfl)) rfl
theorem iw_X0_ruling : Cond.instanceMethod yX0_ruling ∈ am_TB := am_TB_mem (tb_2 (List.mem_of_getElem? (i := 216) rfl)) rfl
theorem vw_X0_ruling : Cond.selects RX0 yX0_ruling yX0_ruling ∈ am_TB := am_TB_mem (tb_2 (List.mem_of_getElem? (i := 217) rfl)) rfl
theorem cw_X0_coverCost : Cond.code yX0_coverCost cX0_coverCost 6 (some .int) ∈ am_TB := am_TB_mem (tb_5 (List.mem_of_getElem? (i := 39) rfl)) rfl
theorem iw_X0_coverCost : Cond.instanceMethod yX0_coverCost ∈ am_TB := am_TB_mem (tb_5 (List.mem_of_getElem? (i := 37) rfl)) rfl
theorem vw_X0_coverCost : Cond.selects RX0 yX0_coverCost yX0_coverCost ∈ am_TB := am_TB_mem (tb_5 (List.mem_of_getElem? (i := 38) rfl)) rfl
theorem cw_X0_farthestAnswer : Cond.code yX0_farthestAnswer cX0_farthestAnswer 3 (some .int) ∈ am_TB := am_TB_mem (tb_5 (List.mem_of_getElem? (i := 73) rfl)) rfl
theorem iw_X0_farthestAnswer : Cond.instanceMethod yX0_farthestAnswer ∈ am_TB := am_TB_mem (tb_5 (List.mem_of_getElem? (i := 71) rfl)) rfl
theorem vw_X0_farthestAnswer : Cond.selects RX0 yX0_farthestAnswer yX0_farthestAnswer ∈ am_TB := am_TB_mem (tb_5 (List.mem_of_getElem? (i := 72) rfl)) rfl
theorem cw_X0_answersAre : Cond.code yX0_answersAre cX0_answersAre 4 (some .boolean) ∈ am_TB := am_TB_mem (tb_5 (List.mem_of_getElem? (i := 82) rfl)) rfl
theorem iw_X0_answersAre : Cond.instanceMethod yX0_answersAre ∈ am_TB := am_TB_mem (tb_5 (List.mem_of_getElem? (i := 80) rfl)) rfl
theorem vw_X0_answersAre : Cond.selects RX0 yX0_answersAre yX0_answersAre ∈ am_TB := am_TB_mem (tb_5 (List.mem_of_getElem? (i := 81) rfl)) rfl
theorem cw_X0_takeFrom : Cond.code yX0_takeFrom cX0_takeFrom 3 none ∈ am_TB := am_TB_mem (tb_5 (List.mem_of_getElem? (i := 132) rfl)) rfl
theorem iw_X0_takeFrom : Cond.instanceMethod yX0_takeFrom ∈ am_TB := am_TB_mem (tb_5 (List.mem_of_getElem? (i := 130) rfl)) rfl
theorem vw_X0_takeFrom : Cond.selects RX0 yX0_takeFrom yX0_takeFrom ∈ am_TB := am_TB_mem (tb_5 (List.mem_of_getElem? (i := 131) rfl)) rfl
theorem cw_X1_init : Cond.code yX1_init cX1_init 1 none ∈ am_TB := am_TB_mem (tb_2 (List.mem_of_getElem? (i := 28) rfl)) rfl
theorem iw_X1_init : Cond.instanceMethod yX1_init ∈ am_TB := am_TB_mem (tb_2 (List.mem_of_getElem? (i := 27) rfl)) rfl
theorem cw_X1_find : Cond.code yX1_find cX1_find 4 (some .boolean) ∈ am_TB := am_TB_mem (tb_4 (List.mem_of_getElem? (i := 210) rfl)) rfl
theorem iw_X1_find : Cond.instanceMethod yX1_find ∈ am_TB := am_TB_mem (tb_4 (List.mem_of_getElem? (i := 208) rfl)) rfl
theorem vw_X1_find : Cond.selects RX1 yX1_find yX1_find ∈ am_TB := am_TB_mem (tb_4 (List.mem_of_getElem? (i := 209) rfl)) rfl
theorem cw_X1_total : Cond.code yX1_total cX1_total 1 (some .int) ∈ am_TB := am_TB_mem (tb_5 (List.mem_of_getElem? (i := 23) rfl)) rfl
theorem iw_X1_total : Cond.instanceMethod yX1_total ∈ am_TB := am_TB_mem (tb_5 (List.mem_of_getElem? (i := 21) rfl)) rfl
theorem vw_X1_total : Cond.selects RX1 yX1_total yX1_total ∈ am_TB := am_TB_mem (tb_5 (List.mem_of_getElem? (i := 22) rfl)) rfl
theorem cw_X1_lengthFor : Cond.code yX1_lengthFor cX1_lengthFor 3 (some .int) ∈ am_TB := am_TB_mem (tb_5 (List.mem_of_getElem? (i := 27) rfl)) rfl
theorem iw_X1_lengthFor : Cond.instanceMethod yX1_lengthFor ∈ am_TB := am_TB_mem (tb_5 (List.mem_of_getElem? (i := 25) rfl)) rfl
theorem vw_X1_lengthFor : Cond.selects RX1 yX1_lengthFor yX1_lengthFor ∈ am_TB := am_TB_mem (tb_5 (List.mem_of_getElem? (i := 26) rfl)) rfl
theorem cw_X1_takeLetters : Cond.code yX1_takeLetters cX1_takeLetters 4 (some .boolean) ∈ am_TB := am_TB_mem (tb_4 (List.mem_of_getElem? (i := 214) rfl)) rfl
theorem iw_X1_takeLetters : Cond.instanceMethod yX1_takeLetters ∈ am_TB := am_TB_mem (tb_4 (List.mem_of_getElem? (i := 213) rfl)) rfl
theorem cw_X1_takeAsked : Cond.code yX1_takeAsked cX1_takeAsked 3 (some .boolean) ∈ am_TB := am_TB_mem (tb_4 (List.mem_of_getElem? (i := 226) rfl)) rfl
theorem iw_X1_takeAsked : Cond.instanceMethod yX1_takeAsked ∈ am_TB := am_TB_mem (tb_4 (List.mem_of_getElem? (i := 225) rfl)) rfl
theorem cw_X1_weightOf : Cond.code yX1_weightOf cX1_weightOf 5 (some .int) ∈ am_TB := am_TB_mem (tb_4 (List.mem_of_getElem? (i := 230) rfl)) rfl
theorem iw_X1_weightOf : Cond.instanceMethod yX1_weightOf ∈ am_TB := am_TB_mem (tb_4 (List.mem_of_getElem? (i := 229) rfl)) rfl
theorem cw_X1_clearLengths : Cond.code yX1_clearLengths cX1_clearLengths 3 none ∈ am_TB := am_TB_mem (tb_4 (List.mem_of_getElem? (i := 235) rfl)) rfl
theorem iw_X1_clearLengths : Cond.instanceMethod yX1_clearLengths ∈ am_TB := am_TB_mem (tb_4 (List.mem_of_getElem? (i := 234) rfl)) rfl
theorem cw_X1_shortestLetter : Cond.code yX1_shortestLetter cX1_shortestLetter 3 (some .int) ∈ am_TB := am_TB_mem (tb_5 (List.mem_of_getElem? (i := 18) rfl)) rfl
theorem iw_X1_shortestLetter : Cond.instanceMethod yX1_shortestLetter ∈ am_TB := am_TB_mem (tb_5 (List.mem_of_getElem? (i := 17) rfl)) rfl
theorem cw_X1_share : Cond.code yX1_share cX1_share 5 none ∈ am_TB := am_TB_mem (tb_4 (List.mem_of_getElem? (i := 239) rfl)) rfl
theorem iw_X1_share : Cond.instanceMethod yX1_share ∈ am_TB := am_TB_mem (tb_4 (List.mem_of_getElem? (i := 238) rfl)) rfl
theorem cw_X1_isPartOf : Cond.code yX1_isPartOf cX1_isPartOf 2 (some .boolean) ∈ am_TB := am_TB_mem (tb_5 (List.mem_of_getElem? (i := 2) rfl)) rfl
theorem sw_X1_isPartOf : Cond.static yX1_isPartOf ∈ am_TB := am_TB_mem (tb_5 (List.mem_of_getElem? (i := 1) rfl)) rfl
theorem cw_X1_isSet : Cond.code yX1_isSet cX1_isSet 1 (some .boolean) ∈ am_TB := am_TB_mem (tb_5 (List.mem_of_getElem? (i := 9) rfl)) rfl
theorem sw_X1_isSet : Cond.static yX1_isSet ∈ am_TB := am_TB_mem (tb_5 (List.mem_of_getElem? (i := 8) rfl)) rfl
theorem cw_X1_tryShares : Cond.code yX1_tryShares cX1_tryShares 10 none ∈ am_TB := am_TB_mem (tb_5 (List.mem_of_getElem? (i := 6) rfl)) rfl
theorem iw_X1_tryShares : Cond.instanceMethod yX1_tryShares ∈ am_TB := am_TB_mem (tb_5 (List.mem_of_getElem? (i := 5) rfl)) rfl
theorem cw_X1_isTrialAhead : Cond.code yX1_isTrialAhead cX1_isTrialAhead 3 (some .boolean) ∈ am_TB := am_TB_mem (tb_5 (List.mem_of_getElem? (i := 13) rfl)) rfl
theorem iw_X1_isTrialAhead : Cond.instanceMethod yX1_isTrialAhead ∈ am_TB := am_TB_mem (tb_5 (List.mem_of_getElem? (i := 12) rfl)) rfl
theorem cw_X2_init : Cond.code yX2_init cX2_init 2 none ∈ am_TB := am_TB_mem (tb_1 (List.mem_of_getElem? (i := 228) rfl)) rfl
theorem iw_X2_init : Cond.instanceMethod yX2_init ∈ am_TB := am_TB_mem (tb_1 (List.mem_of_getElem? (i := 227) rfl)) rfl
theorem cw_X2_foreseeAll : Cond.code yX2_foreseeAll cX2_foreseeAll 6 none ∈ am_TB := am_TB_mem (tb_4 (List.mem_of_getElem? (i := 79) rfl)) rfl
theorem iw_X2_foreseeAll : Cond.instanceMethod yX2_foreseeAll ∈ am_TB := am_TB_mem (tb_4 (List.mem_of_getElem? (i := 77) rfl)) rfl
theorem vw_X2_foreseeAll : Cond.selects RX2 yX2_foreseeAll yX2_foreseeAll ∈ am_TB := am_TB_mem (tb_4 (List.mem_of_getElem? (i := 78) rfl)) rfl
theorem cw_X2_foresee : Cond.code yX2_foresee cX2_foresee 8 none ∈ am_TB := am_TB_mem (tb_4 (List.mem_of_getElem? (i := 84) rfl)) rfl
theorem iw_X2_foresee : Cond.instanceMethod yX2_foresee ∈ am_TB := am_TB_mem (tb_4 (List.mem_of_getElem? (i := 82) rfl)) rfl
theorem vw_X2_foresee : Cond.selects RX2 yX2_foresee yX2_foresee ∈ am_TB := am_TB_mem (tb_4 (List.mem_of_getElem? (i := 83) rfl)) rfl
theorem cw_X2_isForeseen : Cond.code yX2_isForeseen cX2_isForeseen 2 (some .boolean) ∈ am_TB := am_TB_mem (tb_4 (List.mem_of_getElem? (i := 87) rfl)) rfl
theorem sw_X2_isForeseen : Cond.static yX2_isForeseen ∈ am_TB := am_TB_mem (tb_4 (List.mem_of_getElem? (i := 86) rfl)) rfl
theorem cw_X2_lowest : Cond.code yX2_lowest cX2_lowest 7 (some .int) ∈ am_TB := am_TB_mem (tb_4 (List.mem_of_getElem? (i := 104) rfl)) rfl
theorem iw_X2_lowest : Cond.instanceMethod yX2_lowest ∈ am_TB := am_TB_mem (tb_4 (List.mem_of_getElem? (i := 102) rfl)) rfl
theorem vw_X2_lowest : Cond.selects RX2 yX2_lowest yX2_lowest ∈ am_TB := am_TB_mem (tb_4 (List.mem_of_getElem? (i := 103) rfl)) rfl
theorem cw_X2_hear : Cond.code yX2_hear cX2_hear 8 (some .int) ∈ am_TB := am_TB_mem (tb_4 (List.mem_of_getElem? (i := 99) rfl)) rfl
theorem iw_X2_hear : Cond.instanceMethod yX2_hear ∈ am_TB := am_TB_mem (tb_4 (List.mem_of_getElem? (i := 97) rfl)) rfl
theorem vw_X2_hear : Cond.selects RX2 yX2_hear yX2_hear ∈ am_TB := am_TB_mem (tb_4 (List.mem_of_getElem? (i := 98) rfl)) rfl
theorem cw_X2_isKeptOff : Cond.code yX2_isKeptOff cX2_isKeptOff 5 (some .boolean) ∈ am_TB := am_TB_mem (tb_4 (List.mem_of_getElem? (i := 107) rfl)) rfl
theorem sw_X2_isKeptOff : Cond.static yX2_isKeptOff ∈ am_TB := am_TB_mem (tb_4 (List.mem_of_getElem? (i := 106) rfl)) rfl
theorem cw_X3_init : Cond.code yX3_init cX3_init 1 none ∈ am_TB := am_TB_mem (tb_1 (List.mem_of_getElem? (i := 204) rfl)) rfl
theorem iw_X3_init : Cond.instanceMethod yX3_init ∈ am_TB := am_TB_mem (tb_1 (List.mem_of_getElem? (i := 203) rfl)) rfl
theorem cw_X3_look : Cond.code yX3_look cX3_look 5 none ∈ am_TB := am_TB_mem (tb_4 (List.mem_of_getElem? (i := 92) rfl)) rfl
theorem iw_X3_look : Cond.instanceMethod yX3_look ∈ am_TB := am_TB_mem (tb_4 (List.mem_of_getElem? (i := 90) rfl)) rfl
theorem vw_X3_look : Cond.selects RX3 yX3_look yX3_look ∈ am_TB := am_TB_mem (tb_4 (List.mem_of_getElem? (i := 91) rfl)) rfl
theorem cw_X3_rankTold : Cond.code yX3_rankTold cX3_rankTold 2 (some .int) ∈ am_TB := am_TB_mem (tb_4 (List.mem_of_getElem? (i := 170) rfl)) rfl
theorem iw_X3_rankTold : Cond.instanceMethod yX3_rankTold ∈ am_TB := am_TB_mem (tb_4 (List.mem_of_getElem? (i := 168) rfl)) rfl
theorem vw_X3_rankTold : Cond.selects RX3 yX3_rankTold yX3_rankTold ∈ am_TB := am_TB_mem (tb_4 (List.mem_of_getElem? (i := 169) rfl)) rfl
theorem cw_X3_breathOf : Cond.code yX3_breathOf cX3_breathOf 4 (some .int) ∈ am_TB := am_TB_mem (tb_2 (List.mem_of_getElem? (i := 205) rfl)) rfl
theorem iw_X3_breathOf : Cond.instanceMethod yX3_breathOf ∈ am_TB := am_TB_mem (tb_2 (List.mem_of_getElem? (i := 203) rfl)) rfl
theorem vw_X3_breathOf : Cond.selects RX3 yX3_breathOf yX3_breathOf ∈ am_TB := am_TB_mem (tb_2 (List.mem_of_getElem? (i := 204) rfl)) rfl
theorem cw_X3_tells : Cond.code yX3_tells cX3_tells 9 (some .int) ∈ am_TB := am_TB_mem (tb_2 (List.mem_of_getElem? (i := 214) rfl)) rfl
theorem iw_X3_tells : Cond.instanceMethod yX3_tells ∈ am_TB := am_TB_mem (tb_2 (List.mem_of_getElem? (i := 212) rfl)) rfl
theorem vw_X3_tells : Cond.selects RX3 yX3_tells yX3_tells ∈ am_TB := am_TB_mem (tb_2 (List.mem_of_getElem? (i := 213) rfl)) rfl
theorem cw_X4_init : Cond.code yX4_init cX4_init 1 none ∈ am_TB := am_TB_mem (tb_1 (List.mem_of_getElem? (i := 92) rfl)) rfl
theorem iw_X4_init : Cond.instanceMethod yX4_init ∈ am_TB := am_TB_mem (tb_1 (List.mem_of_getElem? (i := 91) rfl)) rfl
theorem cw_X4_add : Cond.code yX4_add cX4_add 2 none ∈ am_TB := am_TB_mem (tb_3 (List.mem_of_getElem? (i := 201) rfl)) rfl
theorem iw_X4_add : Cond.instanceMethod yX4_add ∈ am_TB := am_TB_mem (tb_3 (List.mem_of_getElem? (i := 199) rfl)) rfl
theorem vw_X4_add : Cond.selects RX4 yX4_add yX4_add ∈ am_TB := am_TB_mem (tb_3 (List.mem_of_getElem? (i := 200) rfl)) rfl
theorem cw_X4_mark : Cond.code yX4_mark cX4_mark 2 none ∈ am_TB := am_TB_mem (tb_3 (List.mem_of_getElem? (i := 146) rfl)) rfl
theorem iw_X4_mark : Cond.instanceMethod yX4_mark ∈ am_TB := am_TB_mem (tb_3 (List.mem_of_getElem? (i := 144) rfl)) rfl
theorem vw_X4_mark : Cond.selects RX4 yX4_mark yX4_mark ∈ am_TB := am_TB_mem (tb_3 (List.mem_of_getElem? (i := 145) rfl)) rfl
theorem cw_X4_skipFrom : Cond.code yX4_skipFrom cX4_skipFrom 2 none ∈ am_TB := am_TB_mem (tb_3 (List.mem_of_getElem? (i := 231) rfl)) rfl
theorem iw_X4_skipFrom : Cond.instanceMethod yX4_skipFrom ∈ am_TB := am_TB_mem (tb_3 (List.mem_of_getElem? (i := 229) rfl)) rfl
theorem vw_X4_skipFrom : Cond.selects RX4 yX4_skipFrom yX4_skipFrom ∈ am_TB := am_TB_mem (tb_3 (List.mem_of_getElem? (i := 230) rfl)) rfl
theorem cw_X4_clear : Cond.code yX4_clear cX4_clear 1 none ∈ am_TB := am_TB_mem (tb_3 (List.mem_of_getElem? (i := 57) rfl)) rfl
theorem iw_X4_clear : Cond.instanceMethod yX4_clear ∈ am_TB := am_TB_mem (tb_3 (List.mem_of_getElem? (i := 55) rfl)) rfl
theorem vw_X4_clear : Cond.selects RX4 yX4_clear yX4_clear ∈ am_TB := am_TB_mem (tb_3 (List.mem_of_getElem? (i := 56) rfl)) rfl
theorem cw_X4_takeFrom : Cond.code yX4_takeFrom cX4_takeFrom 2 none ∈ am_TB := am_TB_mem (tb_4 (List.mem_of_getElem? (i := 1) rfl)) rfl
theorem iw_X4_takeFrom : Cond.instanceMethod yX4_takeFrom ∈ am_TB := am_TB_mem (tb_3 (List.mem_of_getElem? (i := 239) rfl)) rfl
theorem vw_X4_takeFrom : Cond.selects RX4 yX4_takeFrom yX4_takeFrom ∈ am_TB := am_TB_mem (tb_4 (List.mem_of_getElem? (i := 0) rfl)) rfl
theorem cw_X5_init : Cond.code yX5_init cX5_init 3 none ∈ am_TB := am_TB_mem (tb_1 (List.mem_of_getElem? (i := 174) rfl)) rfl
theorem iw_X5_init : Cond.instanceMethod yX5_init ∈ am_TB := am_TB_mem (tb_1 (List.mem_of_getElem? (i := 173) rfl)) rfl
theorem cw_X5_read : Cond.code yX5_read cX5_read 3 (some .boolean) ∈ am_TB := am_TB_mem (tb_3 (List.mem_of_getElem? (i := 53) rfl)) rfl
theorem iw_X5_read : Cond.instanceMethod yX5_read ∈ am_TB := am_TB_mem (tb_3 (List.mem_of_getElem? (i := 51) rfl)) rfl
theorem vw_X5_read : Cond.selects RX5 yX5_read yX5_read ∈ am_TB := am_TB_mem (tb_3 (List.mem_of_getElem? (i := 52) rfl)) rfl
theorem cw_X5_fail : Cond.code yX5_fail cX5_fail 1 (some .boolean) ∈ am_TB := am_TB_mem (tb_3 (List.mem_of_getElem? (i := 137) rfl)) rfl
theorem iw_X5_fail : Cond.instanceMethod yX5_fail ∈ am_TB := am_TB_mem (tb_3 (List.mem_of_getElem? (i := 136) rfl)) rfl
theorem cw_X5_advance : Cond.code yX5_advance cX5_advance 2 none ∈ am_TB := am_TB_mem (tb_3 (List.mem_of_getElem? (i := 62) rfl)) rfl
theorem iw_X5_advance : Cond.instanceMethod yX5_advance ∈ am_TB := am_TB_mem (tb_3 (List.mem_of_getElem? (i := 61) rfl)) rfl
theorem cw_X5_kindOf : Cond.code yX5_kindOf cX5_kindOf 1 (some .int) ∈ am_TB := am_TB_mem (tb_3 (List.mem_of_getElem? (i := 66) rfl)) rfl
theorem sw_X5_kindOf : Cond.static yX5_kindOf ∈ am_TB := am_TB_mem (tb_3 (List.mem_of_getElem? (i := 65) rfl)) rfl
theorem cw_X5_is : Cond.code yX5_is cX5_is 3 (some .boolean) ∈ am_TB := am_TB_mem (tb_3 (List.mem_of_getElem? (i := 80) rfl)) rfl
theorem iw_X5_is : Cond.instanceMethod yX5_is ∈ am_TB := am_TB_mem (tb_3 (List.mem_of_getElem? (i := 79) rfl)) rfl
theorem cw_X5_pass : Cond.code yX5_pass cX5_pass 2 (some .boolean) ∈ am_TB := am_TB_mem (tb_3 (List.mem_of_getElem? (i := 153) rfl)) rfl
theorem iw_X5_pass : Cond.instanceMethod yX5_pass ∈ am_TB := am_TB_mem (tb_3 (List.mem_of_getElem? (i := 152) rfl)) rfl
theorem cw_X5_number : Cond.code yX5_number cX5_number 5 (some .int) ∈ am_TB := am_TB_mem (tb_3 (List.mem_of_getElem? (i := 175) rfl)) rfl
theorem iw_X5_number : Cond.instanceMethod yX5_number ∈ am_TB := am_TB_mem (tb_3 (List.mem_of_getElem? (i := 174) rfl)) rfl
theorem cw_X5_clause : Cond.code yX5_clause cX5_clause 4 (some .boolean) ∈ am_TB := am_TB_mem (tb_3 (List.mem_of_getElem? (i := 71) rfl)) rfl
theorem iw_X5_clause : Cond.instanceMethod yX5_clause ∈ am_TB := am_TB_mem (tb_3 (List.mem_of_getElem? (i := 70) rfl)) rfl
theorem cw_X5_clauseKind : Cond.code yX5_clauseKind cX5_clauseKind 1 (some .int) ∈ am_TB := am_TB_mem (tb_3 (List.mem_of_getElem? (i := 75) rfl)) rfl
theorem iw_X5_clauseKind : Cond.instanceMethod yX5_clauseKind ∈ am_TB := am_TB_mem (tb_3 (List.mem_of_getElem? (i := 74) rfl)) rfl
theorem cw_X5_sums : Cond.code yX5_sums cX5_sums 4 (some .boolean) ∈ am_TB := am_TB_mem (tb_3 (List.mem_of_getElem? (i := 142) rfl)) rfl
theorem iw_X5_sums : Cond.instanceMethod yX5_sums ∈ am_TB := am_TB_mem (tb_3 (List.mem_of_getElem? (i := 141) rfl)) rfl
theorem cw_X5_test : Cond.code yX5_test cX5_test 4 (some .boolean) ∈ am_TB := am_TB_mem (tb_3 (List.mem_of_getElem? (i := 212) rfl)) rfl
theorem iw_X5_test : Cond.instanceMethod yX5_test ∈ am_TB := am_TB_mem (tb_3 (List.mem_of_getElem? (i := 211) rfl)) rfl
theorem cw_X5_both : Cond.code yX5_both cX5_both 4 (some .boolean) ∈ am_TB := am_TB_mem (tb_3 (List.mem_of_getElem? (i := 216) rfl)) rfl
theorem iw_X5_both : Cond.instanceMethod yX5_both ∈ am_TB := am_TB_mem (tb_3 (List.mem_of_getElem? (i := 215) rfl)) rfl
theorem cw_X5_plain : Cond.code yX5_plain cX5_plain 4 (some .boolean) ∈ am_TB := am_TB_mem (tb_3 (List.mem_of_getElem? (i := 220) rfl)) rfl
theorem iw_X5_plain : Cond.instanceMethod yX5_plain ∈ am_TB := am_TB_mem (tb_3 (List.mem_of_getElem? (i := 219) rfl)) rfl
theorem cw_X5_sum : Cond.code yX5_sum cX5_sum 4 (some .boolean) ∈ am_TB := am_TB_mem (tb_3 (List.mem_of_getElem? (i := 157) rfl)) rfl
theorem iw_X5_sum : Cond.instanceMethod yX5_sum ∈ am_TB := am_TB_mem (tb_3 (List.mem_of_getElem? (i := 156) rfl)) rfl
theorem cw_X5_term : Cond.code yX5_term cX5_term 4 (some .boolean) ∈ am_TB := am_TB_mem (tb_3 (List.mem_of_getElem? (i := 161) rfl)) rfl
theorem iw_X5_term : Cond.instanceMethod yX5_term ∈ am_TB := am_TB_mem (tb_3 (List.mem_of_getElem? (i := 160) rfl)) rfl
theorem cw_X5_part : Cond.code yX5_part cX5_part 5 (some .boolean) ∈ am_TB := am_TB_mem (tb_3 (List.mem_of_getElem? (i := 165) rfl)) rfl
theorem iw_X5_part : Cond.instanceMethod yX5_part ∈ am_TB := am_TB_mem (tb_3 (List.mem_of_getElem? (i := 164) rfl)) rfl
theorem cw_X5_openBracket : Cond.code yX5_openBracket cX5_openBracket 2 (some .boolean) ∈ am_TB := am_TB_mem (tb_3 (List.mem_of_getElem? (i := 170) rfl)) rfl
theorem iw_X5_openBracket : Cond.instanceMethod yX5_openBracket ∈ am_TB := am_TB_mem (tb_3 (List.mem_of_getElem? (i := 169) rfl)) rfl
theorem cw_X5_orderFact : Cond.code yX5_orderFact cX5_orderFact 1 (some .int) ∈ am_TB := am_TB_mem (tb_3 (List.mem_of_getElem? (i := 180) rfl)) rfl
theorem iw_X5_orderFact : Cond.instanceMethod yX5_orderFact ∈ am_TB := am_TB_mem (tb_3 (List.mem_of_getElem? (i := 179) rfl)) rfl
theorem cw_X5_lawFact : Cond.code yX5_lawFact cX5_lawFact 1 (some .int) ∈ am_TB := am_TB_mem (tb_3 (List.mem_of_getElem? (i := 190) rfl)) rfl
theorem iw_X5_lawFact : Cond.instanceMethod yX5_lawFact ∈ am_TB := am_TB_mem (tb_3 (List.mem_of_getElem? (i := 189) rfl)) rfl
theorem cw_X6_init : Cond.code yX6_init cX6_init 1 none ∈ am_TB := am_TB_mem (tb_1 (List.mem_of_getElem? (i := 210) rfl)) rfl
theorem iw_X6_init : Cond.instanceMethod yX6_init ∈ am_TB := am_TB_mem (tb_1 (List.mem_of_getElem? (i := 209) rfl)) rfl
theorem cw_X6_value : Cond.code yX6_value cX6_value 12 (some .int) ∈ am_TB := am_TB_mem (tb_2 (List.mem_of_getElem? (i := 222) rfl)) rfl
theorem iw_X6_value : Cond.instanceMethod yX6_value ∈ am_TB := am_TB_mem (tb_2 (List.mem_of_getElem? (i := 220) rfl)) rfl
theorem vw_X6_value : Cond.selects RX6 yX6_value yX6_value ∈ am_TB := am_TB_mem (tb_2 (List.mem_of_getElem? (i := 221) rfl)) rfl
theorem cw_X6_join : Cond.code yX6_join cX6_join 7 (some .int) ∈ am_TB := am_TB_mem (tb_2 (List.mem_of_getElem? (i := 230) rfl)) rfl
theorem sw_X6_join : Cond.static yX6_join ∈ am_TB := am_TB_mem (tb_2 (List.mem_of_getElem? (i := 229) rfl)) rfl
theorem cw_X7_init : Cond.code yX7_init cX7_init 3 none ∈ am_TB := am_TB_mem (tb_1 (List.mem_of_getElem? (i := 39) rfl)) rfl
theorem iw_X7_init : Cond.instanceMethod yX7_init ∈ am_TB := am_TB_mem (tb_1 (List.mem_of_getElem? (i := 38) rfl)) rfl
theorem cw_X7_has : Cond.code yX7_has cX7_has 2 (some .boolean) ∈ am_TB := am_TB_mem (tb_2 (List.mem_of_getElem? (i := 176) rfl)) rfl
theorem iw_X7_has : Cond.instanceMethod yX7_has ∈ am_TB := am_TB_mem (tb_2 (List.mem_of_getElem? (i := 174) rfl)) rfl
theorem vw_X7_has : Cond.selects RX7 yX7_has yX7_has ∈ am_TB := am_TB_mem (tb_2 (List.mem_of_getElem? (i := 175) rfl)) rfl
theorem cw_X7_get : Cond.code yX7_get cX7_get 3 (some .int) ∈ am_TB := am_TB_mem (tb_2 (List.mem_of_getElem? (i := 161) rfl)) rfl
theorem iw_X7_get : Cond.instanceMethod yX7_get ∈ am_TB := am_TB_mem (tb_2 (List.mem_of_getElem? (i := 159) rfl)) rfl
theorem vw_X7_get : Cond.selects RX7 yX7_get yX7_get ∈ am_TB := am_TB_mem (tb_2 (List.mem_of_getElem? (i := 160) rfl)) rfl
theorem cw_X7_set : Cond.code yX7_set cX7_set 4 none ∈ am_TB := am_TB_mem (tb_2 (List.mem_of_getElem? (i := 149) rfl)) rfl
theorem iw_X7_set : Cond.instanceMethod yX7_set ∈ am_TB := am_TB_mem (tb_2 (List.mem_of_getElem? (i := 147) rfl)) rfl
theorem vw_X7_set : Cond.selects RX7 yX7_set yX7_set ∈ am_TB := am_TB_mem (tb_2 (List.mem_of_getElem? (i := 148) rfl)) rfl
theorem cw_X7_open : Cond.code yX7_open cX7_open 1 (some .int) ∈ am_TB := am_TB_mem (tb_2 (List.mem_of_getElem? (i := 145) rfl)) rfl
theorem iw_X7_open : Cond.instanceMethod yX7_open ∈ am_TB := am_TB_mem (tb_2 (List.mem_of_getElem? (i := 143) rfl)) rfl
theorem vw_X7_open : Cond.selects RX7 yX7_open yX7_open ∈ am_TB := am_TB_mem (tb_2 (List.mem_of_getElem? (i := 144) rfl)) rfl
theorem cw_X7_cut : Cond.code yX7_cut cX7_cut 2 none ∈ am_TB := am_TB_mem (tb_3 (List.mem_of_getElem? (i := 15) rfl)) rfl
theorem iw_X7_cut : Cond.instanceMethod yX7_cut ∈ am_TB := am_TB_mem (tb_3 (List.mem_of_getElem? (i := 13) rfl)) rfl
theorem vw_X7_cut : Cond.selects RX7 yX7_cut yX7_cut ∈ am_TB := am_TB_mem (tb_3 (List.mem_of_getElem? (i := 14) rfl)) rfl
theorem cw_X7_dropFirst : Cond.code yX7_dropFirst cX7_dropFirst 1 none ∈ am_TB := am_TB_mem (tb_4 (List.mem_of_getElem? (i := 120) rfl)) rfl
theorem iw_X7_dropFirst : Cond.instanceMethod yX7_dropFirst ∈ am_TB := am_TB_mem (tb_4 (List.mem_of_getElem? (i := 118) rfl)) rfl
theorem vw_X7_dropFirst : Cond.selects RX7 yX7_dropFirst yX7_dropFirst ∈ am_TB := am_TB_mem (tb_4 (List.mem_of_getElem? (i := 119) rfl)) rfl
theorem cw_X7_copyRow : Cond.code yX7_copyRow cX7_copyRow 3 none ∈ am_TB := am_TB_mem (tb_4 (List.mem_of_getElem? (i := 200) rfl)) rfl
theorem iw_X7_copyRow : Cond.instanceMethod yX7_copyRow ∈ am_TB := am_TB_mem (tb_4 (List.mem_of_getElem? (i := 198) rfl)) rfl
theorem vw_X7_copyRow : Cond.selects RX7 yX7_copyRow yX7_copyRow ∈ am_TB := am_TB_mem (tb_4 (List.mem_of_getElem? (i := 199) rfl)) rfl
theorem cw_X7_takeFrom : Cond.code yX7_takeFrom cX7_takeFrom 2 none ∈ am_TB := am_TB_mem (tb_4 (List.mem_of_getElem? (i := 9) rfl)) rfl
theorem iw_X7_takeFrom : Cond.instanceMethod yX7_takeFrom ∈ am_TB := am_TB_mem (tb_4 (List.mem_of_getElem? (i := 7) rfl)) rfl
theorem vw_X7_takeFrom : Cond.selects RX7 yX7_takeFrom yX7_takeFrom ∈ am_TB := am_TB_mem (tb_4 (List.mem_of_getElem? (i := 8) rfl)) rfl
theorem cw_X8_init : Cond.code yX8_init cX8_init 1 none ∈ am_TB := am_TB_mem (tb_2 (List.mem_of_getElem? (i := 59) rfl)) rfl
theorem iw_X8_init : Cond.instanceMethod yX8_init ∈ am_TB := am_TB_mem (tb_2 (List.mem_of_getElem? (i := 58) rfl)) rfl
theorem cw_X8_begin : Cond.code yX8_begin cX8_begin 5 none ∈ am_TB := am_TB_mem (tb_5 (List.mem_of_getElem? (i := 91) rfl)) rfl
theorem iw_X8_begin : Cond.instanceMethod yX8_begin ∈ am_TB := am_TB_mem (tb_5 (List.mem_of_getElem? (i := 89) rfl)) rfl
theorem vw_X8_begin : Cond.selects RX8 yX8_begin yX8_begin ∈ am_TB := am_TB_mem (tb_5 (List.mem_of_getElem? (i := 90) rfl)) rfl
theorem cw_X8_draw : Cond.code yX8_draw cX8_draw 2 (some .int) ∈ am_TB := am_TB_mem (tb_5 (List.mem_of_getElem? (i := 102) rfl)) rfl
theorem iw_X8_draw : Cond.instanceMethod yX8_draw ∈ am_TB := am_TB_mem (tb_5 (List.mem_of_getElem? (i := 100) rfl)) rfl
theorem vw_X8_draw : Cond.selects RX8 yX8_draw yX8_draw ∈ am_TB := am_TB_mem (tb_5 (List.mem_of_getElem? (i := 101) rfl)) rfl
theorem cw_X8_noteSaid : Cond.code yX8_noteSaid cX8_noteSaid 2 none ∈ am_TB := am_TB_mem (tb_5 (List.mem_of_getElem? (i := 107) rfl)) rfl
theorem iw_X8_noteSaid : Cond.instanceMethod yX8_noteSaid ∈ am_TB := am_TB_mem (tb_5 (List.mem_of_getElem? (i := 105) rfl)) rfl
theorem vw_X8_noteSaid : Cond.selects RX8 yX8_noteSaid yX8_noteSaid ∈ am_TB := am_TB_mem (tb_5 (List.mem_of_getElem? (i := 106) rfl)) rfl
theorem cw_X8_noteStanding : Cond.code yX8_noteStanding cX8_noteStanding 4 none ∈ am_TB := am_TB_mem (tb_5 (List.mem_of_getElem? (i := 116) rfl)) rfl
theorem iw_X8_noteStanding : Cond.instanceMethod yX8_noteStanding ∈ am_TB := am_TB_mem (tb_5 (List.mem_of_getElem? (i := 114) rfl)) rfl
theorem vw_X8_noteStanding : Cond.selects RX8 yX8_noteStanding yX8_noteStanding ∈ am_TB := am_TB_mem (tb_5 (List.mem_of_getElem? (i := 115) rfl)) rfl
theorem cw_X8_add : Cond.code yX8_add cX8_add 3 none ∈ am_TB := am_TB_mem (tb_5 (List.mem_of_getElem? (i := 111) rfl)) rfl
theorem iw_X8_add : Cond.instanceMethod yX8_add ∈ am_TB := am_TB_mem (tb_5 (List.mem_of_getElem? (i := 110) rfl)) rfl
theorem cw_X8_tally : Cond.code yX8_tally cX8_tally 3 (some .int) ∈ am_TB := am_TB_mem (tb_5 (List.mem_of_getElem? (i := 124) rfl)) rfl
theorem iw_X8_tally : Cond.instanceMethod yX8_tally ∈ am_TB := am_TB_mem (tb_5 (List.mem_of_getElem? (i := 122) rfl)) rfl
theorem vw_X8_tally : Cond.selects RX8 yX8_tally yX8_tally ∈ am_TB := am_TB_mem (tb_5 (List.mem_of_getElem? (i := 123) rfl)) rfl
theorem cw_X9_init : Cond.code yX9_init cX9_init 1 none ∈ am_TB := am_TB_mem (tb_1 (List.mem_of_getElem? (i := 69) rfl)) rfl
theorem iw_X9_init : Cond.instanceMethod yX9_init ∈ am_TB := am_TB_mem (tb_1 (List.mem_of_getElem? (i := 68) rfl)) rfl
theorem cw_X9_waits : Cond.code yX9_waits cX9_waits 2 (some .boolean) ∈ am_TB := am_TB_mem (tb_4 (List.mem_of_getElem? (i := 57) rfl)) rfl
theorem iw_X9_waits : Cond.instanceMethod yX9_waits ∈ am_TB := am_TB_mem (tb_4 (List.mem_of_getElem? (i := 55) rfl)) rfl
theorem vw_X9_waits : Cond.selects RX9 yX9_waits yX9_waits ∈ am_TB := am_TB_mem (tb_4 (List.mem_of_getElem? (i := 56) rfl)) rfl
theorem cw_X9_waiting : Cond.code yX9_waiting cX9_waiting 3 (some .int) ∈ am_TB := am_TB_mem (tb_4 (List.mem_of_getElem? (i := 53) rfl)) rfl
theorem iw_X9_waiting : Cond.instanceMethod yX9_waiting ∈ am_TB := am_TB_mem (tb_4 (List.mem_of_getElem? (i := 51) rfl)) rfl
theorem vw_X9_waiting : Cond.selects RX9 yX9_waiting yX9_waiting ∈ am_TB := am_TB_mem (tb_4 (List.mem_of_getElem? (i := 52) rfl)) rfl
theorem cw_X9_grantedFor : Cond.code yX9_grantedFor cX9_grantedFor 4 (some .int) ∈ am_TB := am_TB_mem (tb_4 (List.mem_of_getElem? (i := 66) rfl)) rfl
theorem iw_X9_grantedFor : Cond.instanceMethod yX9_grantedFor ∈ am_TB := am_TB_mem (tb_4 (List.mem_of_getElem? (i := 64) rfl)) rfl
theorem vw_X9_grantedFor : Cond.selects RX9 yX9_grantedFor yX9_grantedFor ∈ am_TB := am_TB_mem (tb_4 (List.mem_of_getElem? (i := 65) rfl)) rfl
theorem cw_X9_utter : Cond.code yX9_utter cX9_utter 6 (some .int) ∈ am_TB := am_TB_mem (tb_3 (List.mem_of_getElem? (i := 39) rfl)) rfl
theorem iw_X9_utter : Cond.instanceMethod yX9_utter ∈ am_TB := am_TB_mem (tb_3 (List.mem_of_getElem? (i := 37) rfl)) rfl
theorem vw_X9_utter : Cond.selects RX9 yX9_utter yX9_utter ∈ am_TB := am_TB_mem (tb_3 (List.mem_of_getElem? (i := 38) rfl)) rfl
theorem cw_X9_takeBackDawn : Cond.code yX9_takeBackDawn cX9_takeBackDawn 3 none ∈ am_TB := am_TB_mem (tb_4 (List.mem_of_getElem? (i := 188) rfl)) rfl
theorem iw_X9_takeBackDawn : Cond.instanceMethod yX9_takeBackDawn ∈ am_TB := am_TB_mem (tb_4 (List.mem_of_getElem? (i := 186) rfl)) rfl
theorem vw_X9_takeBackDawn : Cond.selects RX9 yX9_takeBackDawn yX9_takeBackDawn ∈ am_TB := am_TB_mem (tb_4 (List.mem_of_getElem? (i := 187) rfl)) rfl
theorem cw_X9_dropHeard : Cond.code yX9_dropHeard cX9_dropHeard 3 (some .int) ∈ am_TB := am_TB_mem (tb_4 (List.mem_of_getElem? (i := 196) rfl)) rfl
theorem iw_X9_dropHeard : Cond.instanceMethod yX9_dropHeard ∈ am_TB := am_TB_mem (tb_4 (List.mem_of_getElem? (i := 194) rfl)) rfl
theorem vw_X9_dropHeard : Cond.selects RX9 yX9_dropHeard yX9_dropHeard ∈ am_TB := am_TB_mem (tb_4 (List.mem_of_getElem? (i := 195) rfl)) rfl
theorem cw_X9_takeFrom : Cond.code yX9_takeFrom cX9_takeFrom 2 none ∈ am_TB := am_TB_mem (tb_4 (List.mem_of_getElem? (i := 19) rfl)) rfl
theorem iw_X9_takeFrom : Cond.instanceMethod yX9_takeFrom ∈ am_TB := am_TB_mem (tb_4 (List.mem_of_getElem? (i := 17) rfl)) rfl
theorem vw_X9_takeFrom : Cond.selects RX9 yX9_takeFrom yX9_takeFrom ∈ am_TB := am_TB_mem (tb_4 (List.mem_of_getElem? (i := 18) rfl)) rfl
theorem cw_X10_init : Cond.code yX10_init cX10_init 1 none ∈ am_TB := am_TB_mem (tb_2 (List.mem_of_getElem? (i := 11) rfl)) rfl
theorem iw_X10_init : Cond.instanceMethod yX10_init ∈ am_TB := am_TB_mem (tb_2 (List.mem_of_getElem? (i := 10) rfl)) rfl
theorem cw_X10_find : Cond.code yX10_find cX10_find 4 none ∈ am_TB := am_TB_mem (tb_4 (List.mem_of_getElem? (i := 25) rfl)) rfl
theorem iw_X10_find : Cond.instanceMethod yX10_find ∈ am_TB := am_TB_mem (tb_4 (List.mem_of_getElem? (i := 23) rfl)) rfl
theorem vw_X10_find : Cond.selects RX10 yX10_find yX10_find ∈ am_TB := am_TB_mem (tb_4 (List.mem_of_getElem? (i := 24) rfl)) rfl
theorem cw_X10_improve : Cond.code yX10_improve cX10_improve 6 none ∈ am_TB := am_TB_mem (tb_4 (List.mem_of_getElem? (i := 30) rfl)) rfl
theorem iw_X10_improve : Cond.instanceMethod yX10_improve ∈ am_TB := am_TB_mem (tb_4 (List.mem_of_getElem? (i := 29) rfl)) rfl
theorem cw_X10_weigh : Cond.code yX10_weigh cX10_weigh 7 (some .long) ∈ am_TB := am_TB_mem (tb_4 (List.mem_of_getElem? (i := 35) rfl)) rfl
theorem iw_X10_weigh : Cond.instanceMethod yX10_weigh ∈ am_TB := am_TB_mem (tb_4 (List.mem_of_getElem? (i := 34) rfl)) rfl
theorem cw_X10_countWords : Cond.code yX10_countWords cX10_countWords 5 (some .int) ∈ am_TB := am_TB_mem (tb_4 (List.mem_of_getElem? (i := 41) rfl)) rfl
theorem iw_X10_countWords : Cond.instanceMethod yX10_countWords ∈ am_TB := am_TB_mem (tb_4 (List.mem_of_getElem? (i := 40) rfl)) rfl
theorem cw_X10_wordsIn : Cond.code yX10_wordsIn cX10_wordsIn 2 (some .int) ∈ am_TB := am_TB_mem (tb_4 (List.mem_of_getElem? (i := 45) rfl)) rfl
theorem iw_X10_wordsIn : Cond.instanceMethod yX10_wordsIn ∈ am_TB := am_TB_mem (tb_4 (List.mem_of_getElem? (i := 44) rfl)) rfl
theorem cw_X10_lengthFor : Cond.code yX10_lengthFor cX10_lengthFor 2 (some .int) ∈ am_TB := am_TB_mem (tb_4 (List.mem_of_getElem? (i := 62) rfl)) rfl
theorem iw_X10_lengthFor : Cond.instanceMethod yX10_lengthFor ∈ am_TB := am_TB_mem (tb_4 (List.mem_of_getElem? (i := 60) rfl)) rfl
theorem vw_X10_lengthFor : Cond.selects RX10 yX10_lengthFor yX10_lengthFor ∈ am_TB := am_TB_mem (tb_4 (List.mem_of_getElem? (i := 61) rfl)) rfl
theorem cw_X10_rulesFor : Cond.code yX10_rulesFor cX10_rulesFor 2 (some .int) ∈ am_TB := am_TB_mem (tb_4 (List.mem_of_getElem? (i := 146) rfl)) rfl
theorem iw_X10_rulesFor : Cond.instanceMethod yX10_rulesFor ∈ am_TB := am_TB_mem (tb_4 (List.mem_of_getElem? (i := 144) rfl)) rfl
theorem vw_X10_rulesFor : Cond.selects RX10 yX10_rulesFor yX10_rulesFor ∈ am_TB := am_TB_mem (tb_4 (List.mem_of_getElem? (i := 145) rfl)) rfl
theorem cw_X10_wordsFor : Cond.code yX10_wordsFor cX10_wordsFor 2 (some .int) ∈ am_TB := am_TB_mem (tb_4 (List.mem_of_getElem? (i := 142) rfl)) rfl
theorem iw_X10_wordsFor : Cond.instanceMethod yX10_wordsFor ∈ am_TB := am_TB_mem (tb_4 (List.mem_of_getElem? (i := 140) rfl)) rfl
theorem vw_X10_wordsFor : Cond.selects RX10 yX10_wordsFor yX10_wordsFor ∈ am_TB := am_TB_mem (tb_4 (List.mem_of_getElem? (i := 141) rfl)) rfl
theorem cw_X10_wordAt : Cond.code yX10_wordAt cX10_wordAt 9 (some .int) ∈ am_TB := am_TB_mem (tb_4 (List.mem_of_getElem? (i := 150) rfl)) rfl
theorem iw_X10_wordAt : Cond.instanceMethod yX10_wordAt ∈ am_TB := am_TB_mem (tb_4 (List.mem_of_getElem? (i := 148) rfl)) rfl
theorem vw_X10_wordAt : Cond.selects RX10 yX10_wordAt yX10_wordAt ∈ am_TB := am_TB_mem (tb_4 (List.mem_of_getElem? (i := 149) rfl)) rfl
theorem cw_X11_init : Cond.code yX11_init cX11_init 1 none ∈ am_TB := am_TB_mem (tb_1 (List.mem_of_getElem? (i := 25) rfl)) rfl
theorem iw_X11_init : Cond.instanceMethod yX11_init ∈ am_TB := am_TB_mem (tb_1 (List.mem_of_getElem? (i := 24) rfl)) rfl
theorem cw_X11_word : Cond.code yX11_word cX11_word 3 (some .int) ∈ am_TB := am_TB_mem (tb_2 (List.mem_of_getElem? (i := 134) rfl)) rfl
theorem iw_X11_word : Cond.instanceMethod yX11_word ∈ am_TB := am_TB_mem (tb_2 (List.mem_of_getElem? (i := 132) rfl)) rfl
theorem vw_X11_word : Cond.selects RX11 yX11_word yX11_word ∈ am_TB := am_TB_mem (tb_2 (List.mem_of_getElem? (i := 133) rfl)) rfl
theorem cw_X11_lengthOf : Cond.code yX11_lengthOf cX11_lengthOf 2 (some .int) ∈ am_TB := am_TB_mem (tb_2 (List.mem_of_getElem? (i := 157) rfl)) rfl
theorem iw_X11_lengthOf : Cond.instanceMethod yX11_lengthOf ∈ am_TB := am_TB_mem (tb_2 (List.mem_of_getElem? (i := 155) rfl)) rfl
theorem vw_X11_lengthOf : Cond.selects RX11 yX11_lengthOf yX11_lengthOf ∈ am_TB := am_TB_mem (tb_2 (List.mem_of_getElem? (i := 156) rfl)) rfl
theorem cw_X11_rule : Cond.code yX11_rule cX11_rule 6 (some .int) ∈ am_TB := am_TB_mem (tb_2 (List.mem_of_getElem? (i := 165) rfl)) rfl
theorem iw_X11_rule : Cond.instanceMethod yX11_rule ∈ am_TB := am_TB_mem (tb_2 (List.mem_of_getElem? (i := 163) rfl)) rfl
theorem vw_X11_rule : Cond.selects RX11 yX11_rule yX11_rule ∈ am_TB := am_TB_mem (tb_2 (List.mem_of_getElem? (i := 164) rfl)) rfl
theorem cw_X11_of : Cond.code yX11_of cX11_of 3 (some .int) ∈ am_TB := am_TB_mem (tb_2 (List.mem_of_getElem? (i := 180) rfl)) rfl
theorem iw_X11_of : Cond.instanceMethod yX11_of ∈ am_TB := am_TB_mem (tb_2 (List.mem_of_getElem? (i := 178) rfl)) rfl
theorem vw_X11_of : Cond.selects RX11 yX11_of yX11_of ∈ am_TB := am_TB_mem (tb_2 (List.mem_of_getElem? (i := 179) rfl)) rfl
theorem cw_X11_clash : Cond.code yX11_clash cX11_clash 4 (some .int) ∈ am_TB := am_TB_mem (tb_2 (List.mem_of_getElem? (i := 184) rfl)) rfl
theorem iw_X11_clash : Cond.instanceMethod yX11_clash ∈ am_TB := am_TB_mem (tb_2 (List.mem_of_getElem? (i := 182) rfl)) rfl
theorem vw_X11_clash : Cond.selects RX11 yX11_clash yX11_clash ∈ am_TB := am_TB_mem (tb_2 (List.mem_of_getElem? (i := 183) rfl)) rfl
theorem cw_X11_often : Cond.code yX11_often cX11_often 4 (some .int) ∈ am_TB := am_TB_mem (tb_2 (List.mem_of_getElem? (i := 193) rfl)) rfl
theorem iw_X11_often : Cond.instanceMethod yX11_often ∈ am_TB := am_TB_mem (tb_2 (List.mem_of_getElem? (i := 191) rfl)) rfl
theorem vw_X11_often : Cond.selects RX11 yX11_often yX11_often ∈ am_TB := am_TB_mem (tb_2 (List.mem_of_getElem? (i := 192) rfl)) rfl
theorem cw_X11_person : Cond.code yX11_person cX11_person 3 (some .int) ∈ am_TB := am_TB_mem (tb_2 (List.mem_of_getElem? (i := 197) rfl)) rfl
theorem iw_X11_person : Cond.instanceMethod yX11_person ∈ am_TB := am_TB_mem (tb_2 (List.mem_of_getElem? (i := 195) rfl)) rfl
theorem vw_X11_person : Cond.selects RX11 yX11_person yX11_person ∈ am_TB := am_TB_mem (tb_2 (List.mem_of_getElem? (i := 196) rfl)) rfl
theorem cw_X11_breath : Cond.code yX11_breath cX11_breath 3 (some .int) ∈ am_TB := am_TB_mem (tb_2 (List.mem_of_getElem? (i := 201) rfl)) rfl
theorem iw_X11_breath : Cond.instanceMethod yX11_breath ∈ am_TB := am_TB_mem (tb_2 (List.mem_of_getElem? (i := 199) rfl)) rfl
theorem vw_X11_breath : Cond.selects RX11 yX11_breath yX11_breath ∈ am_TB := am_TB_mem (tb_2 (List.mem_of_getElem? (i := 200) rfl)) rfl
theorem cw_X11_terms : Cond.code yX11_terms cX11_terms 4 (some .int) ∈ am_TB := am_TB_mem (tb_3 (List.mem_of_getElem? (i := 0) rfl)) rfl
theorem iw_X11_terms : Cond.instanceMethod yX11_terms ∈ am_TB := am_TB_mem (tb_2 (List.mem_of_getElem? (i := 238) rfl)) rfl
theorem vw_X11_terms : Cond.selects RX11 yX11_terms yX11_terms ∈ am_TB := am_TB_mem (tb_2 (List.mem_of_getElem? (i := 239) rfl)) rfl
theorem cw_X11_feed : Cond.code yX11_feed cX11_feed 6 (some .int) ∈ am_TB := am_TB_mem (tb_3 (List.mem_of_getElem? (i := 19) rfl)) rfl
theorem iw_X11_feed : Cond.instanceMethod yX11_feed ∈ am_TB := am_TB_mem (tb_3 (List.mem_of_getElem? (i := 17) rfl)) rfl
theorem vw_X11_feed : Cond.selects RX11 yX11_feed yX11_feed ∈ am_TB := am_TB_mem (tb_3 (List.mem_of_getElem? (i := 18) rfl)) rfl
theorem cw_X11_end : Cond.code yX11_end cX11_end 2 (some .int) ∈ am_TB := am_TB_mem (tb_3 (List.mem_of_getElem? (i := 27) rfl)) rfl
theorem iw_X11_end : Cond.instanceMethod yX11_end ∈ am_TB := am_TB_mem (tb_3 (List.mem_of_getElem? (i := 25) rfl)) rfl
theorem vw_X11_end : Cond.selects RX11 yX11_end yX11_end ∈ am_TB := am_TB_mem (tb_3 (List.mem_of_getElem? (i := 26) rfl)) rfl
theorem cw_X11_row : Cond.code yX11_row cX11_row 3 (some .int) ∈ am_TB := am_TB_mem (tb_3 (List.mem_of_getElem? (i := 31) rfl)) rfl
theorem iw_X11_row : Cond.instanceMethod yX11_row ∈ am_TB := am_TB_mem (tb_3 (List.mem_of_getElem? (i := 29) rfl)) rfl
theorem vw_X11_row : Cond.selects RX11 yX11_row yX11_row ∈ am_TB := am_TB_mem (tb_3 (List.mem_of_getElem? (i := 30) rfl)) rfl
theorem cw_X11_coughs : Cond.code yX11_coughs cX11_coughs 1 (some .int) ∈ am_TB := am_TB_mem (tb_3 (List.mem_of_getElem? (i := 45) rfl)) rfl
theorem iw_X11_coughs : Cond.instanceMethod yX11_coughs ∈ am_TB := am_TB_mem (tb_3 (List.mem_of_getElem? (i := 43) rfl)) rfl
theorem vw_X11_coughs : Cond.selects RX11 yX11_coughs yX11_coughs ∈ am_TB := am_TB_mem (tb_3 (List.mem_of_getElem? (i := 44) rfl)) rfl
theorem cw_X11_law : Cond.code yX11_law cX11_law 2 (some .int) ∈ am_TB := am_TB_mem (tb_3 (List.mem_of_getElem? (i := 49) rfl)) rfl
theorem iw_X11_law : Cond.instanceMethod yX11_law ∈ am_TB := am_TB_mem (tb_3 (List.mem_of_getElem? (i := 47) rfl)) rfl
theorem vw_X11_law : Cond.selects RX11 yX11_law yX11_law ∈ am_TB := am_TB_mem (tb_3 (List.mem_of_getElem? (i := 48) rfl)) rfl
theorem cw_X11_orders : Cond.code yX11_orders cX11_orders 6 (some .int) ∈ am_TB := am_TB_mem (tb_4 (List.mem_of_getElem? (i := 15) rfl)) rfl
theorem iw_X11_orders : Cond.instanceMethod yX11_orders ∈ am_TB := am_TB_mem (tb_4 (List.mem_of_getElem? (i := 13) rfl)) rfl
theorem vw_X11_orders : Cond.selects RX11 yX11_orders yX11_orders ∈ am_TB := am_TB_mem (tb_4 (List.mem_of_getElem? (i := 14) rfl)) rfl
theorem cw_X11_fault : Cond.code yX11_fault cX11_fault 1 (some .int) ∈ am_TB := am_TB_mem (tb_4 (List.mem_of_getElem? (i := 126) rfl)) rfl
theorem iw_X11_fault : Cond.instanceMethod yX11_fault ∈ am_TB := am_TB_mem (tb_4 (List.mem_of_getElem? (i := 124) rfl)) rfl
theorem vw_X11_fault : Cond.selects RX11 yX11_fault yX11_fault ∈ am_TB := am_TB_mem (tb_4 (List.mem_of_getElem? (i := 125) rfl)) rfl
theorem cw_X11_stopped : Cond.code yX11_stopped cX11_stopped 1 (some .int) ∈ am_TB := am_TB_mem (tb_4 (List.mem_of_getElem? (i := 130) rfl)) rfl
theorem iw_X11_stopped : Cond.instanceMethod yX11_stopped ∈ am_TB := am_TB_mem (tb_4 (List.mem_of_getElem? (i := 128) rfl)) rfl
theorem vw_X11_stopped : Cond.selects RX11 yX11_stopped yX11_stopped ∈ am_TB := am_TB_mem (tb_4 (List.mem_of_getElem? (i := 129) rfl)) rfl
theorem cw_X11_force : Cond.code yX11_force cX11_force 3 (some .int) ∈ am_TB := am_TB_mem (tb_4 (List.mem_of_getElem? (i := 134) rfl)) rfl
theorem iw_X11_force : Cond.instanceMethod yX11_force ∈ am_TB := am_TB_mem (tb_4 (List.mem_of_getElem? (i := 132) rfl)) rfl
theorem vw_X11_force : Cond.selects RX11 yX11_force yX11_force ∈ am_TB := am_TB_mem (tb_4 (List.mem_of_getElem? (i := 133) rfl)) rfl
theorem cw_X11_say : Cond.code yX11_say cX11_say 3 (some .int) ∈ am_TB := am_TB_mem (tb_4 (List.mem_of_getElem? (i := 138) rfl)) rfl
theorem iw_X11_say : Cond.instanceMethod yX11_say ∈ am_TB := am_TB_mem (tb_4 (List.mem_of_getElem? (i := 136) rfl)) rfl
theorem vw_X11_say : Cond.selects RX11 yX11_say yX11_say ∈ am_TB := am_TB_mem (tb_4 (List.mem_of_getElem? (i := 137) rfl)) rfl
theorem cw_X11_pray : Cond.code yX11_pray cX11_pray 6 (some .int) ∈ am_TB := am_TB_mem (tb_4 (List.mem_of_getElem? (i := 155) rfl)) rfl
theorem iw_X11_pray : Cond.instanceMethod yX11_pray ∈ am_TB := am_TB_mem (tb_4 (List.mem_of_getElem? (i := 153) rfl)) rfl
theorem vw_X11_pray : Cond.selects RX11 yX11_pray yX11_pray ∈ am_TB := am_TB_mem (tb_4 (List.mem_of_getElem? (i := 154) rfl)) rfl
theorem cw_X11_at : Cond.code yX11_at cX11_at 3 (some .int) ∈ am_TB := am_TB_mem (tb_4 (List.mem_of_getElem? (i := 159) rfl)) rfl
theorem iw_X11_at : Cond.instanceMethod yX11_at ∈ am_TB := am_TB_mem (tb_4 (List.mem_of_getElem? (i := 157) rfl)) rfl
theorem vw_X11_at : Cond.selects RX11 yX11_at yX11_at ∈ am_TB := am_TB_mem (tb_4 (List.mem_of_getElem? (i := 158) rfl)) rfl
theorem cw_X11_rank : Cond.code yX11_rank cX11_rank 3 (some .int) ∈ am_TB := am_TB_mem (tb_4 (List.mem_of_getElem? (i := 163) rfl)) rfl
theorem iw_X11_rank : Cond.instanceMethod yX11_rank ∈ am_TB := am_TB_mem (tb_4 (List.mem_of_getElem? (i := 161) rfl)) rfl
theorem vw_X11_rank : Cond.selects RX11 yX11_rank yX11_rank ∈ am_TB := am_TB_mem (tb_4 (List.mem_of_getElem? (i := 162) rfl)) rfl
theorem cw_X11_order : Cond.code yX11_order cX11_order 4 (some .int) ∈ am_TB := am_TB_mem (tb_4 (List.mem_of_getElem? (i := 175) rfl)) rfl
theorem iw_X11_order : Cond.instanceMethod yX11_order ∈ am_TB := am_TB_mem (tb_4 (List.mem_of_getElem? (i := 173) rfl)) rfl
theorem vw_X11_order : Cond.selects RX11 yX11_order yX11_order ∈ am_TB := am_TB_mem (tb_4 (List.mem_of_getElem? (i := 174) rfl)) rfl
theorem cw_X11_dawn : Cond.code yX11_dawn cX11_dawn 2 (some .int) ∈ am_TB := am_TB_mem (tb_4 (List.mem_of_getElem? (i := 180) rfl)) rfl
theorem iw_X11_dawn : Cond.instanceMethod yX11_dawn ∈ am_TB := am_TB_mem (tb_4 (List.mem_of_getElem? (i := 178) rfl)) rfl
theorem vw_X11_dawn : Cond.selects RX11 yX11_dawn yX11_dawn ∈ am_TB := am_TB_mem (tb_4 (List.mem_of_getElem? (i := 179) rfl)) rfl
theorem cw_X11_undo : Cond.code yX11_undo cX11_undo 2 (some .int) ∈ am_TB := am_TB_mem (tb_4 (List.mem_of_getElem? (i := 184) rfl)) rfl
theorem iw_X11_undo : Cond.instanceMethod yX11_undo ∈ am_TB := am_TB_mem (tb_4 (List.mem_of_getElem? (i := 182) rfl)) rfl
theorem vw_X11_undo : Cond.selects RX11 yX11_undo yX11_undo ∈ am_TB := am_TB_mem (tb_4 (List.mem_of_getElem? (i := 183) rfl)) rfl
theorem cw_X11_sweep : Cond.code yX11_sweep cX11_sweep 1 (some .int) ∈ am_TB := am_TB_mem (tb_4 (List.mem_of_getElem? (i := 192) rfl)) rfl
theorem iw_X11_sweep : Cond.instanceMethod yX11_sweep ∈ am_TB := am_TB_mem (tb_4 (List.mem_of_getElem? (i := 190) rfl)) rfl
theorem vw_X11_sweep : Cond.selects RX11 yX11_sweep yX11_sweep ∈ am_TB := am_TB_mem (tb_4 (List.mem_of_getElem? (i := 191) rfl)) rfl
theorem cw_X11_code : Cond.code yX11_code cX11_code 3 (some .int) ∈ am_TB := am_TB_mem (tb_4 (List.mem_of_getElem? (i := 206) rfl)) rfl
theorem iw_X11_code : Cond.instanceMethod yX11_code ∈ am_TB := am_TB_mem (tb_4 (List.mem_of_getElem? (i := 204) rfl)) rfl
theorem vw_X11_code : Cond.selects RX11 yX11_code yX11_code ∈ am_TB := am_TB_mem (tb_4 (List.mem_of_getElem? (i := 205) rfl)) rfl
theorem cw_X11_bundle : Cond.code yX11_bundle cX11_bundle 4 (some .int) ∈ am_TB := am_TB_mem (tb_5 (List.mem_of_getElem? (i := 31) rfl)) rfl
theorem iw_X11_bundle : Cond.instanceMethod yX11_bundle ∈ am_TB := am_TB_mem (tb_5 (List.mem_of_getElem? (i := 29) rfl)) rfl
theorem vw_X11_bundle : Cond.selects RX11 yX11_bundle yX11_bundle ∈ am_TB := am_TB_mem (tb_5 (List.mem_of_getElem? (i := 30) rfl)) rfl
theorem cw_X11_cover : Cond.code yX11_cover cX11_cover 7 (some .int) ∈ am_TB := am_TB_mem (tb_5 (List.mem_of_getElem? (i := 35) rfl)) rfl
theorem iw_X11_cover : Cond.instanceMethod yX11_cover ∈ am_TB := am_TB_mem (tb_5 (List.mem_of_getElem? (i := 33) rfl)) rfl
theorem vw_X11_cover : Cond.selects RX11 yX11_cover yX11_cover ∈ am_TB := am_TB_mem (tb_5 (List.mem_of_getElem? (i := 34) rfl)) rfl
theorem cw_X11_when : Cond.code yX11_when cX11_when 5 (some .int) ∈ am_TB := am_TB_mem (tb_5 (List.mem_of_getElem? (i := 44) rfl)) rfl
theorem iw_X11_when : Cond.instanceMethod yX11_when ∈ am_TB := am_TB_mem (tb_5 (List.mem_of_getElem? (i := 42) rfl)) rfl
theorem vw_X11_when : Cond.selects RX11 yX11_when yX11_when ∈ am_TB := am_TB_mem (tb_5 (List.mem_of_getElem? (i := 43) rfl)) rfl
theorem cw_X11_longest : Cond.code yX11_longest cX11_longest 6 (some .int) ∈ am_TB := am_TB_mem (tb_5 (List.mem_of_getElem? (i := 48) rfl)) rfl
theorem iw_X11_longest : Cond.instanceMethod yX11_longest ∈ am_TB := am_TB_mem (tb_5 (List.mem_of_getElem? (i := 46) rfl)) rfl
theorem vw_X11_longest : Cond.selects RX11 yX11_longest yX11_longest ∈ am_TB := am_TB_mem (tb_5 (List.mem_of_getElem? (i := 47) rfl)) rfl
theorem cw_X11_keep : Cond.code yX11_keep cX11_keep 9 (some .int) ∈ am_TB := am_TB_mem (tb_5 (List.mem_of_getElem? (i := 53) rfl)) rfl
theorem iw_X11_keep : Cond.instanceMethod yX11_keep ∈ am_TB := am_TB_mem (tb_5 (List.mem_of_getElem? (i := 51) rfl)) rfl
theorem vw_X11_keep : Cond.selects RX11 yX11_keep yX11_keep ∈ am_TB := am_TB_mem (tb_5 (List.mem_of_getElem? (i := 52) rfl)) rfl
theorem cw_X11_answer : Cond.code yX11_answer cX11_answer 5 (some .int) ∈ am_TB := am_TB_mem (tb_5 (List.mem_of_getElem? (i := 61) rfl)) rfl
theorem iw_X11_answer : Cond.instanceMethod yX11_answer ∈ am_TB := am_TB_mem (tb_5 (List.mem_of_getElem? (i := 59) rfl)) rfl
theorem vw_X11_answer : Cond.selects RX11 yX11_answer yX11_answer ∈ am_TB := am_TB_mem (tb_5 (List.mem_of_getElem? (i := 60) rfl)) rfl
theorem cw_X11_forget : Cond.code yX11_forget cX11_forget 2 (some .int) ∈ am_TB := am_TB_mem (tb_5 (List.mem_of_getElem? (i := 65) rfl)) rfl
theorem iw_X11_forget : Cond.instanceMethod yX11_forget ∈ am_TB := am_TB_mem (tb_5 (List.mem_of_getElem? (i := 63) rfl)) rfl
theorem vw_X11_forget : Cond.selects RX11 yX11_forget yX11_forget ∈ am_TB := am_TB_mem (tb_5 (List.mem_of_getElem? (i := 64) rfl)) rfl
theorem cw_X11_hidden : Cond.code yX11_hidden cX11_hidden 5 (some .int) ∈ am_TB := am_TB_mem (tb_5 (List.mem_of_getElem? (i := 69) rfl)) rfl
theorem iw_X11_hidden : Cond.instanceMethod yX11_hidden ∈ am_TB := am_TB_mem (tb_5 (List.mem_of_getElem? (i := 67) rfl)) rfl
theorem vw_X11_hidden : Cond.selects RX11 yX11_hidden yX11_hidden ∈ am_TB := am_TB_mem (tb_5 (List.mem_of_getElem? (i := 68) rfl)) rfl
theorem cw_X11_season : Cond.code yX11_season cX11_season 5 (some .int) ∈ am_TB := am_TB_mem (tb_5 (List.mem_of_getElem? (i := 86) rfl)) rfl
theorem iw_X11_season : Cond.instanceMethod yX11_season ∈ am_TB := am_TB_mem (tb_5 (List.mem_of_getElem? (i := 84) rfl)) rfl
theorem vw_X11_season : Cond.selects RX11 yX11_season yX11_season ∈ am_TB := am_TB_mem (tb_5 (List.mem_of_getElem? (i := 85) rfl)) rfl
theorem cw_X11_drawn : Cond.code yX11_drawn cX11_drawn 3 (some .int) ∈ am_TB := am_TB_mem (tb_5 (List.mem_of_getElem? (i := 120) rfl)) rfl
theorem iw_X11_drawn : Cond.instanceMethod yX11_drawn ∈ am_TB := am_TB_mem (tb_5 (List.mem_of_getElem? (i := 118) rfl)) rfl
theorem vw_X11_drawn : Cond.selects RX11 yX11_drawn yX11_drawn ∈ am_TB := am_TB_mem (tb_5 (List.mem_of_getElem? (i := 119) rfl)) rfl
theorem cw_X11_image : Cond.code yX11_image cX11_image 2 (some .int) ∈ am_TB := am_TB_mem (tb_5 (List.mem_of_getElem? (i := 128) rfl)) rfl
theorem iw_X11_image : Cond.instanceMethod yX11_image ∈ am_TB := am_TB_mem (tb_5 (List.mem_of_getElem? (i := 126) rfl)) rfl
theorem vw_X11_image : Cond.selects RX11 yX11_image yX11_image ∈ am_TB := am_TB_mem (tb_5 (List.mem_of_getElem? (i := 127) rfl)) rfl
theorem cw_X11_back : Cond.code yX11_back cX11_back 2 (some .int) ∈ am_TB := am_TB_mem (tb_5 (List.mem_of_getElem? (i := 140) rfl)) rfl
theorem iw_X11_back : Cond.instanceMethod yX11_back ∈ am_TB := am_TB_mem (tb_5 (List.mem_of_getElem? (i := 138) rfl)) rfl
theorem vw_X11_back : Cond.selects RX11 yX11_back yX11_back ∈ am_TB := am_TB_mem (tb_5 (List.mem_of_getElem? (i := 139) rfl)) rfl
theorem cw_X11_count : Cond.code yX11_count cX11_count 2 (some .int) ∈ am_TB := am_TB_mem (tb_5 (List.mem_of_getElem? (i := 144) rfl)) rfl
theorem iw_X11_count : Cond.instanceMethod yX11_count ∈ am_TB := am_TB_mem (tb_5 (List.mem_of_getElem? (i := 142) rfl)) rfl
theorem vw_X11_count : Cond.selects RX11 yX11_count yX11_count ∈ am_TB := am_TB_mem (tb_5 (List.mem_of_getElem? (i := 143) rfl)) rfl
theorem cw_X11_status : Cond.code yX11_status cX11_status 1 (some .int) ∈ am_TB := am_TB_mem (tb_5 (List.mem_of_getElem? (i := 148) rfl)) rfl
theorem iw_X11_status : Cond.instanceMethod yX11_status ∈ am_TB := am_TB_mem (tb_5 (List.mem_of_getElem? (i := 146) rfl)) rfl
theorem vw_X11_status : Cond.selects RX11 yX11_status yX11_status ∈ am_TB := am_TB_mem (tb_5 (List.mem_of_getElem? (i := 147) rfl)) rfl
theorem cw_X11_refuse : Cond.code yX11_refuse cX11_refuse 2 (some .int) ∈ am_TB := am_TB_mem (tb_2 (List.mem_of_getElem? (i := 141) rfl)) rfl
theorem iw_X11_refuse : Cond.instanceMethod yX11_refuse ∈ am_TB := am_TB_mem (tb_2 (List.mem_of_getElem? (i := 140) rfl)) rfl
theorem cw_X11_fine : Cond.code yX11_fine cX11_fine 2 (some .int) ∈ am_TB := am_TB_mem (tb_2 (List.mem_of_getElem? (i := 153) rfl)) rfl
theorem iw_X11_fine : Cond.instanceMethod yX11_fine ∈ am_TB := am_TB_mem (tb_2 (List.mem_of_getElem? (i := 152) rfl)) rfl
theorem cw_X11_within : Cond.code yX11_within cX11_within 3 (some .boolean) ∈ am_TB := am_TB_mem (tb_2 (List.mem_of_getElem? (i := 137) rfl)) rfl
theorem sw_X11_within : Cond.static yX11_within ∈ am_TB := am_TB_mem (tb_2 (List.mem_of_getElem? (i := 136) rfl)) rfl
theorem cw_X11_isThing : Cond.code yX11_isThing cX11_isThing 1 (some .boolean) ∈ am_TB := am_TB_mem (tb_2 (List.mem_of_getElem? (i := 168) rfl)) rfl
theorem sw_X11_isThing : Cond.static yX11_isThing ∈ am_TB := am_TB_mem (tb_2 (List.mem_of_getElem? (i := 167) rfl)) rfl
theorem cw_X11_lacksWord : Cond.code yX11_lacksWord cX11_lacksWord 2 (some .boolean) ∈ am_TB := am_TB_mem (tb_2 (List.mem_of_getElem? (i := 172) rfl)) rfl
theorem iw_X11_lacksWord : Cond.instanceMethod yX11_lacksWord ∈ am_TB := am_TB_mem (tb_2 (List.mem_of_getElem? (i := 171) rfl)) rfl
theorem cw_X11_lowestTerm : Cond.code yX11_lowestTerm cX11_lowestTerm 1 (some .int) ∈ am_TB := am_TB_mem (tb_3 (List.mem_of_getElem? (i := 3) rfl)) rfl
theorem sw_X11_lowestTerm : Cond.static yX11_lowestTerm ∈ am_TB := am_TB_mem (tb_3 (List.mem_of_getElem? (i := 2) rfl)) rfl
theorem cw_X11_highestTerm : Cond.code yX11_highestTerm cX11_highestTerm 1 (some .int) ∈ am_TB := am_TB_mem (tb_3 (List.mem_of_getElem? (i := 6) rfl)) rfl
theorem sw_X11_highestTerm : Cond.static yX11_highestTerm ∈ am_TB := am_TB_mem (tb_3 (List.mem_of_getElem? (i := 5) rfl)) rfl
theorem cw_X11_feedNumber : Cond.code yX11_feedNumber cX11_feedNumber 3 none ∈ am_TB := am_TB_mem (tb_3 (List.mem_of_getElem? (i := 23) rfl)) rfl
theorem iw_X11_feedNumber : Cond.instanceMethod yX11_feedNumber ∈ am_TB := am_TB_mem (tb_3 (List.mem_of_getElem? (i := 22) rfl)) rfl
theorem cw_X11_tryPrayer : Cond.code yX11_tryPrayer cX11_tryPrayer 6 (some .int) ∈ am_TB := am_TB_mem (tb_3 (List.mem_of_getElem? (i := 35) rfl)) rfl
theorem iw_X11_tryPrayer : Cond.instanceMethod yX11_tryPrayer ∈ am_TB := am_TB_mem (tb_3 (List.mem_of_getElem? (i := 34) rfl)) rfl
theorem cw_X11_tryDawn : Cond.code yX11_tryDawn cX11_tryDawn 2 (some .int) ∈ am_TB := am_TB_mem (tb_4 (List.mem_of_getElem? (i := 75) rfl)) rfl
theorem iw_X11_tryDawn : Cond.instanceMethod yX11_tryDawn ∈ am_TB := am_TB_mem (tb_4 (List.mem_of_getElem? (i := 74) rfl)) rfl
theorem cw_X11_noteDeed : Cond.code yX11_noteDeed cX11_noteDeed 2 none ∈ am_TB := am_TB_mem (tb_4 (List.mem_of_getElem? (i := 116) rfl)) rfl
theorem iw_X11_noteDeed : Cond.instanceMethod yX11_noteDeed ∈ am_TB := am_TB_mem (tb_4 (List.mem_of_getElem? (i := 115) rfl)) rfl
theorem cw_X11_lookAround : Cond.code yX11_lookAround cX11_lookAround 3 none ∈ am_TB := am_TB_mem (tb_4 (List.mem_of_getElem? (i := 49) rfl)) rfl
theorem iw_X11_lookAround : Cond.instanceMethod yX11_lookAround ∈ am_TB := am_TB_mem (tb_4 (List.mem_of_getElem? (i := 48) rfl)) rfl
theorem cw_X11_runOnce : Cond.code yX11_runOnce cX11_runOnce 6 (some .int) ∈ am_TB := am_TB_mem (tb_4 (List.mem_of_getElem? (i := 71) rfl)) rfl
theorem iw_X11_runOnce : Cond.instanceMethod yX11_runOnce ∈ am_TB := am_TB_mem (tb_4 (List.mem_of_getElem? (i := 70) rfl)) rfl
theorem cw_X11_isGrantedWithin : Cond.code yX11_isGrantedWithin cX11_isGrantedWithin 4 (some .boolean) ∈ am_TB := am_TB_mem (tb_5 (List.mem_of_getElem? (i := 57) rfl)) rfl
theorem iw_X11_isGrantedWithin : Cond.instanceMethod yX11_isGrantedWithin ∈ am_TB := am_TB_mem (tb_5 (List.mem_of_getElem? (i := 56) rfl)) rfl
theorem cw_X11_explainsAnswers : Cond.code yX11_explainsAnswers cX11_explainsAnswers 7 (some .boolean) ∈ am_TB := am_TB_mem (tb_5 (List.mem_of_getElem? (i := 78) rfl)) rfl
theorem iw_X11_explainsAnswers : Cond.instanceMethod yX11_explainsAnswers ∈ am_TB := am_TB_mem (tb_5 (List.mem_of_getElem? (i := 77) rfl)) rfl
theorem cw_X11_sayWhatIsDrawn : Cond.code yX11_sayWhatIsDrawn cX11_sayWhatIsDrawn 4 none ∈ am_TB := am_TB_mem (tb_5 (List.mem_of_getElem? (i := 98) rfl)) rfl
theorem iw_X11_sayWhatIsDrawn : Cond.instanceMethod yX11_sayWhatIsDrawn ∈ am_TB := am_TB_mem (tb_5 (List.mem_of_getElem? (i := 97) rfl)) rfl
theorem cw_X12_lies : Cond.code yX12_lies cX12_lies 3 (some .boolean) ∈ am_TB := am_TB_mem (tb_6 (List.mem_of_getElem? (i := 102) rfl)) rfl
theorem sw_X12_lies : Cond.static yX12_lies ∈ am_TB := am_TB_mem (tb_6 (List.mem_of_getElem? (i := 101) rfl)) rfl
theorem cw_X12_refuses : Cond.code yX12_refuses cX12_refuses 2 (some .int) ∈ am_TB := am_TB_mem (tb_6 (List.mem_of_getElem? (i := 106) rfl)) rfl
theorem iw_X12_refuses : Cond.instanceMethod yX12_refuses ∈ am_TB := am_TB_mem (tb_6 (List.mem_of_getElem? (i := 105) rfl)) rfl
theorem cw_X12_good : Cond.code yX12_good cX12_good 2 (some .int) ∈ am_TB := am_TB_mem (tb_6 (List.mem_of_getElem? (i := 110) rfl)) rfl
theorem iw_X12_good : Cond.instanceMethod yX12_good ∈ am_TB := am_TB_mem (tb_6 (List.mem_of_getElem? (i := 109) rfl)) rfl
theorem cw_X12_settled : Cond.code yX12_settled cX12_settled 2 (some .int) ∈ am_TB := am_TB_mem (tb_6 (List.mem_of_getElem? (i := 118) rfl)) rfl
theorem iw_X12_settled : Cond.instanceMethod yX12_settled ∈ am_TB := am_TB_mem (tb_6 (List.mem_of_getElem? (i := 117) rfl)) rfl
theorem cw_X12_isIn : Cond.code yX12_isIn cX12_isIn 2 (some .boolean) ∈ am_TB := am_TB_mem (tb_8 (List.mem_of_getElem? (i := 4) rfl)) rfl
theorem sw_X12_isIn : Cond.static yX12_isIn ∈ am_TB := am_TB_mem (tb_8 (List.mem_of_getElem? (i := 3) rfl)) rfl
theorem cw_X12_ones : Cond.code yX12_ones cX12_ones 3 (some .int) ∈ am_TB := am_TB_mem (tb_8 (List.mem_of_getElem? (i := 23) rfl)) rfl
theorem sw_X12_ones : Cond.static yX12_ones ∈ am_TB := am_TB_mem (tb_8 (List.mem_of_getElem? (i := 22) rfl)) rfl
theorem cw_X12_init : Cond.code yX12_init cX12_init 1 none ∈ am_TB := am_TB_mem (tb_5 (List.mem_of_getElem? (i := 153) rfl)) rfl
theorem iw_X12_init : Cond.instanceMethod yX12_init ∈ am_TB := am_TB_mem (tb_5 (List.mem_of_getElem? (i := 152) rfl)) rfl
theorem cw_X12_laysAside : Cond.code yX12_laysAside cX12_laysAside 3 none ∈ am_TB := am_TB_mem (tb_8 (List.mem_of_getElem? (i := 31) rfl)) rfl
theorem iw_X12_laysAside : Cond.instanceMethod yX12_laysAside ∈ am_TB := am_TB_mem (tb_8 (List.mem_of_getElem? (i := 30) rfl)) rfl
theorem cw_X12_takesBack : Cond.code yX12_takesBack cX12_takesBack 3 none ∈ am_TB := am_TB_mem (tb_8 (List.mem_of_getElem? (i := 35) rfl)) rfl
theorem iw_X12_takesBack : Cond.instanceMethod yX12_takesBack ∈ am_TB := am_TB_mem (tb_8 (List.mem_of_getElem? (i := 34) rfl)) rfl
theorem cw_X12_image : Cond.code yX12_image cX12_image 3 (some .int) ∈ am_TB := am_TB_mem (tb_6 (List.mem_of_getElem? (i := 99) rfl)) rfl
theorem iw_X12_image : Cond.instanceMethod yX12_image ∈ am_TB := am_TB_mem (tb_6 (List.mem_of_getElem? (i := 97) rfl)) rfl
theorem vw_X12_image : Cond.selects RX12 yX12_image yX12_image ∈ am_TB := am_TB_mem (tb_6 (List.mem_of_getElem? (i := 98) rfl)) rfl
theorem cw_X12_back : Cond.code yX12_back cX12_back 3 (some .int) ∈ am_TB := am_TB_mem (tb_6 (List.mem_of_getElem? (i := 114) rfl)) rfl
theorem iw_X12_back : Cond.instanceMethod yX12_back ∈ am_TB := am_TB_mem (tb_6 (List.mem_of_getElem? (i := 112) rfl)) rfl
theorem vw_X12_back : Cond.selects RX12 yX12_back yX12_back ∈ am_TB := am_TB_mem (tb_6 (List.mem_of_getElem? (i := 113) rfl)) rfl
theorem cw_X12_prayers : Cond.code yX12_prayers cX12_prayers 1 (some .int) ∈ am_TB := am_TB_mem (tb_6 (List.mem_of_getElem? (i := 236) rfl)) rfl
theorem iw_X12_prayers : Cond.instanceMethod yX12_prayers ∈ am_TB := am_TB_mem (tb_6 (List.mem_of_getElem? (i := 235) rfl)) rfl
theorem cw_X12_isWord : Cond.code yX12_isWord cX12_isWord 2 (some .boolean) ∈ am_TB := am_TB_mem (tb_6 (List.mem_of_getElem? (i := 130) rfl)) rfl
theorem iw_X12_isWord : Cond.instanceMethod yX12_isWord ∈ am_TB := am_TB_mem (tb_6 (List.mem_of_getElem? (i := 129) rfl)) rfl
theorem cw_X12_isThing : Cond.code yX12_isThing cX12_isThing 1 (some .boolean) ∈ am_TB := am_TB_mem (tb_6 (List.mem_of_getElem? (i := 137) rfl)) rfl
theorem sw_X12_isThing : Cond.static yX12_isThing ∈ am_TB := am_TB_mem (tb_6 (List.mem_of_getElem? (i := 136) rfl)) rfl
theorem cw_X12_isPerson : Cond.code yX12_isPerson cX12_isPerson 2 (some .boolean) ∈ am_TB := am_TB_mem (tb_6 (List.mem_of_getElem? (i := 179) rfl)) rfl
theorem iw_X12_isPerson : Cond.instanceMethod yX12_isPerson ∈ am_TB := am_TB_mem (tb_6 (List.mem_of_getElem? (i := 178) rfl)) rfl
theorem cw_X12_isPrayer : Cond.code yX12_isPrayer cX12_isPrayer 2 (some .boolean) ∈ am_TB := am_TB_mem (tb_7 (List.mem_of_getElem? (i := 160) rfl)) rfl
theorem iw_X12_isPrayer : Cond.instanceMethod yX12_isPrayer ∈ am_TB := am_TB_mem (tb_7 (List.mem_of_getElem? (i := 159) rfl)) rfl
theorem cw_X12_fact : Cond.code yX12_fact cX12_fact 3 (some .int) ∈ am_TB := am_TB_mem (tb_7 (List.mem_of_getElem? (i := 164) rfl)) rfl
theorem iw_X12_fact : Cond.instanceMethod yX12_fact ∈ am_TB := am_TB_mem (tb_7 (List.mem_of_getElem? (i := 163) rfl)) rfl
theorem cw_X12_isWaiting : Cond.code yX12_isWaiting cX12_isWaiting 2 (some .boolean) ∈ am_TB := am_TB_mem (tb_7 (List.mem_of_getElem? (i := 172) rfl)) rfl
theorem iw_X12_isWaiting : Cond.instanceMethod yX12_isWaiting ∈ am_TB := am_TB_mem (tb_7 (List.mem_of_getElem? (i := 171) rfl)) rfl
theorem cw_X12_word : Cond.code yX12_word cX12_word 3 (some .int) ∈ am_TB := am_TB_mem (tb_6 (List.mem_of_getElem? (i := 122) rfl)) rfl
theorem iw_X12_word : Cond.instanceMethod yX12_word ∈ am_TB := am_TB_mem (tb_6 (List.mem_of_getElem? (i := 120) rfl)) rfl
theorem vw_X12_word : Cond.selects RX12 yX12_word yX12_word ∈ am_TB := am_TB_mem (tb_6 (List.mem_of_getElem? (i := 121) rfl)) rfl
theorem cw_X12_lengthOf : Cond.code yX12_lengthOf cX12_lengthOf 2 (some .int) ∈ am_TB := am_TB_mem (tb_6 (List.mem_of_getElem? (i := 126) rfl)) rfl
theorem iw_X12_lengthOf : Cond.instanceMethod yX12_lengthOf ∈ am_TB := am_TB_mem (tb_6 (List.mem_of_getElem? (i := 124) rfl)) rfl
theorem vw_X12_lengthOf : Cond.selects RX12 yX12_lengthOf yX12_lengthOf ∈ am_TB := am_TB_mem (tb_6 (List.mem_of_getElem? (i := 125) rfl)) rfl
theorem cw_X12_isPart : Cond.code yX12_isPart cX12_isPart 1 (some .boolean) ∈ am_TB := am_TB_mem (tb_6 (List.mem_of_getElem? (i := 140) rfl)) rfl
theorem sw_X12_isPart : Cond.static yX12_isPart ∈ am_TB := am_TB_mem (tb_6 (List.mem_of_getElem? (i := 139) rfl)) rfl
theorem cw_X12_isThere : Cond.code yX12_isThere cX12_isThere 2 (some .boolean) ∈ am_TB := am_TB_mem (tb_6 (List.mem_of_getElem? (i := 144) rfl)) rfl
theorem iw_X12_isThere : Cond.instanceMethod yX12_isThere ∈ am_TB := am_TB_mem (tb_6 (List.mem_of_getElem? (i := 143) rfl)) rfl
theorem cw_X12_rule : Cond.code yX12_rule cX12_rule 6 (some .int) ∈ am_TB := am_TB_mem (tb_6 (List.mem_of_getElem? (i := 134) rfl)) rfl
theorem iw_X12_rule : Cond.instanceMethod yX12_rule ∈ am_TB := am_TB_mem (tb_6 (List.mem_of_getElem? (i := 132) rfl)) rfl
theorem vw_X12_rule : Cond.selects RX12 yX12_rule yX12_rule ∈ am_TB := am_TB_mem (tb_6 (List.mem_of_getElem? (i := 133) rfl)) rfl
theorem cw_X12_of : Cond.code yX12_of cX12_of 3 (some .int) ∈ am_TB := am_TB_mem (tb_6 (List.mem_of_getElem? (i := 148) rfl)) rfl
theorem iw_X12_of : Cond.instanceMethod yX12_of ∈ am_TB := am_TB_mem (tb_6 (List.mem_of_getElem? (i := 146) rfl)) rfl
theorem vw_X12_of : Cond.selects RX12 yX12_of yX12_of ∈ am_TB := am_TB_mem (tb_6 (List.mem_of_getElem? (i := 147) rfl)) rfl
theorem cw_X12_clash : Cond.code yX12_clash cX12_clash 5 (some .int) ∈ am_TB := am_TB_mem (tb_6 (List.mem_of_getElem? (i := 152) rfl)) rfl
theorem iw_X12_clash : Cond.instanceMethod yX12_clash ∈ am_TB := am_TB_mem (tb_6 (List.mem_of_getElem? (i := 150) rfl)) rfl
theorem vw_X12_clash : Cond.selects RX12 yX12_clash yX12_clash ∈ am_TB := am_TB_mem (tb_6 (List.mem_of_getElem? (i := 151) rfl)) rfl
theorem cw_X12_often : Cond.code yX12_often cX12_often 4 (some .int) ∈ am_TB := am_TB_mem (tb_6 (List.mem_of_getElem? (i := 156) rfl)) rfl
theorem iw_X12_often : Cond.instanceMethod yX12_often ∈ am_TB := am_TB_mem (tb_6 (List.mem_of_getElem? (i := 154) rfl)) rfl
theorem vw_X12_often : Cond.selects RX12 yX12_often yX12_often ∈ am_TB := am_TB_mem (tb_6 (List.mem_of_getElem? (i := 155) rfl)) rfl
theorem cw_X12_person : Cond.code yX12_person cX12_person 3 (some .int) ∈ am_TB := am_TB_mem (tb_6 (List.mem_of_getElem? (i := 160) rfl)) rfl
theorem iw_X12_person : Cond.instanceMethod yX12_person ∈ am_TB := am_TB_mem (tb_6 (List.mem_of_getElem? (i := 158) rfl)) rfl
theorem vw_X12_person : Cond.selects RX12 yX12_person yX12_person ∈ am_TB := am_TB_mem (tb_6 (List.mem_of_getElem? (i := 159) rfl)) rfl
theorem cw_X12_isTerm : Cond.code yX12_isTerm cX12_isTerm 2 (some .boolean) ∈ am_TB := am_TB_mem (tb_6 (List.mem_of_getElem? (i := 167) rfl)) rfl
theorem sw_X12_isTerm : Cond.static yX12_isTerm ∈ am_TB := am_TB_mem (tb_6 (List.mem_of_getElem? (i := 166) rfl)) rfl
theorem cw_X12_terms : Cond.code yX12_terms cX12_terms 5 (some .int) ∈ am_TB := am_TB_mem (tb_6 (List.mem_of_getElem? (i := 164) rfl)) rfl
theorem iw_X12_terms : Cond.instanceMethod yX12_terms ∈ am_TB := am_TB_mem (tb_6 (List.mem_of_getElem? (i := 162) rfl)) rfl
theorem vw_X12_terms : Cond.selects RX12 yX12_terms yX12_terms ∈ am_TB := am_TB_mem (tb_6 (List.mem_of_getElem? (i := 163) rfl)) rfl
theorem cw_X12_says : Cond.code yX12_says cX12_says 6 none ∈ am_TB := am_TB_mem (tb_7 (List.mem_of_getElem? (i := 0) rfl)) rfl
theorem iw_X12_says : Cond.instanceMethod yX12_says ∈ am_TB := am_TB_mem (tb_6 (List.mem_of_getElem? (i := 239) rfl)) rfl
theorem cw_X12_whyNot : Cond.code yX12_whyNot cX12_whyNot 5 (some .int) ∈ am_TB := am_TB_mem (tb_6 (List.mem_of_getElem? (i := 175) rfl)) rfl
theorem iw_X12_whyNot : Cond.instanceMethod yX12_whyNot ∈ am_TB := am_TB_mem (tb_6 (List.mem_of_getElem? (i := 174) rfl)) rfl
theorem cw_X12_row : Cond.code yX12_row cX12_row 5 (some .int) ∈ am_TB := am_TB_mem (tb_6 (List.mem_of_getElem? (i := 171) rfl)) rfl
theorem iw_X12_row : Cond.instanceMethod yX12_row ∈ am_TB := am_TB_mem (tb_6 (List.mem_of_getElem? (i := 169) rfl)) rfl
theorem vw_X12_row : Cond.selects RX12 yX12_row yX12_row ∈ am_TB := am_TB_mem (tb_6 (List.mem_of_getElem? (i := 170) rfl)) rfl
theorem cw_X12_coughs : Cond.code yX12_coughs cX12_coughs 1 (some .int) ∈ am_TB := am_TB_mem (tb_7 (List.mem_of_getElem? (i := 4) rfl)) rfl
theorem iw_X12_coughs : Cond.instanceMethod yX12_coughs ∈ am_TB := am_TB_mem (tb_7 (List.mem_of_getElem? (i := 2) rfl)) rfl
theorem vw_X12_coughs : Cond.selects RX12 yX12_coughs yX12_coughs ∈ am_TB := am_TB_mem (tb_7 (List.mem_of_getElem? (i := 3) rfl)) rfl
theorem cw_X12_feed : Cond.code yX12_feed cX12_feed 7 (some .int) ∈ am_TB := am_TB_mem (tb_7 (List.mem_of_getElem? (i := 8) rfl)) rfl
theorem iw_X12_feed : Cond.instanceMethod yX12_feed ∈ am_TB := am_TB_mem (tb_7 (List.mem_of_getElem? (i := 6) rfl)) rfl
theorem vw_X12_feed : Cond.selects RX12 yX12_feed yX12_feed ∈ am_TB := am_TB_mem (tb_7 (List.mem_of_getElem? (i := 7) rfl)) rfl
theorem cw_X12_end : Cond.code yX12_end cX12_end 2 (some .int) ∈ am_TB := am_TB_mem (tb_7 (List.mem_of_getElem? (i := 12) rfl)) rfl
theorem iw_X12_end : Cond.instanceMethod yX12_end ∈ am_TB := am_TB_mem (tb_7 (List.mem_of_getElem? (i := 10) rfl)) rfl
theorem vw_X12_end : Cond.selects RX12 yX12_end yX12_end ∈ am_TB := am_TB_mem (tb_7 (List.mem_of_getElem? (i := 11) rfl)) rfl
theorem cw_X12_isSmall : Cond.code yX12_isSmall cX12_isSmall 1 (some .boolean) ∈ am_TB := am_TB_mem (tb_7 (List.mem_of_getElem? (i := 31) rfl)) rfl
theorem sw_X12_isSmall : Cond.static yX12_isSmall ∈ am_TB := am_TB_mem (tb_7 (List.mem_of_getElem? (i := 30) rfl)) rfl
theorem cw_X12_isDigit : Cond.code yX12_isDigit cX12_isDigit 1 (some .boolean) ∈ am_TB := am_TB_mem (tb_7 (List.mem_of_getElem? (i := 34) rfl)) rfl
theorem sw_X12_isDigit : Cond.static yX12_isDigit ∈ am_TB := am_TB_mem (tb_7 (List.mem_of_getElem? (i := 33) rfl)) rfl
theorem cw_X12_wordAt : Cond.code yX12_wordAt cX12_wordAt 8 (some .int) ∈ am_TB := am_TB_mem (tb_7 (List.mem_of_getElem? (i := 38) rfl)) rfl
theorem iw_X12_wordAt : Cond.instanceMethod yX12_wordAt ∈ am_TB := am_TB_mem (tb_7 (List.mem_of_getElem? (i := 37) rfl)) rfl
theorem cw_X12_splits : Cond.code yX12_splits cX12_splits 6 none ∈ am_TB := am_TB_mem (tb_7 (List.mem_of_getElem? (i := 28) rfl)) rfl
theorem iw_X12_splits : Cond.instanceMethod yX12_splits ∈ am_TB := am_TB_mem (tb_7 (List.mem_of_getElem? (i := 27) rfl)) rfl
theorem cw_X12_fine : Cond.code yX12_fine cX12_fine 1 (some .boolean) ∈ am_TB := am_TB_mem (tb_7 (List.mem_of_getElem? (i := 55) rfl)) rfl
theorem iw_X12_fine : Cond.instanceMethod yX12_fine ∈ am_TB := am_TB_mem (tb_7 (List.mem_of_getElem? (i := 54) rfl)) rfl
theorem cw_X12_faults : Cond.code yX12_faults cX12_faults 1 none ∈ am_TB := am_TB_mem (tb_7 (List.mem_of_getElem? (i := 71) rfl)) rfl
theorem iw_X12_faults : Cond.instanceMethod yX12_faults ∈ am_TB := am_TB_mem (tb_7 (List.mem_of_getElem? (i := 70) rfl)) rfl
theorem cw_X12_takes0 : Cond.code yX12_takes0 cX12_takes0 3 (some .boolean) ∈ am_TB := am_TB_mem (tb_7 (List.mem_of_getElem? (i := 51) rfl)) rfl
theorem iw_X12_takes0 : Cond.instanceMethod yX12_takes0 ∈ am_TB := am_TB_mem (tb_7 (List.mem_of_getElem? (i := 50) rfl)) rfl
theorem cw_X12_must : Cond.code yX12_must cX12_must 2 none ∈ am_TB := am_TB_mem (tb_7 (List.mem_of_getElem? (i := 75) rfl)) rfl
theorem iw_X12_must : Cond.instanceMethod yX12_must ∈ am_TB := am_TB_mem (tb_7 (List.mem_of_getElem? (i := 74) rfl)) rfl
theorem cw_X12_leaf : Cond.code yX12_leaf cX12_leaf 1 none ∈ am_TB := am_TB_mem (tb_7 (List.mem_of_getElem? (i := 79) rfl)) rfl
theorem iw_X12_leaf : Cond.instanceMethod yX12_leaf ∈ am_TB := am_TB_mem (tb_7 (List.mem_of_getElem? (i := 78) rfl)) rfl
theorem cw_X12_sign : Cond.code yX12_sign cX12_sign 1 (some .int) ∈ am_TB := am_TB_mem (tb_6 (List.mem_of_getElem? (i := 206) rfl)) rfl
theorem sw_X12_sign : Cond.static yX12_sign ∈ am_TB := am_TB_mem (tb_6 (List.mem_of_getElem? (i := 205) rfl)) rfl
theorem cw_X12_mustNumber : Cond.code yX12_mustNumber cX12_mustNumber 3 none ∈ am_TB := am_TB_mem (tb_7 (List.mem_of_getElem? (i := 83) rfl)) rfl
theorem iw_X12_mustNumber : Cond.instanceMethod yX12_mustNumber ∈ am_TB := am_TB_mem (tb_7 (List.mem_of_getElem? (i := 82) rfl)) rfl
theorem cw_X12_readClause : Cond.code yX12_readClause cX12_readClause 1 none ∈ am_TB := am_TB_mem (tb_7 (List.mem_of_getElem? (i := 99) rfl)) rfl
theorem iw_X12_readClause : Cond.instanceMethod yX12_readClause ∈ am_TB := am_TB_mem (tb_7 (List.mem_of_getElem? (i := 98) rfl)) rfl
theorem cw_X12_readOrder : Cond.code yX12_readOrder cX12_readOrder 1 none ∈ am_TB := am_TB_mem (tb_7 (List.mem_of_getElem? (i := 47) rfl)) rfl
theorem iw_X12_readOrder : Cond.instanceMethod yX12_readOrder ∈ am_TB := am_TB_mem (tb_7 (List.mem_of_getElem? (i := 46) rfl)) rfl
theorem cw_X12_readOne : Cond.code yX12_readOne cX12_readOne 1 none ∈ am_TB := am_TB_mem (tb_7 (List.mem_of_getElem? (i := 43) rfl)) rfl
theorem iw_X12_readOne : Cond.instanceMethod yX12_readOne ∈ am_TB := am_TB_mem (tb_7 (List.mem_of_getElem? (i := 42) rfl)) rfl
theorem cw_X12_readTest : Cond.code yX12_readTest cX12_readTest 2 none ∈ am_TB := am_TB_mem (tb_7 (List.mem_of_getElem? (i := 87) rfl)) rfl
theorem iw_X12_readTest : Cond.instanceMethod yX12_readTest ∈ am_TB := am_TB_mem (tb_7 (List.mem_of_getElem? (i := 86) rfl)) rfl
theorem cw_X12_readBoth : Cond.code yX12_readBoth cX12_readBoth 2 none ∈ am_TB := am_TB_mem (tb_7 (List.mem_of_getElem? (i := 91) rfl)) rfl
theorem iw_X12_readBoth : Cond.instanceMethod yX12_readBoth ∈ am_TB := am_TB_mem (tb_7 (List.mem_of_getElem? (i := 90) rfl)) rfl
theorem cw_X12_readPlain : Cond.code yX12_readPlain cX12_readPlain 4 none ∈ am_TB := am_TB_mem (tb_7 (List.mem_of_getElem? (i := 95) rfl)) rfl
theorem iw_X12_readPlain : Cond.instanceMethod yX12_readPlain ∈ am_TB := am_TB_mem (tb_7 (List.mem_of_getElem? (i := 94) rfl)) rfl
theorem cw_X12_readSum : Cond.code yX12_readSum cX12_readSum 2 none ∈ am_TB := am_TB_mem (tb_7 (List.mem_of_getElem? (i := 59) rfl)) rfl
theorem iw_X12_readSum : Cond.instanceMethod yX12_readSum ∈ am_TB := am_TB_mem (tb_7 (List.mem_of_getElem? (i := 58) rfl)) rfl
theorem cw_X12_readTerm : Cond.code yX12_readTerm cX12_readTerm 2 none ∈ am_TB := am_TB_mem (tb_7 (List.mem_of_getElem? (i := 63) rfl)) rfl
theorem iw_X12_readTerm : Cond.instanceMethod yX12_readTerm ∈ am_TB := am_TB_mem (tb_7 (List.mem_of_getElem? (i := 62) rfl)) rfl
theorem cw_X12_readPart : Cond.code yX12_readPart cX12_readPart 3 none ∈ am_TB := am_TB_mem (tb_7 (List.mem_of_getElem? (i := 67) rfl)) rfl
theorem iw_X12_readPart : Cond.instanceMethod yX12_readPart ∈ am_TB := am_TB_mem (tb_7 (List.mem_of_getElem? (i := 66) rfl)) rfl
theorem cw_X12_reads : Cond.code yX12_reads cX12_reads 2 (some .boolean) ∈ am_TB := am_TB_mem (tb_7 (List.mem_of_getElem? (i := 24) rfl)) rfl
theorem iw_X12_reads : Cond.instanceMethod yX12_reads ∈ am_TB := am_TB_mem (tb_7 (List.mem_of_getElem? (i := 23) rfl)) rfl
theorem cw_X12_readsAs : Cond.code yX12_readsAs cX12_readsAs 2 (some .boolean) ∈ am_TB := am_TB_mem (tb_7 (List.mem_of_getElem? (i := 20) rfl)) rfl
theorem iw_X12_readsAs : Cond.instanceMethod yX12_readsAs ∈ am_TB := am_TB_mem (tb_7 (List.mem_of_getElem? (i := 19) rfl)) rfl
theorem cw_X12_lays : Cond.code yX12_lays cX12_lays 3 none ∈ am_TB := am_TB_mem (tb_7 (List.mem_of_getElem? (i := 103) rfl)) rfl
theorem iw_X12_lays : Cond.instanceMethod yX12_lays ∈ am_TB := am_TB_mem (tb_7 (List.mem_of_getElem? (i := 102) rfl)) rfl
theorem cw_X12_law : Cond.code yX12_law cX12_law 1 (some .int) ∈ am_TB := am_TB_mem (tb_7 (List.mem_of_getElem? (i := 16) rfl)) rfl
theorem iw_X12_law : Cond.instanceMethod yX12_law ∈ am_TB := am_TB_mem (tb_7 (List.mem_of_getElem? (i := 14) rfl)) rfl
theorem vw_X12_law : Cond.selects RX12 yX12_law yX12_law ∈ am_TB := am_TB_mem (tb_7 (List.mem_of_getElem? (i := 15) rfl)) rfl
theorem cw_X12_fault : Cond.code yX12_fault cX12_fault 1 (some .int) ∈ am_TB := am_TB_mem (tb_7 (List.mem_of_getElem? (i := 107) rfl)) rfl
theorem iw_X12_fault : Cond.instanceMethod yX12_fault ∈ am_TB := am_TB_mem (tb_7 (List.mem_of_getElem? (i := 105) rfl)) rfl
theorem vw_X12_fault : Cond.selects RX12 yX12_fault yX12_fault ∈ am_TB := am_TB_mem (tb_7 (List.mem_of_getElem? (i := 106) rfl)) rfl
theorem cw_X12_force : Cond.code yX12_force cX12_force 3 (some .int) ∈ am_TB := am_TB_mem (tb_7 (List.mem_of_getElem? (i := 111) rfl)) rfl
theorem iw_X12_force : Cond.instanceMethod yX12_force ∈ am_TB := am_TB_mem (tb_7 (List.mem_of_getElem? (i := 109) rfl)) rfl
theorem vw_X12_force : Cond.selects RX12 yX12_force yX12_force ∈ am_TB := am_TB_mem (tb_7 (List.mem_of_getElem? (i := 110) rfl)) rfl
theorem cw_X12_codeAt : Cond.code yX12_codeAt cX12_codeAt 2 (some .int) ∈ am_TB := am_TB_mem (tb_6 (List.mem_of_getElem? (i := 191) rfl)) rfl
theorem iw_X12_codeAt : Cond.instanceMethod yX12_codeAt ∈ am_TB := am_TB_mem (tb_6 (List.mem_of_getElem? (i := 190) rfl)) rfl
theorem cw_X12_passes0 : Cond.code yX12_passes0 cX12_passes0 3 (some .boolean) ∈ am_TB := am_TB_mem (tb_6 (List.mem_of_getElem? (i := 210) rfl)) rfl
theorem iw_X12_passes0 : Cond.instanceMethod yX12_passes0 ∈ am_TB := am_TB_mem (tb_6 (List.mem_of_getElem? (i := 209) rfl)) rfl
theorem cw_X12_bounded : Cond.code yX12_bounded cX12_bounded 4 (some .long) ∈ am_TB := am_TB_mem (tb_6 (List.mem_of_getElem? (i := 214) rfl)) rfl
theorem iw_X12_bounded : Cond.instanceMethod yX12_bounded ∈ am_TB := am_TB_mem (tb_6 (List.mem_of_getElem? (i := 213) rfl)) rfl
theorem cw_X12_sumOf : Cond.code yX12_sumOf cX12_sumOf 7 (some .long) ∈ am_TB := am_TB_mem (tb_6 (List.mem_of_getElem? (i := 195) rfl)) rfl
theorem iw_X12_sumOf : Cond.instanceMethod yX12_sumOf ∈ am_TB := am_TB_mem (tb_6 (List.mem_of_getElem? (i := 194) rfl)) rfl
theorem cw_X12_termOf : Cond.code yX12_termOf cX12_termOf 7 (some .long) ∈ am_TB := am_TB_mem (tb_6 (List.mem_of_getElem? (i := 199) rfl)) rfl
theorem iw_X12_termOf : Cond.instanceMethod yX12_termOf ∈ am_TB := am_TB_mem (tb_6 (List.mem_of_getElem? (i := 198) rfl)) rfl
theorem cw_X12_partOf : Cond.code yX12_partOf cX12_partOf 4 (some .long) ∈ am_TB := am_TB_mem (tb_6 (List.mem_of_getElem? (i := 203) rfl)) rfl
theorem iw_X12_partOf : Cond.instanceMethod yX12_partOf ∈ am_TB := am_TB_mem (tb_6 (List.mem_of_getElem? (i := 202) rfl)) rfl
theorem cw_X12_testOf : Cond.code yX12_testOf cX12_testOf 4 (some .boolean) ∈ am_TB := am_TB_mem (tb_6 (List.mem_of_getElem? (i := 220) rfl)) rfl
theorem iw_X12_testOf : Cond.instanceMethod yX12_testOf ∈ am_TB := am_TB_mem (tb_6 (List.mem_of_getElem? (i := 219) rfl)) rfl
theorem cw_X12_bothOf : Cond.code yX12_bothOf cX12_bothOf 4 (some .boolean) ∈ am_TB := am_TB_mem (tb_6 (List.mem_of_getElem? (i := 224) rfl)) rfl
theorem iw_X12_bothOf : Cond.instanceMethod yX12_bothOf ∈ am_TB := am_TB_mem (tb_6 (List.mem_of_getElem? (i := 223) rfl)) rfl
theorem cw_X12_plainOf : Cond.code yX12_plainOf cX12_plainOf 3 (some .boolean) ∈ am_TB := am_TB_mem (tb_6 (List.mem_of_getElem? (i := 228) rfl)) rfl
theorem iw_X12_plainOf : Cond.instanceMethod yX12_plainOf ∈ am_TB := am_TB_mem (tb_6 (List.mem_of_getElem? (i := 227) rfl)) rfl
theorem cw_X12_positiveOf : Cond.code yX12_positiveOf cX12_positiveOf 7 (some .boolean) ∈ am_TB := am_TB_mem (tb_6 (List.mem_of_getElem? (i := 232) rfl)) rfl
theorem iw_X12_positiveOf : Cond.instanceMethod yX12_positiveOf ∈ am_TB := am_TB_mem (tb_6 (List.mem_of_getElem? (i := 231) rfl)) rfl
theorem cw_X12_tells : Cond.code yX12_tells cX12_tells 12 (some .int) ∈ am_TB := am_TB_mem (tb_6 (List.mem_of_getElem? (i := 187) rfl)) rfl
theorem iw_X12_tells : Cond.instanceMethod yX12_tells ∈ am_TB := am_TB_mem (tb_6 (List.mem_of_getElem? (i := 186) rfl)) rfl
theorem cw_X12_breathOf : Cond.code yX12_breathOf cX12_breathOf 3 (some .int) ∈ am_TB := am_TB_mem (tb_6 (List.mem_of_getElem? (i := 183) rfl)) rfl
theorem iw_X12_breathOf : Cond.instanceMethod yX12_breathOf ∈ am_TB := am_TB_mem (tb_6 (List.mem_of_getElem? (i := 182) rfl)) rfl
theorem cw_X12_breath : Cond.code yX12_breath cX12_breath 3 (some .int) ∈ am_TB := am_TB_mem (tb_7 (List.mem_of_getElem? (i := 115) rfl)) rfl
theorem iw_X12_breath : Cond.instanceMethod yX12_breath ∈ am_TB := am_TB_mem (tb_7 (List.mem_of_getElem? (i := 113) rfl)) rfl
theorem vw_X12_breath : Cond.selects RX12 yX12_breath yX12_breath ∈ am_TB := am_TB_mem (tb_7 (List.mem_of_getElem? (i := 114) rfl)) rfl
theorem cw_X12_sets : Cond.code yX12_sets cX12_sets 3 none ∈ am_TB := am_TB_mem (tb_7 (List.mem_of_getElem? (i := 181) rfl)) rfl
theorem iw_X12_sets : Cond.instanceMethod yX12_sets ∈ am_TB := am_TB_mem (tb_7 (List.mem_of_getElem? (i := 180) rfl)) rfl
theorem cw_X12_rankOf : Cond.code yX12_rankOf cX12_rankOf 3 (some .int) ∈ am_TB := am_TB_mem (tb_7 (List.mem_of_getElem? (i := 177) rfl)) rfl
theorem iw_X12_rankOf : Cond.instanceMethod yX12_rankOf ∈ am_TB := am_TB_mem (tb_7 (List.mem_of_getElem? (i := 176) rfl)) rfl
theorem cw_X12_isBarred : Cond.code yX12_isBarred cX12_isBarred 3 (some .boolean) ∈ am_TB := am_TB_mem (tb_7 (List.mem_of_getElem? (i := 185) rfl)) rfl
theorem iw_X12_isBarred : Cond.instanceMethod yX12_isBarred ∈ am_TB := am_TB_mem (tb_7 (List.mem_of_getElem? (i := 184) rfl)) rfl
theorem cw_X12_longOf : Cond.code yX12_longOf cX12_longOf 2 (some .int) ∈ am_TB := am_TB_mem (tb_7 (List.mem_of_getElem? (i := 136) rfl)) rfl
theorem iw_X12_longOf : Cond.instanceMethod yX12_longOf ∈ am_TB := am_TB_mem (tb_7 (List.mem_of_getElem? (i := 135) rfl)) rfl
theorem cw_X12_takesOf : Cond.code yX12_takesOf cX12_takesOf 2 (some .int) ∈ am_TB := am_TB_mem (tb_7 (List.mem_of_getElem? (i := 144) rfl)) rfl
theorem iw_X12_takesOf : Cond.instanceMethod yX12_takesOf ∈ am_TB := am_TB_mem (tb_7 (List.mem_of_getElem? (i := 143) rfl)) rfl
theorem cw_X12_wordsOf : Cond.code yX12_wordsOf cX12_wordsOf 2 (some .int) ∈ am_TB := am_TB_mem (tb_7 (List.mem_of_getElem? (i := 148) rfl)) rfl
theorem iw_X12_wordsOf : Cond.instanceMethod yX12_wordsOf ∈ am_TB := am_TB_mem (tb_7 (List.mem_of_getElem? (i := 147) rfl)) rfl
theorem cw_X12_wordings : Cond.code yX12_wordings cX12_wordings 5 none ∈ am_TB := am_TB_mem (tb_7 (List.mem_of_getElem? (i := 123) rfl)) rfl
theorem iw_X12_wordings : Cond.instanceMethod yX12_wordings ∈ am_TB := am_TB_mem (tb_7 (List.mem_of_getElem? (i := 122) rfl)) rfl
theorem cw_X12_sum : Cond.code yX12_sum cX12_sum 5 (some .int) ∈ am_TB := am_TB_mem (tb_7 (List.mem_of_getElem? (i := 132) rfl)) rfl
theorem iw_X12_sum : Cond.instanceMethod yX12_sum ∈ am_TB := am_TB_mem (tb_7 (List.mem_of_getElem? (i := 131) rfl)) rfl
theorem cw_X12_rulesOf : Cond.code yX12_rulesOf cX12_rulesOf 2 (some .int) ∈ am_TB := am_TB_mem (tb_7 (List.mem_of_getElem? (i := 140) rfl)) rfl
theorem iw_X12_rulesOf : Cond.instanceMethod yX12_rulesOf ∈ am_TB := am_TB_mem (tb_7 (List.mem_of_getElem? (i := 139) rfl)) rfl
theorem cw_X12_shortens : Cond.code yX12_shortens cX12_shortens 4 (some .boolean) ∈ am_TB := am_TB_mem (tb_7 (List.mem_of_getElem? (i := 128) rfl)) rfl
theorem iw_X12_shortens : Cond.instanceMethod yX12_shortens ∈ am_TB := am_TB_mem (tb_7 (List.mem_of_getElem? (i := 127) rfl)) rfl
theorem cw_X12_wordIn : Cond.code yX12_wordIn cX12_wordIn 6 (some .int) ∈ am_TB := am_TB_mem (tb_7 (List.mem_of_getElem? (i := 152) rfl)) rfl
theorem iw_X12_wordIn : Cond.instanceMethod yX12_wordIn ∈ am_TB := am_TB_mem (tb_7 (List.mem_of_getElem? (i := 151) rfl)) rfl
theorem cw_X12_say : Cond.code yX12_say cX12_say 3 (some .int) ∈ am_TB := am_TB_mem (tb_7 (List.mem_of_getElem? (i := 119) rfl)) rfl
theorem iw_X12_say : Cond.instanceMethod yX12_say ∈ am_TB := am_TB_mem (tb_7 (List.mem_of_getElem? (i := 117) rfl)) rfl
theorem vw_X12_say : Cond.selects RX12 yX12_say yX12_say ∈ am_TB := am_TB_mem (tb_7 (List.mem_of_getElem? (i := 118) rfl)) rfl
theorem cw_X12_queues : Cond.code yX12_queues cX12_queues 5 none ∈ am_TB := am_TB_mem (tb_7 (List.mem_of_getElem? (i := 193) rfl)) rfl
theorem iw_X12_queues : Cond.instanceMethod yX12_queues ∈ am_TB := am_TB_mem (tb_7 (List.mem_of_getElem? (i := 192) rfl)) rfl
theorem cw_X12_isDenied : Cond.code yX12_isDenied cX12_isDenied 3 (some .boolean) ∈ am_TB := am_TB_mem (tb_7 (List.mem_of_getElem? (i := 229) rfl)) rfl
theorem iw_X12_isDenied : Cond.instanceMethod yX12_isDenied ∈ am_TB := am_TB_mem (tb_7 (List.mem_of_getElem? (i := 228) rfl)) rfl
theorem cw_X12_dawns : Cond.code yX12_dawns cX12_dawns 5 (some .int) ∈ am_TB := am_TB_mem (tb_7 (List.mem_of_getElem? (i := 225) rfl)) rfl
theorem iw_X12_dawns : Cond.instanceMethod yX12_dawns ∈ am_TB := am_TB_mem (tb_7 (List.mem_of_getElem? (i := 224) rfl)) rfl
theorem cw_X12_at : Cond.code yX12_at cX12_at 3 (some .int) ∈ am_TB := am_TB_mem (tb_7 (List.mem_of_getElem? (i := 156) rfl)) rfl
theorem iw_X12_at : Cond.instanceMethod yX12_at ∈ am_TB := am_TB_mem (tb_7 (List.mem_of_getElem? (i := 154) rfl)) rfl
theorem vw_X12_at : Cond.selects RX12 yX12_at yX12_at ∈ am_TB := am_TB_mem (tb_7 (List.mem_of_getElem? (i := 155) rfl)) rfl
theorem cw_X12_rank : Cond.code yX12_rank cX12_rank 3 (some .int) ∈ am_TB := am_TB_mem (tb_7 (List.mem_of_getElem? (i := 168) rfl)) rfl
theorem iw_X12_rank : Cond.instanceMethod yX12_rank ∈ am_TB := am_TB_mem (tb_7 (List.mem_of_getElem? (i := 166) rfl)) rfl
theorem vw_X12_rank : Cond.selects RX12 yX12_rank yX12_rank ∈ am_TB := am_TB_mem (tb_7 (List.mem_of_getElem? (i := 167) rfl)) rfl
theorem cw_X12_order : Cond.code yX12_order cX12_order 2 (some .int) ∈ am_TB := am_TB_mem (tb_7 (List.mem_of_getElem? (i := 189) rfl)) rfl
theorem iw_X12_order : Cond.instanceMethod yX12_order ∈ am_TB := am_TB_mem (tb_7 (List.mem_of_getElem? (i := 187) rfl)) rfl
theorem vw_X12_order : Cond.selects RX12 yX12_order yX12_order ∈ am_TB := am_TB_mem (tb_7 (List.mem_of_getElem? (i := 188) rfl)) rfl
theorem cw_X12_keeps : Cond.code yX12_keeps cX12_keeps 4 none ∈ am_TB := am_TB_mem (tb_7 (List.mem_of_getElem? (i := 209) rfl)) rfl
theorem iw_X12_keeps : Cond.instanceMethod yX12_keeps ∈ am_TB := am_TB_mem (tb_7 (List.mem_of_getElem? (i := 208) rfl)) rfl
theorem cw_X12_undo : Cond.code yX12_undo cX12_undo 3 (some .int) ∈ am_TB := am_TB_mem (tb_7 (List.mem_of_getElem? (i := 197) rfl)) rfl
theorem iw_X12_undo : Cond.instanceMethod yX12_undo ∈ am_TB := am_TB_mem (tb_7 (List.mem_of_getElem? (i := 195) rfl)) rfl
theorem vw_X12_undo : Cond.selects RX12 yX12_undo yX12_undo ∈ am_TB := am_TB_mem (tb_7 (List.mem_of_getElem? (i := 196) rfl)) rfl
theorem cw_X12_praysKept : Cond.code yX12_praysKept cX12_praysKept 6 (some .int) ∈ am_TB := am_TB_mem (tb_7 (List.mem_of_getElem? (i := 205) rfl)) rfl
theorem iw_X12_praysKept : Cond.instanceMethod yX12_praysKept ∈ am_TB := am_TB_mem (tb_7 (List.mem_of_getElem? (i := 204) rfl)) rfl
theorem cw_X12_dawnsKept : Cond.code yX12_dawnsKept cX12_dawnsKept 1 (some .int) ∈ am_TB := am_TB_mem (tb_7 (List.mem_of_getElem? (i := 221) rfl)) rfl
theorem iw_X12_dawnsKept : Cond.instanceMethod yX12_dawnsKept ∈ am_TB := am_TB_mem (tb_7 (List.mem_of_getElem? (i := 220) rfl)) rfl
theorem cw_X12_goodOr : Cond.code yX12_goodOr cX12_goodOr 2 (some .int) ∈ am_TB := am_TB_mem (tb_7 (List.mem_of_getElem? (i := 213) rfl)) rfl
theorem iw_X12_goodOr : Cond.instanceMethod yX12_goodOr ∈ am_TB := am_TB_mem (tb_7 (List.mem_of_getElem? (i := 212) rfl)) rfl
theorem cw_X12_pray : Cond.code yX12_pray cX12_pray 5 (some .int) ∈ am_TB := am_TB_mem (tb_7 (List.mem_of_getElem? (i := 201) rfl)) rfl
theorem iw_X12_pray : Cond.instanceMethod yX12_pray ∈ am_TB := am_TB_mem (tb_7 (List.mem_of_getElem? (i := 199) rfl)) rfl
theorem vw_X12_pray : Cond.selects RX12 yX12_pray yX12_pray ∈ am_TB := am_TB_mem (tb_7 (List.mem_of_getElem? (i := 200) rfl)) rfl
theorem cw_X12_dawn : Cond.code yX12_dawn cX12_dawn 1 (some .int) ∈ am_TB := am_TB_mem (tb_7 (List.mem_of_getElem? (i := 217) rfl)) rfl
theorem iw_X12_dawn : Cond.instanceMethod yX12_dawn ∈ am_TB := am_TB_mem (tb_7 (List.mem_of_getElem? (i := 215) rfl)) rfl
theorem vw_X12_dawn : Cond.selects RX12 yX12_dawn yX12_dawn ∈ am_TB := am_TB_mem (tb_7 (List.mem_of_getElem? (i := 216) rfl)) rfl
theorem cw_X12_sweep : Cond.code yX12_sweep cX12_sweep 5 (some .int) ∈ am_TB := am_TB_mem (tb_7 (List.mem_of_getElem? (i := 233) rfl)) rfl
theorem iw_X12_sweep : Cond.instanceMethod yX12_sweep ∈ am_TB := am_TB_mem (tb_7 (List.mem_of_getElem? (i := 231) rfl)) rfl
theorem vw_X12_sweep : Cond.selects RX12 yX12_sweep yX12_sweep ∈ am_TB := am_TB_mem (tb_7 (List.mem_of_getElem? (i := 232) rfl)) rfl
theorem cw_X12_parts : Cond.code yX12_parts cX12_parts 8 none ∈ am_TB := am_TB_mem (tb_8 (List.mem_of_getElem? (i := 8) rfl)) rfl
theorem iw_X12_parts : Cond.instanceMethod yX12_parts ∈ am_TB := am_TB_mem (tb_8 (List.mem_of_getElem? (i := 7) rfl)) rfl
theorem cw_X12_looksAt : Cond.code yX12_looksAt cX12_looksAt 8 none ∈ am_TB := am_TB_mem (tb_8 (List.mem_of_getElem? (i := 12) rfl)) rfl
theorem iw_X12_looksAt : Cond.instanceMethod yX12_looksAt ∈ am_TB := am_TB_mem (tb_8 (List.mem_of_getElem? (i := 11) rfl)) rfl
theorem cw_X12_listsLetters : Cond.code yX12_listsLetters cX12_listsLetters 4 (some .boolean) ∈ am_TB := am_TB_mem (tb_8 (List.mem_of_getElem? (i := 1) rfl)) rfl
theorem iw_X12_listsLetters : Cond.instanceMethod yX12_listsLetters ∈ am_TB := am_TB_mem (tb_8 (List.mem_of_getElem? (i := 0) rfl)) rfl
theorem cw_X12_code : Cond.code yX12_code cX12_code 4 (some .int) ∈ am_TB := am_TB_mem (tb_7 (List.mem_of_getElem? (i := 237) rfl)) rfl
theorem iw_X12_code : Cond.instanceMethod yX12_code ∈ am_TB := am_TB_mem (tb_7 (List.mem_of_getElem? (i := 235) rfl)) rfl
theorem vw_X12_code : Cond.selects RX12 yX12_code yX12_code ∈ am_TB := am_TB_mem (tb_7 (List.mem_of_getElem? (i := 236) rfl)) rfl
theorem cw_X12_bundle : Cond.code yX12_bundle cX12_bundle 4 (some .int) ∈ am_TB := am_TB_mem (tb_8 (List.mem_of_getElem? (i := 16) rfl)) rfl
theorem iw_X12_bundle : Cond.instanceMethod yX12_bundle ∈ am_TB := am_TB_mem (tb_8 (List.mem_of_getElem? (i := 14) rfl)) rfl
theorem vw_X12_bundle : Cond.selects RX12 yX12_bundle yX12_bundle ∈ am_TB := am_TB_mem (tb_8 (List.mem_of_getElem? (i := 15) rfl)) rfl
theorem cw_X12_cover : Cond.code yX12_cover cX12_cover 9 (some .int) ∈ am_TB := am_TB_mem (tb_8 (List.mem_of_getElem? (i := 20) rfl)) rfl
theorem iw_X12_cover : Cond.instanceMethod yX12_cover ∈ am_TB := am_TB_mem (tb_8 (List.mem_of_getElem? (i := 18) rfl)) rfl
theorem vw_X12_cover : Cond.selects RX12 yX12_cover yX12_cover ∈ am_TB := am_TB_mem (tb_8 (List.mem_of_getElem? (i := 19) rfl)) rfl
theorem cw_X12_when : Cond.code yX12_when cX12_when 5 (some .int) ∈ am_TB := am_TB_mem (tb_8 (List.mem_of_getElem? (i := 27) rfl)) rfl
theorem iw_X12_when : Cond.instanceMethod yX12_when ∈ am_TB := am_TB_mem (tb_8 (List.mem_of_getElem? (i := 25) rfl)) rfl
theorem vw_X12_when : Cond.selects RX12 yX12_when yX12_when ∈ am_TB := am_TB_mem (tb_8 (List.mem_of_getElem? (i := 26) rfl)) rfl
theorem cw_X12_longest : Cond.code yX12_longest cX12_longest 7 (some .int) ∈ am_TB := am_TB_mem (tb_8 (List.mem_of_getElem? (i := 39) rfl)) rfl
theorem iw_X12_longest : Cond.instanceMethod yX12_longest ∈ am_TB := am_TB_mem (tb_8 (List.mem_of_getElem? (i := 37) rfl)) rfl
theorem vw_X12_longest : Cond.selects RX12 yX12_longest yX12_longest ∈ am_TB := am_TB_mem (tb_8 (List.mem_of_getElem? (i := 38) rfl)) rfl
theorem cw_X12_keep : Cond.code yX12_keep cX12_keep 9 (some .int) ∈ am_TB := am_TB_mem (tb_8 (List.mem_of_getElem? (i := 43) rfl)) rfl
theorem iw_X12_keep : Cond.instanceMethod yX12_keep ∈ am_TB := am_TB_mem (tb_8 (List.mem_of_getElem? (i := 41) rfl)) rfl
theorem vw_X12_keep : Cond.selects RX12 yX12_keep yX12_keep ∈ am_TB := am_TB_mem (tb_8 (List.mem_of_getElem? (i := 42) rfl)) rfl
theorem cw_X12_answer : Cond.code yX12_answer cX12_answer 5 (some .int) ∈ am_TB := am_TB_mem (tb_8 (List.mem_of_getElem? (i := 47) rfl)) rfl
theorem iw_X12_answer : Cond.instanceMethod yX12_answer ∈ am_TB := am_TB_mem (tb_8 (List.mem_of_getElem? (i := 45) rfl)) rfl
theorem vw_X12_answer : Cond.selects RX12 yX12_answer yX12_answer ∈ am_TB := am_TB_mem (tb_8 (List.mem_of_getElem? (i := 46) rfl)) rfl
theorem cw_X12_forget : Cond.code yX12_forget cX12_forget 2 (some .int) ∈ am_TB := am_TB_mem (tb_8 (List.mem_of_getElem? (i := 51) rfl)) rfl
theorem iw_X12_forget : Cond.instanceMethod yX12_forget ∈ am_TB := am_TB_mem (tb_8 (List.mem_of_getElem? (i := 49) rfl)) rfl
theorem vw_X12_forget : Cond.selects RX12 yX12_forget yX12_forget ∈ am_TB := am_TB_mem (tb_8 (List.mem_of_getElem? (i := 50) rfl)) rfl
theorem cw_X12_lastAnswer : Cond.code yX12_lastAnswer cX12_lastAnswer 3 (some .int) ∈ am_TB := am_TB_mem (tb_8 (List.mem_of_getElem? (i := 63) rfl)) rfl
theorem iw_X12_lastAnswer : Cond.instanceMethod yX12_lastAnswer ∈ am_TB := am_TB_mem (tb_8 (List.mem_of_getElem? (i := 62) rfl)) rfl
theorem cw_X12_areSo : Cond.code yX12_areSo cX12_areSo 5 (some .boolean) ∈ am_TB := am_TB_mem (tb_8 (List.mem_of_getElem? (i := 59) rfl)) rfl
theorem iw_X12_areSo : Cond.instanceMethod yX12_areSo ∈ am_TB := am_TB_mem (tb_8 (List.mem_of_getElem? (i := 58) rfl)) rfl
theorem cw_X12_hidden : Cond.code yX12_hidden cX12_hidden 6 (some .int) ∈ am_TB := am_TB_mem (tb_8 (List.mem_of_getElem? (i := 55) rfl)) rfl
theorem iw_X12_hidden : Cond.instanceMethod yX12_hidden ∈ am_TB := am_TB_mem (tb_8 (List.mem_of_getElem? (i := 53) rfl)) rfl
theorem vw_X12_hidden : Cond.selects RX12 yX12_hidden yX12_hidden ∈ am_TB := am_TB_mem (tb_8 (List.mem_of_getElem? (i := 54) rfl)) rfl
theorem cw_X12_stopped : Cond.code yX12_stopped cX12_stopped 1 (some .int) ∈ am_TB := am_TB_mem (tb_8 (List.mem_of_getElem? (i := 67) rfl)) rfl
theorem iw_X12_stopped : Cond.instanceMethod yX12_stopped ∈ am_TB := am_TB_mem (tb_8 (List.mem_of_getElem? (i := 65) rfl)) rfl
theorem vw_X12_stopped : Cond.selects RX12 yX12_stopped yX12_stopped ∈ am_TB := am_TB_mem (tb_8 (List.mem_of_getElem? (i := 66) rfl)) rfl
theorem cw_X12_orders : Cond.code yX12_orders cX12_orders 6 (some .int) ∈ am_TB := am_TB_mem (tb_8 (List.mem_of_getElem? (i := 71) rfl)) rfl
theorem iw_X12_orders : Cond.instanceMethod yX12_orders ∈ am_TB := am_TB_mem (tb_8 (List.mem_of_getElem? (i := 69) rfl)) rfl
theorem vw_X12_orders : Cond.selects RX12 yX12_orders yX12_orders ∈ am_TB := am_TB_mem (tb_8 (List.mem_of_getElem? (i := 70) rfl)) rfl
theorem cw_X12_waiting : Cond.code yX12_waiting cX12_waiting 3 (some .int) ∈ am_TB := am_TB_mem (tb_8 (List.mem_of_getElem? (i := 83) rfl)) rfl
theorem iw_X12_waiting : Cond.instanceMethod yX12_waiting ∈ am_TB := am_TB_mem (tb_8 (List.mem_of_getElem? (i := 82) rfl)) rfl
theorem cw_X12_goesAlong : Cond.code yX12_goesAlong cX12_goesAlong 5 none ∈ am_TB := am_TB_mem (tb_8 (List.mem_of_getElem? (i := 79) rfl)) rfl
theorem iw_X12_goesAlong : Cond.instanceMethod yX12_goesAlong ∈ am_TB := am_TB_mem (tb_8 (List.mem_of_getElem? (i := 78) rfl)) rfl
theorem cw_X12_small : Cond.code yX12_small cX12_small 2 (some .int) ∈ am_TB := am_TB_mem (tb_8 (List.mem_of_getElem? (i := 86) rfl)) rfl
theorem sw_X12_small : Cond.static yX12_small ∈ am_TB := am_TB_mem (tb_8 (List.mem_of_getElem? (i := 85) rfl)) rfl
theorem cw_X12_runs : Cond.code yX12_runs cX12_runs 6 (some .int) ∈ am_TB := am_TB_mem (tb_8 (List.mem_of_getElem? (i := 75) rfl)) rfl
theorem iw_X12_runs : Cond.instanceMethod yX12_runs ∈ am_TB := am_TB_mem (tb_8 (List.mem_of_getElem? (i := 74) rfl)) rfl
theorem cw_X12_draws : Cond.code yX12_draws cX12_draws 2 (some .int) ∈ am_TB := am_TB_mem (tb_8 (List.mem_of_getElem? (i := 95) rfl)) rfl
theorem iw_X12_draws : Cond.instanceMethod yX12_draws ∈ am_TB := am_TB_mem (tb_8 (List.mem_of_getElem? (i := 94) rfl)) rfl
theorem cw_X12_season : Cond.code yX12_season cX12_season 9 (some .int) ∈ am_TB := am_TB_mem (tb_8 (List.mem_of_getElem? (i := 91) rfl)) rfl
theorem iw_X12_season : Cond.instanceMethod yX12_season ∈ am_TB := am_TB_mem (tb_8 (List.mem_of_getElem? (i := 89) rfl)) rfl
theorem vw_X12_season : Cond.selects RX12 yX12_season yX12_season ∈ am_TB := am_TB_mem (tb_8 (List.mem_of_getElem? (i := 90) rfl)) rfl
theorem cw_X12_drawn : Cond.code yX12_drawn cX12_drawn 3 (some .int) ∈ am_TB := am_TB_mem (tb_8 (List.mem_of_getElem? (i := 102) rfl)) rfl
theorem iw_X12_drawn : Cond.instanceMethod yX12_drawn ∈ am_TB := am_TB_mem (tb_8 (List.mem_of_getElem? (i := 100) rfl)) rfl
theorem vw_X12_drawn : Cond.selects RX12 yX12_drawn yX12_drawn ∈ am_TB := am_TB_mem (tb_8 (List.mem_of_getElem? (i := 101) rfl)) rfl
theorem cw_X12_count : Cond.code yX12_count cX12_count 2 (some .int) ∈ am_TB := am_TB_mem (tb_8 (List.mem_of_getElem? (i := 106) rfl)) rfl
theorem iw_X12_count : Cond.instanceMethod yX12_count ∈ am_TB := am_TB_mem (tb_8 (List.mem_of_getElem? (i := 104) rfl)) rfl
theorem vw_X12_count : Cond.selects RX12 yX12_count yX12_count ∈ am_TB := am_TB_mem (tb_8 (List.mem_of_getElem? (i := 105) rfl)) rfl
theorem cw_X12_status : Cond.code yX12_status cX12_status 1 (some .int) ∈ am_TB := am_TB_mem (tb_8 (List.mem_of_getElem? (i := 110) rfl)) rfl
theorem iw_X12_status : Cond.instanceMethod yX12_status ∈ am_TB := am_TB_mem (tb_8 (List.mem_of_getElem? (i := 108) rfl)) rfl
theorem vw_X12_status : Cond.selects RX12 yX12_status yX12_status ∈ am_TB := am_TB_mem (tb_8 (List.mem_of_getElem? (i := 109) rfl)) rfl
theorem cw_J6_bitCount_0f7a4 : Cond.code yJ6_bitCount_0f7a4 cJ6_bitCount_0f7a4 1 (some .int) ∈ am_TB := am_TB_mem (tb_4 (List.mem_of_getElem? (i := 217) rfl)) rfl
theorem sw_J6_bitCount_0f7a4 : Cond.static yJ6_bitCount_0f7a4 ∈ am_TB := am_TB_mem (tb_4 (List.mem_of_getElem? (i := 216) rfl)) rfl
theorem cw_J9_max_7cf53 : Cond.code yJ9_max_7cf53 cJ9_max_7cf53 2 (some .int) ∈ am_TB := am_TB_mem (tb_1 (List.mem_of_getElem? (i := 43) rfl)) rfl
theorem sw_J9_max_7cf53 : Cond.static yJ9_max_7cf53 ∈ am_TB := am_TB_mem (tb_1 (List.mem_of_getElem? (i := 42) rfl)) rfl
theorem cw_J9_min_7cf53 : Cond.code yJ9_min_7cf53 cJ9_min_7cf53 2 (some .int) ∈ am_TB := am_TB_mem (tb_2 (List.mem_of_getElem? (i := 226) rfl)) rfl
theorem sw_J9_min_7cf53 : Cond.static yJ9_min_7cf53 ∈ am_TB := am_TB_mem (tb_2 (List.mem_of_getElem? (i := 225) rfl)) rfl
theorem cw_J0_length_8abf5 : Cond.code yJ0_length_8abf5 cJ0_length_8abf5 1 (some .int) ∈ am_TB := am_TB_mem (tb_3 (List.mem_of_getElem? (i := 84) rfl)) rfl
theorem iw_J0_length_8abf5 : Cond.instanceMethod yJ0_length_8abf5 ∈ am_TB := am_TB_mem (tb_3 (List.mem_of_getElem? (i := 82) rfl)) rfl
theorem vw_J0_length_8abf5 : Cond.selects RJ0 yJ0_length_8abf5 yJ0_length_8abf5 ∈ am_TB := am_TB_mem (tb_3 (List.mem_of_getElem? (i := 83) rfl)) rfl
theorem cw_J0_charAt_5068e : Cond.code yJ0_charAt_5068e cJ0_charAt_5068e 2 (some .char) ∈ am_TB := am_TB_mem (tb_3 (List.mem_of_getElem? (i := 94) rfl)) rfl
theorem iw_J0_charAt_5068e : Cond.instanceMethod yJ0_charAt_5068e ∈ am_TB := am_TB_mem (tb_3 (List.mem_of_getElem? (i := 92) rfl)) rfl
theorem vw_J0_charAt_5068e : Cond.selects RJ0 yJ0_charAt_5068e yJ0_charAt_5068e ∈ am_TB := am_TB_mem (tb_3 (List.mem_of_getElem? (i := 93) rfl)) rfl
theorem cw_J0_coder_7d493 : Cond.code yJ0_coder_7d493 cJ0_coder_7d493 1 (some .byte) ∈ am_TB := am_TB_mem (tb_3 (List.mem_of_getElem? (i := 88) rfl)) rfl
theorem iw_J0_coder_7d493 : Cond.instanceMethod yJ0_coder_7d493 ∈ am_TB := am_TB_mem (tb_3 (List.mem_of_getElem? (i := 86) rfl)) rfl
theorem vw_J0_coder_7d493 : Cond.selects RJ0 yJ0_coder_7d493 yJ0_coder_7d493 ∈ am_TB := am_TB_mem (tb_3 (List.mem_of_getElem? (i := 87) rfl)) rfl
theorem cw_J0_isLatin1_aae02 : Cond.code yJ0_isLatin1_aae02 cJ0_isLatin1_aae02 1 (some .boolean) ∈ am_TB := am_TB_mem (tb_3 (List.mem_of_getElem? (i := 98) rfl)) rfl
theorem iw_J0_isLatin1_aae02 : Cond.instanceMethod yJ0_isLatin1_aae02 ∈ am_TB := am_TB_mem (tb_3 (List.mem_of_getElem? (i := 96) rfl)) rfl
theorem vw_J0_isLatin1_aae02 : Cond.selects RJ0 yJ0_isLatin1_aae02 yJ0_isLatin1_aae02 ∈ am_TB := am_TB_mem (tb_3 (List.mem_of_getElem? (i := 97) rfl)) rfl
theorem cw_J0_checkIndex_df160 : Cond.code yJ0_checkIndex_df160 cJ0_checkIndex_df160 2 none ∈ am_TB := am_TB_mem (tb_3 (List.mem_of_getElem? (i := 104) rfl)) rfl
theorem sw_J0_checkIndex_df160 : Cond.static yJ0_checkIndex_df160 ∈ am_TB := am_TB_mem (tb_3 (List.mem_of_getElem? (i := 103) rfl)) rfl
theorem cw_J1_charAt_3b067 : Cond.code yJ1_charAt_3b067 cJ1_charAt_3b067 2 (some .char) ∈ am_TB := am_TB_mem (tb_3 (List.mem_of_getElem? (i := 101) rfl)) rfl
theorem sw_J1_charAt_3b067 : Cond.static yJ1_charAt_3b067 ∈ am_TB := am_TB_mem (tb_3 (List.mem_of_getElem? (i := 100) rfl)) rfl
theorem cw_J2_getChar_3b067 : Cond.code yJ2_getChar_3b067 cJ2_getChar_3b067 2 (some .char) ∈ am_TB := am_TB_mem (tb_3 (List.mem_of_getElem? (i := 122) rfl)) rfl
theorem sw_J2_getChar_3b067 : Cond.static yJ2_getChar_3b067 ∈ am_TB := am_TB_mem (tb_3 (List.mem_of_getElem? (i := 121) rfl)) rfl
theorem cw_J2_length_9d52b : Cond.code yJ2_length_9d52b cJ2_length_9d52b 1 (some .int) ∈ am_TB := am_TB_mem (tb_3 (List.mem_of_getElem? (i := 118) rfl)) rfl
theorem sw_J2_length_9d52b : Cond.static yJ2_length_9d52b ∈ am_TB := am_TB_mem (tb_3 (List.mem_of_getElem? (i := 117) rfl)) rfl
theorem cw_J2_charAt_3b067 : Cond.code yJ2_charAt_3b067 cJ2_charAt_3b067 2 (some .char) ∈ am_TB := am_TB_mem (tb_3 (List.mem_of_getElem? (i := 112) rfl)) rfl
theorem sw_J2_charAt_3b067 : Cond.static yJ2_charAt_3b067 ∈ am_TB := am_TB_mem (tb_3 (List.mem_of_getElem? (i := 111) rfl)) rfl
theorem cw_J2_checkIndex_2214a : Cond.code yJ2_checkIndex_2214a cJ2_checkIndex_2214a 2 none ∈ am_TB := am_TB_mem (tb_3 (List.mem_of_getElem? (i := 115) rfl)) rfl
theorem sw_J2_checkIndex_2214a : Cond.static yJ2_checkIndex_2214a ∈ am_TB := am_TB_mem (tb_3 (List.mem_of_getElem? (i := 114) rfl)) rfl
theorem cw_J3_checkIndex_8e157 : Cond.code yJ3_checkIndex_8e157 cJ3_checkIndex_8e157 3 (some .int) ∈ am_TB := am_TB_mem (tb_3 (List.mem_of_getElem? (i := 109) rfl)) rfl
theorem sw_J3_checkIndex_8e157 : Cond.static yJ3_checkIndex_8e157 ∈ am_TB := am_TB_mem (tb_3 (List.mem_of_getElem? (i := 108) rfl)) rfl
theorem vw_X11_refuse : Cond.selects RX11 yX11_refuse yX11_refuse ∈ am_TB := am_TB_mem (List.mem_append_left _ (List.mem_of_getElem? (i := 0) rfl)) rfl
theorem vw_X11_fine : Cond.selects RX11 yX11_fine yX11_fine ∈ am_TB := am_TB_mem (List.mem_append_left _ (List.mem_of_getElem? (i := 1) rfl)) rfl
theorem vw_X11_lacksWord : Cond.selects RX11 yX11_lacksWord yX11_lacksWord ∈ am_TB := am_TB_mem (List.mem_append_left _ (List.mem_of_getElem? (i := 2) rfl)) rfl
theorem vw_X11_feedNumber : Cond.selects RX11 yX11_feedNumber yX11_feedNumber ∈ am_TB := am_TB_mem (List.mem_append_left _ (List.mem_of_getElem? (i := 3) rfl)) rfl
theorem vw_X11_tryPrayer : Cond.selects RX11 yX11_tryPrayer yX11_tryPrayer ∈ am_TB := am_TB_mem (List.mem_append_left _ (List.mem_of_getElem? (i := 4) rfl)) rfl
theorem vw_X5_advance : Cond.selects RX5 yX5_advance yX5_advance ∈ am_TB := am_TB_mem (List.mem_append_left _ (List.mem_of_getElem? (i := 5) rfl)) rfl
theorem vw_X5_clause : Cond.selects RX5 yX5_clause yX5_clause ∈ am_TB := am_TB_mem (List.mem_append_left _ (List.mem_of_getElem? (i := 6) rfl)) rfl
theorem vw_X5_clauseKind : Cond.selects RX5 yX5_clauseKind yX5_clauseKind ∈ am_TB := am_TB_mem (List.mem_append_left _ (List.mem_of_getElem? (i := 7) rfl)) rfl
theorem vw_X5_is : Cond.selects RX5 yX5_is yX5_is ∈ am_TB := am_TB_mem (List.mem_append_left _ (List.mem_of_getElem? (i := 8) rfl)) rfl
theorem vw_X5_fail : Cond.selects RX5 yX5_fail yX5_fail ∈ am_TB := am_TB_mem (List.mem_append_left _ (List.mem_of_getElem? (i := 9) rfl)) rfl
theorem vw_X5_sums : Cond.selects RX5 yX5_sums yX5_sums ∈ am_TB := am_TB_mem (List.mem_append_left _ (List.mem_of_getElem? (i := 10) rfl)) rfl
theorem vw_X5_pass : Cond.selects RX5 yX5_pass yX5_pass ∈ am_TB := am_TB_mem (List.mem_append_left _ (List.mem_of_getElem? (i := 11) rfl)) rfl
theorem vw_X5_sum : Cond.selects RX5 yX5_sum yX5_sum ∈ am_TB := am_TB_mem (List.mem_append_left _ (List.mem_of_getElem? (i := 12) rfl)) rfl
theorem vw_X5_term : Cond.selects RX5 yX5_term yX5_term ∈ am_TB := am_TB_mem (List.mem_append_left _ (List.mem_of_getElem? (i := 13) rfl)) rfl
theorem vw_X5_part : Cond.selects RX5 yX5_part yX5_part ∈ am_TB := am_TB_mem (List.mem_append_left _ (List.mem_of_getElem? (i := 14) rfl)) rfl
theorem vw_X5_openBracket : Cond.selects RX5 yX5_openBracket yX5_openBracket ∈ am_TB := am_TB_mem (List.mem_append_left _ (List.mem_of_getElem? (i := 15) rfl)) rfl
theorem vw_X5_number : Cond.selects RX5 yX5_number yX5_number ∈ am_TB := am_TB_mem (List.mem_append_left _ (List.mem_of_getElem? (i := 16) rfl)) rfl
theorem vw_X5_orderFact : Cond.selects RX5 yX5_orderFact yX5_orderFact ∈ am_TB := am_TB_mem (List.mem_append_left _ (List.mem_of_getElem? (i := 17) rfl)) rfl
theorem vw_X5_lawFact : Cond.selects RX5 yX5_lawFact yX5_lawFact ∈ am_TB := am_TB_mem (List.mem_append_left _ (List.mem_of_getElem? (i := 18) rfl)) rfl
theorem vw_X5_test : Cond.selects RX5 yX5_test yX5_test ∈ am_TB := am_TB_mem (List.mem_append_left _ (List.mem_of_getElem? (i := 19) rfl)) rfl
theorem vw_X5_both : Cond.selects RX5 yX5_both yX5_both ∈ am_TB := am_TB_mem (List.mem_append_left _ (List.mem_of_getElem? (i := 20) rfl)) rfl
theorem vw_X5_plain : Cond.selects RX5 yX5_plain yX5_plain ∈ am_TB := am_TB_mem (List.mem_append_left _ (List.mem_of_getElem? (i := 21) rfl)) rfl
theorem vw_X10_improve : Cond.selects RX10 yX10_improve yX10_improve ∈ am_TB := am_TB_mem (List.mem_append_left _ (List.mem_of_getElem? (i := 22) rfl)) rfl
theorem vw_X10_weigh : Cond.selects RX10 yX10_weigh yX10_weigh ∈ am_TB := am_TB_mem (List.mem_append_left _ (List.mem_of_getElem? (i := 23) rfl)) rfl
theorem vw_X10_countWords : Cond.selects RX10 yX10_countWords yX10_countWords ∈ am_TB := am_TB_mem (List.mem_append_left _ (List.mem_of_getElem? (i := 24) rfl)) rfl
theorem vw_X10_wordsIn : Cond.selects RX10 yX10_wordsIn yX10_wordsIn ∈ am_TB := am_TB_mem (List.mem_append_left _ (List.mem_of_getElem? (i := 25) rfl)) rfl
theorem vw_X11_lookAround : Cond.selects RX11 yX11_lookAround yX11_lookAround ∈ am_TB := am_TB_mem (List.mem_append_left _ (List.mem_of_getElem? (i := 26) rfl)) rfl
theorem vw_X11_runOnce : Cond.selects RX11 yX11_runOnce yX11_runOnce ∈ am_TB := am_TB_mem (List.mem_append_left _ (List.mem_of_getElem? (i := 27) rfl)) rfl
theorem vw_X11_tryDawn : Cond.selects RX11 yX11_tryDawn yX11_tryDawn ∈ am_TB := am_TB_mem (List.mem_append_left _ (List.mem_of_getElem? (i := 28) rfl)) rfl
theorem vw_X11_noteDeed : Cond.selects RX11 yX11_noteDeed yX11_noteDeed ∈ am_TB := am_TB_mem (List.mem_append_left _ (List.mem_of_getElem? (i := 29) rfl)) rfl
theorem vw_X1_takeLetters : Cond.selects RX1 yX1_takeLetters yX1_takeLetters ∈ am_TB := am_TB_mem (List.mem_append_left _ (List.mem_of_getElem? (i := 30) rfl)) rfl
theorem vw_X1_takeAsked : Cond.selects RX1 yX1_takeAsked yX1_takeAsked ∈ am_TB := am_TB_mem (List.mem_append_left _ (List.mem_of_getElem? (i := 31) rfl)) rfl
theorem vw_X1_weightOf : Cond.selects RX1 yX1_weightOf yX1_weightOf ∈ am_TB := am_TB_mem (List.mem_append_left _ (List.mem_of_getElem? (i := 32) rfl)) rfl
theorem vw_X1_clearLengths : Cond.selects RX1 yX1_clearLengths yX1_clearLengths ∈ am_TB := am_TB_mem (List.mem_append_left _ (List.mem_of_getElem? (i := 33) rfl)) rfl
theorem vw_X1_share : Cond.selects RX1 yX1_share yX1_share ∈ am_TB := am_TB_mem (List.mem_append_left _ (List.mem_of_getElem? (i := 34) rfl)) rfl
theorem vw_X1_tryShares : Cond.selects RX1 yX1_tryShares yX1_tryShares ∈ am_TB := am_TB_mem (List.mem_append_left _ (List.mem_of_getElem? (i := 35) rfl)) rfl
theorem vw_X1_isTrialAhead : Cond.selects RX1 yX1_isTrialAhead yX1_isTrialAhead ∈ am_TB := am_TB_mem (List.mem_append_left _ (List.mem_of_getElem? (i := 36) rfl)) rfl
theorem vw_X1_shortestLetter : Cond.selects RX1 yX1_shortestLetter yX1_shortestLetter ∈ am_TB := am_TB_mem (List.mem_append_left _ (List.mem_of_getElem? (i := 37) rfl)) rfl
theorem vw_X11_isGrantedWithin : Cond.selects RX11 yX11_isGrantedWithin yX11_isGrantedWithin ∈ am_TB := am_TB_mem (List.mem_append_left _ (List.mem_of_getElem? (i := 38) rfl)) rfl
theorem vw_X11_explainsAnswers : Cond.selects RX11 yX11_explainsAnswers yX11_explainsAnswers ∈ am_TB := am_TB_mem (List.mem_append_left _ (List.mem_of_getElem? (i := 39) rfl)) rfl
theorem vw_X11_sayWhatIsDrawn : Cond.selects RX11 yX11_sayWhatIsDrawn yX11_sayWhatIsDrawn ∈ am_TB := am_TB_mem (List.mem_append_left _ (List.mem_of_getElem? (i := 40) rfl)) rfl
theorem vw_X8_add : Cond.selects RX8 yX8_add yX8_add ∈ am_TB := am_TB_mem (List.mem_append_left _ (List.mem_of_getElem? (i := 41) rfl)) rfl
theorem vw_X12_refuses : Cond.selects RX12 yX12_refuses yX12_refuses ∈ am_TB := am_TB_mem (List.mem_append_left _ (List.mem_of_getElem? (i := 42) rfl)) rfl
theorem vw_X12_good : Cond.selects RX12 yX12_good yX12_good ∈ am_TB := am_TB_mem (List.mem_append_left _ (List.mem_of_getElem? (i := 43) rfl)) rfl
theorem vw_X12_settled : Cond.selects RX12 yX12_settled yX12_settled ∈ am_TB := am_TB_mem (List.mem_append_left _ (List.mem_of_getElem? (i := 44) rfl)) rfl
theorem vw_X12_isWord : Cond.selects RX12 yX12_isWord yX12_isWord ∈ am_TB := am_TB_mem (List.mem_append_left _ (List.mem_of_getElem? (i := 45) rfl)) rfl
theorem vw_X12_isThere : Cond.selects RX12 yX12_isThere yX12_isThere ∈ am_TB := am_TB_mem (List.mem_append_left _ (List.mem_of_getElem? (i := 46) rfl)) rfl
theorem vw_X12_whyNot : Cond.selects RX12 yX12_whyNot yX12_whyNot ∈ am_TB := am_TB_mem (List.mem_append_left _ (List.mem_of_getElem? (i := 47) rfl)) rfl
theorem vw_X12_isPerson : Cond.selects RX12 yX12_isPerson yX12_isPerson ∈ am_TB := am_TB_mem (List.mem_append_left _ (List.mem_of_getElem? (i := 48) rfl)) rfl
theorem vw_X12_breathOf : Cond.selects RX12 yX12_breathOf yX12_breathOf ∈ am_TB := am_TB_mem (List.mem_append_left _ (List.mem_of_getElem? (i := 49) rfl)) rfl
theorem vw_X12_tells : Cond.selects RX12 yX12_tells yX12_tells ∈ am_TB := am_TB_mem (List.mem_append_left _ (List.mem_of_getElem? (i := 50) rfl)) rfl
theorem vw_X12_codeAt : Cond.selects RX12 yX12_codeAt yX12_codeAt ∈ am_TB := am_TB_mem (List.mem_append_left _ (List.mem_of_getElem? (i := 51) rfl)) rfl
theorem vw_X12_sumOf : Cond.selects RX12 yX12_sumOf yX12_sumOf ∈ am_TB := am_TB_mem (List.mem_append_left _ (List.mem_of_getElem? (i := 52) rfl)) rfl
theorem vw_X12_termOf : Cond.selects RX12 yX12_termOf yX12_termOf ∈ am_TB := am_TB_mem (List.mem_append_left _ (List.mem_of_getElem? (i := 53) rfl)) rfl
theorem vw_X12_partOf : Cond.selects RX12 yX12_partOf yX12_partOf ∈ am_TB := am_TB_mem (List.mem_append_left _ (List.mem_of_getElem? (i := 54) rfl)) rfl
theorem vw_X12_passes0 : Cond.selects RX12 yX12_passes0 yX12_passes0 ∈ am_TB := am_TB_mem (List.mem_append_left _ (List.mem_of_getElem? (i := 55) rfl)) rfl
theorem vw_X12_bounded : Cond.selects RX12 yX12_bounded yX12_bounded ∈ am_TB := am_TB_mem (List.mem_append_left _ (List.mem_of_getElem? (i := 56) rfl)) rfl
theorem vw_X12_testOf : Cond.selects RX12 yX12_testOf yX12_testOf ∈ am_TB := am_TB_mem (List.mem_append_left _ (List.mem_of_getElem? (i := 57) rfl)) rfl
theorem vw_X12_bothOf : Cond.selects RX12 yX12_bothOf yX12_bothOf ∈ am_TB := am_TB_mem (List.mem_append_left _ (List.mem_of_getElem? (i := 58) rfl)) rfl
theorem vw_X12_plainOf : Cond.selects RX12 yX12_plainOf yX12_plainOf ∈ am_TB := am_TB_mem (List.mem_append_left _ (List.mem_of_getElem? (i := 59) rfl)) rfl
theorem vw_X12_positiveOf : Cond.selects RX12 yX12_positiveOf yX12_positiveOf ∈ am_TB := am_TB_mem (List.mem_append_left _ (List.mem_of_getElem? (i := 60) rfl)) rfl
theorem vw_X12_prayers : Cond.selects RX12 yX12_prayers yX12_prayers ∈ am_TB := am_TB_mem (List.mem_append_left _ (List.mem_of_getElem? (i := 61) rfl)) rfl
theorem vw_X12_says : Cond.selects RX12 yX12_says yX12_says ∈ am_TB := am_TB_mem (List.mem_append_left _ (List.mem_of_getElem? (i := 62) rfl)) rfl
theorem vw_X12_readsAs : Cond.selects RX12 yX12_readsAs yX12_readsAs ∈ am_TB := am_TB_mem (List.mem_append_left _ (List.mem_of_getElem? (i := 63) rfl)) rfl
theorem vw_X12_reads : Cond.selects RX12 yX12_reads yX12_reads ∈ am_TB := am_TB_mem (List.mem_append_left _ (List.mem_of_getElem? (i := 64) rfl)) rfl
theorem vw_X12_splits : Cond.selects RX12 yX12_splits yX12_splits ∈ am_TB := am_TB_mem (List.mem_append_left _ (List.mem_of_getElem? (i := 65) rfl)) rfl
theorem vw_X12_wordAt : Cond.selects RX12 yX12_wordAt yX12_wordAt ∈ am_TB := am_TB_mem (List.mem_append_left _ (List.mem_of_getElem? (i := 66) rfl)) rfl
theorem vw_X12_readOne : Cond.selects RX12 yX12_readOne yX12_readOne ∈ am_TB := am_TB_mem (List.mem_append_left _ (List.mem_of_getElem? (i := 67) rfl)) rfl
theorem vw_X12_readOrder : Cond.selects RX12 yX12_readOrder yX12_readOrder ∈ am_TB := am_TB_mem (List.mem_append_left _ (List.mem_of_getElem? (i := 68) rfl)) rfl
theorem vw_X12_takes0 : Cond.selects RX12 yX12_takes0 yX12_takes0 ∈ am_TB := am_TB_mem (List.mem_append_left _ (List.mem_of_getElem? (i := 69) rfl)) rfl
theorem vw_X12_fine : Cond.selects RX12 yX12_fine yX12_fine ∈ am_TB := am_TB_mem (List.mem_append_left _ (List.mem_of_getElem? (i := 70) rfl)) rfl
theorem vw_X12_readSum : Cond.selects RX12 yX12_readSum yX12_readSum ∈ am_TB := am_TB_mem (List.mem_append_left _ (List.mem_of_getElem? (i := 71) rfl)) rfl
theorem vw_X12_readTerm : Cond.selects RX12 yX12_readTerm yX12_readTerm ∈ am_TB := am_TB_mem (List.mem_append_left _ (List.mem_of_getElem? (i := 72) rfl)) rfl
theorem vw_X12_readPart : Cond.selects RX12 yX12_readPart yX12_readPart ∈ am_TB := am_TB_mem (List.mem_append_left _ (List.mem_of_getElem? (i := 73) rfl)) rfl
theorem vw_X12_faults : Cond.selects RX12 yX12_faults yX12_faults ∈ am_TB := am_TB_mem (List.mem_append_left _ (List.mem_of_getElem? (i := 74) rfl)) rfl
theorem vw_X12_must : Cond.selects RX12 yX12_must yX12_must ∈ am_TB := am_TB_mem (List.mem_append_left _ (List.mem_of_getElem? (i := 75) rfl)) rfl
theorem vw_X12_leaf : Cond.selects RX12 yX12_leaf yX12_leaf ∈ am_TB := am_TB_mem (List.mem_append_left _ (List.mem_of_getElem? (i := 76) rfl)) rfl
theorem vw_X12_mustNumber : Cond.selects RX12 yX12_mustNumber yX12_mustNumber ∈ am_TB := am_TB_mem (List.mem_append_left _ (List.mem_of_getElem? (i := 77) rfl)) rfl
theorem vw_X12_readTest : Cond.selects RX12 yX12_readTest yX12_readTest ∈ am_TB := am_TB_mem (List.mem_append_left _ (List.mem_of_getElem? (i := 78) rfl)) rfl
theorem vw_X12_readBoth : Cond.selects RX12 yX12_readBoth yX12_readBoth ∈ am_TB := am_TB_mem (List.mem_append_left _ (List.mem_of_getElem? (i := 79) rfl)) rfl
theorem vw_X12_readPlain : Cond.selects RX12 yX12_readPlain yX12_readPlain ∈ am_TB := am_TB_mem (List.mem_append_left _ (List.mem_of_getElem? (i := 80) rfl)) rfl
theorem vw_X12_readClause : Cond.selects RX12 yX12_readClause yX12_readClause ∈ am_TB := am_TB_mem (List.mem_append_left _ (List.mem_of_getElem? (i := 81) rfl)) rfl
theorem vw_X12_lays : Cond.selects RX12 yX12_lays yX12_lays ∈ am_TB := am_TB_mem (List.mem_append_left _ (List.mem_of_getElem? (i := 82) rfl)) rfl
theorem vw_X12_wordings : Cond.selects RX12 yX12_wordings yX12_wordings ∈ am_TB := am_TB_mem (List.mem_append_left _ (List.mem_of_getElem? (i := 83) rfl)) rfl
theorem vw_X12_shortens : Cond.selects RX12 yX12_shortens yX12_shortens ∈ am_TB := am_TB_mem (List.mem_append_left _ (List.mem_of_getElem? (i := 84) rfl)) rfl
theorem vw_X12_sum : Cond.selects RX12 yX12_sum yX12_sum ∈ am_TB := am_TB_mem (List.mem_append_left _ (List.mem_of_getElem? (i := 85) rfl)) rfl
theorem vw_X12_longOf : Cond.selects RX12 yX12_longOf yX12_longOf ∈ am_TB := am_TB_mem (List.mem_append_left _ (List.mem_of_getElem? (i := 86) rfl)) rfl
theorem vw_X12_rulesOf : Cond.selects RX12 yX12_rulesOf yX12_rulesOf ∈ am_TB := am_TB_mem (List.mem_append_left _ (List.mem_of_getElem? (i := 87) rfl)) rfl
theorem vw_X12_takesOf : Cond.selects RX12 yX12_takesOf yX12_takesOf ∈ am_TB := am_TB_mem (List.mem_append_left _ (List.mem_of_getElem? (i := 88) rfl)) rfl
theorem vw_X12_wordsOf : Cond.selects RX12 yX12_wordsOf yX12_wordsOf ∈ am_TB := am_TB_mem (List.mem_append_left _ (List.mem_of_getElem? (i := 89) rfl)) rfl
theorem vw_X12_wordIn : Cond.selects RX12 yX12_wordIn yX12_wordIn ∈ am_TB := am_TB_mem (List.mem_append_left _ (List.mem_of_getElem? (i := 90) rfl)) rfl
theorem vw_X12_isPrayer : Cond.selects RX12 yX12_isPrayer yX12_isPrayer ∈ am_TB := am_TB_mem (List.mem_append_left _ (List.mem_of_getElem? (i := 91) rfl)) rfl
theorem vw_X12_fact : Cond.selects RX12 yX12_fact yX12_fact ∈ am_TB := am_TB_mem (List.mem_append_left _ (List.mem_of_getElem? (i := 92) rfl)) rfl
theorem vw_X12_isWaiting : Cond.selects RX12 yX12_isWaiting yX12_isWaiting ∈ am_TB := am_TB_mem (List.mem_append_left _ (List.mem_of_getElem? (i := 93) rfl)) rfl
theorem vw_X12_rankOf : Cond.selects RX12 yX12_rankOf yX12_rankOf ∈ am_TB := am_TB_mem (List.mem_append_left _ (List.mem_of_getElem? (i := 94) rfl)) rfl
theorem vw_X12_sets : Cond.selects RX12 yX12_sets yX12_sets ∈ am_TB := am_TB_mem (List.mem_append_left _ (List.mem_of_getElem? (i := 95) rfl)) rfl
theorem vw_X12_isBarred : Cond.selects RX12 yX12_isBarred yX12_isBarred ∈ am_TB := am_TB_mem (List.mem_append_left _ (List.mem_of_getElem? (i := 96) rfl)) rfl
theorem vw_X12_queues : Cond.selects RX12 yX12_queues yX12_queues ∈ am_TB := am_TB_mem (List.mem_append_left _ (List.mem_of_getElem? (i := 97) rfl)) rfl
theorem vw_X12_praysKept : Cond.selects RX12 yX12_praysKept yX12_praysKept ∈ am_TB := am_TB_mem (List.mem_append_left _ (List.mem_of_getElem? (i := 98) rfl)) rfl
theorem vw_X12_keeps : Cond.selects RX12 yX12_keeps yX12_keeps ∈ am_TB := am_TB_mem (List.mem_append_left _ (List.mem_of_getElem? (i := 99) rfl)) rfl
theorem vw_X12_goodOr : Cond.selects RX12 yX12_goodOr yX12_goodOr ∈ am_TB := am_TB_mem (List.mem_append_left _ (List.mem_of_getElem? (i := 100) rfl)) rfl
theorem vw_X12_dawnsKept : Cond.selects RX12 yX12_dawnsKept yX12_dawnsKept ∈ am_TB := am_TB_mem (List.mem_append_left _ (List.mem_of_getElem? (i := 101) rfl)) rfl
theorem vw_X12_dawns : Cond.selects RX12 yX12_dawns yX12_dawns ∈ am_TB := am_TB_mem (List.mem_append_left _ (List.mem_of_getElem? (i := 102) rfl)) rfl
theorem vw_X12_isDenied : Cond.selects RX12 yX12_isDenied yX12_isDenied ∈ am_TB := am_TB_mem (List.mem_append_left _ (List.mem_of_getElem? (i := 103) rfl)) rfl
theorem vw_X12_listsLetters : Cond.selects RX12 yX12_listsLetters yX12_listsLetters ∈ am_TB := am_TB_mem (List.mem_append_left _ (List.mem_of_getElem? (i := 104) rfl)) rfl
theorem vw_X12_parts : Cond.selects RX12 yX12_parts yX12_parts ∈ am_TB := am_TB_mem (List.mem_append_left _ (List.mem_of_getElem? (i := 105) rfl)) rfl
theorem vw_X12_looksAt : Cond.selects RX12 yX12_looksAt yX12_looksAt ∈ am_TB := am_TB_mem (List.mem_append_left _ (List.mem_of_getElem? (i := 106) rfl)) rfl
theorem vw_X12_laysAside : Cond.selects RX12 yX12_laysAside yX12_laysAside ∈ am_TB := am_TB_mem (List.mem_append_left _ (List.mem_of_getElem? (i := 107) rfl)) rfl
theorem vw_X12_takesBack : Cond.selects RX12 yX12_takesBack yX12_takesBack ∈ am_TB := am_TB_mem (List.mem_append_left _ (List.mem_of_getElem? (i := 108) rfl)) rfl
theorem vw_X12_areSo : Cond.selects RX12 yX12_areSo yX12_areSo ∈ am_TB := am_TB_mem (List.mem_append_left _ (List.mem_of_getElem? (i := 109) rfl)) rfl
theorem vw_X12_lastAnswer : Cond.selects RX12 yX12_lastAnswer yX12_lastAnswer ∈ am_TB := am_TB_mem (List.mem_append_left _ (List.mem_of_getElem? (i := 110) rfl)) rfl
theorem vw_X12_runs : Cond.selects RX12 yX12_runs yX12_runs ∈ am_TB := am_TB_mem (List.mem_append_left _ (List.mem_of_getElem? (i := 111) rfl)) rfl
theorem vw_X12_goesAlong : Cond.selects RX12 yX12_goesAlong yX12_goesAlong ∈ am_TB := am_TB_mem (List.mem_append_left _ (List.mem_of_getElem? (i := 112) rfl)) rfl
theorem vw_X12_waiting : Cond.selects RX12 yX12_waiting yX12_waiting ∈ am_TB := am_TB_mem (List.mem_append_left _ (List.mem_of_getElem? (i := 113) rfl)) rfl
theorem vw_X12_draws : Cond.selects RX12 yX12_draws yX12_draws ∈ am_TB := am_TB_mem (List.mem_append_left _ (List.mem_of_getElem? (i := 114) rfl)) rfl
theorem ml_RL_9 : Cond.methodLink RL 9 yX11_init ∈ am_TB := am_TB_mem (tb_1 (List.mem_of_getElem? (i := 23) rfl)) rfl
theorem ml_RX11_1 : Cond.methodLink RX11 1 Lib.objectInit ∈ am_TB := am_TB_mem (tb_1 (List.mem_of_getElem? (i := 26) rfl)) rfl
theorem mn_RX11_9 : Cond.methodLinkNest RX11 9 yX0_init RX11 ∈ am_nestW := List.mem_of_getElem? (i := 0) rfl
theorem ml_RX0_3 : Cond.methodLink RX0 3 Lib.objectInit ∈ am_TB := am_TB_mem (tb_1 (List.mem_of_getElem? (i := 34) rfl)) rfl
theorem ml_RX0_11 : Cond.methodLink RX0 11 yX7_init ∈ am_TB := am_TB_mem (tb_1 (List.mem_of_getElem? (i := 37) rfl)) rfl
theorem ml_RX7_3 : Cond.methodLink RX7 3 Lib.objectInit ∈ am_TB := am_TB_mem (tb_1 (List.mem_of_getElem? (i := 40) rfl)) rfl
theorem ml_RX7_9 : Cond.methodLink RX7 9 yJ9_max_7cf53 ∈ am_TB := am_TB_mem (tb_1 (List.mem_of_getElem? (i := 41) rfl)) rfl
theorem mn_RX0_34 : Cond.methodLinkNest RX0 34 yX9_init RX11 ∈ am_nestW := List.mem_of_getElem? (i := 11) rfl
theorem ml_RX9_3 : Cond.methodLink RX9 3 Lib.objectInit ∈ am_TB := am_TB_mem (tb_1 (List.mem_of_getElem? (i := 70) rfl)) rfl
theorem ml_RX9_13 : Cond.methodLink RX9 13 yX7_init ∈ am_TB := am_TB_mem (tb_1 (List.mem_of_getElem? (i := 72) rfl)) rfl
theorem mn_RX0_51 : Cond.methodLinkNest RX0 51 yX4_init RX11 ∈ am_nestW := List.mem_of_getElem? (i := 19) rfl
theorem ml_RX4_3 : Cond.methodLink RX4 3 Lib.objectInit ∈ am_TB := am_TB_mem (tb_1 (List.mem_of_getElem? (i := 93) rfl)) rfl
theorem ml_RX4_17 : Cond.methodLink RX4 17 yX7_init ∈ am_TB := am_TB_mem (tb_1 (List.mem_of_getElem? (i := 95) rfl)) rfl
theorem ml_RX11_26 : Cond.methodLink RX11 26 yX7_init ∈ am_TB := am_TB_mem (tb_1 (List.mem_of_getElem? (i := 167) rfl)) rfl
theorem mn_RX11_35 : Cond.methodLinkNest RX11 35 yX4_init RX11 ∈ am_nestW := List.mem_of_getElem? (i := 42) rfl
theorem ml_RX11_42 : Cond.methodLink RX11 42 yX5_init ∈ am_TB := am_TB_mem (tb_1 (List.mem_of_getElem? (i := 172) rfl)) rfl
theorem ml_RX5_3 : Cond.methodLink RX5 3 Lib.objectInit ∈ am_TB := am_TB_mem (tb_1 (List.mem_of_getElem? (i := 175) rfl)) rfl
theorem mn_RX11_51 : Cond.methodLinkNest RX11 51 yX3_init RX11 ∈ am_nestW := List.mem_of_getElem? (i := 44) rfl
theorem ml_RX3_3 : Cond.methodLink RX3 3 Lib.objectInit ∈ am_TB := am_TB_mem (tb_1 (List.mem_of_getElem? (i := 205) rfl)) rfl
theorem mn_RX3_17 : Cond.methodLinkNest RX3 17 yX6_init RX11 ∈ am_nestW := List.mem_of_getElem? (i := 45) rfl
theorem ml_RX6_3 : Cond.methodLink RX6 3 Lib.objectInit ∈ am_TB := am_TB_mem (tb_1 (List.mem_of_getElem? (i := 211) rfl)) rfl
theorem ml_RX11_58 : Cond.methodLink RX11 58 yX2_init ∈ am_TB := am_TB_mem (tb_1 (List.mem_of_getElem? (i := 226) rfl)) rfl
theorem ml_RX2_3 : Cond.methodLink RX2 3 Lib.objectInit ∈ am_TB := am_TB_mem (tb_1 (List.mem_of_getElem? (i := 229) rfl)) rfl
theorem mn_RX11_67 : Cond.methodLinkNest RX11 67 yX9_init RX11 ∈ am_nestW := List.mem_of_getElem? (i := 49) rfl
theorem mn_RX11_83 : Cond.methodLinkNest RX11 83 yX10_init RX11 ∈ am_nestW := List.mem_of_getElem? (i := 50) rfl
theorem ml_RX10_3 : Cond.methodLink RX10 3 Lib.objectInit ∈ am_TB := am_TB_mem (tb_2 (List.mem_of_getElem? (i := 12) rfl)) rfl
theorem mn_RX11_90 : Cond.methodLinkNest RX11 90 yX1_init RX11 ∈ am_nestW := List.mem_of_getElem? (i := 51) rfl
theorem ml_RX1_5 : Cond.methodLink RX1 5 Lib.objectInit ∈ am_TB := am_TB_mem (tb_2 (List.mem_of_getElem? (i := 29) rfl)) rfl
theorem mn_RX11_97 : Cond.methodLinkNest RX11 97 yX8_init RX11 ∈ am_nestW := List.mem_of_getElem? (i := 52) rfl
theorem ml_RX8_3 : Cond.methodLink RX8 3 Lib.objectInit ∈ am_TB := am_TB_mem (tb_2 (List.mem_of_getElem? (i := 60) rfl)) rfl
theorem ml_RX8_11 : Cond.methodLink RX8 11 yX7_init ∈ am_TB := am_TB_mem (tb_2 (List.mem_of_getElem? (i := 62) rfl)) rfl
theorem ml_RL_13 : Cond.methodLink RL 13 yX11_word ∈ am_TB := am_TB_mem (tb_2 (List.mem_of_getElem? (i := 131) rfl)) rfl
theorem ml_RX11_113 : Cond.methodLink RX11 113 yX11_within ∈ am_TB := am_TB_mem (tb_2 (List.mem_of_getElem? (i := 135) rfl)) rfl
theorem ml_RX11_117 : Cond.methodLink RX11 117 yX11_refuse ∈ am_TB := am_TB_mem (tb_2 (List.mem_of_getElem? (i := 138) rfl)) rfl
theorem ml_RX11_124 : Cond.methodLink RX11 124 yX7_open ∈ am_TB := am_TB_mem (tb_2 (List.mem_of_getElem? (i := 142) rfl)) rfl
theorem ml_RX11_128 : Cond.methodLink RX11 128 yX7_set ∈ am_TB := am_TB_mem (tb_2 (List.mem_of_getElem? (i := 146) rfl)) rfl
theorem ml_RX11_132 : Cond.methodLink RX11 132 yX11_fine ∈ am_TB := am_TB_mem (tb_2 (List.mem_of_getElem? (i := 150) rfl)) rfl
theorem ml_RL_18 : Cond.methodLink RL 18 yX11_lengthOf ∈ am_TB := am_TB_mem (tb_2 (List.mem_of_getElem? (i := 154) rfl)) rfl
theorem ml_RX11_135 : Cond.methodLink RX11 135 yX7_get ∈ am_TB := am_TB_mem (tb_2 (List.mem_of_getElem? (i := 158) rfl)) rfl
theorem ml_RL_22 : Cond.methodLink RL 22 yX11_rule ∈ am_TB := am_TB_mem (tb_2 (List.mem_of_getElem? (i := 162) rfl)) rfl
theorem ml_RX11_139 : Cond.methodLink RX11 139 yX11_isThing ∈ am_TB := am_TB_mem (tb_2 (List.mem_of_getElem? (i := 166) rfl)) rfl
theorem ml_RX11_143 : Cond.methodLink RX11 143 yX11_lacksWord ∈ am_TB := am_TB_mem (tb_2 (List.mem_of_getElem? (i := 169) rfl)) rfl
theorem ml_RX11_159 : Cond.methodLink RX11 159 yX7_has ∈ am_TB := am_TB_mem (tb_2 (List.mem_of_getElem? (i := 173) rfl)) rfl
theorem ml_RL_27 : Cond.methodLink RL 27 yX11_of ∈ am_TB := am_TB_mem (tb_2 (List.mem_of_getElem? (i := 177) rfl)) rfl
theorem ml_RL_32 : Cond.methodLink RL 32 yX11_clash ∈ am_TB := am_TB_mem (tb_2 (List.mem_of_getElem? (i := 181) rfl)) rfl
theorem ml_RX11_149 : Cond.methodLink RX11 149 yX0_setClash ∈ am_TB := am_TB_mem (tb_2 (List.mem_of_getElem? (i := 185) rfl)) rfl
theorem mn_RX0_63 : Cond.methodLinkNest RX0 63 yX11_isThing RX11 ∈ am_nestW := List.mem_of_getElem? (i := 53) rfl
theorem ml_RL_37 : Cond.methodLink RL 37 yX11_often ∈ am_TB := am_TB_mem (tb_2 (List.mem_of_getElem? (i := 190) rfl)) rfl
theorem ml_RL_41 : Cond.methodLink RL 41 yX11_person ∈ am_TB := am_TB_mem (tb_2 (List.mem_of_getElem? (i := 194) rfl)) rfl
theorem ml_RL_45 : Cond.methodLink RL 45 yX11_breath ∈ am_TB := am_TB_mem (tb_2 (List.mem_of_getElem? (i := 198) rfl)) rfl
theorem ml_RX11_168 : Cond.methodLink RX11 168 yX3_breathOf ∈ am_TB := am_TB_mem (tb_2 (List.mem_of_getElem? (i := 202) rfl)) rfl
theorem ml_RX3_28 : Cond.methodLink RX3 28 yX7_get ∈ am_TB := am_TB_mem (tb_2 (List.mem_of_getElem? (i := 206) rfl)) rfl
theorem ml_RX3_39 : Cond.methodLink RX3 39 yX0_term ∈ am_TB := am_TB_mem (tb_2 (List.mem_of_getElem? (i := 207) rfl)) rfl
theorem ml_RX3_43 : Cond.methodLink RX3 43 yX3_tells ∈ am_TB := am_TB_mem (tb_2 (List.mem_of_getElem? (i := 211) rfl)) rfl
theorem ml_RX3_47 : Cond.methodLink RX3 47 yX0_ruling ∈ am_TB := am_TB_mem (tb_2 (List.mem_of_getElem? (i := 215) rfl)) rfl
theorem ml_RX3_60 : Cond.methodLink RX3 60 yX6_value ∈ am_TB := am_TB_mem (tb_2 (List.mem_of_getElem? (i := 219) rfl)) rfl
theorem ml_RX6_21 : Cond.methodLink RX6 21 yX7_get ∈ am_TB := am_TB_mem (tb_2 (List.mem_of_getElem? (i := 223) rfl)) rfl
theorem ml_RX6_31 : Cond.methodLink RX6 31 yJ9_min_7cf53 ∈ am_TB := am_TB_mem (tb_2 (List.mem_of_getElem? (i := 224) rfl)) rfl
theorem ml_RX6_40 : Cond.methodLink RX6 40 yX6_join ∈ am_TB := am_TB_mem (tb_2 (List.mem_of_getElem? (i := 228) rfl)) rfl
theorem ml_RX3_65 : Cond.methodLink RX3 65 yJ9_min_7cf53 ∈ am_TB := am_TB_mem (tb_2 (List.mem_of_getElem? (i := 235) rfl)) rfl
theorem ml_RX3_70 : Cond.methodLink RX3 70 yJ9_max_7cf53 ∈ am_TB := am_TB_mem (tb_2 (List.mem_of_getElem? (i := 236) rfl)) rfl
theorem ml_RL_49 : Cond.methodLink RL 49 yX11_terms ∈ am_TB := am_TB_mem (tb_2 (List.mem_of_getElem? (i := 237) rfl)) rfl
theorem ml_RX11_172 : Cond.methodLink RX11 172 yX11_lowestTerm ∈ am_TB := am_TB_mem (tb_3 (List.mem_of_getElem? (i := 1) rfl)) rfl
theorem ml_RX11_175 : Cond.methodLink RX11 175 yX11_highestTerm ∈ am_TB := am_TB_mem (tb_3 (List.mem_of_getElem? (i := 4) rfl)) rfl
theorem ml_RX11_178 : Cond.methodLink RX11 178 yX0_term ∈ am_TB := am_TB_mem (tb_3 (List.mem_of_getElem? (i := 7) rfl)) rfl
theorem ml_RX11_181 : Cond.methodLink RX11 181 yX0_setTerm ∈ am_TB := am_TB_mem (tb_3 (List.mem_of_getElem? (i := 8) rfl)) rfl
theorem ml_RX11_184 : Cond.methodLink RX11 184 yX7_cut ∈ am_TB := am_TB_mem (tb_3 (List.mem_of_getElem? (i := 12) rfl)) rfl
theorem ml_RL_53 : Cond.methodLink RL 53 yX11_feed ∈ am_TB := am_TB_mem (tb_3 (List.mem_of_getElem? (i := 16) rfl)) rfl
theorem ml_RX11_191 : Cond.methodLink RX11 191 yX11_feedNumber ∈ am_TB := am_TB_mem (tb_3 (List.mem_of_getElem? (i := 20) rfl)) rfl
theorem ml_RL_58 : Cond.methodLink RL 58 yX11_end ∈ am_TB := am_TB_mem (tb_3 (List.mem_of_getElem? (i := 24) rfl)) rfl
theorem ml_RL_62 : Cond.methodLink RL 62 yX11_row ∈ am_TB := am_TB_mem (tb_3 (List.mem_of_getElem? (i := 28) rfl)) rfl
theorem ml_RX11_197 : Cond.methodLink RX11 197 yX11_tryPrayer ∈ am_TB := am_TB_mem (tb_3 (List.mem_of_getElem? (i := 32) rfl)) rfl
theorem ml_RX11_320 : Cond.methodLink RX11 320 yX9_utter ∈ am_TB := am_TB_mem (tb_3 (List.mem_of_getElem? (i := 36) rfl)) rfl
theorem ml_RX9_32 : Cond.methodLink RX9 32 yX7_open ∈ am_TB := am_TB_mem (tb_3 (List.mem_of_getElem? (i := 40) rfl)) rfl
theorem ml_RX9_36 : Cond.methodLink RX9 36 yX7_set ∈ am_TB := am_TB_mem (tb_3 (List.mem_of_getElem? (i := 41) rfl)) rfl
theorem ml_RL_67 : Cond.methodLink RL 67 yX11_coughs ∈ am_TB := am_TB_mem (tb_3 (List.mem_of_getElem? (i := 42) rfl)) rfl
theorem ml_RL_71 : Cond.methodLink RL 71 yX11_law ∈ am_TB := am_TB_mem (tb_3 (List.mem_of_getElem? (i := 46) rfl)) rfl
theorem ml_RX11_208 : Cond.methodLink RX11 208 yX5_read ∈ am_TB := am_TB_mem (tb_3 (List.mem_of_getElem? (i := 50) rfl)) rfl
theorem ml_RX5_33 : Cond.methodLink RX5 33 yX4_clear ∈ am_TB := am_TB_mem (tb_3 (List.mem_of_getElem? (i := 54) rfl)) rfl
theorem ml_RX4_33 : Cond.methodLink RX4 33 yX7_cut ∈ am_TB := am_TB_mem (tb_3 (List.mem_of_getElem? (i := 58) rfl)) rfl
theorem ml_RX5_38 : Cond.methodLink RX5 38 yX5_advance ∈ am_TB := am_TB_mem (tb_3 (List.mem_of_getElem? (i := 59) rfl)) rfl
theorem ml_RX5_62 : Cond.methodLink RX5 62 yX7_get ∈ am_TB := am_TB_mem (tb_3 (List.mem_of_getElem? (i := 63) rfl)) rfl
theorem ml_RX5_66 : Cond.methodLink RX5 66 yX5_kindOf ∈ am_TB := am_TB_mem (tb_3 (List.mem_of_getElem? (i := 64) rfl)) rfl
theorem ml_RX5_70 : Cond.methodLink RX5 70 yJ9_min_7cf53 ∈ am_TB := am_TB_mem (tb_3 (List.mem_of_getElem? (i := 67) rfl)) rfl
theorem ml_RX5_41 : Cond.methodLink RX5 41 yX5_clause ∈ am_TB := am_TB_mem (tb_3 (List.mem_of_getElem? (i := 68) rfl)) rfl
theorem ml_RX5_89 : Cond.methodLink RX5 89 yX5_clauseKind ∈ am_TB := am_TB_mem (tb_3 (List.mem_of_getElem? (i := 72) rfl)) rfl
theorem ml_RX5_55 : Cond.methodLink RX5 55 yX5_is ∈ am_TB := am_TB_mem (tb_3 (List.mem_of_getElem? (i := 77) rfl)) rfl
theorem ml_RX5_75 : Cond.methodLink RX5 75 yJ0_length_8abf5 ∈ am_TB := am_TB_mem (tb_3 (List.mem_of_getElem? (i := 81) rfl)) rfl
theorem ml_RJ0_335 : Cond.methodLink RJ0 335 yJ0_coder_7d493 ∈ am_TB := am_TB_mem (tb_3 (List.mem_of_getElem? (i := 85) rfl)) rfl
theorem ml_RX5_81 : Cond.methodLink RX5 81 yJ0_charAt_5068e ∈ am_TB := am_TB_mem (tb_3 (List.mem_of_getElem? (i := 91) rfl)) rfl
theorem ml_RJ0_492 : Cond.methodLink RJ0 492 yJ0_isLatin1_aae02 ∈ am_TB := am_TB_mem (tb_3 (List.mem_of_getElem? (i := 95) rfl)) rfl
theorem ml_RJ0_495 : Cond.methodLink RJ0 495 yJ1_charAt_3b067 ∈ am_TB := am_TB_mem (tb_3 (List.mem_of_getElem? (i := 99) rfl)) rfl
theorem ml_RJ1_9 : Cond.methodLink RJ1 9 yJ0_checkIndex_df160 ∈ am_TB := am_TB_mem (tb_3 (List.mem_of_getElem? (i := 102) rfl)) rfl
theorem ml_RJ0_1059 : Cond.methodLink RJ0 1059 yJ3_checkIndex_8e157 ∈ am_TB := am_TB_mem (tb_3 (List.mem_of_getElem? (i := 107) rfl)) rfl
theorem ml_RJ0_498 : Cond.methodLink RJ0 498 yJ2_charAt_3b067 ∈ am_TB := am_TB_mem (tb_3 (List.mem_of_getElem? (i := 110) rfl)) rfl
theorem ml_RJ2_67 : Cond.methodLink RJ2 67 yJ2_checkIndex_2214a ∈ am_TB := am_TB_mem (tb_3 (List.mem_of_getElem? (i := 113) rfl)) rfl
theorem ml_RJ2_48 : Cond.methodLink RJ2 48 yJ2_length_9d52b ∈ am_TB := am_TB_mem (tb_3 (List.mem_of_getElem? (i := 116) rfl)) rfl
theorem ml_RJ2_414 : Cond.methodLink RJ2 414 yJ0_checkIndex_df160 ∈ am_TB := am_TB_mem (tb_3 (List.mem_of_getElem? (i := 119) rfl)) rfl
theorem ml_RJ2_71 : Cond.methodLink RJ2 71 yJ2_getChar_3b067 ∈ am_TB := am_TB_mem (tb_3 (List.mem_of_getElem? (i := 120) rfl)) rfl
theorem ml_RX5_95 : Cond.methodLink RX5 95 yX7_open ∈ am_TB := am_TB_mem (tb_3 (List.mem_of_getElem? (i := 133) rfl)) rfl
theorem ml_RX5_59 : Cond.methodLink RX5 59 yX5_fail ∈ am_TB := am_TB_mem (tb_3 (List.mem_of_getElem? (i := 134) rfl)) rfl
theorem ml_RX5_98 : Cond.methodLink RX5 98 yX7_set ∈ am_TB := am_TB_mem (tb_3 (List.mem_of_getElem? (i := 138) rfl)) rfl
theorem ml_RX5_102 : Cond.methodLink RX5 102 yX5_sums ∈ am_TB := am_TB_mem (tb_3 (List.mem_of_getElem? (i := 139) rfl)) rfl
theorem ml_RX5_116 : Cond.methodLink RX5 116 yX4_mark ∈ am_TB := am_TB_mem (tb_3 (List.mem_of_getElem? (i := 143) rfl)) rfl
theorem ml_RX4_29 : Cond.methodLink RX4 29 yX7_set ∈ am_TB := am_TB_mem (tb_3 (List.mem_of_getElem? (i := 147) rfl)) rfl
theorem ml_RX5_134 : Cond.methodLink RX5 134 yX5_pass ∈ am_TB := am_TB_mem (tb_3 (List.mem_of_getElem? (i := 150) rfl)) rfl
theorem ml_RX5_137 : Cond.methodLink RX5 137 yX5_sum ∈ am_TB := am_TB_mem (tb_3 (List.mem_of_getElem? (i := 154) rfl)) rfl
theorem ml_RX5_172 : Cond.methodLink RX5 172 yX5_term ∈ am_TB := am_TB_mem (tb_3 (List.mem_of_getElem? (i := 158) rfl)) rfl
theorem ml_RX5_179 : Cond.methodLink RX5 179 yX5_part ∈ am_TB := am_TB_mem (tb_3 (List.mem_of_getElem? (i := 162) rfl)) rfl
theorem ml_RX5_161 : Cond.methodLink RX5 161 yX5_openBracket ∈ am_TB := am_TB_mem (tb_3 (List.mem_of_getElem? (i := 167) rfl)) rfl
theorem ml_RX5_108 : Cond.methodLink RX5 108 yX5_number ∈ am_TB := am_TB_mem (tb_3 (List.mem_of_getElem? (i := 172) rfl)) rfl
theorem mn_RX5_85 : Cond.methodLinkNest RX5 85 yX11_within RX11 ∈ am_nestW := List.mem_of_getElem? (i := 54) rfl
theorem ml_RX5_192 : Cond.methodLink RX5 192 yX5_orderFact ∈ am_TB := am_TB_mem (tb_3 (List.mem_of_getElem? (i := 177) rfl)) rfl
theorem ml_RX5_195 : Cond.methodLink RX5 195 yX5_lawFact ∈ am_TB := am_TB_mem (tb_3 (List.mem_of_getElem? (i := 187) rfl)) rfl
theorem ml_RX5_146 : Cond.methodLink RX5 146 yX4_add ∈ am_TB := am_TB_mem (tb_3 (List.mem_of_getElem? (i := 198) rfl)) rfl
theorem ml_RX5_113 : Cond.methodLink RX5 113 yX5_test ∈ am_TB := am_TB_mem (tb_3 (List.mem_of_getElem? (i := 209) rfl)) rfl
theorem ml_RX5_140 : Cond.methodLink RX5 140 yX5_both ∈ am_TB := am_TB_mem (tb_3 (List.mem_of_getElem? (i := 213) rfl)) rfl
theorem ml_RX5_152 : Cond.methodLink RX5 152 yX5_plain ∈ am_TB := am_TB_mem (tb_3 (List.mem_of_getElem? (i := 217) rfl)) rfl
theorem ml_RX5_149 : Cond.methodLink RX5 149 yX4_skipFrom ∈ am_TB := am_TB_mem (tb_3 (List.mem_of_getElem? (i := 228) rfl)) rfl
theorem ml_RX11_212 : Cond.methodLink RX11 212 yX0_addLaw ∈ am_TB := am_TB_mem (tb_3 (List.mem_of_getElem? (i := 234) rfl)) rfl
theorem ml_RX0_70 : Cond.methodLink RX0 70 yX4_takeFrom ∈ am_TB := am_TB_mem (tb_3 (List.mem_of_getElem? (i := 238) rfl)) rfl
theorem ml_RX4_37 : Cond.methodLink RX4 37 yJ9_min_7cf53 ∈ am_TB := am_TB_mem (tb_4 (List.mem_of_getElem? (i := 2) rfl)) rfl
theorem ml_RX4_43 : Cond.methodLink RX4 43 arraycopyName ∈ am_TB := am_TB_mem (tb_4 (List.mem_of_getElem? (i := 3) rfl)) rfl
theorem ml_RX4_49 : Cond.methodLink RX4 49 yX7_takeFrom ∈ am_TB := am_TB_mem (tb_4 (List.mem_of_getElem? (i := 6) rfl)) rfl
theorem ml_RX7_28 : Cond.methodLink RX7 28 arraycopyName ∈ am_TB := am_TB_mem (tb_4 (List.mem_of_getElem? (i := 10) rfl)) rfl
theorem ml_RL_75 : Cond.methodLink RL 75 yX11_orders ∈ am_TB := am_TB_mem (tb_4 (List.mem_of_getElem? (i := 12) rfl)) rfl
theorem ml_RX11_216 : Cond.methodLink RX11 216 yX9_takeFrom ∈ am_TB := am_TB_mem (tb_4 (List.mem_of_getElem? (i := 16) rfl)) rfl
theorem ml_RX9_50 : Cond.methodLink RX9 50 yX7_takeFrom ∈ am_TB := am_TB_mem (tb_4 (List.mem_of_getElem? (i := 20) rfl)) rfl
theorem ml_RX11_220 : Cond.methodLink RX11 220 yX7_takeFrom ∈ am_TB := am_TB_mem (tb_4 (List.mem_of_getElem? (i := 21) rfl)) rfl
theorem ml_RX11_223 : Cond.methodLink RX11 223 yX10_find ∈ am_TB := am_TB_mem (tb_4 (List.mem_of_getElem? (i := 22) rfl)) rfl
theorem ml_RX10_36 : Cond.methodLink RX10 36 yX10_improve ∈ am_TB := am_TB_mem (tb_4 (List.mem_of_getElem? (i := 27) rfl)) rfl
theorem ml_RX10_40 : Cond.methodLink RX10 40 yX7_get ∈ am_TB := am_TB_mem (tb_4 (List.mem_of_getElem? (i := 31) rfl)) rfl
theorem ml_RX10_48 : Cond.methodLink RX10 48 yX10_weigh ∈ am_TB := am_TB_mem (tb_4 (List.mem_of_getElem? (i := 32) rfl)) rfl
theorem mn_RX10_44 : Cond.methodLinkNest RX10 44 yX11_isThing RX11 ∈ am_nestW := List.mem_of_getElem? (i := 55) rfl
theorem ml_RX10_52 : Cond.methodLink RX10 52 yX10_countWords ∈ am_TB := am_TB_mem (tb_4 (List.mem_of_getElem? (i := 38) rfl)) rfl
theorem ml_RX10_60 : Cond.methodLink RX10 60 yX10_wordsIn ∈ am_TB := am_TB_mem (tb_4 (List.mem_of_getElem? (i := 42) rfl)) rfl
theorem ml_RX11_230 : Cond.methodLink RX11 230 yX11_lookAround ∈ am_TB := am_TB_mem (tb_4 (List.mem_of_getElem? (i := 46) rfl)) rfl
theorem ml_RX11_361 : Cond.methodLink RX11 361 yX9_waiting ∈ am_TB := am_TB_mem (tb_4 (List.mem_of_getElem? (i := 50) rfl)) rfl
theorem ml_RX9_28 : Cond.methodLink RX9 28 yX9_waits ∈ am_TB := am_TB_mem (tb_4 (List.mem_of_getElem? (i := 54) rfl)) rfl
theorem ml_RX9_20 : Cond.methodLink RX9 20 yX7_get ∈ am_TB := am_TB_mem (tb_4 (List.mem_of_getElem? (i := 58) rfl)) rfl
theorem ml_RX11_252 : Cond.methodLink RX11 252 yX10_lengthFor ∈ am_TB := am_TB_mem (tb_4 (List.mem_of_getElem? (i := 59) rfl)) rfl
theorem ml_RX11_373 : Cond.methodLink RX11 373 yX9_grantedFor ∈ am_TB := am_TB_mem (tb_4 (List.mem_of_getElem? (i := 63) rfl)) rfl
theorem ml_RX11_237 : Cond.methodLink RX11 237 yX6_value ∈ am_TB := am_TB_mem (tb_4 (List.mem_of_getElem? (i := 67) rfl)) rfl
theorem ml_RX11_243 : Cond.methodLink RX11 243 yX11_runOnce ∈ am_TB := am_TB_mem (tb_4 (List.mem_of_getElem? (i := 68) rfl)) rfl
theorem ml_RX11_294 : Cond.methodLink RX11 294 yX11_tryDawn ∈ am_TB := am_TB_mem (tb_4 (List.mem_of_getElem? (i := 72) rfl)) rfl
theorem ml_RX11_286 : Cond.methodLink RX11 286 yX2_foreseeAll ∈ am_TB := am_TB_mem (tb_4 (List.mem_of_getElem? (i := 76) rfl)) rfl
theorem ml_RX2_31 : Cond.methodLink RX2 31 yX9_waits ∈ am_TB := am_TB_mem (tb_4 (List.mem_of_getElem? (i := 80) rfl)) rfl
theorem ml_RX2_38 : Cond.methodLink RX2 38 yX2_foresee ∈ am_TB := am_TB_mem (tb_4 (List.mem_of_getElem? (i := 81) rfl)) rfl
theorem ml_RX2_42 : Cond.methodLink RX2 42 yX2_isForeseen ∈ am_TB := am_TB_mem (tb_4 (List.mem_of_getElem? (i := 85) rfl)) rfl
theorem mn_RX2_61 : Cond.methodLinkNest RX2 61 yX11_within RX11 ∈ am_nestW := List.mem_of_getElem? (i := 56) rfl
theorem ml_RX2_46 : Cond.methodLink RX2 46 yX3_look ∈ am_TB := am_TB_mem (tb_4 (List.mem_of_getElem? (i := 89) rfl)) rfl
theorem ml_RX2_52 : Cond.methodLink RX2 52 yX3_tells ∈ am_TB := am_TB_mem (tb_4 (List.mem_of_getElem? (i := 93) rfl)) rfl
theorem ml_RX2_56 : Cond.methodLink RX2 56 yX7_get ∈ am_TB := am_TB_mem (tb_4 (List.mem_of_getElem? (i := 94) rfl)) rfl
theorem ml_RX11_316 : Cond.methodLink RX11 316 yX2_hear ∈ am_TB := am_TB_mem (tb_4 (List.mem_of_getElem? (i := 96) rfl)) rfl
theorem ml_RX2_71 : Cond.methodLink RX2 71 yX0_term ∈ am_TB := am_TB_mem (tb_4 (List.mem_of_getElem? (i := 100) rfl)) rfl
theorem ml_RX2_77 : Cond.methodLink RX2 77 yX2_lowest ∈ am_TB := am_TB_mem (tb_4 (List.mem_of_getElem? (i := 101) rfl)) rfl
theorem ml_RX2_81 : Cond.methodLink RX2 81 yX2_isKeptOff ∈ am_TB := am_TB_mem (tb_4 (List.mem_of_getElem? (i := 105) rfl)) rfl
theorem ml_RX2_89 : Cond.methodLink RX2 89 yX0_keptOffBy ∈ am_TB := am_TB_mem (tb_4 (List.mem_of_getElem? (i := 108) rfl)) rfl
theorem ml_RX2_85 : Cond.methodLink RX2 85 yX7_set ∈ am_TB := am_TB_mem (tb_4 (List.mem_of_getElem? (i := 112) rfl)) rfl
theorem ml_RX11_264 : Cond.methodLink RX11 264 yX11_noteDeed ∈ am_TB := am_TB_mem (tb_4 (List.mem_of_getElem? (i := 113) rfl)) rfl
theorem ml_RX11_370 : Cond.methodLink RX11 370 yX7_dropFirst ∈ am_TB := am_TB_mem (tb_4 (List.mem_of_getElem? (i := 117) rfl)) rfl
theorem ml_RX11_328 : Cond.methodLink RX11 328 yJ9_min_7cf53 ∈ am_TB := am_TB_mem (tb_4 (List.mem_of_getElem? (i := 121) rfl)) rfl
theorem ml_RL_79 : Cond.methodLink RL 79 yX11_fault ∈ am_TB := am_TB_mem (tb_4 (List.mem_of_getElem? (i := 123) rfl)) rfl
theorem ml_RL_83 : Cond.methodLink RL 83 yX11_stopped ∈ am_TB := am_TB_mem (tb_4 (List.mem_of_getElem? (i := 127) rfl)) rfl
theorem ml_RL_87 : Cond.methodLink RL 87 yX11_force ∈ am_TB := am_TB_mem (tb_4 (List.mem_of_getElem? (i := 131) rfl)) rfl
theorem ml_RL_91 : Cond.methodLink RL 91 yX11_say ∈ am_TB := am_TB_mem (tb_4 (List.mem_of_getElem? (i := 135) rfl)) rfl
theorem ml_RX11_255 : Cond.methodLink RX11 255 yX10_wordsFor ∈ am_TB := am_TB_mem (tb_4 (List.mem_of_getElem? (i := 139) rfl)) rfl
theorem ml_RX11_258 : Cond.methodLink RX11 258 yX10_rulesFor ∈ am_TB := am_TB_mem (tb_4 (List.mem_of_getElem? (i := 143) rfl)) rfl
theorem ml_RX11_261 : Cond.methodLink RX11 261 yX10_wordAt ∈ am_TB := am_TB_mem (tb_4 (List.mem_of_getElem? (i := 147) rfl)) rfl
theorem ml_RX10_64 : Cond.methodLink RX10 64 yX10_wordsFor ∈ am_TB := am_TB_mem (tb_4 (List.mem_of_getElem? (i := 151) rfl)) rfl
theorem ml_RL_95 : Cond.methodLink RL 95 yX11_pray ∈ am_TB := am_TB_mem (tb_4 (List.mem_of_getElem? (i := 152) rfl)) rfl
theorem ml_RL_99 : Cond.methodLink RL 99 yX11_at ∈ am_TB := am_TB_mem (tb_4 (List.mem_of_getElem? (i := 156) rfl)) rfl
theorem ml_RL_103 : Cond.methodLink RL 103 yX11_rank ∈ am_TB := am_TB_mem (tb_4 (List.mem_of_getElem? (i := 160) rfl)) rfl
theorem ml_RX11_270 : Cond.methodLink RX11 270 yX9_waits ∈ am_TB := am_TB_mem (tb_4 (List.mem_of_getElem? (i := 164) rfl)) rfl
theorem ml_RX11_274 : Cond.methodLink RX11 274 yX3_look ∈ am_TB := am_TB_mem (tb_4 (List.mem_of_getElem? (i := 166) rfl)) rfl
theorem ml_RX11_278 : Cond.methodLink RX11 278 yX3_rankTold ∈ am_TB := am_TB_mem (tb_4 (List.mem_of_getElem? (i := 167) rfl)) rfl
theorem ml_RX11_282 : Cond.methodLink RX11 282 yX3_tells ∈ am_TB := am_TB_mem (tb_4 (List.mem_of_getElem? (i := 171) rfl)) rfl
theorem ml_RL_107 : Cond.methodLink RL 107 yX11_order ∈ am_TB := am_TB_mem (tb_4 (List.mem_of_getElem? (i := 172) rfl)) rfl
theorem ml_RX11_290 : Cond.methodLink RX11 290 yX2_lowest ∈ am_TB := am_TB_mem (tb_4 (List.mem_of_getElem? (i := 176) rfl)) rfl
theorem ml_RL_111 : Cond.methodLink RL 111 yX11_dawn ∈ am_TB := am_TB_mem (tb_4 (List.mem_of_getElem? (i := 177) rfl)) rfl
theorem ml_RL_115 : Cond.methodLink RL 115 yX11_undo ∈ am_TB := am_TB_mem (tb_4 (List.mem_of_getElem? (i := 181) rfl)) rfl
theorem ml_RX11_297 : Cond.methodLink RX11 297 yX9_takeBackDawn ∈ am_TB := am_TB_mem (tb_4 (List.mem_of_getElem? (i := 185) rfl)) rfl
theorem ml_RL_119 : Cond.methodLink RL 119 yX11_sweep ∈ am_TB := am_TB_mem (tb_4 (List.mem_of_getElem? (i := 189) rfl)) rfl
theorem ml_RX11_300 : Cond.methodLink RX11 300 yX9_dropHeard ∈ am_TB := am_TB_mem (tb_4 (List.mem_of_getElem? (i := 193) rfl)) rfl
theorem ml_RX9_43 : Cond.methodLink RX9 43 yX7_copyRow ∈ am_TB := am_TB_mem (tb_4 (List.mem_of_getElem? (i := 197) rfl)) rfl
theorem ml_RX7_34 : Cond.methodLink RX7 34 yX7_has ∈ am_TB := am_TB_mem (tb_4 (List.mem_of_getElem? (i := 201) rfl)) rfl
theorem ml_RX9_46 : Cond.methodLink RX9 46 yX7_cut ∈ am_TB := am_TB_mem (tb_4 (List.mem_of_getElem? (i := 202) rfl)) rfl
theorem ml_RL_123 : Cond.methodLink RL 123 yX11_code ∈ am_TB := am_TB_mem (tb_4 (List.mem_of_getElem? (i := 203) rfl)) rfl
theorem ml_RX11_303 : Cond.methodLink RX11 303 yX1_find ∈ am_TB := am_TB_mem (tb_4 (List.mem_of_getElem? (i := 207) rfl)) rfl
theorem ml_RX1_30 : Cond.methodLink RX1 30 yX1_takeLetters ∈ am_TB := am_TB_mem (tb_4 (List.mem_of_getElem? (i := 211) rfl)) rfl
theorem ml_RX1_50 : Cond.methodLink RX1 50 yJ6_bitCount_0f7a4 ∈ am_TB := am_TB_mem (tb_4 (List.mem_of_getElem? (i := 215) rfl)) rfl
theorem mn_RX1_63 : Cond.methodLinkNest RX1 63 yX11_within RX11 ∈ am_nestW := List.mem_of_getElem? (i := 57) rfl
theorem ml_RX1_81 : Cond.methodLink RX1 81 yX7_get ∈ am_TB := am_TB_mem (tb_4 (List.mem_of_getElem? (i := 222) rfl)) rfl
theorem ml_RX1_34 : Cond.methodLink RX1 34 yX1_takeAsked ∈ am_TB := am_TB_mem (tb_4 (List.mem_of_getElem? (i := 223) rfl)) rfl
theorem ml_RX1_42 : Cond.methodLink RX1 42 yX1_weightOf ∈ am_TB := am_TB_mem (tb_4 (List.mem_of_getElem? (i := 227) rfl)) rfl
theorem mn_RX1_88 : Cond.methodLinkNest RX1 88 yX11_isThing RX11 ∈ am_nestW := List.mem_of_getElem? (i := 58) rfl
theorem ml_RX1_46 : Cond.methodLink RX1 46 yX1_clearLengths ∈ am_TB := am_TB_mem (tb_4 (List.mem_of_getElem? (i := 232) rfl)) rfl
theorem ml_RX1_56 : Cond.methodLink RX1 56 yX1_share ∈ am_TB := am_TB_mem (tb_4 (List.mem_of_getElem? (i := 236) rfl)) rfl
theorem ml_RX1_97 : Cond.methodLink RX1 97 yX1_isPartOf ∈ am_TB := am_TB_mem (tb_5 (List.mem_of_getElem? (i := 0) rfl)) rfl
theorem ml_RX1_101 : Cond.methodLink RX1 101 yX1_tryShares ∈ am_TB := am_TB_mem (tb_5 (List.mem_of_getElem? (i := 3) rfl)) rfl
theorem ml_RX1_105 : Cond.methodLink RX1 105 yX1_isSet ∈ am_TB := am_TB_mem (tb_5 (List.mem_of_getElem? (i := 7) rfl)) rfl
theorem ml_RX1_108 : Cond.methodLink RX1 108 yX1_isTrialAhead ∈ am_TB := am_TB_mem (tb_5 (List.mem_of_getElem? (i := 10) rfl)) rfl
theorem ml_RX1_111 : Cond.methodLink RX1 111 arraycopyName ∈ am_TB := am_TB_mem (tb_5 (List.mem_of_getElem? (i := 14) rfl)) rfl
theorem ml_RX1_59 : Cond.methodLink RX1 59 yX1_shortestLetter ∈ am_TB := am_TB_mem (tb_5 (List.mem_of_getElem? (i := 15) rfl)) rfl
theorem ml_RX1_92 : Cond.methodLink RX1 92 yJ9_min_7cf53 ∈ am_TB := am_TB_mem (tb_5 (List.mem_of_getElem? (i := 19) rfl)) rfl
theorem ml_RX11_306 : Cond.methodLink RX11 306 yX1_total ∈ am_TB := am_TB_mem (tb_5 (List.mem_of_getElem? (i := 20) rfl)) rfl
theorem ml_RX11_309 : Cond.methodLink RX11 309 yX1_lengthFor ∈ am_TB := am_TB_mem (tb_5 (List.mem_of_getElem? (i := 24) rfl)) rfl
theorem ml_RL_127 : Cond.methodLink RL 127 yX11_bundle ∈ am_TB := am_TB_mem (tb_5 (List.mem_of_getElem? (i := 28) rfl)) rfl
theorem ml_RL_131 : Cond.methodLink RL 131 yX11_cover ∈ am_TB := am_TB_mem (tb_5 (List.mem_of_getElem? (i := 32) rfl)) rfl
theorem ml_RX11_313 : Cond.methodLink RX11 313 yX0_coverCost ∈ am_TB := am_TB_mem (tb_5 (List.mem_of_getElem? (i := 36) rfl)) rfl
theorem ml_RX0_77 : Cond.methodLink RX0 77 yX7_get ∈ am_TB := am_TB_mem (tb_5 (List.mem_of_getElem? (i := 40) rfl)) rfl
theorem ml_RL_135 : Cond.methodLink RL 135 yX11_when ∈ am_TB := am_TB_mem (tb_5 (List.mem_of_getElem? (i := 41) rfl)) rfl
theorem ml_RL_139 : Cond.methodLink RL 139 yX11_longest ∈ am_TB := am_TB_mem (tb_5 (List.mem_of_getElem? (i := 45) rfl)) rfl
theorem ml_RX11_324 : Cond.methodLink RX11 324 yX2_foresee ∈ am_TB := am_TB_mem (tb_5 (List.mem_of_getElem? (i := 49) rfl)) rfl
theorem ml_RL_143 : Cond.methodLink RL 143 yX11_keep ∈ am_TB := am_TB_mem (tb_5 (List.mem_of_getElem? (i := 50) rfl)) rfl
theorem ml_RX11_333 : Cond.methodLink RX11 333 yX11_isGrantedWithin ∈ am_TB := am_TB_mem (tb_5 (List.mem_of_getElem? (i := 54) rfl)) rfl
theorem ml_RL_147 : Cond.methodLink RL 147 yX11_answer ∈ am_TB := am_TB_mem (tb_5 (List.mem_of_getElem? (i := 58) rfl)) rfl
theorem ml_RL_151 : Cond.methodLink RL 151 yX11_forget ∈ am_TB := am_TB_mem (tb_5 (List.mem_of_getElem? (i := 62) rfl)) rfl
theorem ml_RL_155 : Cond.methodLink RL 155 yX11_hidden ∈ am_TB := am_TB_mem (tb_5 (List.mem_of_getElem? (i := 66) rfl)) rfl
theorem ml_RX11_340 : Cond.methodLink RX11 340 yX0_farthestAnswer ∈ am_TB := am_TB_mem (tb_5 (List.mem_of_getElem? (i := 70) rfl)) rfl
theorem ml_RX0_81 : Cond.methodLink RX0 81 yJ9_max_7cf53 ∈ am_TB := am_TB_mem (tb_5 (List.mem_of_getElem? (i := 74) rfl)) rfl
theorem ml_RX11_343 : Cond.methodLink RX11 343 yX11_explainsAnswers ∈ am_TB := am_TB_mem (tb_5 (List.mem_of_getElem? (i := 75) rfl)) rfl
theorem ml_RX11_380 : Cond.methodLink RX11 380 yX0_answersAre ∈ am_TB := am_TB_mem (tb_5 (List.mem_of_getElem? (i := 79) rfl)) rfl
theorem ml_RL_159 : Cond.methodLink RL 159 yX11_season ∈ am_TB := am_TB_mem (tb_5 (List.mem_of_getElem? (i := 83) rfl)) rfl
theorem ml_RX11_347 : Cond.methodLink RX11 347 yX8_begin ∈ am_TB := am_TB_mem (tb_5 (List.mem_of_getElem? (i := 88) rfl)) rfl
theorem ml_RX8_24 : Cond.methodLink RX8 24 yX7_cut ∈ am_TB := am_TB_mem (tb_5 (List.mem_of_getElem? (i := 92) rfl)) rfl
theorem ml_RX8_28 : Cond.methodLink RX8 28 yX7_open ∈ am_TB := am_TB_mem (tb_5 (List.mem_of_getElem? (i := 93) rfl)) rfl
theorem ml_RX8_32 : Cond.methodLink RX8 32 yX7_set ∈ am_TB := am_TB_mem (tb_5 (List.mem_of_getElem? (i := 94) rfl)) rfl
theorem ml_RX11_350 : Cond.methodLink RX11 350 yX11_sayWhatIsDrawn ∈ am_TB := am_TB_mem (tb_5 (List.mem_of_getElem? (i := 95) rfl)) rfl
theorem ml_RX11_383 : Cond.methodLink RX11 383 yX8_draw ∈ am_TB := am_TB_mem (tb_5 (List.mem_of_getElem? (i := 99) rfl)) rfl
theorem ml_RX11_386 : Cond.methodLink RX11 386 yX8_noteSaid ∈ am_TB := am_TB_mem (tb_5 (List.mem_of_getElem? (i := 104) rfl)) rfl
theorem ml_RX8_37 : Cond.methodLink RX8 37 yX8_add ∈ am_TB := am_TB_mem (tb_5 (List.mem_of_getElem? (i := 108) rfl)) rfl
theorem ml_RX8_48 : Cond.methodLink RX8 48 yX7_get ∈ am_TB := am_TB_mem (tb_5 (List.mem_of_getElem? (i := 112) rfl)) rfl
theorem ml_RX11_353 : Cond.methodLink RX11 353 yX8_noteStanding ∈ am_TB := am_TB_mem (tb_5 (List.mem_of_getElem? (i := 113) rfl)) rfl
theorem ml_RL_163 : Cond.methodLink RL 163 yX11_drawn ∈ am_TB := am_TB_mem (tb_5 (List.mem_of_getElem? (i := 117) rfl)) rfl
theorem ml_RX11_356 : Cond.methodLink RX11 356 yX8_tally ∈ am_TB := am_TB_mem (tb_5 (List.mem_of_getElem? (i := 121) rfl)) rfl
theorem ml_RL_167 : Cond.methodLink RL 167 yX11_image ∈ am_TB := am_TB_mem (tb_5 (List.mem_of_getElem? (i := 125) rfl)) rfl
theorem ml_RX11_359 : Cond.methodLink RX11 359 yX0_takeFrom ∈ am_TB := am_TB_mem (tb_5 (List.mem_of_getElem? (i := 129) rfl)) rfl
theorem ml_RX0_86 : Cond.methodLink RX0 86 yX7_takeFrom ∈ am_TB := am_TB_mem (tb_5 (List.mem_of_getElem? (i := 133) rfl)) rfl
theorem ml_RX0_89 : Cond.methodLink RX0 89 yX9_takeFrom ∈ am_TB := am_TB_mem (tb_5 (List.mem_of_getElem? (i := 134) rfl)) rfl
theorem ml_RX0_92 : Cond.methodLink RX0 92 arraycopyName ∈ am_TB := am_TB_mem (tb_5 (List.mem_of_getElem? (i := 135) rfl)) rfl
theorem ml_RX0_98 : Cond.methodLink RX0 98 yJ9_min_7cf53 ∈ am_TB := am_TB_mem (tb_5 (List.mem_of_getElem? (i := 136) rfl)) rfl
theorem ml_RL_171 : Cond.methodLink RL 171 yX11_back ∈ am_TB := am_TB_mem (tb_5 (List.mem_of_getElem? (i := 137) rfl)) rfl
theorem ml_RL_175 : Cond.methodLink RL 175 yX11_count ∈ am_TB := am_TB_mem (tb_5 (List.mem_of_getElem? (i := 141) rfl)) rfl
theorem ml_RL_179 : Cond.methodLink RL 179 yX11_status ∈ am_TB := am_TB_mem (tb_5 (List.mem_of_getElem? (i := 145) rfl)) rfl
theorem ml_RL_12 : Cond.methodLink RL 12 yX12_init ∈ am_TB := am_TB_mem (tb_5 (List.mem_of_getElem? (i := 151) rfl)) rfl
theorem ml_RX12_18 : Cond.methodLink RX12 18 Lib.objectInit ∈ am_TB := am_TB_mem (tb_5 (List.mem_of_getElem? (i := 154) rfl)) rfl
theorem ml_RL_170 : Cond.methodLink RL 170 yX12_image ∈ am_TB := am_TB_mem (tb_6 (List.mem_of_getElem? (i := 96) rfl)) rfl
theorem ml_RX12_123 : Cond.methodLink RX12 123 yX12_lies ∈ am_TB := am_TB_mem (tb_6 (List.mem_of_getElem? (i := 100) rfl)) rfl
theorem ml_RX12_127 : Cond.methodLink RX12 127 yX12_refuses ∈ am_TB := am_TB_mem (tb_6 (List.mem_of_getElem? (i := 103) rfl)) rfl
theorem ml_RX12_14 : Cond.methodLink RX12 14 yX12_good ∈ am_TB := am_TB_mem (tb_6 (List.mem_of_getElem? (i := 107) rfl)) rfl
theorem ml_RL_174 : Cond.methodLink RL 174 yX12_back ∈ am_TB := am_TB_mem (tb_6 (List.mem_of_getElem? (i := 111) rfl)) rfl
theorem ml_RX12_130 : Cond.methodLink RX12 130 yX12_settled ∈ am_TB := am_TB_mem (tb_6 (List.mem_of_getElem? (i := 115) rfl)) rfl
theorem ml_RL_17 : Cond.methodLink RL 17 yX12_word ∈ am_TB := am_TB_mem (tb_6 (List.mem_of_getElem? (i := 119) rfl)) rfl
theorem ml_RL_21 : Cond.methodLink RL 21 yX12_lengthOf ∈ am_TB := am_TB_mem (tb_6 (List.mem_of_getElem? (i := 123) rfl)) rfl
theorem ml_RX12_145 : Cond.methodLink RX12 145 yX12_isWord ∈ am_TB := am_TB_mem (tb_6 (List.mem_of_getElem? (i := 127) rfl)) rfl
theorem ml_RL_26 : Cond.methodLink RL 26 yX12_rule ∈ am_TB := am_TB_mem (tb_6 (List.mem_of_getElem? (i := 131) rfl)) rfl
theorem ml_RX12_148 : Cond.methodLink RX12 148 yX12_isThing ∈ am_TB := am_TB_mem (tb_6 (List.mem_of_getElem? (i := 135) rfl)) rfl
theorem ml_RX12_151 : Cond.methodLink RX12 151 yX12_isPart ∈ am_TB := am_TB_mem (tb_6 (List.mem_of_getElem? (i := 138) rfl)) rfl
theorem ml_RX12_154 : Cond.methodLink RX12 154 yX12_isThere ∈ am_TB := am_TB_mem (tb_6 (List.mem_of_getElem? (i := 141) rfl)) rfl
theorem ml_RL_31 : Cond.methodLink RL 31 yX12_of ∈ am_TB := am_TB_mem (tb_6 (List.mem_of_getElem? (i := 145) rfl)) rfl
theorem ml_RL_36 : Cond.methodLink RL 36 yX12_clash ∈ am_TB := am_TB_mem (tb_6 (List.mem_of_getElem? (i := 149) rfl)) rfl
theorem ml_RL_40 : Cond.methodLink RL 40 yX12_often ∈ am_TB := am_TB_mem (tb_6 (List.mem_of_getElem? (i := 153) rfl)) rfl
theorem ml_RL_44 : Cond.methodLink RL 44 yX12_person ∈ am_TB := am_TB_mem (tb_6 (List.mem_of_getElem? (i := 157) rfl)) rfl
theorem ml_RL_52 : Cond.methodLink RL 52 yX12_terms ∈ am_TB := am_TB_mem (tb_6 (List.mem_of_getElem? (i := 161) rfl)) rfl
theorem ml_RX12_157 : Cond.methodLink RX12 157 yX12_isTerm ∈ am_TB := am_TB_mem (tb_6 (List.mem_of_getElem? (i := 165) rfl)) rfl
theorem ml_RL_66 : Cond.methodLink RL 66 yX12_row ∈ am_TB := am_TB_mem (tb_6 (List.mem_of_getElem? (i := 168) rfl)) rfl
theorem ml_RX12_173 : Cond.methodLink RX12 173 yX12_whyNot ∈ am_TB := am_TB_mem (tb_6 (List.mem_of_getElem? (i := 172) rfl)) rfl
theorem ml_RX12_161 : Cond.methodLink RX12 161 yX12_isPerson ∈ am_TB := am_TB_mem (tb_6 (List.mem_of_getElem? (i := 176) rfl)) rfl
theorem ml_RX12_164 : Cond.methodLink RX12 164 yX12_breathOf ∈ am_TB := am_TB_mem (tb_6 (List.mem_of_getElem? (i := 180) rfl)) rfl
theorem ml_RX12_323 : Cond.methodLink RX12 323 yX12_tells ∈ am_TB := am_TB_mem (tb_6 (List.mem_of_getElem? (i := 184) rfl)) rfl
theorem ml_RX12_284 : Cond.methodLink RX12 284 yX12_codeAt ∈ am_TB := am_TB_mem (tb_6 (List.mem_of_getElem? (i := 188) rfl)) rfl
theorem ml_RX12_308 : Cond.methodLink RX12 308 yX12_sumOf ∈ am_TB := am_TB_mem (tb_6 (List.mem_of_getElem? (i := 192) rfl)) rfl
theorem ml_RX12_294 : Cond.methodLink RX12 294 yX12_termOf ∈ am_TB := am_TB_mem (tb_6 (List.mem_of_getElem? (i := 196) rfl)) rfl
theorem ml_RX12_302 : Cond.methodLink RX12 302 yX12_partOf ∈ am_TB := am_TB_mem (tb_6 (List.mem_of_getElem? (i := 200) rfl)) rfl
theorem ml_RX12_243 : Cond.methodLink RX12 243 yX12_sign ∈ am_TB := am_TB_mem (tb_6 (List.mem_of_getElem? (i := 204) rfl)) rfl
theorem ml_RX12_305 : Cond.methodLink RX12 305 yX12_passes0 ∈ am_TB := am_TB_mem (tb_6 (List.mem_of_getElem? (i := 207) rfl)) rfl
theorem ml_RX12_298 : Cond.methodLink RX12 298 yX12_bounded ∈ am_TB := am_TB_mem (tb_6 (List.mem_of_getElem? (i := 211) rfl)) rfl
theorem ml_RX12_320 : Cond.methodLink RX12 320 yX12_testOf ∈ am_TB := am_TB_mem (tb_6 (List.mem_of_getElem? (i := 217) rfl)) rfl
theorem ml_RX12_311 : Cond.methodLink RX12 311 yX12_bothOf ∈ am_TB := am_TB_mem (tb_6 (List.mem_of_getElem? (i := 221) rfl)) rfl
theorem ml_RX12_314 : Cond.methodLink RX12 314 yX12_plainOf ∈ am_TB := am_TB_mem (tb_6 (List.mem_of_getElem? (i := 225) rfl)) rfl
theorem ml_RX12_317 : Cond.methodLink RX12 317 yX12_positiveOf ∈ am_TB := am_TB_mem (tb_6 (List.mem_of_getElem? (i := 229) rfl)) rfl
theorem ml_RX12_133 : Cond.methodLink RX12 133 yX12_prayers ∈ am_TB := am_TB_mem (tb_6 (List.mem_of_getElem? (i := 233) rfl)) rfl
theorem ml_RX12_177 : Cond.methodLink RX12 177 yX12_says ∈ am_TB := am_TB_mem (tb_6 (List.mem_of_getElem? (i := 237) rfl)) rfl
theorem ml_RL_70 : Cond.methodLink RL 70 yX12_coughs ∈ am_TB := am_TB_mem (tb_7 (List.mem_of_getElem? (i := 1) rfl)) rfl
theorem ml_RL_57 : Cond.methodLink RL 57 yX12_feed ∈ am_TB := am_TB_mem (tb_7 (List.mem_of_getElem? (i := 5) rfl)) rfl
theorem ml_RL_61 : Cond.methodLink RL 61 yX12_end ∈ am_TB := am_TB_mem (tb_7 (List.mem_of_getElem? (i := 9) rfl)) rfl
theorem ml_RL_74 : Cond.methodLink RL 74 yX12_law ∈ am_TB := am_TB_mem (tb_7 (List.mem_of_getElem? (i := 13) rfl)) rfl
theorem ml_RX12_271 : Cond.methodLink RX12 271 yX12_readsAs ∈ am_TB := am_TB_mem (tb_7 (List.mem_of_getElem? (i := 17) rfl)) rfl
theorem ml_RX12_268 : Cond.methodLink RX12 268 yX12_reads ∈ am_TB := am_TB_mem (tb_7 (List.mem_of_getElem? (i := 21) rfl)) rfl
theorem ml_RX12_262 : Cond.methodLink RX12 262 yX12_splits ∈ am_TB := am_TB_mem (tb_7 (List.mem_of_getElem? (i := 25) rfl)) rfl
theorem ml_RX12_184 : Cond.methodLink RX12 184 yX12_isSmall ∈ am_TB := am_TB_mem (tb_7 (List.mem_of_getElem? (i := 29) rfl)) rfl
theorem ml_RX12_187 : Cond.methodLink RX12 187 yX12_isDigit ∈ am_TB := am_TB_mem (tb_7 (List.mem_of_getElem? (i := 32) rfl)) rfl
theorem ml_RX12_190 : Cond.methodLink RX12 190 yX12_wordAt ∈ am_TB := am_TB_mem (tb_7 (List.mem_of_getElem? (i := 35) rfl)) rfl
theorem ml_RX12_265 : Cond.methodLink RX12 265 yX12_readOne ∈ am_TB := am_TB_mem (tb_7 (List.mem_of_getElem? (i := 40) rfl)) rfl
theorem ml_RX12_231 : Cond.methodLink RX12 231 yX12_readOrder ∈ am_TB := am_TB_mem (tb_7 (List.mem_of_getElem? (i := 44) rfl)) rfl
theorem ml_RX12_204 : Cond.methodLink RX12 204 yX12_takes0 ∈ am_TB := am_TB_mem (tb_7 (List.mem_of_getElem? (i := 48) rfl)) rfl
theorem ml_RX12_197 : Cond.methodLink RX12 197 yX12_fine ∈ am_TB := am_TB_mem (tb_7 (List.mem_of_getElem? (i := 52) rfl)) rfl
theorem ml_RX12_213 : Cond.methodLink RX12 213 yX12_readSum ∈ am_TB := am_TB_mem (tb_7 (List.mem_of_getElem? (i := 56) rfl)) rfl
theorem ml_RX12_247 : Cond.methodLink RX12 247 yX12_readTerm ∈ am_TB := am_TB_mem (tb_7 (List.mem_of_getElem? (i := 60) rfl)) rfl
theorem ml_RX12_250 : Cond.methodLink RX12 250 yX12_readPart ∈ am_TB := am_TB_mem (tb_7 (List.mem_of_getElem? (i := 64) rfl)) rfl
theorem ml_RX12_207 : Cond.methodLink RX12 207 yX12_faults ∈ am_TB := am_TB_mem (tb_7 (List.mem_of_getElem? (i := 68) rfl)) rfl
theorem ml_RX12_217 : Cond.methodLink RX12 217 yX12_must ∈ am_TB := am_TB_mem (tb_7 (List.mem_of_getElem? (i := 72) rfl)) rfl
theorem ml_RX12_259 : Cond.methodLink RX12 259 yX12_leaf ∈ am_TB := am_TB_mem (tb_7 (List.mem_of_getElem? (i := 76) rfl)) rfl
theorem ml_RX12_223 : Cond.methodLink RX12 223 yX12_mustNumber ∈ am_TB := am_TB_mem (tb_7 (List.mem_of_getElem? (i := 80) rfl)) rfl
theorem ml_RX12_220 : Cond.methodLink RX12 220 yX12_readTest ∈ am_TB := am_TB_mem (tb_7 (List.mem_of_getElem? (i := 84) rfl)) rfl
theorem ml_RX12_237 : Cond.methodLink RX12 237 yX12_readBoth ∈ am_TB := am_TB_mem (tb_7 (List.mem_of_getElem? (i := 88) rfl)) rfl
theorem ml_RX12_240 : Cond.methodLink RX12 240 yX12_readPlain ∈ am_TB := am_TB_mem (tb_7 (List.mem_of_getElem? (i := 92) rfl)) rfl
theorem ml_RX12_234 : Cond.methodLink RX12 234 yX12_readClause ∈ am_TB := am_TB_mem (tb_7 (List.mem_of_getElem? (i := 96) rfl)) rfl
theorem ml_RX12_275 : Cond.methodLink RX12 275 yX12_lays ∈ am_TB := am_TB_mem (tb_7 (List.mem_of_getElem? (i := 100) rfl)) rfl
theorem ml_RL_82 : Cond.methodLink RL 82 yX12_fault ∈ am_TB := am_TB_mem (tb_7 (List.mem_of_getElem? (i := 104) rfl)) rfl
theorem ml_RL_90 : Cond.methodLink RL 90 yX12_force ∈ am_TB := am_TB_mem (tb_7 (List.mem_of_getElem? (i := 108) rfl)) rfl
theorem ml_RL_48 : Cond.methodLink RL 48 yX12_breath ∈ am_TB := am_TB_mem (tb_7 (List.mem_of_getElem? (i := 112) rfl)) rfl
theorem ml_RL_94 : Cond.methodLink RL 94 yX12_say ∈ am_TB := am_TB_mem (tb_7 (List.mem_of_getElem? (i := 116) rfl)) rfl
theorem ml_RX12_348 : Cond.methodLink RX12 348 yX12_wordings ∈ am_TB := am_TB_mem (tb_7 (List.mem_of_getElem? (i := 120) rfl)) rfl
theorem ml_RX12_330 : Cond.methodLink RX12 330 yX12_shortens ∈ am_TB := am_TB_mem (tb_7 (List.mem_of_getElem? (i := 125) rfl)) rfl
theorem ml_RX12_333 : Cond.methodLink RX12 333 yX12_sum ∈ am_TB := am_TB_mem (tb_7 (List.mem_of_getElem? (i := 129) rfl)) rfl
theorem ml_RX12_342 : Cond.methodLink RX12 342 yX12_longOf ∈ am_TB := am_TB_mem (tb_7 (List.mem_of_getElem? (i := 133) rfl)) rfl
theorem ml_RX12_336 : Cond.methodLink RX12 336 yX12_rulesOf ∈ am_TB := am_TB_mem (tb_7 (List.mem_of_getElem? (i := 137) rfl)) rfl
theorem ml_RX12_345 : Cond.methodLink RX12 345 yX12_takesOf ∈ am_TB := am_TB_mem (tb_7 (List.mem_of_getElem? (i := 141) rfl)) rfl
theorem ml_RX12_339 : Cond.methodLink RX12 339 yX12_wordsOf ∈ am_TB := am_TB_mem (tb_7 (List.mem_of_getElem? (i := 145) rfl)) rfl
theorem ml_RX12_351 : Cond.methodLink RX12 351 yX12_wordIn ∈ am_TB := am_TB_mem (tb_7 (List.mem_of_getElem? (i := 149) rfl)) rfl
theorem ml_RL_102 : Cond.methodLink RL 102 yX12_at ∈ am_TB := am_TB_mem (tb_7 (List.mem_of_getElem? (i := 153) rfl)) rfl
theorem ml_RX12_137 : Cond.methodLink RX12 137 yX12_isPrayer ∈ am_TB := am_TB_mem (tb_7 (List.mem_of_getElem? (i := 157) rfl)) rfl
theorem ml_RX12_141 : Cond.methodLink RX12 141 yX12_fact ∈ am_TB := am_TB_mem (tb_7 (List.mem_of_getElem? (i := 161) rfl)) rfl
theorem ml_RL_106 : Cond.methodLink RL 106 yX12_rank ∈ am_TB := am_TB_mem (tb_7 (List.mem_of_getElem? (i := 165) rfl)) rfl
theorem ml_RX12_372 : Cond.methodLink RX12 372 yX12_isWaiting ∈ am_TB := am_TB_mem (tb_7 (List.mem_of_getElem? (i := 169) rfl)) rfl
theorem ml_RX12_360 : Cond.methodLink RX12 360 yX12_rankOf ∈ am_TB := am_TB_mem (tb_7 (List.mem_of_getElem? (i := 174) rfl)) rfl
theorem ml_RX12_326 : Cond.methodLink RX12 326 yX12_sets ∈ am_TB := am_TB_mem (tb_7 (List.mem_of_getElem? (i := 178) rfl)) rfl
theorem ml_RX12_357 : Cond.methodLink RX12 357 yX12_isBarred ∈ am_TB := am_TB_mem (tb_7 (List.mem_of_getElem? (i := 182) rfl)) rfl
theorem ml_RL_110 : Cond.methodLink RL 110 yX12_order ∈ am_TB := am_TB_mem (tb_7 (List.mem_of_getElem? (i := 186) rfl)) rfl
theorem ml_RX12_363 : Cond.methodLink RX12 363 yX12_queues ∈ am_TB := am_TB_mem (tb_7 (List.mem_of_getElem? (i := 190) rfl)) rfl
theorem ml_RL_118 : Cond.methodLink RL 118 yX12_undo ∈ am_TB := am_TB_mem (tb_7 (List.mem_of_getElem? (i := 194) rfl)) rfl
theorem ml_RL_98 : Cond.methodLink RL 98 yX12_pray ∈ am_TB := am_TB_mem (tb_7 (List.mem_of_getElem? (i := 198) rfl)) rfl
theorem ml_RX12_382 : Cond.methodLink RX12 382 yX12_praysKept ∈ am_TB := am_TB_mem (tb_7 (List.mem_of_getElem? (i := 202) rfl)) rfl
theorem ml_RX12_376 : Cond.methodLink RX12 376 yX12_keeps ∈ am_TB := am_TB_mem (tb_7 (List.mem_of_getElem? (i := 206) rfl)) rfl
theorem ml_RX12_385 : Cond.methodLink RX12 385 yX12_goodOr ∈ am_TB := am_TB_mem (tb_7 (List.mem_of_getElem? (i := 210) rfl)) rfl
theorem ml_RL_114 : Cond.methodLink RL 114 yX12_dawn ∈ am_TB := am_TB_mem (tb_7 (List.mem_of_getElem? (i := 214) rfl)) rfl
theorem ml_RX12_388 : Cond.methodLink RX12 388 yX12_dawnsKept ∈ am_TB := am_TB_mem (tb_7 (List.mem_of_getElem? (i := 218) rfl)) rfl
theorem ml_RX12_379 : Cond.methodLink RX12 379 yX12_dawns ∈ am_TB := am_TB_mem (tb_7 (List.mem_of_getElem? (i := 222) rfl)) rfl
theorem ml_RX12_369 : Cond.methodLink RX12 369 yX12_isDenied ∈ am_TB := am_TB_mem (tb_7 (List.mem_of_getElem? (i := 226) rfl)) rfl
theorem ml_RL_122 : Cond.methodLink RL 122 yX12_sweep ∈ am_TB := am_TB_mem (tb_7 (List.mem_of_getElem? (i := 230) rfl)) rfl
theorem ml_RL_126 : Cond.methodLink RL 126 yX12_code ∈ am_TB := am_TB_mem (tb_7 (List.mem_of_getElem? (i := 234) rfl)) rfl
theorem ml_RX12_409 : Cond.methodLink RX12 409 yX12_listsLetters ∈ am_TB := am_TB_mem (tb_7 (List.mem_of_getElem? (i := 238) rfl)) rfl
theorem ml_RX12_406 : Cond.methodLink RX12 406 yX12_isIn ∈ am_TB := am_TB_mem (tb_8 (List.mem_of_getElem? (i := 2) rfl)) rfl
theorem ml_RX12_400 : Cond.methodLink RX12 400 yX12_parts ∈ am_TB := am_TB_mem (tb_8 (List.mem_of_getElem? (i := 5) rfl)) rfl
theorem ml_RX12_394 : Cond.methodLink RX12 394 yX12_looksAt ∈ am_TB := am_TB_mem (tb_8 (List.mem_of_getElem? (i := 9) rfl)) rfl
theorem ml_RL_130 : Cond.methodLink RL 130 yX12_bundle ∈ am_TB := am_TB_mem (tb_8 (List.mem_of_getElem? (i := 13) rfl)) rfl
theorem ml_RL_134 : Cond.methodLink RL 134 yX12_cover ∈ am_TB := am_TB_mem (tb_8 (List.mem_of_getElem? (i := 17) rfl)) rfl
theorem ml_RX12_412 : Cond.methodLink RX12 412 yX12_ones ∈ am_TB := am_TB_mem (tb_8 (List.mem_of_getElem? (i := 21) rfl)) rfl
theorem ml_RL_138 : Cond.methodLink RL 138 yX12_when ∈ am_TB := am_TB_mem (tb_8 (List.mem_of_getElem? (i := 24) rfl)) rfl
theorem ml_RX12_415 : Cond.methodLink RX12 415 yX12_laysAside ∈ am_TB := am_TB_mem (tb_8 (List.mem_of_getElem? (i := 28) rfl)) rfl
theorem ml_RX12_418 : Cond.methodLink RX12 418 yX12_takesBack ∈ am_TB := am_TB_mem (tb_8 (List.mem_of_getElem? (i := 32) rfl)) rfl
theorem ml_RL_142 : Cond.methodLink RL 142 yX12_longest ∈ am_TB := am_TB_mem (tb_8 (List.mem_of_getElem? (i := 36) rfl)) rfl
theorem ml_RL_146 : Cond.methodLink RL 146 yX12_keep ∈ am_TB := am_TB_mem (tb_8 (List.mem_of_getElem? (i := 40) rfl)) rfl
theorem ml_RL_150 : Cond.methodLink RL 150 yX12_answer ∈ am_TB := am_TB_mem (tb_8 (List.mem_of_getElem? (i := 44) rfl)) rfl
theorem ml_RL_154 : Cond.methodLink RL 154 yX12_forget ∈ am_TB := am_TB_mem (tb_8 (List.mem_of_getElem? (i := 48) rfl)) rfl
theorem ml_RL_158 : Cond.methodLink RL 158 yX12_hidden ∈ am_TB := am_TB_mem (tb_8 (List.mem_of_getElem? (i := 52) rfl)) rfl
theorem ml_RX12_424 : Cond.methodLink RX12 424 yX12_areSo ∈ am_TB := am_TB_mem (tb_8 (List.mem_of_getElem? (i := 56) rfl)) rfl
theorem ml_RX12_421 : Cond.methodLink RX12 421 yX12_lastAnswer ∈ am_TB := am_TB_mem (tb_8 (List.mem_of_getElem? (i := 60) rfl)) rfl
theorem ml_RL_86 : Cond.methodLink RL 86 yX12_stopped ∈ am_TB := am_TB_mem (tb_8 (List.mem_of_getElem? (i := 64) rfl)) rfl
theorem ml_RL_78 : Cond.methodLink RL 78 yX12_orders ∈ am_TB := am_TB_mem (tb_8 (List.mem_of_getElem? (i := 68) rfl)) rfl
theorem ml_RX12_433 : Cond.methodLink RX12 433 yX12_runs ∈ am_TB := am_TB_mem (tb_8 (List.mem_of_getElem? (i := 72) rfl)) rfl
theorem ml_RX12_453 : Cond.methodLink RX12 453 yX12_goesAlong ∈ am_TB := am_TB_mem (tb_8 (List.mem_of_getElem? (i := 76) rfl)) rfl
theorem ml_RX12_436 : Cond.methodLink RX12 436 yX12_waiting ∈ am_TB := am_TB_mem (tb_8 (List.mem_of_getElem? (i := 80) rfl)) rfl
theorem ml_RX12_457 : Cond.methodLink RX12 457 yX12_small ∈ am_TB := am_TB_mem (tb_8 (List.mem_of_getElem? (i := 84) rfl)) rfl
theorem ml_RL_162 : Cond.methodLink RL 162 yX12_season ∈ am_TB := am_TB_mem (tb_8 (List.mem_of_getElem? (i := 88) rfl)) rfl
theorem ml_RX12_473 : Cond.methodLink RX12 473 yX12_draws ∈ am_TB := am_TB_mem (tb_8 (List.mem_of_getElem? (i := 92) rfl)) rfl
theorem ml_RL_166 : Cond.methodLink RL 166 yX12_drawn ∈ am_TB := am_TB_mem (tb_8 (List.mem_of_getElem? (i := 99) rfl)) rfl
theorem ml_RL_178 : Cond.methodLink RL 178 yX12_count ∈ am_TB := am_TB_mem (tb_8 (List.mem_of_getElem? (i := 103) rfl)) rfl
theorem ml_RL_182 : Cond.methodLink RL 182 yX12_status ∈ am_TB := am_TB_mem (tb_8 (List.mem_of_getElem? (i := 107) rfl)) rfl
theorem nw_RL : Cond.initialized RL ∈ am_TB := am_TB_mem (tb_1 (List.mem_of_getElem? (i := 0) rfl)) rfl
theorem nw_RX11 : Cond.initialized RX11 ∈ am_TB := am_TB_mem (tb_1 (List.mem_of_getElem? (i := 1) rfl)) rfl
theorem nw_RX0 : Cond.initialized RX0 ∈ am_TB := am_TB_mem (tb_1 (List.mem_of_getElem? (i := 2) rfl)) rfl
theorem nw_RX7 : Cond.initialized RX7 ∈ am_TB := am_TB_mem (tb_1 (List.mem_of_getElem? (i := 3) rfl)) rfl
theorem nw_RJ9 : Cond.initialized RJ9 ∈ am_TB := am_TB_mem (tb_1 (List.mem_of_getElem? (i := 4) rfl)) rfl
theorem nw_RX9 : Cond.initialized RX9 ∈ am_TB := am_TB_mem (tb_1 (List.mem_of_getElem? (i := 5) rfl)) rfl
theorem nw_RX4 : Cond.initialized RX4 ∈ am_TB := am_TB_mem (tb_1 (List.mem_of_getElem? (i := 6) rfl)) rfl
theorem nw_RX5 : Cond.initialized RX5 ∈ am_TB := am_TB_mem (tb_1 (List.mem_of_getElem? (i := 7) rfl)) rfl
theorem nw_RX3 : Cond.initialized RX3 ∈ am_TB := am_TB_mem (tb_1 (List.mem_of_getElem? (i := 8) rfl)) rfl
theorem nw_RX6 : Cond.initialized RX6 ∈ am_TB := am_TB_mem (tb_1 (List.mem_of_getElem? (i := 9) rfl)) rfl
theorem nw_RX2 : Cond.initialized RX2 ∈ am_TB := am_TB_mem (tb_1 (List.mem_of_getElem? (i := 10) rfl)) rfl
theorem nw_RX10 : Cond.initialized RX10 ∈ am_TB := am_TB_mem (tb_1 (List.mem_of_getElem? (i := 11) rfl)) rfl
theorem nw_RX1 : Cond.initialized RX1 ∈ am_TB := am_TB_mem (tb_1 (List.mem_of_getElem? (i := 12) rfl)) rfl
theorem nw_RX8 : Cond.initialized RX8 ∈ am_TB := am_TB_mem (tb_1 (List.mem_of_getElem? (i := 13) rfl)) rfl
theorem nw_RX12 : Cond.initialized RX12 ∈ am_TB := am_TB_mem (tb_1 (List.mem_of_getElem? (i := 14) rfl)) rfl
theorem nw_RJ0 : Cond.initialized RJ0 ∈ am_TB := am_TB_mem (tb_1 (List.mem_of_getElem? (i := 15) rfl)) rfl
theorem nw_RJ1 : Cond.initialized RJ1 ∈ am_TB := am_TB_mem (tb_1 (List.mem_of_getElem? (i := 16) rfl)) rfl
theorem nw_RJ3 : Cond.initialized RJ3 ∈ am_TB := am_TB_mem (tb_1 (List.mem_of_getElem? (i := 17) rfl)) rfl
theorem nw_RJ2 : Cond.initialized RJ2 ∈ am_TB := am_TB_mem (tb_1 (List.mem_of_getElem? (i := 18) rfl)) rfl
theorem nw_RJ10 : Cond.initialized RJ10 ∈ am_TB := am_TB_mem (tb_1 (List.mem_of_getElem? (i := 19) rfl)) rfl
theorem nw_RJ6 : Cond.initialized RJ6 ∈ am_TB := am_TB_mem (tb_1 (List.mem_of_getElem? (i := 20) rfl)) rfl
theorem xw_RL_7 : Cond.classLink RL 7 RX11 ∈ am_TB := am_TB_mem (tb_1 (List.mem_of_getElem? (i := 21) rfl)) rfl
theorem tw_RX11 : Cond.instantiable RX11 20 ∈ am_TB := am_TB_mem (tb_1 (List.mem_of_getElem? (i := 22) rfl)) rfl
theorem oiw : Cond.instanceMethod Lib.objectInit ∈ am_TB := am_TB_mem (tb_1 (List.mem_of_getElem? (i := 27) rfl)) rfl
theorem ocw : Cond.code Lib.objectInit ⟨#[0xb1]⟩ 1 none ∈ am_TB := am_TB_mem (tb_1 (List.mem_of_getElem? (i := 28) rfl)) rfl
theorem xw_RX11_7 : Cond.classLink RX11 7 RX0 ∈ am_TB := am_TB_mem (tb_1 (List.mem_of_getElem? (i := 29) rfl)) rfl
theorem tw_RX0 : Cond.instantiable RX0 12 ∈ am_TB := am_TB_mem (tb_1 (List.mem_of_getElem? (i := 30) rfl)) rfl
theorem xw_RX0_9 : Cond.classLink RX0 9 RX7 ∈ am_TB := am_TB_mem (tb_1 (List.mem_of_getElem? (i := 35) rfl)) rfl
theorem tw_RX7 : Cond.instantiable RX7 3 ∈ am_TB := am_TB_mem (tb_1 (List.mem_of_getElem? (i := 36) rfl)) rfl
theorem aw_int : Cond.arrayClass .int ∈ am_TB := am_TB_mem (tb_1 (List.mem_of_getElem? (i := 64) rfl)) rfl
theorem xw_RX0_32 : Cond.classLink RX0 32 RX9 ∈ am_TB := am_TB_mem (tb_1 (List.mem_of_getElem? (i := 65) rfl)) rfl
theorem tw_RX9 : Cond.instantiable RX9 2 ∈ am_TB := am_TB_mem (tb_1 (List.mem_of_getElem? (i := 66) rfl)) rfl
theorem xw_RX9_9 : Cond.classLink RX9 9 RX7 ∈ am_TB := am_TB_mem (tb_1 (List.mem_of_getElem? (i := 71) rfl)) rfl
theorem xw_RX0_49 : Cond.classLink RX0 49 RX4 ∈ am_TB := am_TB_mem (tb_1 (List.mem_of_getElem? (i := 87) rfl)) rfl
theorem tw_RX4 : Cond.instantiable RX4 3 ∈ am_TB := am_TB_mem (tb_1 (List.mem_of_getElem? (i := 89) rfl)) rfl
theorem xw_RX4_15 : Cond.classLink RX4 15 RX7 ∈ am_TB := am_TB_mem (tb_1 (List.mem_of_getElem? (i := 94) rfl)) rfl
theorem xw_RX11_24 : Cond.classLink RX11 24 RX7 ∈ am_TB := am_TB_mem (tb_1 (List.mem_of_getElem? (i := 166) rfl)) rfl
theorem xw_RX11_33 : Cond.classLink RX11 33 RX4 ∈ am_TB := am_TB_mem (tb_1 (List.mem_of_getElem? (i := 168) rfl)) rfl
theorem xw_RX11_40 : Cond.classLink RX11 40 RX5 ∈ am_TB := am_TB_mem (tb_1 (List.mem_of_getElem? (i := 170) rfl)) rfl
theorem tw_RX5 : Cond.instantiable RX5 7 ∈ am_TB := am_TB_mem (tb_1 (List.mem_of_getElem? (i := 171) rfl)) rfl
theorem aw_boolean : Cond.arrayClass .boolean ∈ am_TB := am_TB_mem (tb_1 (List.mem_of_getElem? (i := 199) rfl)) rfl
theorem xw_RX11_49 : Cond.classLink RX11 49 RX3 ∈ am_TB := am_TB_mem (tb_1 (List.mem_of_getElem? (i := 200) rfl)) rfl
theorem tw_RX3 : Cond.instantiable RX3 2 ∈ am_TB := am_TB_mem (tb_1 (List.mem_of_getElem? (i := 201) rfl)) rfl
theorem xw_RX3_15 : Cond.classLink RX3 15 RX6 ∈ am_TB := am_TB_mem (tb_1 (List.mem_of_getElem? (i := 206) rfl)) rfl
theorem tw_RX6 : Cond.instantiable RX6 1 ∈ am_TB := am_TB_mem (tb_1 (List.mem_of_getElem? (i := 207) rfl)) rfl
theorem xw_RX11_56 : Cond.classLink RX11 56 RX2 ∈ am_TB := am_TB_mem (tb_1 (List.mem_of_getElem? (i := 224) rfl)) rfl
theorem tw_RX2 : Cond.instantiable RX2 4 ∈ am_TB := am_TB_mem (tb_1 (List.mem_of_getElem? (i := 225) rfl)) rfl
theorem xw_RX11_65 : Cond.classLink RX11 65 RX9 ∈ am_TB := am_TB_mem (tb_2 (List.mem_of_getElem? (i := 5) rfl)) rfl
theorem xw_RX11_81 : Cond.classLink RX11 81 RX10 ∈ am_TB := am_TB_mem (tb_2 (List.mem_of_getElem? (i := 7) rfl)) rfl
theorem tw_RX10 : Cond.instantiable RX10 3 ∈ am_TB := am_TB_mem (tb_2 (List.mem_of_getElem? (i := 8) rfl)) rfl
theorem aw_long : Cond.arrayClass .long ∈ am_TB := am_TB_mem (tb_2 (List.mem_of_getElem? (i := 23) rfl)) rfl
theorem xw_RX11_88 : Cond.classLink RX11 88 RX1 ∈ am_TB := am_TB_mem (tb_2 (List.mem_of_getElem? (i := 24) rfl)) rfl
theorem tw_RX1 : Cond.instantiable RX1 8 ∈ am_TB := am_TB_mem (tb_2 (List.mem_of_getElem? (i := 25) rfl)) rfl
theorem xw_RX11_95 : Cond.classLink RX11 95 RX8 ∈ am_TB := am_TB_mem (tb_2 (List.mem_of_getElem? (i := 55) rfl)) rfl
theorem tw_RX8 : Cond.instantiable RX8 2 ∈ am_TB := am_TB_mem (tb_2 (List.mem_of_getElem? (i := 56) rfl)) rfl
theorem xw_RX8_9 : Cond.classLink RX8 9 RX7 ∈ am_TB := am_TB_mem (tb_2 (List.mem_of_getElem? (i := 61) rfl)) rfl
theorem kw_RX6_39 : Cond.constant RX6 39 (-2000000000) ∈ am_TB := am_TB_mem (tb_2 (List.mem_of_getElem? (i := 227) rfl)) rfl
theorem kl_RX6_44 : Cond.constantLong RX6 44 (-2000000000) ∈ am_TB := am_TB_mem (tb_2 (List.mem_of_getElem? (i := 231) rfl)) rfl
theorem kl_RX6_46 : Cond.constantLong RX6 46 (1000000000) ∈ am_TB := am_TB_mem (tb_2 (List.mem_of_getElem? (i := 232) rfl)) rfl
theorem kl_RX6_48 : Cond.constantLong RX6 48 (-1000000000) ∈ am_TB := am_TB_mem (tb_2 (List.mem_of_getElem? (i := 233) rfl)) rfl
theorem kw_RX3_64 : Cond.constant RX3 64 (-2000000000) ∈ am_TB := am_TB_mem (tb_2 (List.mem_of_getElem? (i := 234) rfl)) rfl
theorem stw : Cond.static arraycopyName ∈ am_TB := am_TB_mem (tb_4 (List.mem_of_getElem? (i := 4) rfl)) rfl
theorem ntw : Cond.native arraycopyName ∈ am_TB := am_TB_mem (tb_4 (List.mem_of_getElem? (i := 5) rfl)) rfl
theorem aw_byte : Cond.arrayClass .byte ∈ am_TB := am_TB_mem (tb_4 (List.mem_of_getElem? (i := 11) rfl)) rfl
theorem kl_RX10_22 : Cond.constantLong RX10 22 (-1) ∈ am_TB := am_TB_mem (tb_4 (List.mem_of_getElem? (i := 26) rfl)) rfl
theorem kl_RX10_58 : Cond.constantLong RX10 58 (10000) ∈ am_TB := am_TB_mem (tb_4 (List.mem_of_getElem? (i := 37) rfl)) rfl
theorem kw_RX2_60 : Cond.constant RX2 60 (1000000) ∈ am_TB := am_TB_mem (tb_4 (List.mem_of_getElem? (i := 95) rfl)) rfl
theorem kw_RX11_376 : Cond.constant RX11 376 (-2000000000) ∈ am_TB := am_TB_mem (tb_4 (List.mem_of_getElem? (i := 122) rfl)) rfl
theorem kw_RX11_273 : Cond.constant RX11 273 (-1000000) ∈ am_TB := am_TB_mem (tb_4 (List.mem_of_getElem? (i := 165) rfl)) rfl
theorem kw_RJ6_265 : Cond.constant RJ6 265 (1431655765) ∈ am_TB := am_TB_mem (tb_4 (List.mem_of_getElem? (i := 218) rfl)) rfl
theorem kw_RJ6_266 : Cond.constant RJ6 266 (858993459) ∈ am_TB := am_TB_mem (tb_4 (List.mem_of_getElem? (i := 219) rfl)) rfl
theorem kw_RJ6_267 : Cond.constant RJ6 267 (252645135) ∈ am_TB := am_TB_mem (tb_4 (List.mem_of_getElem? (i := 220) rfl)) rfl
theorem kw_RX11_346 : Cond.constant RX11 346 (1000000) ∈ am_TB := am_TB_mem (tb_5 (List.mem_of_getElem? (i := 87) rfl)) rfl
theorem kw_RX8_36 : Cond.constant RX8 36 (1000003) ∈ am_TB := am_TB_mem (tb_5 (List.mem_of_getElem? (i := 103) rfl)) rfl
theorem xw_RL_10 : Cond.classLink RL 10 RX12 ∈ am_TB := am_TB_mem (tb_5 (List.mem_of_getElem? (i := 149) rfl)) rfl
theorem tw_RX12 : Cond.instantiable RX12 60 ∈ am_TB := am_TB_mem (tb_5 (List.mem_of_getElem? (i := 150) rfl)) rfl
theorem kl_RX12_287 : Cond.constantLong RX12 287 (1000000000) ∈ am_TB := am_TB_mem (tb_6 (List.mem_of_getElem? (i := 215) rfl)) rfl
theorem kl_RX12_289 : Cond.constantLong RX12 289 (-1000000000) ∈ am_TB := am_TB_mem (tb_6 (List.mem_of_getElem? (i := 216) rfl)) rfl
theorem kw_RX12_193 : Cond.constant RX12 193 (1000000) ∈ am_TB := am_TB_mem (tb_7 (List.mem_of_getElem? (i := 39) rfl)) rfl
theorem kw_RX12_329 : Cond.constant RX12 329 (1000000000) ∈ am_TB := am_TB_mem (tb_7 (List.mem_of_getElem? (i := 124) rfl)) rfl
theorem kw_RX12_375 : Cond.constant RX12 375 (-1000000) ∈ am_TB := am_TB_mem (tb_7 (List.mem_of_getElem? (i := 173) rfl)) rfl
theorem kl_RX12_451 : Cond.constantLong RX12 451 (1000000) ∈ am_TB := am_TB_mem (tb_8 (List.mem_of_getElem? (i := 87) rfl)) rfl
theorem kl_RX12_461 : Cond.constantLong RX12 461 (1103) ∈ am_TB := am_TB_mem (tb_8 (List.mem_of_getElem? (i := 96) rfl)) rfl
theorem kl_RX12_466 : Cond.constantLong RX12 466 (12345) ∈ am_TB := am_TB_mem (tb_8 (List.mem_of_getElem? (i := 97) rfl)) rfl
theorem kl_RX12_468 : Cond.constantLong RX12 468 (1000003) ∈ am_TB := am_TB_mem (tb_8 (List.mem_of_getElem? (i := 98) rfl)) rfl
