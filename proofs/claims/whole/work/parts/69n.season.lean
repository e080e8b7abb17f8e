/-! SEASON: DAY after DAY. -/
/-- the row, the tally of those said, what was granted; from the seed on, so many DAYS -/
def sn_F (P : Int) : Nat → Int → (Int → Int) → (Int → Int) → Int → (Int → Int) × (Int → Int) × Int
  | 0, _, A, W, g => (A, W, g)
  | n + 1, s, A, W, g =>
    if ab_why A (sn_N s % P) (sn_N (sn_N s) % 8) (sn_N (sn_N (sn_N s)) % 40 + 1) 1 (A 169) = 0 then
      if A 169 < 999 then sn_F P n (sn_N (sn_N (sn_N s))) (ab_dawn (ab_say A (sn_N s % P) (sn_N (sn_N s) % 8) (sn_N (sn_N (sn_N s)) % 40 + 1) 1)).2.2.2 (wrA W (sn_N s % P) (w32 (W (sn_N s % P) + 1))) (w32 (g + (ab_dawn (ab_say A (sn_N s % P) (sn_N (sn_N s) % 8) (sn_N (sn_N (sn_N s)) % 40 + 1) 1)).1))
      else (ab_say A (sn_N s % P) (sn_N (sn_N s) % 8) (sn_N (sn_N (sn_N s)) % 40 + 1) 1, wrA W (sn_N s % P) (w32 (W (sn_N s % P) + 1)), g)
    else
      if A 169 < 999 then sn_F P n (sn_N (sn_N (sn_N s))) (ab_dawn A).2.2.2 W (w32 (g + (ab_dawn A).1))
      else (A, W, g)
/-- the row stays sound -/
theorem sn_W {P : Int} : ∀ (n : Nat) (s : Int) (A W : Int → Int) (g : Int), wf_A 16 A → wf_A 16 (sn_F P n s A W g).1 ∧ ∀ x, (x < 0 ∨ 170 ≤ x) → (sn_F P n s A W g).1 x = A x := by
  intro n
  induction n with
  | zero => intro s A W g hw; exact ⟨hw, fun _ _ => rfl⟩
  | succ n ih =>
    intro s A W g hw
    have h16 := hw.2.1.1
    have dw : ∀ B : Int → Int, wf_A 16 B → B 169 < 999 → wf_A 16 (ab_dawn B).2.2.2 ∧ ∀ x, (x < 0 ∨ 170 ≤ x) → (ab_dawn B).2.2.2 x = B x := fun B hB hd => by
      obtain ⟨d1, d2, d3⟩ := ab_dawn_hi (wf_mono hB (show (16 : Int) ≤ 24 by omega)) hd
      refine ⟨(ab_dawnR_wf (R := fun p => ab_fore B p (B 169 + 1)) hB (by omega) hd).1, fun x hx => ?_⟩
      by_cases c : x < 0
      · exact ab_dawn_neg c
      · exact d2 x (by omega) (by omega)
    rw [sn_F]
    by_cases c : ab_why A (sn_N s % P) (sn_N (sn_N s) % 8) (sn_N (sn_N (sn_N s)) % 40 + 1) 1 (A 169) = 0
    · rw [if_pos c]
      obtain ⟨y1, y2, y3, y4⟩ := why_0 c
      have wS := wf_say (n := 16) hw (by omega) y4 y2 y1.1 y1.2.1 y1.2.2
      have hS : ∀ x, (x < 0 ∨ 169 ≤ x) → ab_say A (sn_N s % P) (sn_N (sn_N s) % 8) (sn_N (sn_N (sn_N s)) % 40 + 1) 1 x = A x := fun x hx => ab_say_o (by omega) (by omega)
      by_cases c9 : A 169 < 999
      · rw [if_pos c9]
        obtain ⟨k1, k2⟩ := dw _ wS (by rw [hS _ (by omega)]; exact c9)
        obtain ⟨q1, q2⟩ := ih (sn_N (sn_N (sn_N s))) _ (wrA W (sn_N s % P) (w32 (W (sn_N s % P) + 1))) (w32 (g + (ab_dawn (ab_say A (sn_N s % P) (sn_N (sn_N s) % 8) (sn_N (sn_N (sn_N s)) % 40 + 1) 1)).1)) k1
        exact ⟨q1, fun x hx => by rw [q2 x hx, k2 x hx, hS x (by omega)]⟩
      · rw [if_neg c9]
        exact ⟨wS, fun x hx => hS x (by omega)⟩
    · rw [if_neg c]
      by_cases c9 : A 169 < 999
      · rw [if_pos c9]
        obtain ⟨k1, k2⟩ := dw _ hw c9
        obtain ⟨q1, q2⟩ := ih (sn_N (sn_N (sn_N s))) _ W (w32 (g + (ab_dawn A).1)) k1
        exact ⟨q1, fun x hx => by rw [q2 x hx, k2 x hx]⟩
      · rw [if_neg c9]
        exact ⟨hw, fun _ _ => rfl⟩
