/-! CODE: two places exchanged. -/
def kup (r : Int → Int) (i v : Int) : Int → Int := fun x => if x = i then v else r x
theorem kup_s (r : Int → Int) (i v : Int) : kup r i v i = v := by unfold kup; rw [if_pos rfl]
theorem kup_o {r : Int → Int} {i v x : Int} (h : x ≠ i) : kup r i v x = r x := by unfold kup; rw [if_neg h]
theorem kc_up_o {w r : Int → Int} {i v : Int} : ∀ {n : Nat}, ¬ (0 ≤ i ∧ i < (n : Int)) → kc w (kup r i v) n = kc w r n := by
  intro n h
  exact kc_e (fun j j0 j1 => kup_o (by omega))
theorem kc_up {w r : Int → Int} {i v : Int} : ∀ {n : Nat}, 0 ≤ i → i < (n : Int) → kc w (kup r i v) n = kc w r n + (w i * v - w i * r i) := by
  intro n
  induction n with
  | zero => intro h0 h1; omega
  | succ n ih =>
    intro h0 h1
    rw [kc, kc]
    by_cases c : i = n
    · rw [kc_up_o (by omega), ← c, kup_s]; omega
    · rw [ih h0 (by omega), kup_o (by omega)]; omega
/-- places i and j exchanged -/
def ksw (r : Int → Int) (i j : Int) : Int → Int := kup (kup r i (r j)) j (r i)
theorem kc_sw {w r : Int → Int} {i j : Int} {n : Nat} (hi : 0 ≤ i ∧ i < (n : Int)) (hj : 0 ≤ j ∧ j < (n : Int)) (hij : i ≠ j) : kc w (ksw r i j) n = kc w r n + (w i - w j) * (r j - r i) := by
  unfold ksw
  rw [kc_up hj.1 hj.2, kc_up hi.1 hi.2, kup_o (fun z => hij z.symm), Int.sub_mul, Int.mul_sub, Int.mul_sub]
  omega
/-- an exchange that sorts makes the row better -/
theorem kl_sw {w r : Int → Int} {i j : Int} {n : Nat} (hi : 0 ≤ i ∧ i < (n : Int)) (hj : 0 ≤ j ∧ j < (n : Int)) (hw : w j < w i ∨ (w j = w i ∧ i < j)) (hr : r j < r i) : kl w n (ksw r i j) r ∧ ¬ ke n (ksw r i j) r := by
  have hij : i ≠ j := fun z => by rw [z] at hr; omega
  have hc := kc_sw (w := w) (r := r) hi hj hij
  have ei : ksw r i j i = r j := by unfold ksw; rw [kup_o hij, kup_s]
  refine ⟨?_, fun z => by have := z i hi.1 hi.2; omega⟩
  rcases hw with hw | ⟨hw, hlt⟩
  · refine Or.inl ?_
    have : (w i - w j) * (r i - r j) > 0 := Int.mul_pos (by omega) (by omega)
    have e : (w i - w j) * (r j - r i) = -((w i - w j) * (r i - r j)) := by rw [← Int.mul_neg]; congr 1; omega
    omega
  · refine Or.inr ⟨by rw [hc, show w i - w j = 0 by omega, Int.zero_mul, Int.add_zero], Or.inl ⟨i, hi.1, hi.2, fun x x0 x1 => ?_, by omega⟩⟩
    unfold ksw
    rw [kup_o (by omega), kup_o (by omega)]
/-- the best of the rows of a kind; it is there, if there is one at all and none costs less than nothing -/
def kb (w : Int → Int) (n : Nat) (C : (Int → Int) → Prop) (r : Int → Int) : Prop := C r ∧ ∀ s, C s → kl w n r s
theorem kb_one {w : Int → Int} {n : Nat} {C : (Int → Int) → Prop} {r s : Int → Int} (h : kb w n C r) (g : kb w n C s) : ke n r s := kl_anti (h.2 s g.1) (g.2 r h.1)
/-- closed under exchange: the best is sorted -/
theorem kb_sort {w : Int → Int} {n : Nat} {C : (Int → Int) → Prop} {r : Int → Int} (h : kb w n C r) (hC : ∀ i j, 0 ≤ i → i < (n : Int) → 0 ≤ j → j < (n : Int) → C (ksw r i j)) {i j : Int} (hi : 0 ≤ i ∧ i < (n : Int)) (hj : 0 ≤ j ∧ j < (n : Int)) (hw : w j < w i ∨ (w j = w i ∧ i < j)) : r i ≤ r j := by
  by_cases c : r j < r i
  · obtain ⟨k1, k2⟩ := kl_sw hi hj hw c
    exact absurd (kl_anti k1 (h.2 _ (hC i j hi.1 hi.2 hj.1 hj.2))) k2
  · omega
/-- strictly shorter somewhere, nowhere longer: better -/
theorem kc_lt {w r s : Int → Int} (hw : ∀ i, 0 ≤ i → 0 < w i) : ∀ {n : Nat}, (∀ j, 0 ≤ j → j < (n : Int) → r j ≤ s j) → ¬ ke n r s → kc w r n < kc w s n := by
  intro n
  induction n with
  | zero => intro _ h; exact absurd (fun j j0 j1 => by omega) h
  | succ n ih =>
    intro h hne
    rw [kc, kc]
    have h0 := h n (by omega) (by omega)
    have h1 := kc_le (fun i hi => Int.le_of_lt (hw i hi)) (n := n) (fun j j0 j1 => h j j0 (by omega))
    by_cases c : r n = s n
    · have h2 := ih (fun j j0 j1 => h j j0 (by omega)) (fun z => hne (fun j j0 j1 => by
        by_cases cj : j = n
        · rw [cj]; exact c
        · exact z j j0 (by omega)))
      rw [c]; omega
    · have h2 := Int.mul_lt_mul_of_pos_left (show r n < s n by omega) (hw n (by omega))
      omega
