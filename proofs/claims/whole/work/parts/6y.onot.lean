/-! ORDERS that cannot be read: both sides. -/
theorem onot {m m2 : am_M} {B : Int → Int} {n e : Int} (h : Rel m) (F2 : fr_c m m2) (Hs : ms_H m B n) (hn : m 168 13 = n) (he : pz_read 1 (tz_c B n) (tz_v B n) (tz_N B n) = .inl e) (d129 : m2 129 2 = 0) (d135 : m2 135 6 = tz_p B n e) (k133 : rk m2 133 7 84) (d19 : m2 0 19 = -1) {K : Int → Int → am_M → Prop} (hK : ∀ r m', Rel m' → K r r m') : M_X11_refuse 0 (-6) (fun r m7 => M_X12_orders 168 (fun r' m' => K r r' m') m7) m2 := by
  obtain ⟨⟨hb, hv, hf, hH⟩, -, -, -, hre, hud, -, -, -⟩ := id h
  have l6 := hf.2.2.1.1
  rw [refuse_eq (Or.inr (Or.inr (Or.inr (Or.inr rfl))))]
  generalize hm3 : am_st (am_st m2 0 17 (-6)) 167 (-(-6)) (w32 (m2 167 (-(-6)) + 1)) = m3
  have f3 : ∀ o k, ¬ ((o = 0 ∧ k = 17) ∨ (o = 167 ∧ k = 6)) → m3 o k = m2 o k := fun o k ho => by rw [← hm3, am_st_ne _ (by omega), am_st_ne _ (by omega)]
  have e3 : m3 167 6 = w32 (m 167 6 + 1) := by rw [← hm3, show -(-6 : Int) = 6 by omega, am_st_same, F2 _ _ (by omega)]
  have e17 : m3 0 17 = -6 := by rw [← hm3, am_st_ne _ (by omega), am_st_same]
  clear hm3
  have g3 : ∀ o k, ¬ ((o = 129 ∧ k = 2) ∨ (o = 135 ∧ (k = 2 ∨ k = 3 ∨ k = 4 ∨ k = 5 ∨ k = 6)) ∨ (o = 131 ∧ k = 1) ∨ o = 132 ∨ (o = 133 ∧ k = 2) ∨ o = 134 ∨ (o = 0 ∧ (k = 17 ∨ k = 19)) ∨ (o = 167 ∧ k = 6)) → m3 o k = m o k := fun o k ho => by
    rw [f3 o k (by omega)]
    exact F2 o k (by omega)
  have e129 : m3 129 2 = 0 := by rw [f3 _ _ (by omega)]; exact d129
  have e135 : m3 135 6 = tz_p B n e := by rw [f3 _ _ (by omega)]; exact d135
  have e19 : m3 0 19 = -1 := by rw [f3 _ _ (by omega)]; exact d19
  have k3 : rk m3 133 7 84 := rk_of k133 (f3 _ _ (by omega)) (f3 _ _ (by omega))
  clear f3 F2
  have er : m3 170 = m 170 := funext fun x => g3 _ _ (by omega)
  have G3 : or_G (m3 170) m3 := ⟨ud_of hud (fun o x ho => g3 o x (by omega)) (by rw [er]; exact Int.le_refl _), by rw [er]; exact hf, by rw [er]; exact hH, fun _ _ => rfl⟩
  have R3 : oc_R m3 m3 := ⟨by rw [er]; exact bk_of hb (fun o k _ _ _ => g3 o k (by omega)) (fun _ _ => rfl) l6.2, by rw [er]; exact vg_of hv (fun o k _ _ => g3 o k (by omega)) (fun _ _ => rfl), G3.1.1, G3.1.2.1, fun j j0 j1 => rfl⟩
  have F3 : fr_v m m3 := fun o k ho => g3 o k (by omega)
  have c3 : ∀ o k, 168 ≤ o → m3 o k = m o k := fun o k ho => g3 o k (by omega)
  have c167 : ∀ j, j ≠ 6 → m3 167 j = m 167 j := fun j hj => g3 _ _ (by omega)
  have Hs3 : ms_H (am_st m3 168 48 (-1)) B n := ms_H_of Hs (fun o k ho => by rw [am_st_ne _ (by omega)]; exact c3 o k (by omega))
  have hn3 : am_st m3 168 48 (-1) 168 13 = n := by rw [am_st_ne _ (by omega), c3 _ _ (by omega)]; exact hn
  clear g3 Hs hn
  unfold M_X12_orders
  simp only [forall_eq]
  refine mreads (lim := 24) (Or.inr rfl) (by decide) Hs3 hn3 (fun cs' hcs' m5 _ _ _ _ _ => by rw [he] at hcs'; cases hcs') (fun e' he' m5 F5 z5 b5 => ?_)
  have : e' = e := by rw [he] at he'; cases he'; rfl
  subst this
  refine ⟨fun y => absurd rfl y, fun _ => ?_⟩
  rw [refuses_eq (Or.inr (Or.inr (Or.inr (Or.inr rfl))))]
  have d48 : m5 168 48 = -1 := by rw [F5 _ _ (by omega)]; exact am_st_same _ _ _ _
  have q5 : ∀ o k, ¬ ((o = 168 ∧ (k = 8 ∨ k = 9 ∨ k = 10 ∨ k = 13 ∨ k = 14 ∨ k = 18 ∨ k = 19 ∨ k = 20 ∨ k = 21 ∨ k = 48)) ∨ o = 177 ∨ o = 178 ∨ o = 179) → m5 o k = m3 o k := fun o k ho => by rw [F5 o k (by omega)]; exact am_st_ne _ (by omega)
  clear F5
  generalize hm6 : am_st (am_st m5 168 0 (-6)) 169 (-(-6)) (w32 (m5 169 (-(-6)) + 1)) = m6
  have f6 : ∀ o k, ¬ ((o = 168 ∧ k = 0) ∨ (o = 169 ∧ k = 6)) → m6 o k = m5 o k := fun o k ho => by rw [← hm6, am_st_ne _ (by omega), am_st_ne _ (by omega)]
  have w6 : m6 168 0 = -6 := by rw [← hm6, am_st_ne _ (by omega), am_st_same]
  have v6 : m6 169 6 = w32 (m 169 6 + 1) := by rw [← hm6, show -(-6 : Int) = 6 by omega, am_st_same, q5 _ _ (by omega), c3 _ _ (by omega)]
  clear hm6
  have U6 : fr_u m3 m6 := fun o k ho => by rw [f6 o k (by omega)]; exact q5 o k (by omega)
  have M6 : om_R m6 m3 := ⟨funext fun x => by rw [f6 _ _ (by omega)]; exact q5 _ _ (by omega), by rw [f6 _ _ (by omega)]; exact q5 _ _ (by omega), fun y y0 y1 => by rw [f6 _ _ (by omega)]; exact q5 _ _ (by omega)⟩
  have hre6 : re_P m6 := by
    refine re_count (r := 6) hre (by omega) ?_ v6 (fun j hj => ⟨?_, ?_⟩)
    · rw [f6 _ _ (by omega), q5 _ _ (by omega)]; exact e3
    · rw [f6 _ _ (by omega), q5 _ _ (by omega)]; exact c167 j hj
    · rw [f6 _ _ (by omega), q5 _ _ (by omega)]; exact c3 _ _ (by omega)
  exact hK _ _ (Rel_ord (m1 := m3) (g := m3) (A1 := m3 170) h F3 U6 G3 R3 M6 e129 (by rw [f6 _ _ (by omega)]; exact z5) (by rw [e17, w6]) (by rw [e19, f6 _ _ (by omega), d48]) (by rw [e135, f6 _ _ (by omega), b5]) k3 hre6)
