/-! CODE, the class: what is best of all sharings is the best of the set. -/
theorem kb_set {w L : Int → Int} {k : Int} {n : Nat} {S S' : Int → Prop} {r r' : Int → Int} (hS : ∀ j, 0 ≤ j → j < (n : Int) → (S' j ↔ S j)) (hr : ke n r' r) (h : kb w n (Cod k L n S) r) : kb w n (Cod k L n S') r' := by
  obtain ⟨⟨f, h1⟩, h2⟩ := h
  refine ⟨⟨f, cod_ext f hS hr h1⟩, fun s hs => ?_⟩
  obtain ⟨g, hs⟩ := hs
  exact kl_trans (kl_ke hr) (h2 s ⟨g, cod_ext g (fun j j0 j1 => (hS j j0 j1).symm) (fun _ _ _ => rfl) hs⟩)
theorem sb_ne {x s : Int} (hx : 0 ≤ x) (hs : 0 ≤ s) (h : sb x s) (hne : x ≠ s) : ∃ j, 0 ≤ j ∧ bitI s j ∧ ¬ bitI x j := by
  refine Classical.byContradiction fun hno => hne (bit_ext hx hs (fun j j0 => ⟨h j j0, fun hj => ?_⟩))
  exact Classical.byContradiction fun hb => hno ⟨j, j0, hj, hb⟩
section CDY
variable {n : Nat} {k set : Int}
theorem cdV_P (hn6 : n ≤ 6) (hk : 2 ≤ k ∧ k ≤ 3) (hset : 0 ≤ set) (hn : ∀ j, 0 ≤ j → bitI set j → j < (n : Int)) {P : Int → Int} (hP : ksp k n (fun j => bitI set j) P) : ∃ x y z, cdV k set x y z ∧ ∀ j, 0 ≤ j → (bitI x j ↔ bitI set j ∧ P j = 0) ∧ (bitI y j ↔ bitI set j ∧ P j = 1) ∧ (bitI z j ↔ bitI set j ∧ P j = 2) := by
  have mk : ∀ l : Int, ∃ x, (0 ≤ x ∧ x < set) ∧ ∀ j, 0 ≤ j → (bitI x j ↔ bitI set j ∧ P j = l) := fun l => by
    obtain ⟨x, hx, hb⟩ := kset (fun j => bitI set j ∧ P j = l) n hn6
    have hb' : ∀ j, 0 ≤ j → (bitI x j ↔ bitI set j ∧ P j = l) := fun j j0 => (hb j j0).trans ⟨fun q => q.2, fun q => ⟨hn j j0 q.1, q⟩⟩
    have hle := sb_le hx.1 hset (fun j j0 hj => ((hb' j j0).mp hj).1)
    refine ⟨x, ⟨hx.1, ?_⟩, hb'⟩
    obtain ⟨j, j0, j1, hj, hl⟩ := hP.2 l
    have hne : x ≠ set := fun q => by rw [q] at hb'; exact hl ((hb' j j0).mp hj).2
    omega
  obtain ⟨x, x1, x2⟩ := mk 0
  obtain ⟨y, y1, y2⟩ := mk 1
  obtain ⟨z, z1, z2⟩ := mk 2
  refine ⟨x, y, z, ⟨x1, y1, z1, ?_, fun j j0 => ⟨fun q => ⟨((x2 j j0).mp q).1, fun q2 => ?_⟩, fun q => ((y2 j j0).mp q).1, ?_⟩⟩, fun j j0 => ⟨x2 j j0, y2 j j0, z2 j j0⟩⟩
  · by_cases c : k = 3
    · exact Or.inr c
    · refine Or.inl (bit_ext z1.1 (Int.le_refl _) (fun j j0 => ⟨fun q => ?_, fun q => absurd q (bit_0 j)⟩))
      obtain ⟨q1, q2⟩ := (z2 j j0).mp q
      have := hP.1 j j0 (hn j j0 q1) q1
      omega
  · have := ((x2 j j0).mp q).2
    have := ((y2 j j0).mp q2).2
    omega
  · rw [x2 j j0, y2 j j0, z2 j j0]
    constructor
    · rintro ⟨q1, q2⟩
      exact ⟨q1, fun q => by have := q.2; omega, fun q => by have := q.2; omega⟩
    · rintro ⟨q1, q2, q3⟩
      have := hP.1 j j0 (hn j j0 q1) q1
      refine ⟨q1, ?_⟩
      by_cases c0 : P j = 0
      · exact absurd ⟨q1, c0⟩ q2
      · by_cases c1 : P j = 1
        · exact absurd ⟨q1, c1⟩ q3
        · omega
/-- who goes where, of a sharing -/
def cdQ (a b j : Int) : Int := if bt a j = 1 then 0 else if bt b j = 1 then 1 else 2
theorem cdQ_P {a b c : Int} (hn6 : n ≤ 6) (hset : 0 ≤ set ∧ set < 64) (hk : 2 ≤ k ∧ k ≤ 3) (hn : ∀ j, 0 ≤ j → bitI set j → j < (n : Int)) (hv : cdV k set a b c) : ksp k n (fun j => bitI set j) (cdQ a b) ∧ ∀ j, 0 ≤ j → bitI set j → (cdQ a b j = 0 ↔ bitI a j) ∧ (cdQ a b j = 1 ↔ bitI b j) ∧ (cdQ a b j = 2 ↔ bitI c j) := by
  obtain ⟨v1, v2, v3, v4, v5⟩ := hv
  have key : ∀ j, 0 ≤ j → bitI set j → (cdQ a b j = 0 ↔ bitI a j) ∧ (cdQ a b j = 1 ↔ bitI b j) ∧ (cdQ a b j = 2 ↔ bitI c j) := fun j j0 hj => by
    have j1 := hn j j0 hj
    obtain ⟨u1, u2, u3⟩ := v5 j j0
    have ba := bt_b (s := a) (j := j) (by omega) (by omega)
    have bb := bt_b (s := b) (j := j) (by omega) (by omega)
    unfold cdQ
    by_cases ca : bitI a j
    · rw [if_pos (ba.mpr ca)]
      exact ⟨⟨fun _ => ca, fun _ => rfl⟩, ⟨fun q => absurd q (by decide), fun q => absurd q (u1 ca).2⟩, ⟨fun q => absurd q (by decide), fun q => absurd ca (u3.mp q).2.1⟩⟩
    · rw [if_neg (fun q => ca (ba.mp q))]
      by_cases cb : bitI b j
      · rw [if_pos (bb.mpr cb)]
        exact ⟨⟨fun q => absurd q (by decide), fun q => absurd q ca⟩, ⟨fun _ => cb, fun _ => rfl⟩, ⟨fun q => absurd q (by decide), fun q => absurd cb (u3.mp q).2.2⟩⟩
      · rw [if_neg (fun q => cb (bb.mp q))]
        exact ⟨⟨fun q => absurd q (by decide), fun q => absurd q ca⟩, ⟨fun q => absurd q (by decide), fun q => absurd q cb⟩, ⟨fun _ => u3.mpr ⟨hj, ca, cb⟩, fun _ => rfl⟩⟩
  refine ⟨⟨fun j j0 j1 hj => ?_, fun l => ?_⟩, key⟩
  · obtain ⟨k1, k2, k3⟩ := key j j0 hj
    have : cdQ a b j = 0 ∨ cdQ a b j = 1 ∨ cdQ a b j = 2 := by
      unfold cdQ
      split
      · exact Or.inl rfl
      · split
        · exact Or.inr (Or.inl rfl)
        · exact Or.inr (Or.inr rfl)
    rcases this with q | q | q
    · omega
    · omega
    · have hc := k3.mp q
      have : c ≠ 0 := fun z => bit_0 j (z ▸ hc)
      omega
  · have ex : ∀ x, 0 ≤ x → x < set → sb x set → ∃ j, 0 ≤ j ∧ j < (n : Int) ∧ bitI set j ∧ ¬ bitI x j := fun x x0 x1 hs => by
      obtain ⟨j, j0, h1, h2⟩ := sb_ne x0 hset.1 hs (by omega)
      exact ⟨j, j0, hn j j0 h1, h1, h2⟩
    obtain ⟨i, i0, i1, g1, g2⟩ := ex a v1.1 v1.2 (fun j j0 hj => ((v5 j j0).1 hj).1)
    by_cases c0 : l = 0
    · exact ⟨i, i0, i1, g1, fun q => g2 ((key i i0 g1).1.mp (q.trans c0))⟩
    · by_cases c1 : l = 1
      · obtain ⟨j, j0, j1, h1, h2⟩ := ex b v2.1 v2.2 (fun j j0 hj => (v5 j j0).2.1 hj)
        exact ⟨j, j0, j1, h1, fun q => h2 ((key j j0 h1).2.1.mp (q.trans c1))⟩
      · by_cases c2 : l = 2
        · obtain ⟨j, j0, j1, h1, h2⟩ := ex c v3.1 v3.2 (fun j j0 hj => ((v5 j j0).2.2.mp hj).1)
          exact ⟨j, j0, j1, h1, fun q => h2 ((key j j0 h1).2.2.mp (q.trans c2))⟩
        · refine ⟨i, i0, i1, g1, fun q => ?_⟩
          unfold cdQ at q
          split at q
          · omega
          · split at q <;> omega
end CDY
section CDZ
variable {n : Nat} {k : Int} {L w : Int → Int} {m0 m1 : am_M} {set : Int}
theorem cbest (hP : cdP n k L w m0) (hset : 0 < set ∧ set < 64) (hn : ∀ j, 0 ≤ j → bitI set j → j < (n : Int)) (hG : ∀ s, 0 ≤ s → s < set → cdG w L k n m0 s) (h2 : ∃ i j, 0 ≤ i ∧ 0 ≤ j ∧ i ≠ j ∧ bitI set i ∧ bitI set j) (hW : m0 159 set = kc w (bt set) n) (hM : cdM k set n w L m0 (fun _ _ => True) m1) : cdG w L k n m1 set := by
  have hn6 := hP.1.2
  have hk := hP.2.1.2
  have hL := hP.2.2.1
  obtain ⟨i, j, i0, j0, hij, hi, hj⟩ := h2
  have row : ∀ {x y z : Int} {P : Int → Int} {j : Int}, cdV k set x y z → 0 ≤ j → bitI set j → (P j = 0 ↔ bitI x j) → (P j = 1 ↔ bitI y j) → (P j = 2 ↔ bitI z j) → (P j = 0 ∧ trow m0 L set x y z j = m0 161 (x * 6 + j) + L 0) ∨ (P j = 1 ∧ trow m0 L set x y z j = m0 161 (y * 6 + j) + L 1) ∨ (P j = 2 ∧ trow m0 L set x y z j = m0 161 (z * 6 + j) + L 2) := fun {x y z P j} hv j0 hj p0 p1 p2 => by
    have j1 := hn j j0 hj
    obtain ⟨v1, v2, v3, v4, v5⟩ := hv
    have ba := bt_b (s := x) (j := j) (by omega) (by omega)
    have bb := bt_b (s := y) (j := j) (by omega) (by omega)
    have bs := bt_b (s := set) (j := j) (by omega) (by omega)
    unfold trow
    rw [if_neg (fun q => q (bs.mpr hj))]
    by_cases ca : bitI x j
    · rw [if_pos (ba.mpr ca)]; exact Or.inl ⟨p0.mpr ca, rfl⟩
    · rw [if_neg (fun q => ca (ba.mp q))]
      by_cases cb : bitI y j
      · rw [if_pos (bb.mpr cb)]; exact Or.inr (Or.inl ⟨p1.mpr cb, rfl⟩)
      · rw [if_neg (fun q => cb (bb.mp q))]
        exact Or.inr (Or.inr ⟨p2.mpr ((v5 j j0).2.2.mpr ⟨hj, ca, cb⟩), rfl⟩)
  rcases hM.2 with ⟨-, h3⟩ | ⟨x, y, z, hv, h3, h4, h5⟩
  · -- there is a sharing
    obtain ⟨x, y, z, hv, -⟩ := cdV_P hn6 hk (by omega) hn (P := fun q => if q = i then 0 else 1) ⟨fun q q0 q1 hq => by show 0 ≤ (if q = i then (0 : Int) else 1) ∧ (if q = i then (0 : Int) else 1) < k; split <;> omega, fun l => by
      by_cases c : l = 0
      · exact ⟨j, j0, hn j j0 hj, hj, by show (if j = i then (0 : Int) else 1) ≠ l; rw [if_neg (fun q => hij q.symm)]; omega⟩
      · exact ⟨i, i0, hn i i0 hi, hi, by show (if i = i then (0 : Int) else 1) ≠ l; rw [if_pos rfl]; omega⟩⟩
    exact absurd trivial (h3 x y z hv)
  · have hx := hG _ hv.1.1 hv.1.2
    have hy := hG _ hv.2.1.1 hv.2.1.2
    have hz := hG _ hv.2.2.1.1 hv.2.2.1.2
    have tb := fun q q0 q1 => trow_b (j := q) (by omega) hL.2 hk hv hx hy hz q0 q1
    have er : ke n (fun q => m1 161 (set * 6 + q)) (trow m0 L set x y z) := fun q q0 q1 => h4 q q0 (by omega)
    refine ⟨by rw [hM.1 _ _ (by omega) (by omega) (by omega)]; exact hW, by rw [h3]; exact (kc_e er).symm, fun q q0 q1 => ?_, fun _ => ?_⟩
    · rw [h4 q q0 q1]; exact tb q q0 q1
    refine kb_set (fun _ _ _ => Iff.rfl) er ?_
    -- parts of any sharing have their bests
    have part : ∀ {x y z : Int} {P : Int → Int}, cdV k set x y z → (∀ q, 0 ≤ q → bitI set q → (P q = 0 ↔ bitI x q) ∧ (P q = 1 ↔ bitI y q) ∧ (P q = 2 ↔ bitI z q)) → ∀ q, 0 ≤ q → q < (n : Int) → bitI set q → kb w n (Cod k L n (fun j => bitI set j ∧ P j = P q)) (fun j => if P q = 0 then m0 161 (x * 6 + j) else if P q = 1 then m0 161 (y * 6 + j) else m0 161 (z * 6 + j)) := fun {x y z P} hv hp q q0 q1 hq => by
      obtain ⟨v1, v2, v3, v4, v5⟩ := hv
      rcases row (P := P) ⟨v1, v2, v3, v4, v5⟩ q0 hq (hp q q0 hq).1 (hp q q0 hq).2.1 (hp q q0 hq).2.2 with ⟨e, -⟩ | ⟨e, -⟩ | ⟨e, -⟩
      · have hb := (hp q q0 hq).1.mp e
        refine kb_set (fun j j0 j1 => ?_) (fun j j0 j1 => ?_) ((hG x v1.1 v1.2).2.2.2 (fun zz => bit_0 q (zz ▸ hb)))
        · rw [e]; exact ⟨fun s => (hp j j0 s.1).1.mp s.2, fun s => have hs := ((v5 j j0).1 s).1; ⟨hs, (hp j j0 hs).1.mpr s⟩⟩
        · show (if P q = 0 then _ else _) = _
          rw [if_pos e]
      · have hb := (hp q q0 hq).2.1.mp e
        refine kb_set (fun j j0 j1 => ?_) (fun j j0 j1 => ?_) ((hG y v2.1 v2.2).2.2.2 (fun zz => bit_0 q (zz ▸ hb)))
        · rw [e]; exact ⟨fun s => (hp j j0 s.1).2.1.mp s.2, fun s => have hs := (v5 j j0).2.1 s; ⟨hs, (hp j j0 hs).2.1.mpr s⟩⟩
        · show (if P q = 0 then _ else if P q = 1 then _ else _) = _
          rw [if_neg (by omega), if_pos e]
      · have hb := (hp q q0 hq).2.2.mp e
        refine kb_set (fun j j0 j1 => ?_) (fun j j0 j1 => ?_) ((hG z v3.1 v3.2).2.2.2 (fun zz => bit_0 q (zz ▸ hb)))
        · rw [e]; exact ⟨fun s => (hp j j0 s.1).2.2.mp s.2, fun s => have hs := ((v5 j j0).2.2.mp s).1; ⟨hs, (hp j j0 hs).2.2.mpr s⟩⟩
        · show (if P q = 0 then _ else if P q = 1 then _ else _) = _
          rw [if_neg (by omega), if_neg (by omega)]
    obtain ⟨kP, kQ⟩ := cdQ_P hn6 (by omega) hk hn hv
    refine kb_parts (by omega) ?_ (fun l => ?_) (fun P hP2 q q0 q1 hq => ?_) (fun P b t hP2 hb ht ht0 => ?_)
    · refine Cod_join (P := cdQ x y) (b := fun l j => if l = 0 then m0 161 (x * 6 + j) else if l = 1 then m0 161 (y * 6 + j) else m0 161 (z * 6 + j)) kP (fun q q0 q1 hq => (part hv kQ q q0 q1 hq).1) (fun q q0 q1 hq => ?_) (fun q q0 q1 hq => (tb q q0 (by omega)).2 hq)
      obtain ⟨c1, c2, c3⟩ := kQ q q0 hq
      rcases row (P := cdQ x y) hv q0 hq c1 c2 c3 with ⟨e, g⟩ | ⟨e, g⟩ | ⟨e, g⟩ <;> rw [g, e] <;> rfl
    · by_cases c : i = l
      · exact ⟨j, j0, hn j j0 hj, hj, fun q => hij (c.trans q.symm)⟩
      · exact ⟨i, i0, hn i i0 hi, hi, c⟩
    · obtain ⟨x', y', z', hv', hb'⟩ := cdV_P hn6 hk (by omega) hn hP2
      refine ⟨_, part hv' (fun q q0 hq => ?_) q q0 q1 hq⟩
      obtain ⟨g1, g2, g3⟩ := hb' q q0
      exact ⟨⟨fun e => g1.mpr ⟨hq, e⟩, fun e => (g1.mp e).2⟩, ⟨fun e => g2.mpr ⟨hq, e⟩, fun e => (g2.mp e).2⟩, ⟨fun e => g3.mpr ⟨hq, e⟩, fun e => (g3.mp e).2⟩⟩
    · obtain ⟨x', y', z', hv', hb'⟩ := cdV_P hn6 hk (by omega) hn hP2
      have kQ' : ∀ q, 0 ≤ q → bitI set q → (P q = 0 ↔ bitI x' q) ∧ (P q = 1 ↔ bitI y' q) ∧ (P q = 2 ↔ bitI z' q) := fun q q0 hq => by
        obtain ⟨g1, g2, g3⟩ := hb' q q0
        exact ⟨⟨fun e => g1.mpr ⟨hq, e⟩, fun e => (g1.mp e).2⟩, ⟨fun e => g2.mpr ⟨hq, e⟩, fun e => (g2.mp e).2⟩, ⟨fun e => g3.mpr ⟨hq, e⟩, fun e => (g3.mp e).2⟩⟩
      refine kl_trans (h5 x' y' z' hv' trivial) (kl_ke (fun q q0 q1 => ?_))
      by_cases hq : bitI set q
      · rw [ht q q0 q1 hq]
        have eb := kb_one (part hv' kQ' q q0 q1 hq) (hb q q0 q1 hq) q q0 q1
        rw [← eb]
        obtain ⟨c1, c2, c3⟩ := kQ' q q0 hq
        rcases row (P := P) hv' q0 hq c1 c2 c3 with ⟨e, g⟩ | ⟨e, g⟩ | ⟨e, g⟩ <;> rw [g, e] <;> rfl
      · rw [ht0 q q0 q1 hq]
        exact (trow_b (by omega) hL.2 hk hv' (hG _ hv'.1.1 hv'.1.2) (hG _ hv'.2.1.1 hv'.2.1.2) (hG _ hv'.2.2.1.1 hv'.2.2.1.2) q0 (by omega)).2 hq
end CDZ
