/-! THE CLAIM. The rows around whole_start are the kit's skeleton. -/
/-! THE CLAIM OUT OF ONE WALK OF THE LAW'S BODY. Your part is whole_start (and what it stands on); all else here is the same for every law, but numbers. -/
def R_law : String := "ShortPrayersLaw"
def lw_P (b : Addr) (xs : List Int32) (args : Array Value) (s : State) : Prop := args = #[.ref b] ∧ s.IntsAt b xs ∧ xs.length ≤ 3072 ∧ (Jvm.Cond.and given_1 narrow_1).before args s = true
def lw_Q (_ : Array Value) (s : State) (o : Outcome) (t : State) : Prop := o = .returned (some (.int 1)) ∧ Framed s o t [] 600000 7302249
def lw_Z (below : List Frame) (a : Array Value) (s : State) : State → Prop := fun t => ∃ o, t.status = .running ∧ Ended t below o ∧ lw_Q a s o t
/-- the law's own end, with 1 on the stack, nothing written that was there before, its room as the claim has it -/
theorem lw_ret {p : Program} {l : Launch} {e : Env} {s : State} {m : MethodId} {below : List Frame} {meth : Method} {c : Code} {b : Nat} (hx : p.tables.exec = Jvm.exec) (hb : c.code = code) (hr : meth.sig.returnType = ret) (hlocks : meth.locks = false) {pc : Nat} {H : Heap} {ls : Array Slot} (hdg : decode code pc = .ok (.ireturn, 1)) : W p l e room_1 s m #[Value.ref b] below meth c H [] 600000 7302249 (lw_Z below #[Value.ref b] s) (F0 m pc ls [.int 1]) := by
  intro T hT X
  obtain ⟨fs, hret, hrun, hended, hW, hframe⟩ := X.leave (v := some (.int 1)) (hlocks := hlocks) (fun h => by rw [hr] at h; cases h)
  have hmeth' : T.vm.method? m = some meth := X.method'
  refine ⟨T.setFrames fs, ?_, .returned (some (.int 1)), hrun, hended, rfl, ⟨_, rfl⟩, hW, hframe⟩
  jvm_step X.here [X.here.top, hx, hb, hdg, hmeth', hr, ret, narrow_b1]
  (try refine ⟨rfl, ?_⟩); (try refine ⟨rfl, ?_⟩)
  first | (intro acts; rw [hret _ acts rfl rfl rfl]) | rw [hret _ _ rfl rfl rfl]
  exact Steps.refl _
/-- what holds at the law's entry: the machine, the code, the tables' words (any of lw_tbl by 'hts w (by decide +kernel)'), the script of L ints xs at the cell b, what the Statement gives of the start (any of its parts by flat_of_before) -/
def lw_At (p : Program) (s : State) (m : MethodId) (meth : Method) (c : Code) (b L : Nat) (xs : Nat → Int32) : Prop :=
  p.tables.exec = Jvm.exec ∧ c.code = code ∧ meth.sig.returnType = ret ∧ c.maxLocals = 4 ∧ s.vm.findClass R_law = some m.cls ∧ (∀ w ∈ lw_tbl, w.before #[Value.ref b] s = true) ∧ va_X b L xs s s.heap ∧ b < s.heap.size ∧ meth.locks = false ∧ (Jvm.Cond.and given_1 narrow_1).before #[Value.ref b] s = true
theorem am_SL200 : am_SL 200 ≤ 7302249 := by decide +kernel
section WHL
variable {p : Program} {e : Env} {s : State} {m : MethodId} {below : List Frame} {meth : Method} {c : Code} {l : Launch} {b L : Nat} {xs : Nat → Int32} {E : am_E}
/-- the law's end -/
theorem l_fin (C0 : lw_At p s m meth c b L xs) (hE1 : E.1 = s.heap.size) {F : am_F} (hF : F = (p, l, e, room_1, s, m, #[Value.ref b], below, meth, c, lw_Z below #[Value.ref b] s, E, 0, 200, 1300)) (G : am_G F cL_law RL) (loc : List am_V) (mm : am_M) : am_Z F 1391 [] loc mm 200 := by
  obtain ⟨hx, hb, hr, hml, hown, hts, hX, hbl, hlocks, hgv⟩ := id C0
  refine z_iconst (nx := 1392) (z := 1) G (R32c rfl) dL_law_1391 rfl ?_
  subst hF
  intro h1 h2 h3 h4 h0 H ls locs h5 h6 h8
  refine va_forget (fun q hq => by have := h8.2.2 q hq; have g : E.1 ≤ q.base := this; omega) ?_
  refine W.widen (k := 600000) (n := 7302249) (by omega) (Nat.le_trans (Nat.sub_le _ _) am_SL200) ?_
  exact lw_ret hx hb hr hlocks dL_law_1392
/-- both are made, then the loop -/
theorem l_walk (C0 : lw_At p s m meth c b L xs) (hE1 : E.1 = s.heap.size) {F : am_F} (hF : F = (p, l, e, room_1, s, m, #[Value.ref b], below, meth, c, lw_Z below #[Value.ref b] s, E, 0, 200, 1300)) (G : am_G F cL_law RL) (X : lawS F b L xs) (m0 : am_M) : am_Z F 0 [] [(3, 38), (9, 0), (9, 0), (9, 0)] m0 0 := by
  have hdF : am_d F = 1300 := by rw [hF]; rfl
  have hlim : ∀ k, k ≤ 200 → am_lim F k := fun k hk => by rw [hF]; show k ≤ 0 + 200; omega
  refine z_new (nx := 3) (ci := 11) G (by decide) xw_RL_7 tw_RX11 nw_RX11 (by decide +kernel) (hlim _ (by omega)) dL_law_0 rfl ?_
  refine z_dup (nx := 4) G (by decide) dL_law_3 rfl ?_
  have h11 : C_X11_init 0 (fun m1 => m1 = ew_m m0 bg_e1) (ew_m m0 [(some 0, 0, 0, 0)]) 1 := EC_X11 bg_ok11 rfl
  refine z_callI (nx := 7) (z := 0) (as := []) (st := [(2, 0)]) (n := 1) G (by decide) SC_X11_init (by rw [hdF]; exact Nat.le_of_ble_eq_true rfl) (Nat.le_of_ble_eq_true rfl) (hlim _ (by omega)) ml_RL_9 iw_X11_init rfl rfl (am_plainC 11 (by decide)) cw_X11_init nw_RX11 qp_X11_init (Nat.le_of_ble_eq_true rfl) dL_law_4 rfl (CC_X11_init (am_is_new (n := 0) (by decide +kernel)) h11) ?_
  rintro r m1 ⟨rfl, rfl⟩
  show am_Z F 7 [(2, 0)] [(3, 38), (9, 0), (9, 0), (9, 0)] (ew_m m0 bg_e1) 168
  refine z_astore_n (nx := 8) (a := 1) G (Or.inl rfl) (by decide) (fun v hv => by cases hv; decide) dL_law_7 rfl ?_
  show am_Z F 8 [] [(3, 38), (2, 0), (9, 0), (9, 0)] (ew_m m0 bg_e1) 168
  refine z_new (nx := 11) (ci := 12) G (by decide) xw_RL_10 tw_RX12 nw_RX12 (by decide +kernel) (hlim _ (by omega)) dL_law_8 rfl ?_
  refine z_dup (nx := 12) G (by decide) dL_law_11 rfl ?_
  have h12 : C_X12_init 168 (fun m1 => m1 = ew_m m0 bg_ev) (ew_m m0 ((some 168, 0, 0, 0) :: bg_e1)) 169 := EC_X12 bg_ok12 rfl
  refine z_callI (nx := 15) (z := 168) (as := []) (st := [(2, 168)]) (n := 169) G (by decide) SC_X12_init (by rw [hdF]; exact Nat.le_of_ble_eq_true rfl) (Nat.le_of_ble_eq_true rfl) (hlim _ (by omega)) ml_RL_12 iw_X12_init rfl rfl (am_plainC 12 (by decide)) cw_X12_init nw_RX12 qp_X12_init (Nat.le_of_ble_eq_true rfl) dL_law_12 rfl (CC_X12_init (am_is_new (n := 168) (by decide +kernel)) h12) ?_
  rintro r m1 ⟨rfl, rfl⟩
  show am_Z F 15 [(2, 168)] [(3, 38), (2, 0), (9, 0), (9, 0)] (ew_m m0 bg_ev) 200
  refine z_astore_n (nx := 16) (a := 2) G (Or.inl rfl) (by decide) (fun v hv => by cases hv; decide) dL_law_15 rfl ?_
  show am_Z F 16 [] [(3, 38), (2, 0), (2, 168), (9, 0)] (ew_m m0 bg_ev) 200
  refine z_iconst (nx := 17) (z := 0) G (R32c rfl) dL_law_16 rfl ?_
  refine z_istore_n (nx := 18) (a := 3) G (by decide) (fun v hv => by cases hv; decide) dL_law_17 rfl ?_
  exact l_loop G X hdF (hlim _ (by omega)) (fun loc mm _ => l_fin C0 hE1 hF G loc mm) (L + 1) 0 _ (by omega) (by omega) (by omega) (bg_Bt rfl) (bg_Rel rfl)
end WHL
theorem whole_start {p : Program} {e : Env} {s : State} {m : MethodId} {below : List Frame} {meth : Method} {c : Code} (l : Launch) (hflags : l.flags = flags0) {b L : Nat} {xs : Nat → Int32} (hL : L ≤ 3072) (C0 : lw_At p s m meth c b L xs) : W p l e room_1 s m #[Value.ref b] below meth c s.heap [] 0 0 (lw_Z below #[Value.ref b] s) (entryFrame m ([Value.ref b] : List Value).toArray 4) := by
  obtain ⟨hx, hb, hr, hml, hown, hts, hX, hbl, hlocks, hgv⟩ := id C0
  obtain ⟨E, hE1, hE38, hK, hXs⟩ := am_start hts hgv b
  have hl := lv_entry ([.ref b]) (n := 4) (Nat.le_of_ble_eq_true rfl)
  rw [lg_entry_eq]
  generalize (lg_sl ([.ref b]) ++ List.replicate (4 - (lg_sl ([.ref b])).length) Slot.unset).toArray = ls at hl ⊢
  have hl : lv_has ls 4 [(0, .ref b)] := hl
  have G : am_G (p, l, e, room_1, s, m, #[Value.ref b], below, meth, c, lw_Z below #[Value.ref b] s, E, 0, 200, 1300) cL_law RL := ⟨hx, hb, hown, fun w hw => hts w (List.mem_filter.mp hw).1, hK, hXs, hE1.symm, by show 200 ≤ 600000; omega, Nat.le_trans (Nat.sub_le _ _) am_SL200, by show 1300 + 1 ≤ 2048; omega, by show 60 * (1300 + 1) ≤ 84000; omega⟩
  have X : lawS (p, l, e, room_1, s, m, #[Value.ref b], below, meth, c, lw_Z below #[Value.ref b] s, E, 0, 200, 1300) b L xs := ⟨hE38, hX, hbl, hE1, hL⟩
  have key := l_walk (l := l) (e := e) (below := below) (E := E) C0 hE1 rfl G X (fun _ _ => 0)
  have hW := key (fun v hv => by cases hv) (fun v hv => by
    rcases List.mem_cons.mp hv with rfl | hv
    · exact am_R3 _
    · rcases List.mem_cons.mp hv with rfl | hv
      · exact am_R9 _
      · rcases List.mem_cons.mp hv with rfl | hv
        · exact am_R9 _
        · rcases List.mem_cons.mp hv with rfl | hv
          · exact am_R9 _
          · cases hv) (fun o ho => absurd ho (Nat.not_lt_zero o)) hml.symm (Nat.le_refl 0) s.heap ls [] (by
    rw [hml]
    show lv_has ls 4 [(0, Value.ref (E.2.1 38))]
    rw [hE38]
    exact hl) (fun k q h => by cases h) va_S.rf
  exact W.cs (Nat.sub_self 0).symm (Nat.sub_self _).symm hW
set_option maxHeartbeats 4000000 in
theorem lw_walk (l : Launch) (hflags : l.flags = flags0) (b : Addr) (xs : List Int32) : MetFree l x (headSpec (Jvm.Cond.code x code maxLocals ret :: tables_1) room_1) (lw_P b xs) (fun _ _ _ _ _ => True) lw_Q := by
  refine MetFree.of_bodyS (code := code) (maxLocals := maxLocals) (ret := ret) (by decide) ?_ ?_
  · intro args s m h hn
    obtain ⟨meth, c, h1, h2, h3, h4, h5, h6, -, -⟩ := Cond.code_spec hn (atoms_spec (ws := Jvm.Cond.code x code maxLocals ret :: tables_1) h _ List.mem_cons_self)
    exact ⟨meth, c, h1, h2, h3, h4, h5, h6⟩
  · intro p e s m args below meth c s₁ B hml0 hP _
    obtain ⟨rfl, hx, hbd, hgv⟩ := hP
    obtain ⟨scr, harrAt, hlist, hof, hsmall⟩ := hx
    obtain ⟨hcb, hkn, -, -⟩ := State.arrayAt?_spec harrAt
    have hown : s.vm.findClass R_law = some m.cls := findClass_of_methodNamed B.named
    have hts0 : ∀ c ∈ (Jvm.Cond.code x code maxLocals ret :: tables_1), c.before #[Value.ref b] s = true := atoms_spec (ws := Jvm.Cond.code x code maxLocals ret :: tables_1) B.pre
    have hts : ∀ w ∈ lw_tbl, w.before #[Value.ref b] s = true := k2_hts_sels lw_privs (fun w hw => hts0 w (List.mem_cons_of_mem _ hw)) lw_privs_ok
    have hml : c.maxLocals = 4 := B.maxLocals_eq (hts0 _ List.mem_cons_self)
    have X₀ : Stand p l e room_1 s m #[Value.ref b] below meth c s₁ [] 0 0 := Stand.of_body B
    have hh0 : s₁.heap = s.heap := by rw [B.state]; rfl
    have hsz : scr.slots.size = xs.length := by rw [← Array.length_toList, hlist, List.length_map]
    have hval : ∀ j : Nat, j < xs.length → scr.slots[j]? = some (.int (xs.getD j 0)) := fun j hj => by
      rw [← Array.getElem?_toList, hlist]
      simp [hj]
    have hbl : b < s.heap.size := (Array.getElem?_eq_some_iff.mp hcb).1
    have hX : va_X b xs.length (fun j => xs.getD j 0) s s.heap := ⟨scr, hcb, hof, hkn, hsz, hval⟩
    have K : W p l e room_1 s m #[Value.ref b] below meth c s₁.heap [] 0 0 (lw_Z below #[Value.ref b] s) (entryFrame m ([Value.ref b] : List Value).toArray 4) := by
      rw [hh0]
      exact whole_start l hflags hbd ⟨B.exec, B.bytes, B.returns, hml, hown, hts, hX, hbl, B.notSynchronized, hgv⟩
    obtain ⟨t, a1, o, b1, b2, b3⟩ := K s₁ rfl X₀
    exact ⟨t, o, a1, b1, b2, b3⟩
theorem lw_pre_spec {args : Array Value} {s : State} (h : (Jvm.Cond.and given_1 narrow_1).before args s = true) (hr : rest_1_c.before args s = true) : ∃ (b : Addr) (xs : List Int32), lw_P b xs args s := by
  have hs := flat_of_before _ h
  have hq := flat_of_before _ hr
  have hc : (Cond.count 1).before args s = true := hs _ (by decide +kernel)
  have harr : (Cond.arrayOf (.arg 0) .int).before args s = true := hs _ (by decide +kernel)
  have hle : (Cond.le (.length (.arg 0)) (.int 3072)).before args s = true := hs _ (by decide +kernel)
  have hlen : (Cond.isInt (.length (.arg 0))).before args s = true := hq _ (by decide +kernel)
  have hall : (Cond.all (.arg 0) (.isInt (.elem (.arg 0) (.index 0)))).before args s = true := hq _ (by decide +kernel)
  obtain ⟨b, xs, hb, hx⟩ := State.ints_of_pre rfl harr hlen hall
  have hsm : xs.length < 2 ^ 31 := hx.choose_spec.2.2.2
  have hev : (Term.length (.arg 0)).eval args s none [] s = some (.int xs.length.toInt32) := hx.length_eval hb
  have hv := Cond.le_ints hev (show (Term.int 3072).eval args s none [] s = some (.int 3072) from rfl)
  have hd : xs.length.toInt32 ≤ 3072 := by
    simpa [Cond.before, Cond.holds, hv] using hle
  have hN : xs.length ≤ 3072 := (Int32.ofNat_le_ofNat hsm (by decide)).mp (show Int32.ofNat xs.length ≤ Int32.ofNat 3072 from hd)
  exact ⟨b, xs, Cond.one_arg hc (show args[0]? = some (.ref b) from hb), hx, hN, h⟩
theorem lw_comes (l : Launch) (hflags : l.flags = flags0) : Comes l x (Jvm.Cond.code x code maxLocals ret :: tables_1) room_1 (fun tb e args s => Calls_1 tb e args s ∧ rest_1 tb e args s ∧ Pre_1 tb e args s)
    (fun _ _ args s o t => lw_Q args s o t) := by
  intro p e ha hc hk s m args below hf hfit hheap happ hpre
  obtain ⟨b, xs, hP⟩ := lw_pre_spec hpre.2.2 hpre.2.1
  obtain ⟨k, o, h1, h2, h3, hQ⟩ := lw_walk l hflags b xs p e ha hc hk s m args below hf ((Spec.applies_iff_loose hf).mp happ).1 hP trivial
  exact ⟨k, o, h1, h2, h3, hQ⟩
theorem lw_frame {s t : State} {o : Outcome} {args : Array Value} (h : Framed s o t [] 600000 7302249) :
    Framed s o t (fieldLocs frame_1_writes args s ++ arrayLocs frame_1_arrays args s ++ staticLocs frame_1_statics s) 600000 7302249 := h
theorem lw_limb (L : Cond) (hL : ∀ (args : Array Value) (s t : State), L.after args s (.returned (some (.int 1))) t = true) :
    ArmFor flags0 classFile x code maxLocals ret World_1 tables_1 room_1 Calls_1 rest_1 Pre_1
      (fun tb e a s o t => postC L tb e a s o t ∧ Framed s o t (fieldLocs frame_1_writes a s ++ arrayLocs frame_1_arrays a s ++ staticLocs frame_1_statics s) 600000 7302249) := by
  intro l hflags _ _ p e ha hc hk s m args below hf hfit hheap happ hpre
  obtain ⟨k, o, h1, h2, h3, rfl, hF⟩ := lw_comes l hflags p e ha hc hk s m args below hf hfit hheap happ hpre
  exact ⟨k, _, h1, h2, h3, hL args s _, lw_frame hF⟩
theorem i_vc : Claimed_1_1 ∧ Claimed_1_2 := ⟨lw_limb limb_1_1 (fun args s t => by simp [limb_1_1, Cond.after, Cond.holds, Cond.value]), lw_limb limb_1_2 (fun args s t => Cond.after_iff.mpr (by
  first | (rw [show limb_1_2 = Cond.eq .result (.int 1) from rfl, Cond.eq_ints (x := 1) (y := 1) rfl rfl]; simp; done) | (simp [limb_1_2, Cond.value, Term.eval]; done)))⟩
