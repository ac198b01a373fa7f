/-! THE CLAIM OUT OF ONE WALK OF THE LAW'S BODY. Your part is whole_start (and what it stands on); all else here is the same for every law, but numbers. -/
def R_law : String := "TakeDeskLaw"
def lw_P (b : Addr) (xs : List Int32) (args : Array Value) (s : State) : Prop := args = #[.ref b] ∧ s.IntsAt b xs ∧ xs.length ≤ 3072 ∧ (Jvm.Cond.and given_1 narrow_1).before args s = true
def lw_Q (_ : Array Value) (s : State) (o : Outcome) (t : State) : Prop := o = .returned (some (.int 1)) ∧ Framed s o t [] 600000 7302250
def lw_Z (below : List Frame) (a : Array Value) (s : State) : State → Prop := fun t => ∃ o, t.status = .running ∧ Ended t below o ∧ lw_Q a s o t
/-- the law's own end, with 1 on the stack, nothing written that was there before, its room as the claim has it -/
theorem lw_ret {p : Program} {l : Launch} {e : Env} {s : State} {m : MethodId} {below : List Frame} {meth : Method} {c : Code} {b : Nat} (hx : p.tables.exec = Jvm.exec) (hb : c.code = code) (hr : meth.sig.returnType = ret) (hlocks : meth.locks = false) {pc : Nat} {H : Heap} {ls : Array Slot} (hdg : decode code pc = .ok (.ireturn, 1)) : W p l e room_1 s m #[Value.ref b] below meth c H [] 600000 7302250 (lw_Z below #[Value.ref b] s) (F0 m pc ls [.int 1]) := by
  intro T hT X
  obtain ⟨fs, hret, hrun, hended, hW, hframe⟩ := X.leave (v := some (.int 1)) (hlocks := hlocks) (fun h => by rw [hr] at h; cases h)
  have hmeth' : T.vm.method? m = some meth := X.method'
  refine ⟨T.setFrames fs, ?_, .returned (some (.int 1)), hrun, hended, rfl, ⟨_, rfl⟩, hW, hframe⟩
  jvm_step X.here [X.here.top, hx, hb, hdg, hmeth', hr, ret, narrow_b1]
  (try refine ⟨rfl, ?_⟩); (try refine ⟨rfl, ?_⟩)
  first | (intro acts; rw [hret _ acts rfl rfl rfl]) | rw [hret _ _ rfl rfl rfl]
  exact Steps.refl _
/-- what holds at the law's entry: the machine, the code, the tables' words (any of lw_tbl by 'hts w (by decide +kernel)'), the script of L ints xs at the cell b, what the Statement gives of the start (any of its parts by flat_of_before) -/
def lw_At (p : Program) (s : State) (m : MethodId) (meth : Method) (c : Code) (b L : Nat) (xs : Nat → Int32) : Prop :=
  p.tables.exec = Jvm.exec ∧ c.code = code ∧ meth.sig.returnType = ret ∧ c.maxLocals = 4 ∧ s.vm.findClass R_law = some m.cls ∧ (∀ w ∈ lw_tbl, w.before #[Value.ref b] s = true) ∧ va_X b L xs s s.heap ∧ b < s.heap.size ∧ meth.locks = false ∧ (Jvm.Cond.and given_1 narrow_1).before #[Value.ref b] s = true
-- ===== YOUR PART BEGINS =====
set_option maxHeartbeats 4000000 in
set_option maxRecDepth 100000 in
/-- the law from its entry: what the pure machine answers, the machine answers -/
theorem whole_start {p : Program} {e : Env} {s : State} {m : MethodId} {below : List Frame} {meth : Method} {c : Code} (l : Launch) {b L : Nat} {xs : Nat → Int32} (hL : L ≤ 3072) (C0 : lw_At p s m meth c b L xs) : W p l e room_1 s m #[Value.ref b] below meth c s.heap [] 0 0 (lw_Z below #[Value.ref b] s) (entryFrame m ([Value.ref b] : List Value).toArray 4) := by
  obtain ⟨hx, hb, hr, hml, hown, hts, hX, hbl, hlocks, hgv⟩ := id C0
  have hsub : ∀ w ∈ wAll, w ∈ lw_tbl := fun w h => (List.mem_filter.mp h).1
  have htw : ∀ w ∈ wAll, w.before #[Value.ref b] s = true := fun w h => hts w (hsub w h)
  have hkn : ∀ (k : Nat) (q : vw_C), xcl[k]? = some q → ∃ (cC : ClassId) (iS : Nat → Nat), u_Kn s q.1 q.2.1 q.2.2 cC iS := by
    intro k q hq
    obtain ⟨k1, -, -, -⟩ := cl_ok k q hq
    have hi : ∀ (k : Nat) (q : vw_C), xcl[k]? = some q → Cond.instantiable q.1 q.2.2 ∈ lw_tbl := by
      intro k q hq
      match k, hq with
      | 0, hq => cases hq; decide +kernel
      | 1, hq => cases hq; decide +kernel
      | 2, hq => cases hq; decide +kernel
      | 3, hq => cases hq; decide +kernel
      | 4, hq => cases hq; decide +kernel
      | 5, hq => cases hq; decide +kernel
      | 6, hq => cases hq; decide +kernel
      | 7, hq => cases hq; decide +kernel
      | 8, hq => cases hq; decide +kernel
      | k + 9, hq => simp [xcl] at hq
    exact u_known htw k1 (hts _ (hi k q hq))
  obtain ⟨dC, dI, hKc⟩ : ∃ (dC : Nat → ClassId) (dI : Nat → Nat → Nat), ∀ (k : Nat) (q : vw_C), xcl[k]? = some q → u_Kn s q.1 q.2.1 q.2.2 (dC k) (dI k) := by
    have h0 : ∀ k : Nat, ∃ z : ClassId × (Nat → Nat), ∀ q : vw_C, xcl[k]? = some q → u_Kn s q.1 q.2.1 q.2.2 z.1 z.2 := by
      intro k
      cases hq : xcl[k]? with
      | none => exact ⟨(m.cls, fun _ => 0), fun q h => by cases h⟩
      | some q =>
        obtain ⟨cC, iS, h⟩ := hkn k q hq
        exact ⟨(cC, iS), fun q2 h2 => by cases h2; exact h⟩
    exact ⟨fun k => (h0 k).choose.1, fun k => (h0 k).choose.2, fun k q hq => (h0 k).choose_spec q hq⟩
  obtain ⟨cA0, kA0, comp0, a1, a2, a3⟩ := Cond.arrayClass_spec (hts _ (hsub _ ac_int))
  obtain ⟨cA1, kA1, comp1, b1, b2, b3⟩ := Cond.arrayClass_spec (hts _ (hsub _ ac_boolean))
  have hao2 : va_AO (rcl 2) s := va_AO.of (hts _ (by decide +kernel))
  have hao3 : va_AO (rcl 3) s := va_AO.of (hts _ (by decide +kernel))
  obtain ⟨comp2, cA2, kA2, c1, -, c3, c4, c5⟩ := Cond.arrayOver_spec hao2
  obtain ⟨comp3, cA3, kA3, d1, -, d3, d4, d5⟩ := Cond.arrayOver_spec hao3
  have hs := flat_of_before _ hgv
  have hnA : ∀ a : Nat, a < s.heap.size → ¬ (fun q : Nat => s.heap.size ≤ q) a := fun a h => Nat.not_le.mpr h
  obtain ⟨t1, e1, T1⟩ := va_Tof (tm := .static "TakeDesk" "KIND_ABOVE" "[I") (ty := .int) (N := 5) (f := fun j => .int (xsa101.getD j 0)) (A := fun q : Nat => s.heap.size ≤ q) (by decide) (hs _ (by decide +kernel)) (va_eqt (hs _ (by decide +kernel))) (fun j hj => by
    rcases (show j = 0 ∨ j = 1 ∨ j = 2 ∨ j = 3 ∨ j = 4 by omega) with rfl | rfl | rfl | rfl | rfl <;> exact va_eqt (hs _ (by decide +kernel))) hnA
  obtain ⟨t2, e2, T2⟩ := va_Tof (tm := .static "TakeDesk" "MARK_WORTH" "[I") (ty := .int) (N := 4) (f := fun j => .int (xsa102.getD j 0)) (A := fun q : Nat => s.heap.size ≤ q) (by decide) (hs _ (by decide +kernel)) (va_eqt (hs _ (by decide +kernel))) (fun j hj => by
    rcases (show j = 0 ∨ j = 1 ∨ j = 2 ∨ j = 3 by omega) with rfl | rfl | rfl | rfl <;> exact va_eqt (hs _ (by decide +kernel))) hnA
  have Z1 := va_Zof (A := fun q : Nat => s.heap.size ≤ q) (hts (.laysStatic "TakeDesk" "KIND_ABOVE" "[I") (by decide +kernel)) (hts (.initialized "TakeDesk") (by decide +kernel)) e1 hnA
  have Z2 := va_Zof (A := fun q : Nat => s.heap.size ≤ q) (hts (.laysStatic "TakeDesk" "MARK_WORTH" "[I") (by decide +kernel)) (hts (.initialized "TakeDesk") (by decide +kernel)) e2 hnA
  obtain ⟨cy, y0, y1, y2, y3⟩ : ∃ cy : Nat → ClassId, cy 0 = cA0 ∧ cy 1 = cA1 ∧ cy 2 = cA2 ∧ cy 3 = cA3 := ⟨fun k => if k = 0 then cA0 else if k = 1 then cA1 else if k = 2 then cA2 else cA3, rfl, rfl, rfl, rfl⟩
  obtain ⟨G, hG⟩ : ∃ G : GX, G = (s.heap.size, (dC, dI), cy, (b, L, xs), (t1, t2)) := ⟨_, rfl⟩
  have hK : va_K (dC, dI) xcl (tysG G) s := by
    refine ⟨hKc, fun k q hk => ?_⟩
    subst hG
    match k, hk with
    | 0, hk =>
      cases hk
      exact ⟨fun n z => ⟨fun k h => (by cases h), kA0, by subst y0; exact a2, comp0, a3⟩, by subst y0; exact a1⟩
    | 1, hk =>
      cases hk
      exact ⟨fun n z => ⟨fun k h => (by cases h), kA1, by subst y1; exact b2, comp1, b3⟩, by subst y1; exact b1⟩
    | 2, hk =>
      cases hk
      exact ⟨fun n z => ⟨fun k h => (by cases h), kA2, by subst y2; exact c3, comp2, c4⟩, kA2, comp2, by subst y2; exact c3, c4, c1, by subst y2; exact c5⟩
    | 3, hk =>
      cases hk
      exact ⟨fun n z => ⟨fun k h => (by cases h), kA3, by subst y3; exact d3, comp3, d4⟩, kA3, comp3, by subst y3; exact d3, d4, d1, by subst y3; exact d5⟩
    | k + 4, hk => simp [tysG] at hk
  have hnw : ∀ w ∈ nwW, va_Nw w s := by
    intro w hw
    have h1 : ∀ w ∈ nwW, w ∈ lw_tbl ∧ w.onTables = true := by decide +kernel
    exact va_Nw.of (h1 w hw).2 (hts w (h1 w hw).1)
  have hfx : FX G s := by
    subst hG
    exact ⟨hK, ⟨hX, hbl, by show L < 2 ^ 31; omega⟩, ⟨Z1, T1⟩, ⟨Z2, T2⟩, Nat.le_refl _, hnw, hao2, hao3⟩
  obtain ⟨I0, hI0⟩ : ∃ I0 : Mem, I0 = fun a _ k => if a = 100 then xs k else if a = 103 then nI L else if a = 101 then xsa101.getD k 0 else xsa102.getD k 0 := ⟨_, rfl⟩
  have hxo : xok G I0 := by
    subst hG; subst hI0
    exact ⟨fun j => rfl, rfl, fun j => rfl, fun j => rfl⟩
  obtain ⟨J, hJ⟩ := law_pure I0 L hL (by subst hI0; rfl) (fun j => by subst hI0; rfl) (fun j => by subst hI0; rfl)
  have hF : FC G M_L_law p room_1 s m #[Value.ref b] meth c := ⟨hx, hb, hml, hown, htw, fun h => absurd h (by decide), by decide, by decide, hfx⟩
  have hl := lv_entry ([.ref b]) (n := 4) (Nat.le_of_ble_eq_true rfl)
  rw [lg_entry_eq]
  generalize (lg_sl ([.ref b]) ++ List.replicate (4 - (lg_sl ([.ref b])).length) Slot.unset).toArray = ls at hl ⊢
  have hc0 : cnS SF ≤ 600000 := by decide +kernel
  have hs0 : slS SF ≤ 7302250 := by decide +kernel
  refine t_L_law I0 (some (vI 1)) J hJ (fun v hv => ?_) (fun v h => by cases h) (Nat.zero_le _) G p l e room_1 s m #[Value.ref b] below meth c (lw_Z below #[Value.ref b] s) 0 0 hF hc0 hs0 ?_ s.heap [] 0 0 ls ⟨fun k q h => by simp [wsG, cnS] at h, by subst hG; rfl, hxo⟩ va_S.rf rfl rfl ⟨⟨hl.1, hl.2.1, fun q hq => hl.2.2 q ?_⟩, rfl⟩
  · simp at hv
    subst hv
    exact Or.inr ⟨by decide, by decide, rfl⟩
  · intro H locs cells slots pc ls2 _ _ _ hS hc hz hd
    refine va_forget (fun q hq => ?_) ?_
    · have := hS.2.2 q hq
      subst hG
      exact this
    · refine W.widen (k := 600000) (n := 7302250) (by omega) (by omega) ?_
      exact lw_ret hx hb hr hlocks hd
  · subst hG
    exact hq
-- ===== YOUR PART ENDS =====
set_option maxHeartbeats 4000000 in
theorem lw_walk (l : Launch) (b : Addr) (xs : List Int32) : MetFree l x (headSpec (Jvm.Cond.code x code maxLocals ret :: tables_1) room_1) (lw_P b xs) (fun _ _ _ _ _ => True) lw_Q := by
  refine MetFree.of_bodyS (code := code) (maxLocals := maxLocals) (ret := ret) (by decide) ?_ ?_
  · intro args s m h hn
    obtain ⟨meth, c, h1, h2, h3, h4, h5, h6, -, -⟩ := Cond.code_spec hn (atoms_spec (ws := Jvm.Cond.code x code maxLocals ret :: tables_1) h _ List.mem_cons_self)
    exact ⟨meth, c, h1, h2, h3, h4, h5, h6⟩
  · intro p e s m args below meth c s₁ B hml0 hP _
    obtain ⟨rfl, hx, hbd, hgv⟩ := hP
    obtain ⟨scr, harrAt, hlist, hof, hsmall⟩ := hx
    obtain ⟨hcb, hkn, -, -⟩ := State.arrayAt?_spec harrAt
    have hown : s.vm.findClass R_law = some m.cls := findClass_of_methodNamed B.named
    have hts0 : ∀ c ∈ (Jvm.Cond.code x code maxLocals ret :: tables_1), c.before #[Value.ref b] s = true := atoms_spec (ws := Jvm.Cond.code x code maxLocals ret :: tables_1) B.pre
    have hts : ∀ w ∈ lw_tbl, w.before #[Value.ref b] s = true := k2_hts_sels lw_privs (fun w hw => hts0 w (List.mem_cons_of_mem _ hw)) lw_privs_ok
    have hml : c.maxLocals = 4 := B.maxLocals_eq (hts0 _ List.mem_cons_self)
    have X₀ : Stand p l e room_1 s m #[Value.ref b] below meth c s₁ [] 0 0 := Stand.of_body B
    have hh0 : s₁.heap = s.heap := by rw [B.state]; rfl
    have hsz : scr.slots.size = xs.length := by rw [← Array.length_toList, hlist, List.length_map]
    have hval : ∀ j : Nat, j < xs.length → scr.slots[j]? = some (.int (xs.getD j 0)) := fun j hj => by
      rw [← Array.getElem?_toList, hlist]
      simp [hj]
    have hbl : b < s.heap.size := (Array.getElem?_eq_some_iff.mp hcb).1
    have hX : va_X b xs.length (fun j => xs.getD j 0) s s.heap := ⟨scr, hcb, hof, hkn, hsz, hval⟩
    have K : W p l e room_1 s m #[Value.ref b] below meth c s₁.heap [] 0 0 (lw_Z below #[Value.ref b] s) (entryFrame m ([Value.ref b] : List Value).toArray 4) := by
      rw [hh0]
      exact whole_start l hbd ⟨B.exec, B.bytes, B.returns, hml, hown, hts, hX, hbl, B.notSynchronized, hgv⟩
    obtain ⟨t, a1, o, b1, b2, b3⟩ := K s₁ rfl X₀
    exact ⟨t, o, a1, b1, b2, b3⟩
theorem lw_pre_spec {args : Array Value} {s : State} (h : (Jvm.Cond.and given_1 narrow_1).before args s = true) (hr : rest_1_c.before args s = true) : ∃ (b : Addr) (xs : List Int32), lw_P b xs args s := by
  have hs := flat_of_before _ h
  have hq := flat_of_before _ hr
  have hc : (Cond.count 1).before args s = true := hs _ (by decide +kernel)
  have harr : (Cond.arrayOf (.arg 0) .int).before args s = true := hs _ (by decide +kernel)
  have hle : (Cond.le (.length (.arg 0)) (.int 3072)).before args s = true := hs _ (by decide +kernel)
  have hlen : (Cond.isInt (.length (.arg 0))).before args s = true := hq _ (by decide +kernel)
  have hall : (Cond.all (.arg 0) (.isInt (.elem (.arg 0) (.index 0)))).before args s = true := hq _ (by decide +kernel)
  obtain ⟨b, xs, hb, hx⟩ := State.ints_of_pre rfl harr hlen hall
  have hsm : xs.length < 2 ^ 31 := hx.choose_spec.2.2.2
  have hev : (Term.length (.arg 0)).eval args s none [] s = some (.int xs.length.toInt32) := hx.length_eval hb
  have hv := Cond.le_ints hev (show (Term.int 3072).eval args s none [] s = some (.int 3072) from rfl)
  have hd : xs.length.toInt32 ≤ 3072 := by
    simpa [Cond.before, Cond.holds, hv] using hle
  have hN : xs.length ≤ 3072 := (Int32.ofNat_le_ofNat hsm (by decide)).mp (show Int32.ofNat xs.length ≤ Int32.ofNat 3072 from hd)
  exact ⟨b, xs, Cond.one_arg hc (show args[0]? = some (.ref b) from hb), hx, hN, h⟩
theorem lw_comes (l : Launch) : Comes l x (Jvm.Cond.code x code maxLocals ret :: tables_1) room_1 (fun tb e args s => Calls_1 tb e args s ∧ rest_1 tb e args s ∧ Pre_1 tb e args s)
    (fun _ _ args s o t => lw_Q args s o t) := by
  intro p e ha hc hk s m args below hf hfit hheap happ hpre
  obtain ⟨b, xs, hP⟩ := lw_pre_spec hpre.2.2 hpre.2.1
  obtain ⟨k, o, h1, h2, h3, hQ⟩ := lw_walk l b xs p e ha hc hk s m args below hf ((Spec.applies_iff_loose hf).mp happ).1 hP trivial
  exact ⟨k, o, h1, h2, h3, hQ⟩
theorem lw_frame {s t : State} {o : Outcome} {args : Array Value} (h : Framed s o t [] 600000 7302250) :
    Framed s o t (fieldLocs frame_1_writes args s ++ arrayLocs frame_1_arrays args s ++ staticLocs frame_1_statics s) 600000 7302250 := h
theorem lw_limb (L : Cond) (hL : ∀ (args : Array Value) (s t : State), L.after args s (.returned (some (.int 1))) t = true) :
    ArmFor flags0 classFile x code maxLocals ret World_1 tables_1 room_1 Calls_1 rest_1 Pre_1
      (fun tb e a s o t => postC L tb e a s o t ∧ Framed s o t (fieldLocs frame_1_writes a s ++ arrayLocs frame_1_arrays a s ++ staticLocs frame_1_statics s) 600000 7302250) := by
  intro l _ _ _ p e ha hc hk s m args below hf hfit hheap happ hpre
  obtain ⟨k, o, h1, h2, h3, rfl, hF⟩ := lw_comes l p e ha hc hk s m args below hf hfit hheap happ hpre
  exact ⟨k, _, h1, h2, h3, hL args s _, lw_frame hF⟩
theorem i_vc : Claimed_1_1 ∧ Claimed_1_2 := ⟨lw_limb limb_1_1 (fun args s t => by simp [limb_1_1, Cond.after, Cond.holds, Cond.value]), lw_limb limb_1_2 (fun args s t => Cond.after_iff.mpr (by
  first | (rw [show limb_1_2 = Cond.eq .result (.int 1) from rfl, Cond.eq_ints (x := 1) (y := 1) rfl rfl]; simp; done) | (simp [limb_1_2, Cond.value, Term.eval]; done)))⟩

