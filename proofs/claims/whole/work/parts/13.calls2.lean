theorem FX_call {G : GX} {s0 U : State} {H : Heap} {locs : List Loc} (h : FX G s0) (hS : va_S (gA G) s0.heap H locs) (hU : U.heap = H) (hW : s0.WarmedH U.vm) : FX G U := by
  obtain ⟨h1, ⟨h2, h3, h4⟩, ⟨h5, h6⟩, ⟨h7, h8⟩, h9, h10, h11, h12⟩ := h
  have hA := hW.alike
  have ho : ∀ a : Nat, a < s0.heap.size → ¬ gA G a → U.heap[a]? = s0.heap[a]? := by rw [hU]; exact hS.2.1
  exact ⟨va_K.moved hA h1, ⟨(h2.moved hA).kept (ho _ (Nat.lt_of_lt_of_le h3 h9) (Nat.not_le.mpr h3)), h3, h4⟩, ⟨(h5.moved hA).kept ho, (h6.moved hA).kept ho⟩, ⟨(h7.moved hA).kept ho, (h8.moved hA).kept ho⟩, by rw [hU]; exact Nat.le_trans h9 hS.1, nw_warm hW h10, h11.moved hA, h12.moved hA⟩
theorem FX_blind {G : GX} {U : State} {g : JFrame} {mk : MethodId} {a : Array Value} (h : FX G U) : FX G (U.calling g mk a) := by
  obtain ⟨h1, ⟨h2, h3, h4⟩, ⟨h5, h6⟩, ⟨h7, h8⟩, h9, h10, h11, h12⟩ := h
  have hA : U.vm.Alike (U.calling g mk a).vm := Vm.Alike.refl U.vm
  exact ⟨va_K.moved hA h1, ⟨h2.moved hA, h3, h4⟩, ⟨h5.moved hA, h6.moved hA⟩, ⟨h7.moved hA, h8.moved hA⟩, h9, nw_same (s := U) (U := U.calling g mk a) rfl h10, h11.moved hA, h12.moved hA⟩
theorem PcR_blind {G : GX} {as : List PV} {s : Nat} {I : Mem} : FrameBlind (PcR G as s I) := fun _ _ _ _ q => ⟨q.1, q.2.1, FX_blind q.2.2⟩
/-- how many words stand below a call's arguments -/
def stw : List PV → Nat
  | [] => 0
  | .inr (.inl _) :: t => stw t + 2
  | _ :: t => stw t + 1
theorem stw_eq {G : GX} : ∀ st : List PV, ((st.map (tvv G)).map fun v => v.category).sum = stw st
  | [] => rfl
  | v :: t => by
    have := stw_eq (G := G) t
    rw [List.map_cons, List.map_cons, List.sum_cons, this]
    rcases v with x | x | ⟨g, i⟩ <;> exact Nat.add_comm _ _
def roomOk (N M : MD) : Bool := Nat.ble (N.2.2.2.2.2.1 + 1) M.2.2.2.2.2.1 && Nat.ble (8 + (N.2.2.2.1 + 11) + N.2.2.2.2.2.2) M.2.2.2.2.2.2
section CALL
variable {M : MD} {s1 s2 s' pc : Nat} {L : LC} {I : Mem}
/-- behind a call -/
theorem rr_back {p : Program} {l : Launch} {e : Env} {R : Room} {s0 : State} {mid : MethodId} {args : Array Value} {below : List Frame} {meth : Method} {c : Code} {Q : State → Prop} {G : GX} {H : Heap} {locs : List Loc} {cells slots mc ms : Nat} {ls : Array Slot} {st0 rest : List Value} {a : Array Value} {r : Option PV} {J : Mem}
    (hr : va_Run p l e R s0 mid args below meth c H locs cells slots mc ms (F0 mid pc ls st0) rest (QcR G r s2 J a) (gA G)) (hS : va_S (gA G) s0.heap H locs)
    (kk : ∀ (H1 : Heap) (locs1 : List Loc), (∀ v, r = some v → pok s2 v) → HW G s2 J H1 → va_S (gA G) s0.heap H1 locs1 → W p l e R s0 mid args below meth c H1 locs1 (cells + mc) (slots + ms) Q (F0 mid (pc + 3) ls ((r.map (tvv G)).toList ++ rest))) : W p l e R s0 mid args below meth c H locs cells slots Q (F0 mid pc ls st0) := by
  intro T hT X
  obtain ⟨v, st₀, t, T', L2, h0, X', hL, e1, e2, ⟨hv, hH, ⟨hz, hk⟩, hpk⟩, st⟩ := hr T hT X
  cases hv
  rw [h0] at hz hk
  obtain ⟨t2, a1, b1⟩ := kk T'.heap (locs ++ L2) hpk (by rw [e1]; exact hH)
    ⟨Nat.le_trans hS.1 (by rw [e1]; exact hz), fun q h1 h2 => by rw [e1, hk q (Nat.lt_of_lt_of_le h1 hS.1) h2]; exact hS.2.1 q h1 h2, fun q hq => by
      rcases List.mem_append.mp hq with h | h
      · exact hS.2.2 q h
      · exact hL q h⟩ T' rfl X'
  exact ⟨t2, st t2 a1, b1⟩
theorem roomOk_at {N : MD} {R : Room} (h : roomOk N M = true) (h1 : M.2.2.2.2.2.1 ≤ R.frames) (h2 : M.2.2.2.2.2.2 ≤ R.locals) : (rmM N s1 s2).frames + 1 ≤ R.frames ∧ 8 + (N.2.2.2.1 + 11) + (rmM N s1 s2).locals ≤ R.locals := by
  simp only [roomOk, Bool.and_eq_true, Nat.ble_eq] at h
  exact ⟨Nat.le_trans h.1 h1, Nat.le_trans h.2 h2⟩
theorem tvs {G : GX} {r : Option PV} {rest : List PV} : ((r.map (tvv G)).toList ++ rest.map (tvv G)) = (r.toList ++ rest).map (tvv G) := by cases r <;> rfl
/-- a call of an object's method -/
theorem rr_callV {st : List PV} {K : Option PV → Mem → Option (Option PV × Mem)} {XN : Option (Option PV × Mem)} (N : MD) (g i : Nat) (as rest : List PV) (idx : Nat) (hd : decode M.2.2.1 pc = .ok (.invokevirtual idx, 3)) (hlk : Cond.methodLink (onm M.1) idx N.2.1 ∈ wAll) (hm : mOk N 0 as.length) (hroom : roomOk N M = true) (hck : (Nat.ble (stw rest) 8 && (isObj g N.1 && ((vR g i :: as).all (fun v => !is2 (some (some v))) && Nat.ble (as.length + 1) N.2.2.2.1))) = true) (hst0 : st = as.reverse ++ vR g i :: rest) (h12 : s1 ≤ s2) (h2s : s2 ≤ s')
    (hN : RR N s1 s2 0 (ent N (vR g i :: as)) [] I XN) (k : ∀ r J, XN = some (r, J) → RR M s2 s' (pc + 3) L (r.toList ++ rest) J (K r J)) : RR M s1 s' pc L st I (XN.bind (fun q => K q.1 q.2)) := by
  intro r I' hX hL hst hss G p l e R s0 mid args below meth c Q c0 z0 hF hc hz hQ H locs cells slots ls hH hS h1 h2 hl
  subst hst0
  simp only [Bool.and_eq_true, Nat.ble_eq] at hck
  obtain ⟨w1, w2, w3, w4⟩ := hck
  obtain ⟨⟨rv, J⟩, e1, e2⟩ := Option.bind_eq_some_iff.mp hX
  have hsk := isObj_at w2
  have hlt := skd_lt hsk
  have hsas : sok s1 (vR g i :: as) := by
    intro v hv
    rcases List.mem_cons.mp hv with q | q
    · exact hst v (List.mem_append_right _ (List.mem_cons.mpr (Or.inl q)))
    · exact hst v (List.mem_append_left _ (List.mem_reverse.mpr q))
  have hrest : sok s1 rest := fun v hv => hst v (List.mem_append_right _ (List.mem_cons_of_mem _ hv))
  have hM := met_RR hN e1 hm w4 w3 hsas h12 l G
  have hmm := hm
  obtain ⟨m1, m2, m3, m4, m5, m6, m7, m8, m9, m10⟩ := hmm
  have hts := hF.2.2.2.2.1
  obtain ⟨q1, q2⟩ := rok_at (sok_h hsas) hlt
  have hws := wsG_get (G := G) (I := I) q1 q2
  rw [cG_obj hsk] at hws
  have hxc : xcl[N.1]? = some (xcl.getD N.1 ("", TX0, 0)) := by
    rw [List.getD_eq_getElem?_getD, List.getElem?_eq_getElem (show N.1 < xcl.length from m10.2)]; rfl
  have hrec := va_recv (FC_fx hF).1 hH.1 hxc hws
  rw [m10.1] at hrec
  have hgood : GoodIn wAll (wsV (onm M.1) idx N.2.1.cls N.2.1 (wsM N)) := by
    intro w hw
    have hin : w ∈ wAll := by
      unfold wsV at hw
      rcases List.mem_append.mp hw with q | q
      · simp only [List.mem_cons, List.not_mem_nil, or_false] at q
        rcases q with rfl | rfl | rfl | rfl
        · exact hlk
        · exact m8
        · exact m9
        · exact m2
      · rcases List.mem_cons.mp q with rfl | q
        · exact m1
        · exact q
    exact goodIn_all w hin
  have hcn1 := cnS_le h12
  have hcn2 := cnS_le h2s
  have hsn1 := slS_le h12
  have hsn2 := slS_le h2s
  show W p l e R s0 mid args below meth c H locs cells slots Q (F0 mid pc ls ((as.reverse ++ vR g i :: rest).map (tvv G)))
  have hrun := va_runV (l := l) (e := e) (below := below) (meth := meth) (locs := locs) (cells := cells) (slots := slots) (C := N.2.1.cls) (b := G.1 + pos g i) (H := H) (As := as.map (tvv G)) (rest := rest.map (tvv G)) (g := F0 mid pc ls ((as.reverse ++ vR g i :: rest).map (tvv G))) (R := R) (own := onm M.1) (index := idx) ⟨hF.1, hF.2.1, hF.2.2.1, hF.2.2.2.1, hts⟩ hM (cwV as.length hts hgood rfl rfl rfl ⟨rfl, m5, m6, m7⟩ (roomOk_at hroom hF.2.2.2.2.2.2.1 hF.2.2.2.2.2.2.2.1)) ⟨PcR_blind, hrec, fun U hU hW => ⟨by rw [← ada_lt (G := G) (i := i) hlt]; rfl, by rw [hU]; exact hH, FX_call (FC_fx hF) hS hU hW⟩⟩ rfl (by rw [List.length_map]) hl.1.1 (by show (as.reverse ++ vR g i :: rest).map (tvv G) = _; rw [List.map_append, List.map_reverse, List.map_cons, ← ada_lt (G := G) (i := i) hlt]; rfl) (lv_room (by rw [stw_eq]; exact w1)) hd ⟨by omega, by omega⟩
  refine rr_back hrun hS (fun H1 locs1 hpk hH1 hS1 => ?_)
  rw [tvs]
  exact k rv J e1 r I' e2 (lok_le h12 hL) (fun v hv => by
    rcases List.mem_append.mp hv with q | q
    · exact hpk v (by simpa using q)
    · exact pok_le h12 (hrest v q)) h2s G p l e R s0 mid args below meth c Q c0 z0 hF hc hz hQ H1 locs1 _ _ ls hH1 hS1 (by omega) (by omega) hl
/-- a call of a static method -/
theorem rr_callS {st : List PV} {K : Option PV → Mem → Option (Option PV × Mem)} {XN : Option (Option PV × Mem)} (N : MD) (as rest : List PV) (idx : Nat) (hd : decode M.2.2.1 pc = .ok (.invokestatic idx, 3)) (hlk : Cond.methodLink (onm M.1) idx N.2.1 ∈ wAll) (hm : mOk N 1 as.length) (hroom : roomOk N M = true) (hck : (Nat.ble (stw rest) 8 && (as.all (fun v => !is2 (some (some v))) && Nat.ble as.length N.2.2.2.1)) = true) (hst0 : st = as.reverse ++ rest) (h12 : s1 ≤ s2) (h2s : s2 ≤ s')
    (hN : RR N s1 s2 0 (ent N as) [] I XN) (k : ∀ r J, XN = some (r, J) → RR M s2 s' (pc + 3) L (r.toList ++ rest) J (K r J)) : RR M s1 s' pc L st I (XN.bind (fun q => K q.1 q.2)) := by
  intro r I' hX hL hst hss G p l e R s0 mid args below meth c Q c0 z0 hF hc hz hQ H locs cells slots ls hH hS h1 h2 hl
  subst hst0
  simp only [Bool.and_eq_true, Nat.ble_eq] at hck
  obtain ⟨w1, w3, w4⟩ := hck
  obtain ⟨⟨rv, J⟩, e1, e2⟩ := Option.bind_eq_some_iff.mp hX
  have hsas : sok s1 as := fun v hv => hst v (List.mem_append_left _ (List.mem_reverse.mpr hv))
  have hrest : sok s1 rest := fun v hv => hst v (List.mem_append_right _ hv)
  have hM := met_RR hN e1 hm w4 w3 hsas h12 l G
  have hmm := hm
  obtain ⟨m1, m2, m3, m4, m5, m6, m7, m8⟩ := hmm
  have hts := hF.2.2.2.2.1
  have hgood : GoodIn wAll (va_wsS (onm M.1) idx N.2.1 (wsM N)) := by
    intro w hw
    have hin : w ∈ wAll := by
      unfold va_wsS at hw
      rcases List.mem_append.mp hw with q | q
      · simp only [List.mem_cons, List.not_mem_nil, or_false] at q
        rcases q with rfl | rfl | rfl
        · exact hlk
        · exact m8
        · exact m2
      · rcases List.mem_cons.mp q with rfl | q
        · exact m1
        · exact q
    exact goodIn_all w hin
  have hcn1 := cnS_le h12
  have hcn2 := cnS_le h2s
  have hsn1 := slS_le h12
  have hsn2 := slS_le h2s
  show W p l e R s0 mid args below meth c H locs cells slots Q (F0 mid pc ls ((as.reverse ++ rest).map (tvv G)))
  have hrun := va_runS (l := l) (e := e) (below := below) (meth := meth) (locs := locs) (cells := cells) (slots := slots) (H := H) (As := as.map (tvv G)) (rest := rest.map (tvv G)) (g := F0 mid pc ls ((as.reverse ++ rest).map (tvv G))) (R := R) (own := onm M.1) (index := idx) ⟨hF.1, hF.2.1, hF.2.2.1, hF.2.2.2.1, hts⟩ hM (va_cwS as.length hts hgood rfl rfl rfl ⟨m5, m6, m7⟩ (roomOk_at hroom hF.2.2.2.2.2.2.1 hF.2.2.2.2.2.2.2.1)) ⟨PcR_blind, fun U hU hW => ⟨rfl, by rw [hU]; exact hH, FX_call (FC_fx hF) hS hU hW⟩⟩ rfl (by rw [List.length_map]) hl.1.1 (by show (as.reverse ++ rest).map (tvv G) = _; rw [List.map_append, List.map_reverse]) (lv_room (by rw [stw_eq]; exact w1)) hd ⟨by omega, by omega⟩
  refine rr_back hrun hS (fun H1 locs1 hpk hH1 hS1 => ?_)
  rw [tvs]
  exact k rv J e1 r I' e2 (lok_le h12 hL) (fun v hv => by
    rcases List.mem_append.mp hv with q | q
    · exact hpk v (by simpa using q)
    · exact pok_le h12 (hrest v q)) h2s G p l e R s0 mid args below meth c Q c0 z0 hF hc hz hQ H1 locs1 _ _ ls hH1 hS1 (by omega) (by omega) hl
/-- a call of a static method of a nest mate -/
theorem rr_callSN {st : List PV} {K : Option PV → Mem → Option (Option PV × Mem)} {XN : Option (Option PV × Mem)} (N : MD) (as rest : List PV) (idx : Nat) (hd : decode M.2.2.1 pc = .ok (.invokestatic idx, 3)) (host : String) (hlk : Cond.methodLinkNest (onm M.1) idx N.2.1 host ∈ nwW) (hm : mOk N 1 as.length) (hroom : roomOk N M = true) (hck : (Nat.ble (stw rest) 8 && (as.all (fun v => !is2 (some (some v))) && Nat.ble as.length N.2.2.2.1)) = true) (hst0 : st = as.reverse ++ rest) (h12 : s1 ≤ s2) (h2s : s2 ≤ s')
    (hN : RR N s1 s2 0 (ent N as) [] I XN) (k : ∀ r J, XN = some (r, J) → RR M s2 s' (pc + 3) L (r.toList ++ rest) J (K r J)) : RR M s1 s' pc L st I (XN.bind (fun q => K q.1 q.2)) := by
  intro r I' hX hL hst hss G p l e R s0 mid args below meth c Q c0 z0 hF hc hz hQ H locs cells slots ls hH hS h1 h2 hl
  subst hst0
  simp only [Bool.and_eq_true, Nat.ble_eq] at hck
  obtain ⟨w1, w3, w4⟩ := hck
  obtain ⟨⟨rv, J⟩, e1, e2⟩ := Option.bind_eq_some_iff.mp hX
  have hsas : sok s1 as := fun v hv => hst v (List.mem_append_left _ (List.mem_reverse.mpr hv))
  have hrest : sok s1 rest := fun v hv => hst v (List.mem_append_right _ hv)
  have hM := met_RR hN e1 hm w4 w3 hsas h12 l G
  have hmm := hm
  obtain ⟨m1, m2, m3, m4, m5, m6, m7, m8⟩ := hmm
  have hts := hF.2.2.2.2.1
  have hgood : GoodIn wAll (wsM N) := by
    intro w hw
    have hin : w ∈ wAll := by
      rcases List.mem_cons.mp hw with rfl | q
      · exact m1
      · exact q
    exact goodIn_all w hin
  have hcn1 := cnS_le h12
  have hcn2 := cnS_le h2s
  have hsn1 := slS_le h12
  have hsn2 := slS_le h2s
  show W p l e R s0 mid args below meth c H locs cells slots Q (F0 mid pc ls ((as.reverse ++ rest).map (tvv G)))
  have hrun := va_runSN (l := l) (e := e) (below := below) (meth := meth) (locs := locs) (cells := cells) (slots := slots) (H := H) (As := as.map (tvv G)) (rest := rest.map (tvv G)) (g := F0 mid pc ls ((as.reverse ++ rest).map (tvv G))) (R := R) (own := onm M.1) (index := idx) ⟨hF.1, hF.2.1, hF.2.2.1, hF.2.2.2.1, hts⟩ hM ⟨va_cnB as.length hts hgood rfl rfl rfl ((FC_fx hF).2.2.2.2.2.1 _ hlk) (hts _ m2) ⟨m5, m6, m7⟩ (roomOk_at hroom hF.2.2.2.2.2.2.1 hF.2.2.2.2.2.2.2.1), hts _ m8, trivial⟩ ⟨PcR_blind, fun U hU hW => ⟨rfl, by rw [hU]; exact hH, FX_call (FC_fx hF) hS hU hW⟩⟩ rfl (by rw [List.length_map]) hl.1.1 (by show (as.reverse ++ rest).map (tvv G) = _; rw [List.map_append, List.map_reverse]) (lv_room (by rw [stw_eq]; exact w1)) hd ⟨by omega, by omega⟩
  refine rr_back hrun hS (fun H1 locs1 hpk hH1 hS1 => ?_)
  rw [tvs]
  exact k rv J e1 r I' e2 (lok_le h12 hL) (fun v hv => by
    rcases List.mem_append.mp hv with q | q
    · exact hpk v (by simpa using q)
    · exact pok_le h12 (hrest v q)) h2s G p l e R s0 mid args below meth c Q c0 z0 hF hc hz hQ H1 locs1 _ _ ls hH1 hS1 (by omega) (by omega) hl
/-- a call of a constructor -/
theorem rr_callI {st : List PV} {K : Option PV → Mem → Option (Option PV × Mem)} {XN : Option (Option PV × Mem)} (N : MD) (g i : Nat) (as rest : List PV) (idx : Nat) (hd : decode M.2.2.1 pc = .ok (.invokespecial idx, 3)) (hlk : Cond.methodLink (onm M.1) idx N.2.1 ∈ wAll) (hm : mOk N 2 as.length) (hroom : roomOk N M = true) (hck : (Nat.ble (stw rest) 8 && (isObj g N.1 && ((vR g i :: as).all (fun v => !is2 (some (some v))) && Nat.ble (as.length + 1) N.2.2.2.1))) = true) (hst0 : st = as.reverse ++ vR g i :: rest) (h12 : s1 ≤ s2) (h2s : s2 ≤ s')
    (hN : RR N s1 s2 0 (ent N (vR g i :: as)) [] I XN) (k : ∀ r J, XN = some (r, J) → RR M s2 s' (pc + 3) L (r.toList ++ rest) J (K r J)) : RR M s1 s' pc L st I (XN.bind (fun q => K q.1 q.2)) := by
  intro r I' hX hL hst hss G p l e R s0 mid args below meth c Q c0 z0 hF hc hz hQ H locs cells slots ls hH hS h1 h2 hl
  subst hst0
  simp only [Bool.and_eq_true, Nat.ble_eq] at hck
  obtain ⟨w1, w2, w3, w4⟩ := hck
  obtain ⟨⟨rv, J⟩, e1, e2⟩ := Option.bind_eq_some_iff.mp hX
  have hsk := isObj_at w2
  have hlt := skd_lt hsk
  have hsas : sok s1 (vR g i :: as) := by
    intro v hv
    rcases List.mem_cons.mp hv with q | q
    · exact hst v (List.mem_append_right _ (List.mem_cons.mpr (Or.inl q)))
    · exact hst v (List.mem_append_left _ (List.mem_reverse.mpr q))
  have hrest : sok s1 rest := fun v hv => hst v (List.mem_append_right _ (List.mem_cons_of_mem _ hv))
  have hM := met_RR hN e1 hm w4 w3 hsas h12 l G
  have hmm := hm
  obtain ⟨m1, m2, m3, m4, m5, m6, m7, m8, m9, m10⟩ := hmm
  have hts := hF.2.2.2.2.1
  have hgood : GoodIn wAll (wsM N) := by
    intro w hw
    have hin : w ∈ wAll := by
      rcases List.mem_cons.mp hw with rfl | q
      · exact m1
      · exact q
    exact goodIn_all w hin
  have hw10 : wsM N = Cond.code N.2.1 N.2.2.1 N.2.2.2.1 none :: wAll := by rw [← m10]
  have hcn1 := cnS_le h12
  have hcn2 := cnS_le h2s
  have hsn1 := slS_le h12
  have hsn2 := slS_le h2s
  show W p l e R s0 mid args below meth c H locs cells slots Q (F0 mid pc ls ((as.reverse ++ vR g i :: rest).map (tvv G)))
  have hrun := va_runI (l := l) (e := e) (below := below) (meth := meth) (locs := locs) (cells := cells) (slots := slots) (b := G.1 + pos g i) (H := H) (As := as.map (tvv G)) (rest := rest.map (tvv G)) (g := F0 mid pc ls ((as.reverse ++ vR g i :: rest).map (tvv G))) (R := R) (own := onm M.1) (index := idx) ⟨hF.1, hF.2.1, hF.2.2.1, hF.2.2.2.1, hts⟩ hM (cwI as.length hts hgood hw10 rfl rfl (hts _ m2) (hts _ hlk) (hts _ m8) m9 ⟨m5, m6, m7⟩ (roomOk_at hroom hF.2.2.2.2.2.2.1 hF.2.2.2.2.2.2.2.1)) ⟨PcR_blind, fun U hU hW => ⟨by rw [← ada_lt (G := G) (i := i) hlt]; rfl, by rw [hU]; exact hH, FX_call (FC_fx hF) hS hU hW⟩⟩ rfl (by rw [List.length_map]) hl.1.1 (by show (as.reverse ++ vR g i :: rest).map (tvv G) = _; rw [List.map_append, List.map_reverse, List.map_cons, ← ada_lt (G := G) (i := i) hlt]; rfl) (lv_room (by rw [stw_eq]; exact w1)) hd ⟨by omega, by omega⟩
  refine rr_back hrun hS (fun H1 locs1 hpk hH1 hS1 => ?_)
  rw [tvs]
  exact k rv J e1 r I' e2 (lok_le h12 hL) (fun v hv => by
    rcases List.mem_append.mp hv with q | q
    · exact hpk v (by simpa using q)
    · exact pok_le h12 (hrest v q)) h2s G p l e R s0 mid args below meth c Q c0 z0 hF hc hz hQ H1 locs1 _ _ ls hH1 hS1 (by omega) (by omega) hl
/-- a call of a constructor of a nest mate -/
theorem rr_callIN {st : List PV} {K : Option PV → Mem → Option (Option PV × Mem)} {XN : Option (Option PV × Mem)} (N : MD) (g i : Nat) (as rest : List PV) (idx : Nat) (hd : decode M.2.2.1 pc = .ok (.invokespecial idx, 3)) (host : String) (hlk : Cond.methodLinkNest (onm M.1) idx N.2.1 host ∈ nwW) (hm : mOk N 2 as.length) (hroom : roomOk N M = true) (hck : (Nat.ble (stw rest) 8 && (isObj g N.1 && ((vR g i :: as).all (fun v => !is2 (some (some v))) && Nat.ble (as.length + 1) N.2.2.2.1))) = true) (hst0 : st = as.reverse ++ vR g i :: rest) (h12 : s1 ≤ s2) (h2s : s2 ≤ s')
    (hN : RR N s1 s2 0 (ent N (vR g i :: as)) [] I XN) (k : ∀ r J, XN = some (r, J) → RR M s2 s' (pc + 3) L (r.toList ++ rest) J (K r J)) : RR M s1 s' pc L st I (XN.bind (fun q => K q.1 q.2)) := by
  intro r I' hX hL hst hss G p l e R s0 mid args below meth c Q c0 z0 hF hc hz hQ H locs cells slots ls hH hS h1 h2 hl
  subst hst0
  simp only [Bool.and_eq_true, Nat.ble_eq] at hck
  obtain ⟨w1, w2, w3, w4⟩ := hck
  obtain ⟨⟨rv, J⟩, e1, e2⟩ := Option.bind_eq_some_iff.mp hX
  have hsk := isObj_at w2
  have hlt := skd_lt hsk
  have hsas : sok s1 (vR g i :: as) := by
    intro v hv
    rcases List.mem_cons.mp hv with q | q
    · exact hst v (List.mem_append_right _ (List.mem_cons.mpr (Or.inl q)))
    · exact hst v (List.mem_append_left _ (List.mem_reverse.mpr q))
  have hrest : sok s1 rest := fun v hv => hst v (List.mem_append_right _ (List.mem_cons_of_mem _ hv))
  have hM := met_RR hN e1 hm w4 w3 hsas h12 l G
  have hmm := hm
  obtain ⟨m1, m2, m3, m4, m5, m6, m7, m8, m9, m10⟩ := hmm
  have hts := hF.2.2.2.2.1
  have hgood : GoodIn wAll (wsM N) := by
    intro w hw
    have hin : w ∈ wAll := by
      rcases List.mem_cons.mp hw with rfl | q
      · exact m1
      · exact q
    exact goodIn_all w hin
  have hw10 : wsM N = Cond.code N.2.1 N.2.2.1 N.2.2.2.1 none :: wAll := by rw [← m10]
  have hcn1 := cnS_le h12
  have hcn2 := cnS_le h2s
  have hsn1 := slS_le h12
  have hsn2 := slS_le h2s
  show W p l e R s0 mid args below meth c H locs cells slots Q (F0 mid pc ls ((as.reverse ++ vR g i :: rest).map (tvv G)))
  have hrun := va_runIN (l := l) (e := e) (below := below) (meth := meth) (locs := locs) (cells := cells) (slots := slots) (b := G.1 + pos g i) (H := H) (As := as.map (tvv G)) (rest := rest.map (tvv G)) (g := F0 mid pc ls ((as.reverse ++ vR g i :: rest).map (tvv G))) (R := R) (own := onm M.1) (index := idx) ⟨hF.1, hF.2.1, hF.2.2.1, hF.2.2.2.1, hts⟩ hM ⟨va_cnB as.length hts hgood hw10 rfl rfl ((FC_fx hF).2.2.2.2.2.1 _ hlk) (hts _ m2) ⟨m5, m6, m7⟩ (roomOk_at hroom hF.2.2.2.2.2.2.1 hF.2.2.2.2.2.2.2.1), m9, hts _ m8⟩ ⟨PcR_blind, fun U hU hW => ⟨by rw [← ada_lt (G := G) (i := i) hlt]; rfl, by rw [hU]; exact hH, FX_call (FC_fx hF) hS hU hW⟩⟩ rfl (by rw [List.length_map]) hl.1.1 (by show (as.reverse ++ vR g i :: rest).map (tvv G) = _; rw [List.map_append, List.map_reverse, List.map_cons, ← ada_lt (G := G) (i := i) hlt]; rfl) (lv_room (by rw [stw_eq]; exact w1)) hd ⟨by omega, by omega⟩
  refine rr_back hrun hS (fun H1 locs1 hpk hH1 hS1 => ?_)
  rw [tvs]
  exact k rv J e1 r I' e2 (lok_le h12 hL) (fun v hv => by
    rcases List.mem_append.mp hv with q | q
    · exact hpk v (by simpa using q)
    · exact pok_le h12 (hrest v q)) h2s G p l e R s0 mid args below meth c Q c0 z0 hF hc hz hQ H1 locs1 _ _ ls hH1 hS1 (by omega) (by omega) hl
end CALL
