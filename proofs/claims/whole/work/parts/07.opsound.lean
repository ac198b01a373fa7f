/-! ===== each instruction of a row is the machine's ===== -/
theorem ok_d {M : MD} {pc : Nat} {o : PO} (h : okOp M pc o = true) : decode M.2.2.1 pc = .ok (opI pc o) ∧ opOk M.1 o = true := by
  simpa only [okOp, Bool.and_eq_true, decide_eq_true_eq] using h
theorem rr_pure {M : MD} {s s' pc pc' : Nat} {L : LC} {st st' : List PV} {I : Mem} {X : Option (Option PV × Mem)} (hsk : lok s L → sok s st → sok s st')
    (hw : ∀ (G : GX) (p : Program) (l : Launch) (e : Env) (R : Room) (s0 : State) (mid : MethodId) (args : Array Value) (below : List Frame) (meth : Method) (c : Code) (Q : State → Prop) (H : Heap) (locs : List Loc) (cells slots : Nat) (ls : Array Slot),
      FC G M p R s0 mid args meth c → LV G M L ls → HW G s I H → va_S (gA G) s0.heap H locs → lok s L → sok s st →
      W p l e R s0 mid args below meth c H locs cells slots Q (F0 mid pc' ls (st'.map (tvv G))) → W p l e R s0 mid args below meth c H locs cells slots Q (F0 mid pc ls (st.map (tvv G))))
    (k : RR M s s' pc' L st' I X) : RR M s s' pc L st I X := by
  intro r I' hX hL hst hss G p l e R s0 mid args below meth c Q c0 z0 hF hc hz hQ H locs cells slots ls hH hS h1 h2 hl
  exact hw G p l e R s0 mid args below meth c Q H locs cells slots ls hF hl hH hS hL hst (k r I' hX hL (hsk hL hst) hss G p l e R s0 mid args below meth c Q c0 z0 hF hc hz hQ H locs cells slots ls hH hS h1 h2 hl)
theorem rr_loc {M : MD} {s s' pc pc' : Nat} {L L' : LC} {st st' : List PV} {I : Mem} {X : Option (Option PV × Mem)} (hsk : lok s L → sok s st → lok s L' ∧ sok s st')
    (hw : ∀ (G : GX) (p : Program) (l : Launch) (e : Env) (R : Room) (s0 : State) (mid : MethodId) (args : Array Value) (below : List Frame) (meth : Method) (c : Code) (Q : State → Prop) (H : Heap) (locs : List Loc) (cells slots : Nat) (ls : Array Slot),
      FC G M p R s0 mid args meth c → LV G M L ls →
      (∀ ls', LV G M L' ls' → W p l e R s0 mid args below meth c H locs cells slots Q (F0 mid pc' ls' (st'.map (tvv G)))) → W p l e R s0 mid args below meth c H locs cells slots Q (F0 mid pc ls (st.map (tvv G))))
    (k : RR M s s' pc' L' st' I X) : RR M s s' pc L st I X := by
  intro r I' hX hL hst hss G p l e R s0 mid args below meth c Q c0 z0 hF hc hz hQ H locs cells slots ls hH hS h1 h2 hl
  exact hw G p l e R s0 mid args below meth c Q H locs cells slots ls hF hl (fun ls' hl' => k r I' hX (hsk hL hst).1 (hsk hL hst).2 hss G p l e R s0 mid args below meth c Q c0 z0 hF hc hz hQ H locs cells slots ls' hH hS h1 h2 hl')
theorem sok_i {s : Nat} {x : Int32} {st : List PV} (h : sok s st) : sok s (vI x :: st) := sok_c (v := vI x) trivial h
theorem sok_l {s : Nat} {x : Int64} {st : List PV} (h : sok s st) : sok s (vL x :: st) := sok_c (v := vL x) trivial h
section OPS
variable {M : MD} {s s' pc : Nat} {L : LC} {st : List PV} {I : Mem} {X : Option (Option PV × Mem)} {a b cx : Nat} {z : Int32}
theorem op_0_0 (hok : okOp M pc (0, 0, b, cx, z) = true) (k : RR M s s' (pc + 1) L (vI z :: st) I X) : RR M s s' pc L st I X := by
  obtain ⟨hd, ho⟩ := ok_d hok
  refine rr_pure (fun _ h => sok_i h) (fun G p l e R s0 mid args below meth c Q H locs cells slots ls hF hl hH hS hL hst kk => ?_) k
  exact lv_iconst hF.1 hF.2.1 (n := z.toInt) (v := z) hd (by simpa [opOk] using ho) kk
theorem op_0_1 (hok : okOp M pc (0, 1, b, cx, z) = true) (k : RR M s s' (pc + 2) L (vI z :: st) I X) : RR M s s' pc L st I X := by
  obtain ⟨hd, ho⟩ := ok_d hok
  refine rr_pure (fun _ h => sok_i h) (fun G p l e R s0 mid args below meth c Q H locs cells slots ls hF hl hH hS hL hst kk => ?_) k
  exact lv_bipush hF.1 hF.2.1 (n := z.toInt) (v := z) hd (by simpa [opOk] using ho) kk
theorem op_0_2 (hok : okOp M pc (0, 2, b, cx, z) = true) (k : RR M s s' (pc + 3) L (vI z :: st) I X) : RR M s s' pc L st I X := by
  obtain ⟨hd, ho⟩ := ok_d hok
  refine rr_pure (fun _ h => sok_i h) (fun G p l e R s0 mid args below meth c Q H locs cells slots ls hF hl hH hS hL hst kk => ?_) k
  exact lv_sipush hF.1 hF.2.1 (n := z.toInt) (v := z) hd (by simpa [opOk] using ho) kk
theorem cst_ok {own : Nat} (h : cstT.contains (own, cx, z) = true) : Cond.constant (onm own) cx z ∈ wAll := cst_in (own, cx, z) (by simpa using h)
theorem op_0_3 (hok : okOp M pc (0, 3, b, cx, z) = true) (k : RR M s s' (pc + 2) L (vI z :: st) I X) : RR M s s' pc L st I X := by
  obtain ⟨hd, ho⟩ := ok_d hok
  refine rr_pure (fun _ h => sok_i h) (fun G p l e R s0 mid args below meth c Q H locs cells slots ls hF hl hH hS hL hst kk => ?_) k
  exact lv_ldc hF.1 hF.2.1 hF.2.2.2.1 (hF.2.2.2.2.1 _ (cst_ok ho)) hd kk
theorem op_0_4 (hok : okOp M pc (0, a + 4, b, cx, z) = true) (k : RR M s s' (pc + 3) L (vI z :: st) I X) : RR M s s' pc L st I X := by
  obtain ⟨hd, ho⟩ := ok_d hok
  refine rr_pure (fun _ h => sok_i h) (fun G p l e R s0 mid args below meth c Q H locs cells slots ls hF hl hH hS hL hst kk => ?_) k
  exact lv_ldcw hF.1 hF.2.1 hF.2.2.2.1 (hF.2.2.2.2.1 _ (cst_ok ho)) hd kk
theorem lget_at {v : PV} (h : lget L a = some v) : L[a]? = some (some v) := by
  unfold lget at h
  cases hq : L[a]? with
  | none => rw [hq] at h; cases h
  | some o => rw [hq] at h; exact congrArg some h
theorem fin4 {a : Nat} (h : a < 4) : ((Fin.ofNat 4 a : Fin 4) : Nat) = a := Nat.mod_eq_of_lt h
theorem op_1_0 {x : Int32} (hok : okOp M pc (1, a, 0, cx, z) = true) (hg : lget L a = some (vI x)) (k : RR M s s' (pc + 1) L (vI x :: st) I X) : RR M s s' pc L st I X := by
  obtain ⟨hd, ho⟩ := ok_d hok
  refine rr_pure (fun _ h => sok_i h) (fun G p l e R s0 mid args below meth c Q H locs cells slots ls hF hl hH hS hL hst kk => ?_) k
  exact lv_iload_n hF.1 hF.2.1 hd (fin4 (of_decide_eq_true ho)) (lvl_at hl.1 (lget_at hg)) kk
theorem op_1_1 {x : Int32} (hok : okOp M pc (1, a, b + 1, cx, z) = true) (hg : lget L a = some (vI x)) (k : RR M s s' (pc + 2) L (vI x :: st) I X) : RR M s s' pc L st I X := by
  obtain ⟨hd, ho⟩ := ok_d hok
  refine rr_pure (fun _ h => sok_i h) (fun G p l e R s0 mid args below meth c Q H locs cells slots ls hF hl hH hS hL hst kk => ?_) k
  exact lv_iload hF.1 hF.2.1 hd (lvl_at hl.1 (lget_at hg)) kk
theorem op_2_0 {g i : Nat} (hok : okOp M pc (2, a, 0, cx, z) = true) (hg : lget L a = some (vR g i)) (k : RR M s s' (pc + 1) L (vR g i :: st) I X) : RR M s s' pc L st I X := by
  obtain ⟨hd, ho⟩ := ok_d hok
  refine rr_pure (fun hL h => sok_c (lok_at hL (lget_at hg)) h) (fun G p l e R s0 mid args below meth c Q H locs cells slots ls hF hl hH hS hL hst kk => ?_) k
  exact lv_aload_n hF.1 hF.2.1 hd (fin4 (of_decide_eq_true ho)) (lvl_at hl.1 (lget_at hg)) kk
theorem op_2_1 {g i : Nat} (hok : okOp M pc (2, a, b + 1, cx, z) = true) (hg : lget L a = some (vR g i)) (k : RR M s s' (pc + 2) L (vR g i :: st) I X) : RR M s s' pc L st I X := by
  obtain ⟨hd, ho⟩ := ok_d hok
  refine rr_pure (fun hL h => sok_c (lok_at hL (lget_at hg)) h) (fun G p l e R s0 mid args below meth c Q H locs cells slots ls hF hl hH hS hL hst kk => ?_) k
  exact lv_aload hF.1 hF.2.1 hd (lvl_at hl.1 (lget_at hg)) kk
theorem op_3 {x : Int64} (hok : okOp M pc (3, a, b, cx, z) = true) (hg : lget L a = some (vL x)) (k : RR M s s' (pc + 2) L (vL x :: st) I X) : RR M s s' pc L st I X := by
  obtain ⟨hd, ho⟩ := ok_d hok
  refine rr_pure (fun _ h => sok_l h) (fun G p l e R s0 mid args below meth c Q H locs cells slots ls hF hl hH hS hL hst kk => ?_) k
  exact lv_lload hF.1 hF.2.1 hd (lvl_at hl.1 (lget_at hg)) kk
theorem lput1_ok {v : PV} {L' : LC} (h : lput1 L a v = some L') : a < L.length ∧ (a = 0 ∨ is2 L[a - 1]? = false) ∧ L' = L.set a (some v) := by
  unfold lput1 at h
  split at h
  · next h0 =>
    simp only [Bool.and_eq_true, Bool.or_eq_true, Bool.not_eq_true', Nat.beq_eq_true_eq, Nat.blt_eq] at h0
    exact ⟨h0.1, h0.2.imp (fun q => Nat.eq_of_beq_eq_true q) id, (Option.some.inj h).symm⟩
  · cases h
theorem lput2_ok {v : PV} {L' : LC} (h : lput2 L a v = some L') : a + 1 < L.length ∧ (a = 0 ∨ is2 L[a - 1]? = false) ∧ L' = (L.set a (some v)).set (a + 1) none := by
  unfold lput2 at h
  split at h
  · next h0 =>
    simp only [Bool.and_eq_true, Bool.or_eq_true, Bool.not_eq_true', Nat.beq_eq_true_eq, Nat.blt_eq] at h0
    exact ⟨h0.1, h0.2.imp (fun q => Nat.eq_of_beq_eq_true q) id, (Option.some.inj h).symm⟩
  · cases h
theorem lvs1 {G : GX} {v : PV} {L' : LC} {ls : Array Slot} (h : lput1 L a v = some L') (hl : LV G M L ls) : a < M.2.2.2.1 ∧ ∀ ls', lv_has ls' M.2.2.2.1 ((a, tvv G v) :: (lvl G 0 L).filter (fun q => !(q.1 == a) && !(q.1 + 1 == a && q.2.category == 2))) → LV G M L' ls' := by
  obtain ⟨q1, q2, rfl⟩ := lput1_ok h
  exact ⟨hl.2 ▸ q1, fun ls' h' => ⟨lvl_set q1 q2 h', by rw [List.length_set]; exact hl.2⟩⟩
theorem lvs2 {G : GX} {x : Int64} {L' : LC} {ls : Array Slot} (h : lput2 L a (vL x) = some L') (hl : LV G M L ls) : a + 1 < M.2.2.2.1 ∧ ∀ ls', lv_has ls' M.2.2.2.1 ((a, tvv G (vL x)) :: (lvl G 0 L).filter (fun q => !(q.1 == a) && (!(q.1 == a + 1) && !(q.1 + 1 == a && q.2.category == 2)))) → LV G M L' ls' := by
  obtain ⟨q1, q2, rfl⟩ := lput2_ok h
  exact ⟨hl.2 ▸ q1, fun ls' h' => ⟨lvl_set2 q1 q2 h', by rw [List.length_set, List.length_set]; exact hl.2⟩⟩
theorem lok1 {v : PV} {L' : LC} (h : lput1 L a v = some L') (hL : lok s L) (hv : pok s v) : lok s L' := by
  obtain ⟨q1, q2, rfl⟩ := lput1_ok h
  exact lok_set hL hv
theorem lok2 {v : PV} {L' : LC} (h : lput2 L a v = some L') (hL : lok s L) (hv : pok s v) : lok s L' := by
  obtain ⟨q1, q2, rfl⟩ := lput2_ok h
  exact lok_setN (lok_set hL hv)
theorem op_4_0 {x : Int32} {L' : LC} (hok : okOp M pc (4, a, 0, cx, z) = true) (hp : lput1 L a (vI x) = some L') (k : RR M s s' (pc + 1) L' st I X) : RR M s s' pc L (vI x :: st) I X := by
  obtain ⟨hd, ho⟩ := ok_d hok
  refine rr_loc (fun hL h => ⟨lok1 hp hL trivial, sok_t h⟩) (fun G p l e R s0 mid args below meth c Q H locs cells slots ls hF hl kk => ?_) k
  exact lv_istore_n hF.1 hF.2.1 hd (fin4 (of_decide_eq_true ho)) hl.1 (lvs1 hp hl).1 rfl (fun ls' h' => kk ls' ((lvs1 hp hl).2 ls' h'))
theorem op_4_1 {x : Int32} {L' : LC} (hok : okOp M pc (4, a, b + 1, cx, z) = true) (hp : lput1 L a (vI x) = some L') (k : RR M s s' (pc + 2) L' st I X) : RR M s s' pc L (vI x :: st) I X := by
  obtain ⟨hd, ho⟩ := ok_d hok
  refine rr_loc (fun hL h => ⟨lok1 hp hL trivial, sok_t h⟩) (fun G p l e R s0 mid args below meth c Q H locs cells slots ls hF hl kk => ?_) k
  exact lv_istore hF.1 hF.2.1 hd hl.1 (lvs1 hp hl).1 rfl (fun ls' h' => kk ls' ((lvs1 hp hl).2 ls' h'))
theorem op_5_0 {g i : Nat} {L' : LC} (hok : okOp M pc (5, a, 0, cx, z) = true) (hp : lput1 L a (vR g i) = some L') (k : RR M s s' (pc + 1) L' st I X) : RR M s s' pc L (vR g i :: st) I X := by
  obtain ⟨hd, ho⟩ := ok_d hok
  refine rr_loc (fun hL h => ⟨lok1 hp hL (sok_h h), sok_t h⟩) (fun G p l e R s0 mid args below meth c Q H locs cells slots ls hF hl kk => ?_) k
  exact lv_astore_n hF.1 hF.2.1 hd (fin4 (of_decide_eq_true ho)) hl.1 (lvs1 hp hl).1 rfl (fun ls' h' => kk ls' ((lvs1 hp hl).2 ls' h'))
theorem op_5_1 {g i : Nat} {L' : LC} (hok : okOp M pc (5, a, b + 1, cx, z) = true) (hp : lput1 L a (vR g i) = some L') (k : RR M s s' (pc + 2) L' st I X) : RR M s s' pc L (vR g i :: st) I X := by
  obtain ⟨hd, ho⟩ := ok_d hok
  refine rr_loc (fun hL h => ⟨lok1 hp hL (sok_h h), sok_t h⟩) (fun G p l e R s0 mid args below meth c Q H locs cells slots ls hF hl kk => ?_) k
  exact lv_astore hF.1 hF.2.1 hd hl.1 (lvs1 hp hl).1 rfl (fun ls' h' => kk ls' ((lvs1 hp hl).2 ls' h'))
theorem op_6 {x : Int64} {L' : LC} (hok : okOp M pc (6, a, b, cx, z) = true) (hp : lput2 L a (vL x) = some L') (k : RR M s s' (pc + 2) L' st I X) : RR M s s' pc L (vL x :: st) I X := by
  obtain ⟨hd, ho⟩ := ok_d hok
  refine rr_loc (fun hL h => ⟨lok2 hp hL trivial, sok_t h⟩) (fun G p l e R s0 mid args below meth c Q H locs cells slots ls hF hl kk => ?_) k
  exact lv_lstore hF.1 hF.2.1 hd hl.1 (lvs2 hp hl).1 rfl (fun ls' h' => kk ls' ((lvs2 hp hl).2 ls' h'))
theorem op_7 {x : Int32} {L' : LC} (hok : okOp M pc (7, a, b, cx, z) = true) (hg : lget L a = some (vI x)) (hp : lput1 L a (vI (x + z)) = some L') (k : RR M s s' (pc + 3) L' st I X) : RR M s s' pc L st I X := by
  obtain ⟨hd, ho⟩ := ok_d hok
  refine rr_loc (fun hL h => ⟨lok1 hp hL trivial, h⟩) (fun G p l e R s0 mid args below meth c Q H locs cells slots ls hF hl kk => ?_) k
  obtain ⟨kx, hk⟩ := List.getElem?_of_mem (lvl_mem.mpr ⟨a, vI x, lget_at hg, rfl⟩ : (0 + a, tvv G (vI x)) ∈ lvl G 0 L)
  rw [Nat.zero_add] at hk
  exact lv_iinc hF.1 hF.2.1 hd hl.1 hk (by rw [Int32.ofInt_toInt]) (lvs1 hp hl).1 rfl (fun ls' h' => kk ls' ((lvs1 hp hl).2 ls' h'))
end OPS
