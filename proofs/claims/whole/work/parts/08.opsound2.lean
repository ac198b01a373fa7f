section OPS2
variable {M : MD} {s s' pc : Nat} {L : LC} {st : List PV} {I : Mem} {X : Option (Option PV × Mem)} {a b cx : Nat} {z : Int32}
theorem op_8 {x y : Int32} {o : Nat × Nat × Nat × Int32} (hok : okOp M pc (8, o) = true) (k : RR M s s' (pc + 1) L (vI (x + y) :: st) I X) : RR M s s' pc L (vI y :: vI x :: st) I X := by
  obtain ⟨hd, ho⟩ := ok_d hok
  refine rr_pure (fun _ h => sok_i (sok_t (sok_t h))) (fun G p l e R s0 mid args below meth c Q H locs cells slots ls hF hl hH hS hL hst kk => ?_) k
  exact lv_iadd hF.1 hF.2.1 hd kk
theorem op_9 {x y : Int32} {o : Nat × Nat × Nat × Int32} (hok : okOp M pc (9, o) = true) (k : RR M s s' (pc + 1) L (vI (x - y) :: st) I X) : RR M s s' pc L (vI y :: vI x :: st) I X := by
  obtain ⟨hd, ho⟩ := ok_d hok
  refine rr_pure (fun _ h => sok_i (sok_t (sok_t h))) (fun G p l e R s0 mid args below meth c Q H locs cells slots ls hF hl hH hS hL hst kk => ?_) k
  exact lv_isub hF.1 hF.2.1 hd kk
theorem op_10 {x y : Int32} {o : Nat × Nat × Nat × Int32} (hok : okOp M pc (10, o) = true) (k : RR M s s' (pc + 1) L (vI (x * y) :: st) I X) : RR M s s' pc L (vI y :: vI x :: st) I X := by
  obtain ⟨hd, ho⟩ := ok_d hok
  refine rr_pure (fun _ h => sok_i (sok_t (sok_t h))) (fun G p l e R s0 mid args below meth c Q H locs cells slots ls hF hl hH hS hL hst kk => ?_) k
  exact lv_imul hF.1 hF.2.1 hd kk
theorem op_12 {x y : Int32} {o : Nat × Nat × Nat × Int32} (hok : okOp M pc (12, o) = true) (k : RR M s s' (pc + 1) L (vI (x &&& y) :: st) I X) : RR M s s' pc L (vI y :: vI x :: st) I X := by
  obtain ⟨hd, ho⟩ := ok_d hok
  refine rr_pure (fun _ h => sok_i (sok_t (sok_t h))) (fun G p l e R s0 mid args below meth c Q H locs cells slots ls hF hl hH hS hL hst kk => ?_) k
  exact lv_iand hF.1 hF.2.1 hd kk
theorem op_13 {x y : Int32} {o : Nat × Nat × Nat × Int32} (hok : okOp M pc (13, o) = true) (k : RR M s s' (pc + 1) L (vI (x ^^^ y) :: st) I X) : RR M s s' pc L (vI y :: vI x :: st) I X := by
  obtain ⟨hd, ho⟩ := ok_d hok
  refine rr_pure (fun _ h => sok_i (sok_t (sok_t h))) (fun G p l e R s0 mid args below meth c Q H locs cells slots ls hF hl hH hS hL hst kk => ?_) k
  exact lv_ixor hF.1 hF.2.1 hd kk
theorem op_14 {x y : Int32} {o : Nat × Nat × Nat × Int32} (hok : okOp M pc (14, o) = true) (k : RR M s s' (pc + 1) L (vI ((x.toUInt32 >>> (y.toUInt32 &&& Int32.toUInt32 31)).toInt32) :: st) I X) : RR M s s' pc L (vI y :: vI x :: st) I X := by
  obtain ⟨hd, ho⟩ := ok_d hok
  refine rr_pure (fun _ h => sok_i (sok_t (sok_t h))) (fun G p l e R s0 mid args below meth c Q H locs cells slots ls hF hl hH hS hL hst kk => ?_) k
  exact lv_iushr hF.1 hF.2.1 hd rfl kk
theorem op_15 {x y : Int64} {o : Nat × Nat × Nat × Int32} (hok : okOp M pc (15, o) = true) (k : RR M s s' (pc + 1) L (vL (x + y) :: st) I X) : RR M s s' pc L (vL y :: vL x :: st) I X := by
  obtain ⟨hd, ho⟩ := ok_d hok
  refine rr_pure (fun _ h => sok_l (sok_t (sok_t h))) (fun G p l e R s0 mid args below meth c Q H locs cells slots ls hF hl hH hS hL hst kk => ?_) k
  exact lv_ladd hF.1 hF.2.1 hd kk
theorem op_16 {x y : Int64} {o : Nat × Nat × Nat × Int32} (hok : okOp M pc (16, o) = true) (k : RR M s s' (pc + 1) L (vL (x * y) :: st) I X) : RR M s s' pc L (vL y :: vL x :: st) I X := by
  obtain ⟨hd, ho⟩ := ok_d hok
  refine rr_pure (fun _ h => sok_l (sok_t (sok_t h))) (fun G p l e R s0 mid args below meth c Q H locs cells slots ls hF hl hH hS hL hst kk => ?_) k
  exact lv_lmul hF.1 hF.2.1 hd kk
theorem op_28 {x y : Int64} {o : Nat × Nat × Nat × Int32} (hok : okOp M pc (28, o) = true) (k : RR M s s' (pc + 1) L (vI (lg_cmp x y) :: st) I X) : RR M s s' pc L (vL y :: vL x :: st) I X := by
  obtain ⟨hd, ho⟩ := ok_d hok
  refine rr_pure (fun _ h => sok_i (sok_t (sok_t h))) (fun G p l e R s0 mid args below meth c Q H locs cells slots ls hF hl hH hS hL hst kk => ?_) k
  exact W.lcmp hF.1 hF.2.1 hd kk
theorem op_11 {x : Int32} {o : Nat × Nat × Nat × Int32} (hok : okOp M pc (11, o) = true) (k : RR M s s' (pc + 1) L (vI (-x) :: st) I X) : RR M s s' pc L (vI x :: st) I X := by
  obtain ⟨hd, ho⟩ := ok_d hok
  refine rr_pure (fun _ h => sok_i (sok_t h)) (fun G p l e R s0 mid args below meth c Q H locs cells slots ls hF hl hH hS hL hst kk => ?_) k
  exact lv_ineg hF.1 hF.2.1 hd kk
theorem op_17 {x : Int32} {o : Nat × Nat × Nat × Int32} (hok : okOp M pc (17, o) = true) (k : RR M s s' (pc + 1) L (vL x.toInt64 :: st) I X) : RR M s s' pc L (vI x :: st) I X := by
  obtain ⟨hd, ho⟩ := ok_d hok
  refine rr_pure (fun _ h => sok_l (sok_t h)) (fun G p l e R s0 mid args below meth c Q H locs cells slots ls hF hl hH hS hL hst kk => ?_) k
  exact lv_i2l hF.1 hF.2.1 hd rfl kk
theorem op_18 {x : Int64} {o : Nat × Nat × Nat × Int32} (hok : okOp M pc (18, o) = true) (k : RR M s s' (pc + 1) L (vI x.toInt32 :: st) I X) : RR M s s' pc L (vL x :: st) I X := by
  obtain ⟨hd, ho⟩ := ok_d hok
  refine rr_pure (fun _ h => sok_i (sok_t h)) (fun G p l e R s0 mid args below meth c Q H locs cells slots ls hF hl hH hS hL hst kk => ?_) k
  exact lv_l2i hF.1 hF.2.1 hd rfl kk
theorem op_19 {o : Nat × Nat × Nat × Int32} (hok : okOp M pc (19, o) = true) (k : RR M s s' (pc + 1) L (vL 0 :: st) I X) : RR M s s' pc L st I X := by
  obtain ⟨hd, ho⟩ := ok_d hok
  refine rr_pure (fun _ h => sok_l h) (fun G p l e R s0 mid args below meth c Q H locs cells slots ls hF hl hH hS hL hst kk => ?_) k
  exact lv_lconst hF.1 hF.2.1 hd rfl kk
theorem op_20 (hok : okOp M pc (20, a, b, cx, z) = true) (k : RR M s s' (pc + 3) L (vL (Int64.ofNat a) :: st) I X) : RR M s s' pc L st I X := by
  obtain ⟨hd, ho⟩ := ok_d hok
  refine rr_pure (fun _ h => sok_l h) (fun G p l e R s0 mid args below meth c Q H locs cells slots ls hF hl hH hS hL hst kk => ?_) k
  exact lv_ldc2 hF.1 hF.2.1 hF.2.2.2.1 (hF.2.2.2.2.1 _ (cstL_in (M.1, cx, a) (by simpa [opOk] using ho))) hd kk
theorem op_21 {v : PV} {o : Nat × Nat × Nat × Int32} (hv : is2 (some (some v)) = false) (hok : okOp M pc (21, o) = true) (k : RR M s s' (pc + 1) L (v :: v :: st) I X) : RR M s s' pc L (v :: st) I X := by
  obtain ⟨hd, ho⟩ := ok_d hok
  refine rr_pure (fun _ h => sok_c (sok_h h) h) (fun G p l e R s0 mid args below meth c Q H locs cells slots ls hF hl hH hS hL hst kk => ?_) k
  exact lv_dup hF.1 hF.2.1 hd (by rw [tvv_cat, hv]; rfl) kk
theorem op_22 {v w : PV} {o : Nat × Nat × Nat × Int32} (hv : is2 (some (some v)) = false) (hw : is2 (some (some w)) = false) (hok : okOp M pc (22, o) = true) (k : RR M s s' (pc + 1) L (v :: w :: v :: w :: st) I X) : RR M s s' pc L (v :: w :: st) I X := by
  obtain ⟨hd, ho⟩ := ok_d hok
  refine rr_pure (fun _ h => sok_c (sok_h h) (sok_c (sok_h (sok_t h)) h)) (fun G p l e R s0 mid args below meth c Q H locs cells slots ls hF hl hH hS hL hst kk => ?_) k
  exact lv_dup2_11 hF.1 hF.2.1 hd (by rw [tvv_cat, hv]; rfl) (by rw [tvv_cat, hw]; rfl) kk
theorem op_23 (hok : okOp M pc (23, a, b, cx, z) = true) (k : RR M s s' a L st I X) : RR M s s' pc L st I X := by
  obtain ⟨hd, ho⟩ := ok_d hok
  refine rr_pure (fun _ h => h) (fun G p l e R s0 mid args below meth c Q H locs cells slots ls hF hl hH hS hL hst kk => ?_) k
  exact lv_goto hF.1 hF.2.1 (off := (a : Int) - (pc : Int)) (tgt := a) hd (by omega) kk
/-! fields -/
theorem isObj_at {g ci : Nat} (h : isObj g ci = true) : skd g = some (.inl ci) := by
  unfold isObj at h
  split at h
  · next a e => rw [e, Nat.eq_of_beq_eq_true h]
  · cases h
theorem skd_lt {g : Nat} {x : Nat ⊕ (Nat × Nat)} (h : skd g = some x) : g < 100 := by
  have h1 := (List.getElem?_eq_some_iff.mp h).1
  exact Nat.lt_of_lt_of_le h1 (by decide +kernel)
theorem ada_lt {G : GX} {g i : Nat} (h : g < 100) : ada G g i = G.1 + pos g i := by rw [ada, if_pos h]
theorem rok_at {s g i : Nat} (h : rok s g i) (hg : g < 100) : i < scnt g ∧ pos g i < cnS s := by
  rcases h with h | h
  · exact h.2
  · omega
theorem fld_ok {own ci k : Nat} (h : fldT.contains (own, cx, ci, k) = true) : ∃ r : vw_C, xcl[ci]? = some r ∧ k < r.2.2 ∧ xcl.getD ci ("", TX0, 0) = r ∧ Cond.fieldLink (onm own) cx (r.2.1 k).1 (r.2.1 k).2.1 (r.2.1 k).2.2.1 ∈ wAll := by
  have hm : (own, cx, ci, k) ∈ fldT := by simpa using h
  have h1 := fld_in1 _ hm
  have h2 := fld_in2 _ hm
  simp only [flOk, Bool.and_eq_true, decide_eq_true_eq] at h1
  obtain ⟨r, hr⟩ : ∃ r, xcl[ci]? = some r := ⟨_, List.getElem?_eq_getElem (show ci < xcl.length from h1.1)⟩
  have he : xcl.getD ci ("", TX0, 0) = r := by rw [List.getD_eq_getElem?_getD, hr]; rfl
  exact ⟨r, hr, by rw [← he]; exact h1.2, he, by rw [← he]; exact h2⟩
/-- the kinds of the slots: what the descriptor says, tau says -/
theorem fkd_tau {g i ci k : Nat} (h : skd g = some (.inl ci)) (hk : k < snf ci) : fkd ci k < 2 ↔ tau g i k = none := by
  have hg := skd_lt h
  have t1 : ∀ g, g < 100 → (match skd g with | some (.inl ci) => (List.range (snf ci)).all (fun k => (Nat.blt (fkd ci k) 2) == ((stauL.getD g []).getD k none).isNone) | _ => true) = true := by decide +kernel
  have h2 := t1 g hg
  rw [h] at h2
  have h3 := List.all_eq_true.mp h2 k (List.mem_range.mpr hk)
  have h4 : tau g i k = none ↔ ((stauL.getD g []).getD k none).isNone = true := by
    unfold tau
    split <;> simp_all
  rw [h4]
  have h5 := eq_of_beq h3
  rw [← h5]
  rw [Nat.blt_eq]
theorem cG_obj {G : GX} {s : Nat} {I : Mem} {g i ci : Nat} (h : skd g = some (.inl ci)) : cG G s I g i = .inr (ci, (List.range (snf ci)).map (fun j => svv G s I g i j)) := by rw [cG, h]
theorem op_24 {g i : Nat} (hok : okOp M pc (24, a, b, cx, z) = true) (hg : isObj g a = true) (hk : fkd a b < 2) (k : RR M s s' (pc + 3) L (vI (I g i b) :: st) I X) : RR M s s' pc L (vR g i :: st) I X := by
  obtain ⟨hd, ho⟩ := ok_d hok
  have hsk := isObj_at hg
  have hlt := skd_lt hsk
  obtain ⟨r, hr, hb, -, hw⟩ := fld_ok ho
  obtain ⟨k1, k2, k3, k4⟩ := cl_ok a r hr
  refine rr_pure (fun _ h => sok_i (sok_t h)) (fun G p l e R s0 mid args below meth c Q H locs cells slots ls hF hl hH hS hL hst kk => ?_) k
  obtain ⟨q1, q2⟩ := rok_at (sok_h hst) hlt
  have hws := wsG_get (G := G) (I := I) q1 q2
  rw [cG_obj hsk] at hws
  show W p l e R s0 mid args below meth c H locs cells slots Q (F0 mid pc ls (.ref (ada G g i) :: st.map (tvv G)))
  rw [ada_lt hlt]
  refine va_get hF.1 hF.2.1 hF.2.2.2.2.1 k1 hF.2.2.2.1 hF.2.2.2.2.2.2.2.2.1 hH.1 (pos g i) hws hr b hb (hF.2.2.2.2.1 _ hw) (fun _ q => q) (v := .int (I g i b)) ?_ hd kk
  rw [List.getElem?_map, List.getElem?_range (by rw [k4]; exact hb)]
  show some (svv G s I g i b) = _
  rw [svv, (fkd_tau (i := i) hsk (by rw [k4]; exact hb)).mp hk]
end OPS2
