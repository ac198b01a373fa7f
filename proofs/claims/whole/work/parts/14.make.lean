/-! ===== cells that come, references that are set ===== -/
theorem take_succ {s : Nat} {x : Nat × Nat × Nat × Nat} (h : evs[s]? = some x) : evs.take (s + 1) = evs.take s ++ [x] := by
  rw [List.take_succ, h]; rfl
theorem sA_new {s g i h b k : Nat} (he : evs[s]? = some (0, g, i, 0)) : sA (s + 1) h b k = sA s h b k := by
  unfold sA
  rw [take_succ he, Bool.eq_iff_iff]
  simp
theorem sA_put {s g i k h b j : Nat} (he : evs[s]? = some (1, g, i, k)) : sA (s + 1) h b j = (sA s h b j || decide ((h, b, j) = (g, i, k))) := by
  unfold sA
  rw [take_succ he, Bool.eq_iff_iff]
  simp
theorem cn_new {s g i : Nat} (he : evs[s]? = some (0, g, i, 0)) : cnS (s + 1) = cnS s + 1 ∧ slS (s + 1) = slS s + csz g := by
  unfold cnS slS
  rw [take_succ he]
  simp [List.filter_append]
theorem cn_put {s g i k : Nat} (he : evs[s]? = some (1, g, i, k)) : cnS (s + 1) = cnS s ∧ slS (s + 1) = slS s := by
  unfold cnS slS
  rw [take_succ he]
  simp [List.filter_append]
theorem ev_new {s g i : Nat} (he : evs[s]? = some (0, g, i, 0)) : i < scnt g ∧ pos g i = cnS s := by
  have hs : s < SF := by rw [← evs_len]; exact (List.getElem?_eq_some_iff.mp he).1
  have h1 := evs_ok s hs
  unfold evOk at h1
  rw [List.getD_eq_getElem?_getD, he] at h1
  simp only [Option.getD_some, Bool.and_eq_true, Nat.blt_eq] at h1
  exact ⟨h1.1, Nat.eq_of_beq_eq_true h1.2⟩
theorem cG_new {G : GX} {s g i h b : Nat} {I : Mem} (he : evs[s]? = some (0, g, i, 0)) (hne : (h, b) ≠ (g, i)) : cG G (s + 1) (mz I g i) h b = cG G s I h b := by
  have e : ∀ j, mz I g i h b j = I h b j := fun j => by
    unfold mz
    rw [if_neg (fun q => hne (by rw [q.1, q.2]))]
  unfold cG
  split
  · have : ∀ j, svv G (s + 1) (mz I g i) h b j = svv G s I h b j := fun j => by unfold svv; rw [sA_new he]; split <;> simp [e]
    simp [this]
  · rw [show mz I g i h b = I h b from funext e]
    simp only [sA_new he]
  · rfl
theorem xok_mz {G : GX} {I : Mem} {g i : Nat} (h : xok G I) (hg : g < 100) : xok G (mz I g i) := by
  obtain ⟨h1, h2, h3, h4⟩ := h
  have e : ∀ a b c, 100 ≤ a → mz I g i a b c = I a b c := fun a b c ha => by
    unfold mz
    rw [if_neg (fun q => by omega)]
  exact ⟨fun j => by rw [e _ _ _ (by omega)]; exact h1 j, by rw [e _ _ _ (by omega)]; exact h2, fun j => by rw [e _ _ _ (by omega)]; exact h3 j, fun j => by rw [e _ _ _ (by omega)]; exact h4 j⟩
/-- the picture grows by a cell -/
theorem HW_new {G : GX} {s g i : Nat} {I : Mem} {H H1 : Heap} (he : evs[s]? = some (0, g, i, 0)) (hH : HW G s I H) (hz : H1.size = H.size + 1) (ho : ∀ q, q < H.size → H1[q]? = H[q]?) (hc : va_at G.2.1 xcl (G.1 + pos g i, cG G (s + 1) (mz I g i) g i) H1) : HW G (s + 1) (mz I g i) H1 := by
  obtain ⟨hP, hsz, hxo⟩ := hH
  obtain ⟨h1, h2⟩ := ev_new he
  obtain ⟨c1, -⟩ := cn_new he
  refine ⟨?_, by rw [hz, hsz, c1]; omega, xok_mz hxo (scnt_pos h1)⟩
  rw [← wsG_push (I := I) h1 h2 c1 (fun h b hb hp => cG_new he (fun q => by obtain ⟨w1, w2⟩ := Prod.mk.inj q; rw [w1, w2] at hp; omega))]
  refine (hP.kept (fun k x hx => ho x.1 ((hP k x hx).lt))).app (fun k x hx => ?_)
  have hz : k < 1 := (List.getElem?_eq_some_iff.mp hx).1
  rw [show k = 0 by omega] at hx
  cases hx
  exact hc
theorem va_S_new {A : Nat → Prop} {H0 H H1 : Heap} {locs : List Loc} (hS : va_S A H0 H locs) (hz : H1.size = H.size + 1) (ho : ∀ q, q < H.size → H1[q]? = H[q]?) : va_S A H0 H1 locs := ⟨Nat.le_trans hS.1 (by omega), fun x h1 h2 => (ho x (Nat.lt_of_lt_of_le h1 hS.1)).trans (hS.2.1 x h1 h2), hS.2.2⟩
section MAKE
variable {M : MD} {s s' pc : Nat} {L : LC} {st : List PV} {I : Mem} {X : Option (Option PV × Mem)}
theorem pok_new {g i : Nat} (he : evs[s]? = some (0, g, i, 0)) : pok (s + 1) (vR g i) := by
  obtain ⟨h1, h2⟩ := ev_new he
  exact Or.inl ⟨scnt_pos h1, h1, by rw [(cn_new he).1]; omega⟩
theorem rr_new (g i ci idx : Nat) (hd : decode M.2.2.1 pc = .ok (.new idx, 3)) (he : evs[s]? = some (0, g, i, 0)) (hk : skd g = some (.inl ci)) (r : vw_C) (hr : xcl[ci]? = some r) (hw : Cond.classLink (onm M.1) idx r.1 ∈ wAll ∧ Cond.instantiable r.1 r.2.2 ∈ wAll ∧ Cond.initialized r.1 ∈ wAll) (hds : (List.range (snf ci)).all (fun j => decide (defaultValue (sty ci j) = if (tau g i j).isNone then .int 0 else .null) && !sA (s + 1) g i j) = true) (hss2 : s + 1 ≤ s')
    (k : RR M (s + 1) s' (pc + 3) L (vR g i :: st) (mz I g i) X) : RR M s s' pc L st I X := by
  intro r9 I' hX hL hst hss G p l e R s0 mid args below meth c Q c0 z0 hF hc hz hQ H locs cells slots ls hH hS h1 h2 hl
  obtain ⟨k1, k2, k3, k4⟩ := cl_ok ci r hr
  obtain ⟨n1, n2⟩ := ev_new he
  obtain ⟨c1, c2⟩ := cn_new he
  have hK := (FC_fx hF).1
  have hts := hF.2.2.2.2.1
  have hKn := hK.1 ci _ hr
  have hcs : csz g = r.2.2 := by rw [csz, hk]; exact k4
  have hmc := cnS_le hss2
  have hms := slS_le hss2
  refine W.newcK hF.1 hF.2.1 hF.2.2.2.1 (hts _ hw.1) (hts _ hw.2.1) (hts _ hw.2.2) rfl hd (by omega) (by omega) hKn.2.1 rfl fun H1 kC hkC e1 z1 o1 => ?_
  have hlt := skd_lt hk
  have hsz : H.size = G.1 + pos g i := by rw [hH.2.1, n2]
  have hnew := HW_new he hH z1 o1 (by
    rw [cG_obj hk]
    refine ⟨r, hr, ?_⟩
    show t_OB (G.1 + pos g i) _ _ _ _ _
    rw [← hsz]
    refine (u_born (sty ci) hts k1 hKn hkC e1 k3).to (fun j hj => ?_)
    have hj2 : j < snf ci := by rw [k4]; exact hj
    have := List.all_eq_true.mp hds j (List.mem_range.mpr hj2)
    simp only [Bool.and_eq_true, decide_eq_true_eq, Bool.not_eq_true'] at this
    rw [this.1]
    simp only [vp_V, List.getD_eq_getElem?_getD, List.getElem?_map, List.getElem?_range hj2, Option.map_some, Option.getD_some, svv]
    cases ht : tau g i j with
    | none => simp [mz]
    | some x => simp [this.2])
  have kk := k r9 I' hX (lok_le (Nat.le_succ s) hL) (sok_c (pok_new he) (sok_le (Nat.le_succ s) hst)) hss2 G p l e R s0 mid args below meth c Q c0 z0 hF hc hz hQ H1 locs (cells + 1) (slots + r.2.2) ls hnew (va_S_new hS z1 o1) (by omega) (by omega) hl
  have e3 : (F0 mid (pc + 3) ls ((vR g i :: st).map (tvv G))) = { F0 mid pc ls (st.map (tvv G)) with pc := pc + 3, stack := .ref H.size :: st.map (tvv G) } := by
    rw [hsz, ← ada_lt (G := G) (i := i) hlt]; rfl
  rw [e3] at kk
  exact kk
theorem rr_newI (g i n : Nat) (nn : Int32) (hd : decode M.2.2.1 pc = .ok (.newarray .int, 2)) (he : evs[s]? = some (0, g, i, 0)) (hk : skd g = some (.inr (0, n))) (hn : nn = nI n ∧ n < 100000) (hw : Cond.arrayClass .int ∈ wAll) (hss2 : s + 1 ≤ s')
    (k : RR M (s + 1) s' (pc + 2) L (vR g i :: st) (mz I g i) X) : RR M s s' pc L (vI nn :: st) I X := by
  intro r9 I' hX hL hst hss G p l e R s0 mid args below meth c Q c0 z0 hF hc hz hQ H locs cells slots ls hH hS h1 h2 hl
  obtain ⟨n1, n2⟩ := ev_new he
  obtain ⟨c1, c2⟩ := cn_new he
  have hts := hF.2.2.2.2.1
  have hcs : csz g = n := by rw [csz, hk]
  have hmc := cnS_le hss2
  have hms := slS_le hss2
  obtain ⟨rfl, hn5⟩ := hn
  have hsz : H.size = G.1 + pos g i := by rw [hH.2.1, n2]
  refine va_newaK (atype := .int) hF.1 hF.2.1 (hts _ hw) rfl hd (n := nI n) (N := n) rfl (nI_pos (by omega)) (nI_clamp (by omega)) (by show n * 4 ≤ _; omega) (by omega) (by omega) rfl fun H1 cA e1 z1 o1 hAr hNm => ?_
  have hlt := skd_lt hk
  have hcA : cA = G.2.2.1 0 := by
    have h3 : s0.vm.findClass ("[" ++ FieldType.int.toString) = some (G.2.2.1 0) := ((FC_fx hF).1.2 0 _ (tysG_at (by decide))).2
    exact Option.some.inj (hNm.symm.trans h3)
  have hnew := HW_new he hH z1 o1 (by
    rw [cG_arr hk (by decide)]
    show H1[G.1 + pos g i]? = some (vp_cell _ _)
    rw [← hsz, vp_cell_i, e1, hcA]
    congr 2
    funext j
    simp [mz]
    rfl)
  have kk := k r9 I' hX (lok_le (Nat.le_succ s) hL) (sok_c (pok_new he) (sok_le (Nat.le_succ s) (sok_t hst))) hss2 G p l e R s0 mid args below meth c Q c0 z0 hF hc hz hQ H1 locs (cells + 1) (slots + n) ls hnew (va_S_new hS z1 o1) (by omega) (by omega) hl
  have e3 : (F0 mid (pc + 2) ls ((vR g i :: st).map (tvv G))) = { F0 mid pc ls ((vI (nI n) :: st).map (tvv G)) with pc := pc + 2, stack := .ref H.size :: st.map (tvv G) } := by
    rw [hsz, ← ada_lt (G := G) (i := i) hlt]; rfl
  rw [e3] at kk
  exact kk
theorem rr_newZ (g i n : Nat) (nn : Int32) (hd : decode M.2.2.1 pc = .ok (.newarray .boolean, 2)) (he : evs[s]? = some (0, g, i, 0)) (hk : skd g = some (.inr (1, n))) (hn : nn = nI n ∧ n < 100000) (hw : Cond.arrayClass .boolean ∈ wAll) (hss2 : s + 1 ≤ s')
    (k : RR M (s + 1) s' (pc + 2) L (vR g i :: st) (mz I g i) X) : RR M s s' pc L (vI nn :: st) I X := by
  intro r9 I' hX hL hst hss G p l e R s0 mid args below meth c Q c0 z0 hF hc hz hQ H locs cells slots ls hH hS h1 h2 hl
  obtain ⟨n1, n2⟩ := ev_new he
  obtain ⟨c1, c2⟩ := cn_new he
  have hts := hF.2.2.2.2.1
  have hcs : csz g = n := by rw [csz, hk]
  have hmc := cnS_le hss2
  have hms := slS_le hss2
  obtain ⟨rfl, hn5⟩ := hn
  have hsz : H.size = G.1 + pos g i := by rw [hH.2.1, n2]
  refine va_newaK (atype := .boolean) hF.1 hF.2.1 (hts _ hw) rfl hd (n := nI n) (N := n) rfl (nI_pos (by omega)) (nI_clamp (by omega)) (by show n * 1 ≤ _; omega) (by omega) (by omega) rfl fun H1 cA e1 z1 o1 hAr hNm => ?_
  have hlt := skd_lt hk
  have hcA : cA = G.2.2.1 1 := by
    have h3 : s0.vm.findClass ("[" ++ FieldType.boolean.toString) = some (G.2.2.1 1) := ((FC_fx hF).1.2 1 _ (tysG_at (by decide))).2
    exact Option.some.inj (hNm.symm.trans h3)
  have hnew := HW_new he hH z1 o1 (by
    rw [cG_arr hk (by decide)]
    show H1[G.1 + pos g i]? = some (vp_cell _ _)
    rw [← hsz, vp_cell_i, e1, hcA]
    congr 2
    funext j
    simp [mz]
    rfl)
  have kk := k r9 I' hX (lok_le (Nat.le_succ s) hL) (sok_c (pok_new he) (sok_le (Nat.le_succ s) (sok_t hst))) hss2 G p l e R s0 mid args below meth c Q c0 z0 hF hc hz hQ H1 locs (cells + 1) (slots + n) ls hnew (va_S_new hS z1 o1) (by omega) (by omega) hl
  have e3 : (F0 mid (pc + 2) ls ((vR g i :: st).map (tvv G))) = { F0 mid pc ls ((vI (nI n) :: st).map (tvv G)) with pc := pc + 2, stack := .ref H.size :: st.map (tvv G) } := by
    rw [hsz, ← ada_lt (G := G) (i := i) hlt]; rfl
  rw [e3] at kk
  exact kk
theorem rr_newR (g i n t idx : Nat) (nn : Int32) (hd : decode M.2.2.1 pc = .ok (.anewarray idx, 3)) (he : evs[s]? = some (0, g, i, 0)) (hk : skd g = some (.inr (t + 2, n))) (hn : nn = nI n ∧ n < 100000) (hw : Cond.classLink (onm M.1) idx (rcl (t + 2)) ∈ wAll) (hds : (List.range n).all (fun j => !sA (s + 1) g i j) = true) (hss2 : s + 1 ≤ s')
    (k : RR M (s + 1) s' (pc + 3) L (vR g i :: st) (mz I g i) X) : RR M s s' pc L (vI nn :: st) I X := by
  intro r9 I' hX hL hst hss G p l e R s0 mid args below meth c Q c0 z0 hF hc hz hQ H locs cells slots ls hH hS h1 h2 hl
  obtain ⟨n1, n2⟩ := ev_new he
  obtain ⟨c1, c2⟩ := cn_new he
  have hts := hF.2.2.2.2.1
  have hcs : csz g = n := by rw [csz, hk]
  have hmc := cnS_le hss2
  have hms := slS_le hss2
  obtain ⟨rfl, hn5⟩ := hn
  have hcl : (nI n).toNatClampNeg = n := nI_clamp (by omega)
  have hsz : H.size = G.1 + pos g i := by rw [hH.2.1, n2]
  have ht4 := skd_t hk
  have hao : va_AO (rcl (t + 2)) s0 := by
    rcases (show t = 0 ∨ t = 1 by omega) with rfl | rfl
    · exact (FC_fx hF).2.2.2.2.2.2.1
    · exact (FC_fx hF).2.2.2.2.2.2.2
  have hty : ([.int, .boolean, .object (rcl 2), .object (rcl 3)] : List FieldType).getD (t + 2) .int = .object (rcl (t + 2)) := by
    rcases (show t = 0 ∨ t = 1 by omega) with rfl | rfl <;> rfl
  refine W.anew hF.1 hF.2.1 hF.2.2.2.1 (hts _ hw) (va_AO.use hao) rfl hd (n := nI n) rfl (nI_pos (by omega)) (by rw [hcl]; omega) (by omega) (by rw [hcl]; omega) fun cA kA comp f1 f2 f3 f4 => ?_
  have hlt := skd_lt hk
  have hcA : cA = G.2.2.1 (t + 2) := by
    have h3 := ((FC_fx hF).1.2 (t + 2) _ (tysG_at ht4)).2
    rw [hty] at h3
    obtain ⟨_, _, -, -, -, h5⟩ := h3
    exact Option.some.inj (f1.symm.trans h5)
  generalize hH1 : H.push ({ cls := cA, slots := Array.replicate (nI n).toNatClampNeg .null, vm := .none } : Cell) = H1
  have z1 : H1.size = H.size + 1 := by rw [← hH1, Array.size_push]
  have e1 : H1[H.size]? = some (arrV cA (nI n).toNatClampNeg (fun _ => .null)) := by rw [← hH1, Array.getElem?_push_size, ← arrV_new]
  have o1 : ∀ q : Nat, q < H.size → H1[q]? = H[q]? := fun q hq => by rw [← hH1, Array.getElem?_push, if_neg (Nat.ne_of_lt hq)]
  have hns : ∀ j, sA (s + 1) g i j = false := by
    intro j
    by_cases hj : j < n
    · have := List.all_eq_true.mp hds j (List.mem_range.mpr hj)
      simpa using this
    · cases hq : sA (s + 1) g i j with
      | false => rfl
      | true =>
        obtain ⟨a, b, w1, -⟩ := sA_tgt hq
        rw [tgt, hk] at w1
        have : (if t + 2 < 2 then (none : Option (Nat × Nat)) else if j < n then some (rtg (t + 2), j) else none) = some (a, b) := w1
        rw [if_neg (by omega), if_neg hj] at this
        cases this
  have hnew := HW_new he hH z1 o1 (by
    rw [cG_rarr hk (by omega)]
    show H1[G.1 + pos g i]? = some (vp_cell _ _)
    rw [← hsz, vp_cell_q, e1, hcA, hcl]
    congr 2
    funext j
    simp [hns, va_rf])
  have kk := k r9 I' hX (lok_le (Nat.le_succ s) hL) (sok_c (pok_new he) (sok_le (Nat.le_succ s) (sok_t hst))) hss2 G p l e R s0 mid args below meth c Q c0 z0 hF hc hz hQ H1 locs (cells + 1) (slots + n) ls hnew (va_S_new hS z1 o1) (by omega) (by omega) hl
  have e3 : (F0 mid (pc + 3) ls ((vR g i :: st).map (tvv G))) = { F0 mid pc ls ((vI (nI n) :: st).map (tvv G)) with pc := pc + 3, stack := .ref H.size :: st.map (tvv G) } := by
    rw [hsz, ← ada_lt (G := G) (i := i) hlt]; rfl
  rw [e3] at kk
  have e4 : slots + (nI n).toNatClampNeg = slots + n := by rw [hcl]
  rw [e4]
  exact kk
theorem rr_obj {g i : Nat} (idx : Nat) (hd : decode M.2.2.1 pc = .ok (.invokespecial idx, 3)) (hw : Cond.methodLink (onm M.1) idx objectInit ∈ wAll ∧ Cond.instanceMethod objectInit ∈ wAll ∧ Cond.code objectInit ⟨#[0xb1]⟩ 1 none ∈ wAll) (hr : (Nat.ble 1 M.2.2.2.2.2.1 && Nat.ble (stw st + 12) M.2.2.2.2.2.2) = true) (k : RR M s s' (pc + 3) L st I X) : RR M s s' pc L (vR g i :: st) I X := by
  intro r9 I' hX hL hst hss G p l e R s0 mid args below meth c Q c0 z0 hF hc hz hQ H locs cells slots ls hH hS h1 h2 hl
  simp only [Bool.and_eq_true, Nat.ble_eq] at hr
  have hts := hF.2.2.2.2.1
  have kk := k r9 I' hX hL (sok_t hst) hss G p l e R s0 mid args below meth c Q c0 z0 hF hc hz hQ H locs cells slots ls hH hS h1 h2 hl
  exact W.objInit (g := F0 mid pc ls ((vR g i :: st).map (tvv G))) (rest := st.map (tvv G)) hF.1 hF.2.1 hF.2.2.2.1 (hts _ hw.1) (hts _ hw.2.1) (hts _ hw.2.2) rfl (by rw [hF.2.2.1]; exact hl.1.1) rfl hd (Nat.le_trans hr.1 hF.2.2.2.2.2.2.1) (by rw [stw_eq]; show 2 * 0 + stw st + 12 ≤ _; have := hF.2.2.2.2.2.2.2.1; omega) kk
end MAKE
