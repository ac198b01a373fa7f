theorem ev_put {s g i k : Nat} (he : evs[s]? = some (1, g, i, k)) : i < scnt g ∧ pos g i < cnS s ∧ ∃ t b, tgt g i k = some (t, b) ∧ b < scnt t ∧ pos t b < cnS s := by
  have hs : s < SF := by rw [← evs_len]; exact (List.getElem?_eq_some_iff.mp he).1
  exact ev_set hs he
theorem cG_put {G : GX} {s g i k h b : Nat} {I : Mem} (he : evs[s]? = some (1, g, i, k)) (hne : (h, b) ≠ (g, i)) : cG G (s + 1) I h b = cG G s I h b := by
  have e : ∀ j, sA (s + 1) h b j = sA s h b j := fun j => by
    rw [sA_put he]
    have : ¬ (h, b, j) = (g, i, k) := fun q => hne (by obtain ⟨w1, w2, -⟩ := Prod.mk.injEq .. ▸ q; simp_all)
    simp [this]
  unfold cG
  split
  · have : ∀ j, svv G (s + 1) I h b j = svv G s I h b j := fun j => by unfold svv; rw [e]
    simp [this]
  · simp only [e]
  · rfl
section MAKE2
variable {M : MD} {s s' pc : Nat} {L : LC} {st : List PV} {I : Mem} {X : Option (Option PV × Mem)}
/-- a final field of references is set, in the constructor -/
theorem rr_putR (g i a b cx h bb : Nat) (hd : decode M.2.2.1 pc = .ok (.putfield cx, 3)) (ho : fldT.contains (M.1, cx, a, b) = true) (he : evs[s]? = some (1, g, i, b)) (hk : skd g = some (.inl a)) (ht : tau g i b = some (h, bb)) (hq : (decide (((xcl.getD a ("", TX0, 0)).2.1 b).2.2.2 = true) && (decide (M.2.1.name = "<init>") && (decide (((xcl.getD a ("", TX0, 0)).2.1 b).1 = onm M.1) && (match sty a b with | .object _ => true | .array _ => true | _ => false)))) = true) (hss2 : s + 1 ≤ s')
    (k : RR M (s + 1) s' (pc + 3) L st I X) : RR M s s' pc L (vR h bb :: vR g i :: st) I X := by
  intro r9 I' hX hL hst hss G p l e R s0 mid args below meth c Q c0 z0 hF hc hz hQ H locs cells slots ls hH hS h1 h2 hl
  have hlt := skd_lt hk
  obtain ⟨r, hr, hb, hre, hw⟩ := fld_ok ho
  obtain ⟨k1, k2, k3, k4⟩ := cl_ok a r hr
  have hbs : b < snf a := by rw [k4]; exact hb
  rw [hre] at hq
  simp only [Bool.and_eq_true, decide_eq_true_eq] at hq
  obtain ⟨hfin, hini, hdecl, hkd⟩ := hq
  obtain ⟨q1, q2, t9, b9, e9, e10, e11⟩ := ev_put he
  have htg : tgt g i b = some (h, bb) := by rw [tgt, hk]; exact ht
  rw [htg] at e9
  cases e9
  have hlh := scnt_pos e10
  have hws := wsG_get (G := G) (I := I) q1 q2
  rw [cG_obj hk] at hws
  show W p l e R s0 mid args below meth c H locs cells slots Q (F0 mid pc ls (.ref (ada G h bb) :: .ref (ada G g i) :: st.map (tvv G)))
  rw [ada_lt hlt, ada_lt hlh]
  obtain ⟨hP, hsz, hxo⟩ := hH
  have hK := (FC_fx hF).1
  have hts := hF.2.2.2.2.1
  have hown := hF.2.2.2.1
  have hap := va_apart (own := onm M.1) hts k1 (sty a) k3 k2 hK hr
  obtain ⟨r2, hr2, cell, w1, w2, w3, w4⟩ := hP (pos g i) _ hws
  have hr3 : r2 = r := Option.some.inj (hr2.symm.trans hr)
  subst hr3
  obtain ⟨hSl, hfc, kC, hkC, hkind⟩ := hK.1 a _ hr
  obtain ⟨cf, kf, fi, f, hi, hsl⟩ := hSl b hb
  have hlay := hts _ (k1 _ (u_in_lay hb))
  unfold u_lay at hlay
  rw [if_pos hfin] at hlay
  have hstc := (u_facts hfc hkC (u_lays hts k1 hb) hi).1
  have hcf : mid.cls = cf := by
    obtain ⟨_, _, c', _, _, _, -, -, hf', -, -, -, hown2, -⟩ := Cond.laysFinal_spec hlay
    have e1 : c' = cf := by have := hi.symm.trans hf'; simp at this; exact this.1.symm
    rw [hdecl] at hown2
    rw [← e1]; exact Option.some.inj (hown.symm.trans hown2)
  have h6 := u_fits (v := .ref (G.1 + pos h bb)) hfc hkC hkind (Or.inr hlay) hi (k3 b hb) (by cases hty : sty a b <;> rw [hty] at hkd <;> first | rfl | cases hkd) (by cases hty : sty a b <;> rw [hty] at hkd <;> first | rfl | cases hkd)
  refine W.putFinK hF.1 hF.2.1 hown (hts _ hw) hi hstc hcf (hF.2.2.2.2.2.1 hini) (by rw [w2]; exact h6) w1 w3 (by rw [hsl]; exact k2_hasslot (w4 b hb)) rfl rfl hd fun H' e1 e2 e3 => ?_
  rw [hsl] at e1 ⊢
  have hD := wsG_D G s I
  have hlen : b < ((List.range (snf a)).map (fun j => svv G s I g i j)).length := by simpa using hbs
  have hP' := hP.set hD hws (e := .inr (a, ((List.range (snf a)).map (fun j => svv G s I g i j)).set b (.ref (G.1 + pos h bb)))) ⟨_, hr, t_OB.to (V := updV (vp_V ((List.range (snf a)).map (fun j => svv G s I g i j))) b (.ref (G.1 + pos h bb))) ⟨_, e1, w2, w3, t_set w4 hap hb (.ref (G.1 + pos h bb))⟩ (fun j _ => vp_updV_set hlen (.ref (G.1 + pos h bb)) j)⟩ e3
  have hnew : (.inr (a, ((List.range (snf a)).map (fun j => svv G s I g i j)).set b (.ref (G.1 + pos h bb))) : va_E) = cG G (s + 1) I g i := by
    rw [cG_obj hk]
    congr 2
    apply List.ext_getElem?
    intro j
    by_cases hj : j < snf a
    · rw [List.getElem?_map, List.getElem?_range hj]
      by_cases ej : j = b
      · subst ej
        rw [List.getElem?_set_self hlen]
        simp only [Option.map_some, svv, ht]
        rw [sA_put he]
        simp
      · rw [List.getElem?_set_ne (fun q => ej q.symm), List.getElem?_map, List.getElem?_range hj]
        simp only [Option.map_some, svv]
        rw [sA_put he]
        simp [ej]
    · rw [List.getElem?_eq_none (by simpa using Nat.not_lt.mp hj), List.getElem?_eq_none (by simpa using Nat.not_lt.mp hj)]
  obtain ⟨cp1, cp2⟩ := cn_put he
  rw [hnew, wsG_set q1 q2 cp1 (fun h bb _ hne => cG_put he hne)] at hP'
  exact k r9 I' hX (lok_le (Nat.le_succ s) hL) (sok_le (Nat.le_succ s) (sok_t (sok_t hst))) hss2 G p l e R s0 mid args below meth c Q c0 z0 hF hc hz hQ H' _ cells slots ls ⟨hP', by rw [e2, hsz, cp1], hxo⟩ (hS.put e2 e3 (hD.2 _ _ hws)) (by omega) (by omega) hl
/-- an element of an array of references is set -/
theorem rr_putA (g i j t n : Nat) (x : Int32) (ci : Nat) (hd : decode M.2.2.1 pc = .ok (.aastore, 1)) (hx : x = nI j ∧ n < 100000 ∧ j < n) (he : evs[s]? = some (1, g, i, j)) (hk : skd g = some (.inr (t + 2, n))) (hk2 : skd (rtg (t + 2)) = some (.inl ci)) (hci : (xcl.getD ci ("", TX0, 0)).1 = rcl (t + 2) ∧ ci < 9) (hss2 : s + 1 ≤ s')
    (k : RR M (s + 1) s' (pc + 1) L st I X) : RR M s s' pc L (vR (rtg (t + 2)) j :: vI x :: vR g i :: st) I X := by
  intro r9 I' hX hL hst hss G p l e R s0 mid args below meth c Q c0 z0 hF hc hz hQ H locs cells slots ls hH hS h1 h2 hl
  obtain ⟨rfl, hn5, hjn⟩ := hx
  have hlt := skd_lt hk
  have hlh := skd_lt hk2
  obtain ⟨q1, q2, t9, b9, e9, e10, e11⟩ := ev_put he
  have htg : tgt g i j = some (rtg (t + 2), j) := by
    rw [tgt, hk]
    show (if t + 2 < 2 then none else if _ then _ else none) = _
    rw [if_neg (by omega), if_pos hjn]
  rw [htg] at e9
  cases e9
  have hws := wsG_get (G := G) (I := I) q1 q2
  rw [cG_rarr hk (by omega)] at hws
  have hws2 := wsG_get (G := G) (I := I) e10 e11
  rw [cG_obj hk2] at hws2
  have ht4 := skd_t hk
  have hty : ([.int, .boolean, .object (rcl 2), .object (rcl 3)] : List FieldType).getD (t + 2) .int = .object (rcl (t + 2)) := by
    rcases (show t = 0 ∨ t = 1 by omega) with rfl | rfl <;> rfl
  show W p l e R s0 mid args below meth c H locs cells slots Q (F0 mid pc ls (.ref (ada G (rtg (t + 2)) j) :: .int (nI j) :: .ref (ada G g i) :: st.map (tvv G)))
  rw [ada_lt hlt, ada_lt hlh]
  obtain ⟨hP, hsz, hxo⟩ := hH
  have hK := (FC_fx hF).1
  have hin : vp_in (nI j) n := vp_in_nI hjn (by omega)
  have hcl : (nI j).toNatClampNeg = j := nI_clamp (by omega)
  have hxc : xcl[ci]? = some (xcl.getD ci ("", TX0, 0)) := by
    rw [List.getD_eq_getElem?_getD, List.getElem?_eq_getElem (show ci < xcl.length from hci.2)]; rfl
  obtain ⟨r', hr', cellV, g1, g2, g3, -⟩ := hP _ _ hws2
  have hcls := (hK.1 ci _ hxc).2
  have h3 := (hK.2 (t + 2) _ (tysG_at ht4)).2
  rw [hty] at h3
  obtain ⟨kA, comp, f1, f2, f3, -⟩ := h3
  rw [hci.1] at hcls
  have hcomp : comp = G.2.1.1 ci := Option.some.inj (f3.symm.trans hcls.1)
  subst hcomp
  obtain ⟨kC, hkC, -⟩ := hcls.2
  have hD := wsG_D G s I
  refine W.aast hF.1 hF.2.1 (hP _ _ hws) (fun q h => by cases h) (fun h => by cases h) f1 f2 rfl hkC ⟨fun q => hin (Or.inl q), by show _ < (arrV _ _ _).slots.size; rw [arrV_size, hcl]; exact hjn⟩ g1 (fun q h => by rw [g3] at h; cases h) (by rw [g2]; exact hkC) (by rw [g2]; exact va_assign hcls) rfl rfl hd fun H1 e1 z1 oq => ?_
  have hP' := hP.set hD hws (e := cG G (s + 1) I g i) (by
    rw [cG_rarr hk (by omega)]
    show H1[_]? = some (vp_cell _ _)
    rw [e1]
    rw [vp_cell_q, vp_cell_q, arrV_store]
    congr 2
    funext q
    rw [hcl]
    by_cases hq : q = j
    · subst hq
      rw [sA_put he]
      simp [updV, va_rf]
    · rw [sA_put he]
      simp [updV, hq]) oq
  obtain ⟨cp1, cp2⟩ := cn_put he
  rw [wsG_set q1 q2 cp1 (fun h bb _ hne => cG_put he hne)] at hP'
  exact k r9 I' hX (lok_le (Nat.le_succ s) hL) (sok_le (Nat.le_succ s) (sok_t (sok_t (sok_t hst)))) hss2 G p l e R s0 mid args below meth c Q c0 z0 hF hc hz hQ H1 _ cells slots ls ⟨hP', by rw [z1, hsz, cp1], hxo⟩ (hS.put z1 oq (hD.2 _ _ hws)) (by omega) (by omega) hl
/-- a switch on numbers from 0 on -/
def tsw {α : Type} (x : Int32) : Nat → List (Option α) → Option α → Option α
  | _, [], d => d
  | j, y :: ys, d => if x = nI j then y else tsw x (j + 1) ys d
def allR (M : MD) (s s' : Nat) (L : LC) (st : List PV) (I : Mem) : List Nat → List (Option (Option PV × Mem)) → Prop
  | [], [] => True
  | t :: ts, y :: ys => RR M s s' t L st I y ∧ allR M s s' L st I ts ys
  | _, _ => False
theorem allR_at : ∀ {ts : List Nat} {ys : List (Option (Option PV × Mem))} {j0 n : Nat} {d : Option (Option PV × Mem)}, allR M s s' L st I ts ys → j0 + ts.length < 2 ^ 31 → n < ts.length → ∃ t, ts[n]? = some t ∧ RR M s s' t L st I (tsw (nI (j0 + n)) j0 ys d)
  | [], _, _, _, _, _, _, hn => absurd hn (Nat.not_lt_zero _)
  | t :: ts, [], _, _, _, h, _, _ => h.elim
  | t :: ts, y :: ys, j0, 0, d, h, _, _ => ⟨t, rfl, by rw [Nat.add_zero, tsw, if_pos rfl]; exact h.1⟩
  | t :: ts, y :: ys, j0, n + 1, d, h, hb, hn => by
    simp only [List.length_cons] at hb hn
    obtain ⟨t2, h1, h2⟩ := allR_at (d := d) (j0 := j0 + 1) (n := n) h.2 (by omega) (by omega)
    refine ⟨t2, by simpa using h1, ?_⟩
    rw [tsw, if_neg (fun q => by have := (nI_eq (by omega) (by omega)).mp q; omega)]
    rw [show j0 + (n + 1) = j0 + 1 + n by omega]
    exact h2
theorem tsw_out {x : Int32} {d : Option (Option PV × Mem)} : ∀ {ys : List (Option (Option PV × Mem))} {j0 : Nat}, (∀ j, j0 ≤ j → j < j0 + ys.length → x ≠ nI j) → tsw x j0 ys d = d
  | [], _, _ => rfl
  | y :: ys, j0, h => by
    rw [tsw, if_neg (h j0 (Nat.le_refl _) (by simp))]
    exact tsw_out (fun j h1 h2 => h j (by omega) (by simp only [List.length_cons]; omega))
theorem allR_len : ∀ {ts : List Nat} {ys : List (Option (Option PV × Mem))}, allR M s s' L st I ts ys → ts.length = ys.length
  | [], [], _ => rfl
  | _ :: _, _ :: _, h => by simp [allR_len h.2]
  | [], _ :: _, h => h.elim
  | _ :: _, [], h => h.elim
theorem rr_tsw {x : Int32} {ys : List (Option (Option PV × Mem))} {Y : Option (Option PV × Mem)} (dt : Nat) (ts : List Nat) (len : Nat) (hd : decode M.2.2.1 pc = .ok (.tableswitch ((dt : Int) - (pc : Int)) 0 ((ts.length : Int) - 1) (ts.map (fun t : Nat => (t : Int) - (pc : Int))).toArray, len)) (hn : Nat.blt ts.length 1000 = true) (ks : allR M s s' L st I ts ys) (kd : RR M s s' dt L st I Y) : RR M s s' pc L (vI x :: st) I (tsw x 0 ys Y) := by
  intro r9 I' hX hL hst hss G p l e R s0 mid args below meth c Q c0 z0 hF hc hz hQ H locs cells slots ls hH hS h1 h2 hl
  have hn5 := Nat.blt_eq.mp hn
  by_cases hx : x.toInt < 0 ∨ (ts.length : Int) - 1 < x.toInt
  · rw [tsw_out (fun j hj hj2 q => by
      rw [q, nI_toInt (by have := allR_len ks; omega)] at hx
      have := allR_len ks
      omega)] at hX
    exact lv_tableOut hF.1 hF.2.1 (tgt := dt) hd hx (by omega) (kd r9 I' hX hL (sok_t hst) hss G p l e R s0 mid args below meth c Q c0 z0 hF hc hz hQ H locs cells slots ls hH hS h1 h2 hl)
  · rw [not_or] at hx
    obtain ⟨j, hj, rfl⟩ := nI_of (x := x) (fun q => hx.1 (by simpa [Int32.lt_iff_toInt_lt] using q))
    rw [nI_toInt hj] at hx
    have hjl : j < ts.length := by omega
    obtain ⟨t, f1, f2⟩ := allR_at (d := Y) (j0 := 0) (n := j) ks (by omega) hjl
    rw [Nat.zero_add] at f2
    exact lv_tableIn hF.1 hF.2.1 (off := (t : Int) - (pc : Int)) (tgt := t) hd (by rw [nI_toInt hj]; omega) (by rw [nI_toInt hj]; omega) (by rw [nI_toInt hj]; simp [f1]) (by omega) (f2 r9 I' hX hL (sok_t hst) hss G p l e R s0 mid args below meth c Q c0 z0 hF hc hz hQ H locs cells slots ls hH hS h1 h2 hl)
end MAKE2
