/-! references: what they name is there -/
def tgt (g i k : Nat) : Option (Nat × Nat) := match skd g with
  | some (.inr (t, n)) => if t < 2 then none else if k < n then some (rtg t, k) else none
  | _ => tau g i k
def evOk (j : Nat) : Bool := match evs.getD j (0, 0, 0, 0) with
  | (0, g, i, _) => Nat.blt i (scnt g) && Nat.beq (pos g i) (cnS j)
  | (_, g, i, k) => Nat.blt i (scnt g) && (Nat.blt (pos g i) (cnS j) && match tgt g i k with
    | some (h, b) => Nat.blt b (scnt h) && Nat.blt (pos h b) (cnS j)
    | none => false)
theorem evs_ok : ∀ j, j < SF → evOk j = true := by decide +kernel
theorem evs_len : evs.length = SF := by decide +kernel
theorem scnt_pos {g i : Nat} (h : i < scnt g) : g < 100 := by
  rcases Nat.lt_or_ge g 100 with q | q
  · exact q
  · rw [scnt_hi q] at h; omega
theorem sA_ev {s g i k : Nat} (h : sA s g i k = true) : ∃ j, j < s ∧ j < SF ∧ evs[j]? = some (1, g, i, k) := by
  have h1 : (1, g, i, k) ∈ evs.take s := by simpa [sA] using h
  obtain ⟨j, hj⟩ := List.getElem?_of_mem h1
  have h2 := (List.getElem?_eq_some_iff.mp hj).1
  rw [List.length_take, evs_len] at h2
  rw [List.getElem?_take_of_lt (by omega)] at hj
  exact ⟨j, by omega, by omega, hj⟩
theorem ev_set {j g i k : Nat} (hj : j < SF) (h : evs[j]? = some (1, g, i, k)) : i < scnt g ∧ pos g i < cnS j ∧ ∃ t b, tgt g i k = some (t, b) ∧ b < scnt t ∧ pos t b < cnS j := by
  have h1 := evs_ok j hj
  unfold evOk at h1
  rw [List.getD_eq_getElem?_getD, h] at h1
  simp only [Option.getD_some, Bool.and_eq_true, Nat.blt_eq] at h1
  obtain ⟨q1, q2, q3⟩ := h1
  cases ht : tgt g i k with
  | none => rw [ht] at q3; cases q3
  | some t =>
    rw [ht] at q3
    simp only [Bool.and_eq_true, Nat.blt_eq] at q3
    exact ⟨q1, q2, t.1, t.2, rfl, q3.1, q3.2⟩
theorem sA_tgt {s g i k : Nat} (h : sA s g i k = true) : ∃ t b, tgt g i k = some (t, b) ∧ rok s t b ∧ t < 100 := by
  obtain ⟨j, h1, h2, h3⟩ := sA_ev h
  obtain ⟨-, -, t, b, h4, h5, h6⟩ := ev_set h2 h3
  exact ⟨t, b, h4, Or.inl ⟨scnt_pos h5, h5, Nat.lt_of_lt_of_le h6 (cnS_le (Nat.le_of_lt h1))⟩, scnt_pos h5⟩
/-- in the end every reference is set -/
theorem sA_all {g i k : Nat} (hi : i < scnt g) (hk : k < csz g) (ht : tgt g i k ≠ none) : sA SF g i k = true := by
  have t1 : ∀ g, g < 100 → ∀ i, i < 24 → i < scnt g → (List.range (csz g)).all (fun k => (tgt g i k).isNone || sA SF g i k) = true := by decide +kernel
  have h := List.all_eq_true.mp (t1 g (scnt_pos hi) i (Nat.lt_of_lt_of_le hi (scnt_le g)) hi) k (List.mem_range.mpr hk)
  rw [Bool.or_eq_true] at h
  rcases h with h | h
  · exact absurd (Option.isNone_iff_eq_none.mp h) ht
  · exact h
section OPS3
variable {M : MD} {s s' pc : Nat} {L : LC} {st : List PV} {I : Mem} {X : Option (Option PV × Mem)} {a b cx : Nat} {z : Int32}
theorem op_25 {fin : Bool} {g i h bb : Nat} (hfin : fin = true → s = SF) (hok : okOp M pc (25, a, b, cx, z) = true) (hg : isObj g a = true) (hs : (fin || sA s g i b) = true) (ht : tau g i b = some (h, bb)) (k : RR M s s' (pc + 3) L (vR h bb :: st) I X) : RR M s s' pc L (vR g i :: st) I X := by
  obtain ⟨hd, ho⟩ := ok_d hok
  have hsk := isObj_at hg
  have hlt := skd_lt hsk
  obtain ⟨r, hr, hb, -, hw⟩ := fld_ok ho
  obtain ⟨k1, k2, k3, k4⟩ := cl_ok a r hr
  have htg : tgt g i b = some (h, bb) := by rw [tgt, hsk]; exact ht
  have hset : ∀ hst : sok s (vR g i :: st), sA s g i b = true := by
    intro hst
    obtain ⟨q1, q2⟩ := rok_at (sok_h hst) hlt
    cases fin with
    | true =>
      rw [hfin rfl]
      exact sA_all q1 (by rw [csz, hsk]; show b < snf a; rw [k4]; exact hb) (by rw [htg]; exact fun q => by cases q)
    | false => exact hs
  have hrok : ∀ hst : sok s (vR g i :: st), rok s h bb ∧ h < 100 := by
    intro hst
    obtain ⟨t, b1, e1, e2, e3⟩ := sA_tgt (hset hst)
    rw [htg] at e1
    cases e1
    exact ⟨e2, e3⟩
  refine rr_pure (fun _ hst => sok_c (v := vR h bb) (hrok hst).1 (sok_t hst)) (fun G p l e R s0 mid args below meth c Q H locs cells slots ls hF hl hH hS hL hst kk => ?_) k
  obtain ⟨q1, q2⟩ := rok_at (sok_h hst) hlt
  have hws := wsG_get (G := G) (I := I) q1 q2
  rw [cG_obj hsk] at hws
  have hh : h < 100 := (hrok hst).2
  show W p l e R s0 mid args below meth c H locs cells slots Q (F0 mid pc ls (.ref (ada G g i) :: st.map (tvv G)))
  rw [ada_lt hlt]
  refine va_get hF.1 hF.2.1 hF.2.2.2.2.1 k1 hF.2.2.2.1 hF.2.2.2.2.2.2.2.2.1 hH.1 (pos g i) hws hr b hb (hF.2.2.2.2.1 _ hw) (fun _ q => q) (v := .ref (ada G h bb)) ?_ hd kk
  rw [List.getElem?_map, List.getElem?_range (by rw [k4]; exact hb)]
  show some (svv G s I g i b) = _
  simp only [svv, ht]
  rw [if_pos (hset hst), ada_lt hh]
theorem cG_mup {G : GX} {g i k h bb : Nat} {v : Int32} (hn : (h, bb) ≠ (g, i)) : cG G s (mup I g i k v) h bb = cG G s I h bb := by
  have e : ∀ j, mup I g i k v h bb j = I h bb j := fun j => by
    unfold mup
    rw [if_neg (fun q => hn (by rw [q.1, q.2.1]))]
  unfold cG
  split
  · have : ∀ j, svv G s (mup I g i k v) h bb j = svv G s I h bb j := fun j => by unfold svv; split <;> simp [e]
    simp [this]
  · rw [show mup I g i k v h bb = I h bb from funext e]
  · rfl
theorem xok_mup {G : GX} {g i k : Nat} {v : Int32} (h : xok G I) (hg : g < 100) : xok G (mup I g i k v) := by
  obtain ⟨h1, h2, h3, h4⟩ := h
  have e : ∀ a b c, 100 ≤ a → mup I g i k v a b c = I a b c := fun a b c ha => by
    unfold mup
    rw [if_neg (fun q => by omega)]
  exact ⟨fun j => by rw [e _ _ _ (by omega)]; exact h1 j, by rw [e _ _ _ (by omega)]; exact h2, fun j => by rw [e _ _ _ (by omega)]; exact h3 j, fun j => by rw [e _ _ _ (by omega)]; exact h4 j⟩
theorem mup_self {g i k : Nat} {v : Int32} : mup I g i k v g i k = v := by simp [mup]
/-- a field's number is written -/
theorem op_26 {g i : Nat} {x : Int32} (hok : okOp M pc (26, a, b, cx, z) = true) (hg : isObj g a = true) (hk : pfk a b x = true) (k : RR M s s' (pc + 3) L st (mup I g i b x) X) : RR M s s' pc L (vI x :: vR g i :: st) I X := by
  obtain ⟨hd, ho⟩ := ok_d hok
  have hsk := isObj_at hg
  have hlt := skd_lt hsk
  obtain ⟨r, hr, hb, hre, hw⟩ := fld_ok ho
  obtain ⟨k1, k2, k3, k4⟩ := cl_ok a r hr
  have hbs : b < snf a := by rw [k4]; exact hb
  unfold pfk at hk
  have hk2 : fkd a b < 2 := by
    split at hk
    · next e => rw [e]; decide
    · next e => rw [e]; decide
    · cases hk
  have hfin : (r.2.1 b).2.2.2 = false ∧ ∃ ty, parseFieldDescriptor (r.2.1 b).2.2.1 = some ty ∧ narrow ty (.int x) = .int x ∧ fits ty (.int x) = true := by
    have t1 : ∀ ci, ci < 9 → (List.range (snf ci)).all (fun k => !(Nat.blt (fkd ci k) 2) || (!((xcl.getD ci ("", TX0, 0)).2.1 k).2.2.2 && (decide (((xcl.getD ci ("", TX0, 0)).2.1 k).2.2.1 = "I") && Nat.beq (fkd ci k) 0 || decide (((xcl.getD ci ("", TX0, 0)).2.1 k).2.2.1 = "Z") && Nat.beq (fkd ci k) 1))) = true := by decide +kernel
    have ha9 : a < 9 := (List.getElem?_eq_some_iff.mp hr).1
    have h1 := List.all_eq_true.mp (t1 a ha9) b (List.mem_range.mpr hbs)
    rw [hre] at h1
    have hb2 : Nat.blt (fkd a b) 2 = true := by rw [Nat.blt_eq]; exact hk2
    rw [hb2] at h1
    simp only [Bool.not_true, Bool.false_or, Bool.and_eq_true, Bool.or_eq_true, decide_eq_true_eq, Bool.not_eq_true'] at h1
    refine ⟨h1.1, ?_⟩
    rcases h1.2 with ⟨q1, q2⟩ | ⟨q1, q2⟩
    · rw [q1]
      exact ⟨.int, by decide +kernel, rfl, rfl⟩
    · rw [q1]
      rw [Nat.eq_of_beq_eq_true q2] at hk
      simp only [Bool.or_eq_true, decide_eq_true_eq] at hk
      refine ⟨.boolean, by decide +kernel, ?_⟩
      rcases hk with rfl | rfl <;> exact ⟨by decide +kernel, by decide +kernel⟩
  obtain ⟨hfin, ty, hty, hn, hfit⟩ := hfin
  intro r9 I' hX hL hst hss G p l e R s0 mid args below meth c Q c0 z0 hF hc hz hQ H locs cells slots ls hH hS h1 h2 hl
  obtain ⟨q1, q2⟩ := rok_at (sok_h (sok_t hst)) hlt
  have hws := wsG_get (G := G) (I := I) q1 q2
  rw [cG_obj hsk] at hws
  show W p l e R s0 mid args below meth c H locs cells slots Q (F0 mid pc ls (.int x :: .ref (ada G g i) :: st.map (tvv G)))
  rw [ada_lt hlt]
  obtain ⟨hP, hsz, hxo⟩ := hH
  have hK := hF.2.2.2.2.2.2.2.2.1
  have hts := hF.2.2.2.2.1
  have hap := va_apart (own := onm M.1) hts k1 (sty a) k3 k2 hK hr
  obtain ⟨r2, hr2, cell, w1, w2, w3, w4⟩ := hP (pos g i) _ hws
  have hr3 : r2 = r := Option.some.inj (hr2.symm.trans hr)
  subst hr3
  obtain ⟨hSl, hfc, kC, hkC, hkind⟩ := hK.1 a _ hr
  obtain ⟨cf, kf, fi, f, hi, hsl⟩ := hSl b hb
  have hlay := hts _ (k1 _ (u_in_lay hb))
  unfold u_lay at hlay
  rw [if_neg (by rw [hfin]; decide)] at hlay
  have hstc := (u_facts hfc hkC (u_lays hts k1 hb) hi).1
  have h6 := u_store hfc hkC hkind hlay hi hty hn hfit
  refine W.putK hF.1 hF.2.1 (f := f) ⟨hF.2.2.2.1, hts _ hw, ⟨_, _, _, hi⟩, hstc⟩ (by rw [w2]; exact h6) w1 w3 (by rw [hsl]; exact k2_hasslot (w4 b hb)) rfl rfl hd fun H' e1 e2 e3 => ?_
  rw [hsl] at e1 ⊢
  have hD := wsG_D G s I
  have hlen : b < ((List.range (snf a)).map (fun j => svv G s I g i j)).length := by simpa using hbs
  have hP' := hP.set hD hws (e := .inr (a, ((List.range (snf a)).map (fun j => svv G s I g i j)).set b (.int x))) ⟨_, hr, t_OB.to (V := updV (vp_V ((List.range (snf a)).map (fun j => svv G s I g i j))) b (.int x)) ⟨_, e1, w2, w3, t_set w4 hap hb (.int x)⟩ (fun j _ => vp_updV_set hlen (.int x) j)⟩ e3
  have hnew : (.inr (a, ((List.range (snf a)).map (fun j => svv G s I g i j)).set b (.int x)) : va_E) = cG G s (mup I g i b x) g i := by
    rw [cG_obj hsk]
    congr 2
    apply List.ext_getElem?
    intro j
    by_cases hj : j < snf a
    · rw [List.getElem?_map, List.getElem?_range hj]
      by_cases ej : j = b
      · subst ej
        rw [List.getElem?_set_self hlen]
        simp only [Option.map_some, svv, (fkd_tau (i := i) hsk hbs).mp hk2, mup_self]
      · rw [List.getElem?_set_ne (fun q => ej q.symm), List.getElem?_map, List.getElem?_range hj]
        simp only [Option.map_some, svv]
        have : mup I g i b x g i j = I g i j := by simp [mup, ej]
        rw [this]
    · rw [List.getElem?_eq_none (by simpa using Nat.not_lt.mp hj), List.getElem?_eq_none (by simpa using Nat.not_lt.mp hj)]
  rw [hnew, wsG_set q1 q2 rfl (fun h bb _ hne => cG_mup hne)] at hP'
  exact k r9 I' hX hL (sok_t (sok_t hst)) hss G p l e R s0 mid args below meth c Q c0 z0 hF hc hz hQ H' _ cells slots ls ⟨hP', e2.trans hsz, xok_mup hxo hlt⟩ (hS.put e2 e3 (hD.2 _ _ hws)) h1 h2 hl
end OPS3
