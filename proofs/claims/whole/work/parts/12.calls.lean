/-! ===== a method's contract out of the judgement; calls ===== -/
/-- the locals at the entry -/
def ent (M : MD) (as : List PV) : LC := as.map some ++ List.replicate (M.2.2.2.1 - as.length) none
/-- the method is in the tables: its code, how it is called (0 an object's method, 1 a static one, 2 a constructor) -/
def mOk (M : MD) (kd : Nat) (n : Nat) : Prop := Cond.code M.2.1 M.2.2.1 M.2.2.2.1 M.2.2.2.2.1 ∈ wAll ∧ Cond.initialized M.2.1.cls ∈ wAll ∧ plainFor M.2.1 = true ∧ M.2.1.cls = onm M.1 ∧ M.2.1.cls ≠ "java/lang/invoke/MethodHandle" ∧ M.2.1.cls ≠ "java/lang/invoke/VarHandle" ∧ (parseMethodDescriptor M.2.1.desc).map (fun d => d.parameters.length) = some n ∧ (match kd with
  | 0 => Cond.instanceMethod M.2.1 ∈ wAll ∧ Cond.selects M.2.1.cls M.2.1 M.2.1 ∈ wAll ∧ (xcl.getD M.1 ("", TX0, 0)).1 = M.2.1.cls ∧ M.1 < 9
  | 1 => Cond.static M.2.1 ∈ wAll
  | _ => Cond.instanceMethod M.2.1 ∈ wAll ∧ M.2.1.name = "<init>" ∧ M.2.2.2.2.1 = none)
/-- a word of the tables by its place -/
theorem w_at {w : Cond} (i : Nat) (h : lw_tbl[i]? = some w) (hg : goodWord w = true) : w ∈ wAll := List.mem_filter.mpr ⟨List.mem_of_getElem? h, hg⟩
/-- a contract out of a walk, for any class whose methods run as they are written -/
theorem Met.ofWF {l : Launch} {y : MethodName} {ws ws' : List Cond} {rm : Room} {Pc : Array Value → State → Prop} {Qc : Array Value → State → Outcome → State → Prop} {mc ms : Nat} {free : Addr → Prop} {cc : ByteArray} {maxL : Nat} {ret : Option FieldType}
    (hy : plainFor y = true) (hw : ws = Cond.code y cc maxL ret :: ws')
    (body : ∀ p e s m args below meth c s₁, BodyLoose p l y (headSpec ws rm) cc maxL ret e s m args below meth c s₁ → c.maxLocals = maxL → Pc args s →
      W p l e (headSpec ws rm).room s m args below meth c s.heap [] 0 0 (MQ below Qc args s mc ms free) (entryFrame m args maxL)) : Met l y ws rm Pc Qc mc ms free := by
  refine MetFree.of_bodySF (code := cc) (maxLocals := maxL) (ret := ret) hy ?_ ?_
  · intro args s m h hn
    obtain ⟨meth, c, h1, h2, h3, h4, h5, h6, -, -⟩ := Cond.code_spec hn (atoms_spec (ws := ws) h _ (by rw [hw]; exact List.mem_cons_self))
    exact ⟨meth, c, h1, h2, h3, h4, h5, h6⟩
  · intro p e s m args below meth c s₁ B hml hP _
    have hh0 : s₁.heap = s.heap := by rw [B.state]; rfl
    obtain ⟨t, a1, o, b1, b2, b3⟩ := body p e s m args below meth c s₁ B hml hP s₁ hh0 (Stand.of_body B)
    exact ⟨t, o, a1, b1, b2, ⟨b3.1, b3.2⟩⟩
def QcR (G : GX) (r : Option PV) (s' : Nat) (J : Mem) : Array Value → State → Outcome → State → Prop := fun _ st o t => o = .returned (r.map (tvv G)) ∧ HW G s' J t.heap ∧ va_F (gA G) st t ∧ ∀ v, r = some v → pok s' v
def PcR (G : GX) (as : List PV) (s : Nat) (I : Mem) : Array Value → State → Prop := va_Pc (as.map (tvv G)) (fun U => HW G s I U.heap ∧ FX G U)
theorem lv_args_in {G : GX} : ∀ (as : List PV) (k : Nat) (q : Nat × Value), as.all (fun v => !is2 (some (some v))) = true → q ∈ lvl G k (as.map some) → q ∈ lv_args k (as.map (tvv G))
  | [], _, _, _, h => by simp [lvl] at h
  | v :: as, k, q, ha, h => by
    simp only [List.all_cons, Bool.and_eq_true, Bool.not_eq_true'] at ha
    simp only [List.map_cons, lvl, List.mem_cons] at h
    simp only [List.map_cons, lv_args, List.mem_cons]
    rcases h with h | h
    · exact Or.inl h
    · refine Or.inr ?_
      have := lv_args_in as (k + 1) q ha.2 h
      rw [tvv_cat, ha.1]
      exact this
theorem sl_len {G : GX} : ∀ (as : List PV), as.all (fun v => !is2 (some (some v))) = true → (lg_sl (as.map (tvv G))).length = as.length
  | [], _ => rfl
  | v :: as, ha => by
    simp only [List.all_cons, Bool.and_eq_true, Bool.not_eq_true'] at ha
    have := sl_len (G := G) as ha.2
    rcases v with x | x | ⟨g, i⟩
    · simp only [List.map_cons, lg_sl, tvv, List.length_cons]; first | omega | simp_all [lg_sl, Value.category]
    · cases ha.1
    · simp only [List.map_cons, lg_sl, tvv, List.length_cons]; first | omega | simp_all [lg_sl, Value.category]
theorem lvl_ent {G : GX} {M : MD} {as : List PV} {q : Nat × Value} (h : q ∈ lvl G 0 (ent M as)) : q ∈ lvl G 0 (as.map some) := by
  obtain ⟨i, v, h1, rfl⟩ := lvl_mem.mp h
  refine lvl_mem.mpr ⟨i, v, ?_, rfl⟩
  unfold ent at h1
  by_cases hi : i < (as.map some).length
  · rwa [List.getElem?_append_left hi] at h1
  · rw [List.getElem?_append_right (Nat.not_lt.mp hi)] at h1
    have := List.mem_of_getElem? h1
    simp at this
theorem met_RR {M : MD} {s s' : Nat} {as : List PV} {I J : Mem} {X : Option (Option PV × Mem)} {r : Option PV} {kd n : Nat} (hR : RR M s s' 0 (ent M as) [] I X) (hX : X = some (r, J)) (hm : mOk M kd n) (hn : as.length ≤ M.2.2.2.1) (h2 : as.all (fun v => !is2 (some (some v))) = true) (hok : sok s as) (hss : s ≤ s') (l : Launch) (G : GX) : Met l M.2.1 (wsM M) (rmM M s s') (PcR G as s I) (QcR G r s' J) (cnS s' - cnS s) (slS s' - slS s) (gA G) := by
  obtain ⟨m1, m2, m3, m4, m5, m6, m7, m8⟩ := hm
  refine Met.ofWF (cc := M.2.2.1) (maxL := M.2.2.2.1) (ret := M.2.2.2.2.1) m3 rfl ?_
  intro p e s0 m args below meth c s₁ B hml hv
  obtain ⟨rfl, hH, hfx⟩ := hv
  have hts := atoms_spec (ws := wsM M) B.pre
  have hown : s0.vm.findClass M.2.1.cls = some m.cls := findClass_of_methodNamed B.named
  have hlocks := B.notSynchronized
  have hF : FC G M p (headSpec (wsM M) (rmM M s s')).room s0 m (as.map (tvv G)).toArray meth c := ⟨B.exec, B.bytes, hml, by rw [← m4]; exact hown, fun w hw => hts w (List.mem_cons_of_mem _ hw), fun h => (name_of_methodNamed B.named B.method).1.trans h, Nat.le_refl _, Nat.le_refl _, hfx⟩
  have hl := lv_entry (as.map (tvv G)) (n := M.2.2.2.1) (by rw [sl_len as h2]; exact hn)
  rw [lg_entry_eq]
  generalize (lg_sl (as.map (tvv G)) ++ List.replicate (M.2.2.2.1 - (lg_sl (as.map (tvv G))).length) Slot.unset).toArray = ls at hl ⊢
  have hcs := cnS_le hss
  have hsl := slS_le hss
  refine hR r J hX ?_ (fun v h => by cases h) hss G p l e _ s0 m _ below meth c _ (cnS s) (slS s) hF (by show cnS s' ≤ (cnS s' - cnS s) + cnS s; omega) (by show slS s' ≤ (slS s' - slS s) + slS s; omega) ?_ s0.heap [] 0 0 ls hH va_S.rf (by omega) (by omega) ⟨⟨hl.1, hl.2.1, fun q hq => hl.2.2 q (lv_args_in as 0 q h2 (lvl_ent hq))⟩, by simp [ent]; omega⟩
  · intro v hv
    unfold ent at hv
    rcases List.mem_append.mp hv with q | q
    · obtain ⟨w, hw, e⟩ := List.mem_map.mp q
      cases e
      exact hok v hw
    · have := List.eq_of_mem_replicate q
      cases this
  · intro H locs cells slots pc ls2 hro hpk hH2 hS hc hz hd
    have ec : cells = cnS s' - cnS s := by omega
    have ez : slots = slS s' - slS s := by omega
    subst ec; subst ez
    have hr := B.returns
    unfold retOk at hro
    have hq : ∀ t : State, t.heap = H → s0.WarmedH t.vm → QcR G r s' J (as.map (tvv G)).toArray s0 (.returned (r.map (tvv G))) t := fun t ht hW => ⟨rfl, by rw [ht]; exact hH2, hS.F ht, hpk⟩
    split at hro
    · next x e2 => exact W.iret (v := x) B.exec B.bytes (hr.trans e2) hq hS.2.2 hd
    · next x e2 => exact W.zret (v := x) (ty := .boolean) B.exec B.bytes (hr.trans e2) (by rcases hro with rfl | rfl <;> decide +kernel) hq hS.2.2 hd
    · next nm x e2 => exact W.aret (v := tvv G (.inr (.inr x))) B.exec B.bytes (hr.trans e2) (Or.inl ⟨_, rfl⟩) (Or.inr ⟨_, rfl⟩) hq hS.2.2 hd
    · next e2 => exact W.vret B.exec B.bytes (hr.trans e2) hq hS.2.2 hd
    · cases hro
