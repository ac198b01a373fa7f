/-! ===== the pure machine: values, memory, the heap's picture ===== -/
abbrev PV : Type := Int32 ⊕ (Int64 ⊕ (Nat × Nat))
abbrev vI (x : Int32) : PV := .inl x
abbrev vL (x : Int64) : PV := .inr (.inl x)
abbrev vR (g i : Nat) : PV := .inr (.inr (g, i))
abbrev Mem : Type := Nat → Nat → Nat → Int32
abbrev LC : Type := List (Option PV)
/-- a cell's number changed -/
def mup (I : Mem) (g i k : Nat) (v : Int32) : Mem := fun a b c => if a = g ∧ b = i ∧ c = k then v else I a b c
/-- a cell that comes is all 0 -/
def mz (I : Mem) (g i : Nat) : Mem := fun a b c => if a = g ∧ b = i then 0 else I a b c
/-- the world's constants: where the new cells begin, class numbers, array classes, the script, static arrays -/
abbrev GX : Type := Nat × va_G × (Nat → ClassId) × (Nat × Nat × (Nat → Int32)) × (Nat × Nat)
abbrev gA (G : GX) : Nat → Prop := fun q => G.1 ≤ q
def cnS (s : Nat) : Nat := ((evs.take s).filter (fun e => e.1 == 0)).length
def csz (g : Nat) : Nat := match skd g with
  | some (.inl ci) => snf ci
  | some (.inr (_, n)) => n
  | none => 0
def slS (s : Nat) : Nat := (((evs.take s).filter (fun e => e.1 == 0)).map (fun e => csz e.2.1)).sum
def sA (s g i k : Nat) : Bool := (evs.take s).contains (1, g, i, k)
def svv (G : GX) (s : Nat) (I : Mem) (g i j : Nat) : Value := match tau g i j with
  | none => .int (I g i j)
  | some (h, b) => if sA s g i j = true then .ref (G.1 + pos h b) else .null
def cG (G : GX) (s : Nat) (I : Mem) (g i : Nat) : va_E := match skd g with
  | some (.inl ci) => .inr (ci, (List.range (snf ci)).map (fun j => svv G s I g i j))
  | some (.inr (t, n)) => if t < 2 then .inl (G.2.2.1 t, n, .inl (I g i)) else .inl (G.2.2.1 t, n, .inr (.inr (.inr (.inr (fun j => if sA s g i j = true then some (G.1 + pos (rtg t) j) else none)))))
  | none => .inr (0, [])
def cE (G : GX) (s : Nat) (I : Mem) (k : Nat) : Nat × va_E := (G.1 + k, cG G s I (cellsL.getD k (0, 0)).1 (cellsL.getD k (0, 0)).2)
def wsG (G : GX) (s : Nat) (I : Mem) : va_W := (List.range (cnS s)).map (cE G s I)
abbrev tysG (G : GX) : List (ClassId × FieldType) := [(G.2.2.1 0, .int), (G.2.2.1 1, .boolean), (G.2.2.1 2, .object (rcl 2)), (G.2.2.1 3, .object (rcl 3))]
def ada (G : GX) (g i : Nat) : Nat := if g < 100 then G.1 + pos g i else if g = 100 then G.2.2.2.1.1 else if g = 101 then G.2.2.2.2.1 else G.2.2.2.2.2
def tvv (G : GX) (v : PV) : Value := match v with
  | .inl x => .int x
  | .inr (.inl x) => .long x
  | .inr (.inr (g, i)) => .ref (ada G g i)
/-- a reference is good at a stage -/
def rok (s g i : Nat) : Prop := (g < 100 ∧ i < scnt g ∧ pos g i < cnS s) ∨ (100 ≤ g ∧ g < 103 ∧ i = 0)
def pok (s : Nat) (v : PV) : Prop := match v with
  | .inr (.inr (g, i)) => rok s g i
  | _ => True
def lok (s : Nat) (L : LC) : Prop := ∀ v, some v ∈ L → pok s v
def sok (s : Nat) (st : List PV) : Prop := ∀ v ∈ st, pok s v
def lvl (G : GX) : Nat → LC → List (Nat × Value)
  | _, [] => []
  | k, none :: t => lvl G (k + 1) t
  | k, some v :: t => (k, tvv G v) :: lvl G (k + 1) t
/-- the numbers that nobody writes stand in the memory, too -/
def xok (G : GX) (I : Mem) : Prop := (∀ j, I 100 0 j = G.2.2.2.1.2.2 j) ∧ I 103 0 0 = nI G.2.2.2.1.2.1 ∧ (∀ j, I 101 0 j = xsa101.getD j 0) ∧ ∀ j, I 102 0 j = xsa102.getD j 0
def HW (G : GX) (s : Nat) (I : Mem) (H : Heap) : Prop := va_P G.2.1 xcl (wsG G s I) H ∧ H.size = G.1 + cnS s ∧ xok G I
/-- what a method's start state must give beside its heap -/
def FX (G : GX) (U : State) : Prop := va_K G.2.1 xcl (tysG G) U ∧ (va_X G.2.2.2.1.1 G.2.2.2.1.2.1 G.2.2.2.1.2.2 U U.heap ∧ G.2.2.2.1.1 < G.1 ∧ G.2.2.2.1.2.1 < 2 ^ 31) ∧
  (va_Z "TakeDesk" "KIND_ABOVE" "[I" (.ref G.2.2.2.2.1) (gA G) U U.heap ∧ va_T .int G.2.2.2.2.1 5 (fun j => .int (xsa101.getD j 0)) (gA G) U U.heap) ∧
  (va_Z "TakeDesk" "MARK_WORTH" "[I" (.ref G.2.2.2.2.2) (gA G) U U.heap ∧ va_T .int G.2.2.2.2.2 4 (fun j => .int (xsa102.getD j 0)) (gA G) U U.heap) ∧ G.1 ≤ U.heap.size ∧ (∀ w ∈ nwW, va_Nw w U) ∧ va_AO (rcl 2) U ∧ va_AO (rcl 3) U
/-- a method: its class, its name, its code, locals, answer, room -/
abbrev MD : Type := Nat × MethodName × ByteArray × Nat × Option FieldType × Nat × Nat
abbrev rmM (M : MD) (s s' : Nat) : Room := { frames := M.2.2.2.2.2.1, cells := cnS s' - cnS s, slots := slS s' - slS s, locals := M.2.2.2.2.2.2 }
abbrev wsM (M : MD) : List Cond := .code M.2.1 M.2.2.1 M.2.2.2.1 M.2.2.2.2.1 :: wAll
/-- the frame's own facts -/
def FC (G : GX) (M : MD) (p : Program) (R : Room) (s0 : State) (mid : MethodId) (args : Array Value) (meth : Method) (c : Code) : Prop :=
  p.tables.exec = Jvm.exec ∧ c.code = M.2.2.1 ∧ c.maxLocals = M.2.2.2.1 ∧ s0.vm.findClass (onm M.1) = some mid.cls ∧ (∀ w ∈ wAll, w.before args s0 = true) ∧ (M.2.1.name = "<init>" → meth.name = "<init>") ∧ M.2.2.2.2.2.1 ≤ R.frames ∧ M.2.2.2.2.2.2 ≤ R.locals ∧ FX G s0
/-- how a frame may end: by any instruction that answers r, with the heap's picture I' -/
def retI (r : Option PV) : Instr := match r with
  | none => .return_
  | some (.inl _) => .ireturn
  | some (.inr (.inl _)) => .lreturn
  | some (.inr (.inr _)) => .areturn
/-- an answer fits the method's kind -/
def retOk (M : MD) (r : Option PV) : Prop := match M.2.2.2.2.1, r with
  | some .int, some (.inl _) => True
  | some .boolean, some (.inl v) => v = 0 ∨ v = 1
  | some (.object _), some (.inr (.inr _)) => True
  | none, none => True
  | _, _ => False
def LV (G : GX) (M : MD) (L : LC) (ls : Array Slot) : Prop := lv_has ls M.2.2.2.1 (lvl G 0 L) ∧ L.length = M.2.2.2.1
/-- the judgement: from here the method answers as X says, if X says anything -/
def RR (M : MD) (s s' : Nat) (pc : Nat) (L : LC) (st : List PV) (I : Mem) (X : Option (Option PV × Mem)) : Prop :=
  ∀ (r : Option PV) (I' : Mem), X = some (r, I') → lok s L → sok s st → s ≤ s' →
  ∀ (G : GX) (p : Program) (l : Launch) (e : Env) (R : Room) (s0 : State) (mid : MethodId) (args : Array Value) (below : List Frame) (meth : Method) (c : Code) (Q : State → Prop) (c0 z0 : Nat),
    FC G M p R s0 mid args meth c → cnS s' ≤ R.cells + c0 → slS s' ≤ R.slots + z0 →
    (∀ (H : Heap) (locs : List Loc) (cells slots pc : Nat) (ls : Array Slot), retOk M r → (∀ v, r = some v → pok s' v) → HW G s' I' H → va_S (gA G) s0.heap H locs → cells + c0 = cnS s' → slots + z0 = slS s' → decode M.2.2.1 pc = .ok (retI r, 1) → W p l e R s0 mid args below meth c H locs cells slots Q (F0 mid pc ls (r.map (tvv G)).toList)) →
    ∀ (H : Heap) (locs : List Loc) (cells slots : Nat) (ls : Array Slot), HW G s I H → va_S (gA G) s0.heap H locs → cells + c0 = cnS s → slots + z0 = slS s → LV G M L ls →
      W p l e R s0 mid args below meth c H locs cells slots Q (F0 mid pc ls (st.map (tvv G)))
