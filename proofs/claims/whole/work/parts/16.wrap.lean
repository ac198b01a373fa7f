/-! ===== the rules as the printed methods use them ===== -/
abbrev RT : Type := Option (Option PV × Mem)
abbrev rI (v : Int32) (I : Mem) : RT := some (some (vI v), I)
abbrev rV (I : Mem) : RT := some (none, I)
abbrev rA (g i : Nat) (I : Mem) : RT := some (some (vR g i), I)
def rZ (v : Int32) (I : Mem) : RT := if v = 0 ∨ v = 1 then some (some (vI v), I) else none
def cI (Y : RT) (K : Int32 → Mem → RT) : RT := match Y with
  | some (some (.inl v), J) => K v J
  | _ => none
def cV (Y : RT) (K : Mem → RT) : RT := match Y with
  | some (none, J) => K J
  | _ => none
def cA (h : Nat) (Y : RT) (K : Nat → Mem → RT) : RT := match Y with
  | some (some (.inr (.inr (g, i))), J) => if g = h then K i J else none
  | _ => none
def FU : Nat := 20000
theorem rr_none {M : MD} {s s' pc : Nat} {L : LC} {st : List PV} {I : Mem} : RR M s s' pc L st I none := fun _ _ h => by cases h
def kI (K : Int32 → Mem → RT) : Option PV → Mem → RT := fun r J => match r with
  | some (.inl v) => K v J
  | _ => none
def kV (K : Mem → RT) : Option PV → Mem → RT := fun r J => match r with
  | none => K J
  | _ => none
def kA (h : Nat) (K : Nat → Mem → RT) : Option PV → Mem → RT := fun r J => match r with
  | some (.inr (.inr (g, i))) => if g = h then K i J else none
  | _ => none
theorem cI_bind (Y : RT) (K : Int32 → Mem → RT) : Y.bind (fun q => kI K q.1 q.2) = cI Y K := by
  rcases Y with _ | ⟨_ | v, J⟩
  · rfl
  · rfl
  · rcases v with x | x | ⟨g, i⟩ <;> rfl
theorem cV_bind (Y : RT) (K : Mem → RT) : Y.bind (fun q => kV K q.1 q.2) = cV Y K := by
  rcases Y with _ | ⟨_ | v, J⟩
  · rfl
  · rfl
  · rfl
theorem cA_bind (h : Nat) (Y : RT) (K : Nat → Mem → RT) : Y.bind (fun q => kA h K q.1 q.2) = cA h Y K := by
  rcases Y with _ | ⟨_ | v, J⟩
  · rfl
  · rfl
  · rcases v with x | x | ⟨g, i⟩ <;> rfl
theorem kI_ok {M : MD} {s s' pc : Nat} {L : LC} {rest : List PV} {K : Int32 → Mem → RT} (k : ∀ v J, RR M s s' pc L (vI v :: rest) J (K v J)) : ∀ r J, RR M s s' pc L (r.toList ++ rest) J (kI K r J) := by
  intro r J
  rcases r with _ | x | x | ⟨g, i⟩
  · exact rr_none
  · exact k x J
  · exact rr_none
  · exact rr_none
theorem kV_ok {M : MD} {s s' pc : Nat} {L : LC} {rest : List PV} {K : Mem → RT} (k : ∀ J, RR M s s' pc L rest J (K J)) : ∀ r J, RR M s s' pc L (r.toList ++ rest) J (kV K r J) := by
  intro r J
  rcases r with _ | v
  · exact k J
  · exact rr_none
theorem kA_ok {M : MD} {s s' pc h : Nat} {L : LC} {rest : List PV} {K : Nat → Mem → RT} (k : ∀ i J, RR M s s' pc L (vR h i :: rest) J (K i J)) : ∀ r J, RR M s s' pc L (r.toList ++ rest) J (kA h K r J) := by
  intro r J
  rcases r with _ | x | x | ⟨g, i⟩
  · exact rr_none
  · exact rr_none
  · exact rr_none
  · show RR M s s' pc L _ J (if g = h then K i J else none)
    split
    · next e => subst e; exact k i J
    · exact rr_none
section WR
variable {M : MD} {s1 s2 s' pc : Nat} {L : LC} {I : Mem} {st : List PV} {XN : RT}
theorem rr_cVI {K : Int32 → Mem → RT} (N : MD) (g i : Nat) (as rest : List PV) (idx : Nat) (hd : decode M.2.2.1 pc = .ok (.invokevirtual idx, 3)) (hlk : Cond.methodLink (onm M.1) idx N.2.1 ∈ wAll) (hm : mOk N 0 as.length) (hroom : roomOk N M = true) (hck : (Nat.ble (stw rest) 8 && (isObj g N.1 && ((vR g i :: as).all (fun v => !is2 (some (some v))) && Nat.ble (as.length + 1) N.2.2.2.1))) = true) (hst0 : st = as.reverse ++ vR g i :: rest) (h12 : s1 ≤ s2) (h2s : s2 ≤ s') (hN : RR N s1 s2 0 (ent N (vR g i :: as)) [] I XN) (k : ∀ v J, RR M s2 s' (pc + 3) L (vI v :: rest) J (K v J)) : RR M s1 s' pc L st I (cI XN K) := by
  rw [← cI_bind]
  exact rr_callV N g i as rest idx hd hlk hm hroom hck hst0 h12 h2s hN (fun r J _ => kI_ok k r J)
theorem rr_cVV {K : Mem → RT} (N : MD) (g i : Nat) (as rest : List PV) (idx : Nat) (hd : decode M.2.2.1 pc = .ok (.invokevirtual idx, 3)) (hlk : Cond.methodLink (onm M.1) idx N.2.1 ∈ wAll) (hm : mOk N 0 as.length) (hroom : roomOk N M = true) (hck : (Nat.ble (stw rest) 8 && (isObj g N.1 && ((vR g i :: as).all (fun v => !is2 (some (some v))) && Nat.ble (as.length + 1) N.2.2.2.1))) = true) (hst0 : st = as.reverse ++ vR g i :: rest) (h12 : s1 ≤ s2) (h2s : s2 ≤ s') (hN : RR N s1 s2 0 (ent N (vR g i :: as)) [] I XN) (k : ∀ J, RR M s2 s' (pc + 3) L rest J (K J)) : RR M s1 s' pc L st I (cV XN K) := by
  rw [← cV_bind]
  exact rr_callV N g i as rest idx hd hlk hm hroom hck hst0 h12 h2s hN (fun r J _ => kV_ok k r J)
theorem rr_cVA {K : Nat → Mem → RT} (h : Nat) (N : MD) (g i : Nat) (as rest : List PV) (idx : Nat) (hd : decode M.2.2.1 pc = .ok (.invokevirtual idx, 3)) (hlk : Cond.methodLink (onm M.1) idx N.2.1 ∈ wAll) (hm : mOk N 0 as.length) (hroom : roomOk N M = true) (hck : (Nat.ble (stw rest) 8 && (isObj g N.1 && ((vR g i :: as).all (fun v => !is2 (some (some v))) && Nat.ble (as.length + 1) N.2.2.2.1))) = true) (hst0 : st = as.reverse ++ vR g i :: rest) (h12 : s1 ≤ s2) (h2s : s2 ≤ s') (hN : RR N s1 s2 0 (ent N (vR g i :: as)) [] I XN) (k : ∀ i J, RR M s2 s' (pc + 3) L (vR h i :: rest) J (K i J)) : RR M s1 s' pc L st I (cA h XN K) := by
  rw [← cA_bind]
  exact rr_callV N g i as rest idx hd hlk hm hroom hck hst0 h12 h2s hN (fun r J _ => kA_ok k r J)
theorem rr_cSI {K : Int32 → Mem → RT} (N : MD) (as rest : List PV) (idx : Nat) (hd : decode M.2.2.1 pc = .ok (.invokestatic idx, 3)) (hlk : Cond.methodLink (onm M.1) idx N.2.1 ∈ wAll) (hm : mOk N 1 as.length) (hroom : roomOk N M = true) (hck : (Nat.ble (stw rest) 8 && (as.all (fun v => !is2 (some (some v))) && Nat.ble as.length N.2.2.2.1)) = true) (hst0 : st = as.reverse ++ rest) (h12 : s1 ≤ s2) (h2s : s2 ≤ s') (hN : RR N s1 s2 0 (ent N as) [] I XN) (k : ∀ v J, RR M s2 s' (pc + 3) L (vI v :: rest) J (K v J)) : RR M s1 s' pc L st I (cI XN K) := by
  rw [← cI_bind]
  exact rr_callS N as rest idx hd hlk hm hroom hck hst0 h12 h2s hN (fun r J _ => kI_ok k r J)
theorem rr_cSV {K : Mem → RT} (N : MD) (as rest : List PV) (idx : Nat) (hd : decode M.2.2.1 pc = .ok (.invokestatic idx, 3)) (hlk : Cond.methodLink (onm M.1) idx N.2.1 ∈ wAll) (hm : mOk N 1 as.length) (hroom : roomOk N M = true) (hck : (Nat.ble (stw rest) 8 && (as.all (fun v => !is2 (some (some v))) && Nat.ble as.length N.2.2.2.1)) = true) (hst0 : st = as.reverse ++ rest) (h12 : s1 ≤ s2) (h2s : s2 ≤ s') (hN : RR N s1 s2 0 (ent N as) [] I XN) (k : ∀ J, RR M s2 s' (pc + 3) L rest J (K J)) : RR M s1 s' pc L st I (cV XN K) := by
  rw [← cV_bind]
  exact rr_callS N as rest idx hd hlk hm hroom hck hst0 h12 h2s hN (fun r J _ => kV_ok k r J)
theorem rr_cSA {K : Nat → Mem → RT} (h : Nat) (N : MD) (as rest : List PV) (idx : Nat) (hd : decode M.2.2.1 pc = .ok (.invokestatic idx, 3)) (hlk : Cond.methodLink (onm M.1) idx N.2.1 ∈ wAll) (hm : mOk N 1 as.length) (hroom : roomOk N M = true) (hck : (Nat.ble (stw rest) 8 && (as.all (fun v => !is2 (some (some v))) && Nat.ble as.length N.2.2.2.1)) = true) (hst0 : st = as.reverse ++ rest) (h12 : s1 ≤ s2) (h2s : s2 ≤ s') (hN : RR N s1 s2 0 (ent N as) [] I XN) (k : ∀ i J, RR M s2 s' (pc + 3) L (vR h i :: rest) J (K i J)) : RR M s1 s' pc L st I (cA h XN K) := by
  rw [← cA_bind]
  exact rr_callS N as rest idx hd hlk hm hroom hck hst0 h12 h2s hN (fun r J _ => kA_ok k r J)
theorem rr_cSNI {K : Int32 → Mem → RT} (N : MD) (as rest : List PV) (idx : Nat) (hd : decode M.2.2.1 pc = .ok (.invokestatic idx, 3)) (host : String) (hlk : Cond.methodLinkNest (onm M.1) idx N.2.1 host ∈ nwW) (hm : mOk N 1 as.length) (hroom : roomOk N M = true) (hck : (Nat.ble (stw rest) 8 && (as.all (fun v => !is2 (some (some v))) && Nat.ble as.length N.2.2.2.1)) = true) (hst0 : st = as.reverse ++ rest) (h12 : s1 ≤ s2) (h2s : s2 ≤ s') (hN : RR N s1 s2 0 (ent N as) [] I XN) (k : ∀ v J, RR M s2 s' (pc + 3) L (vI v :: rest) J (K v J)) : RR M s1 s' pc L st I (cI XN K) := by
  rw [← cI_bind]
  exact rr_callSN N as rest idx hd host hlk hm hroom hck hst0 h12 h2s hN (fun r J _ => kI_ok k r J)
theorem rr_cSNV {K : Mem → RT} (N : MD) (as rest : List PV) (idx : Nat) (hd : decode M.2.2.1 pc = .ok (.invokestatic idx, 3)) (host : String) (hlk : Cond.methodLinkNest (onm M.1) idx N.2.1 host ∈ nwW) (hm : mOk N 1 as.length) (hroom : roomOk N M = true) (hck : (Nat.ble (stw rest) 8 && (as.all (fun v => !is2 (some (some v))) && Nat.ble as.length N.2.2.2.1)) = true) (hst0 : st = as.reverse ++ rest) (h12 : s1 ≤ s2) (h2s : s2 ≤ s') (hN : RR N s1 s2 0 (ent N as) [] I XN) (k : ∀ J, RR M s2 s' (pc + 3) L rest J (K J)) : RR M s1 s' pc L st I (cV XN K) := by
  rw [← cV_bind]
  exact rr_callSN N as rest idx hd host hlk hm hroom hck hst0 h12 h2s hN (fun r J _ => kV_ok k r J)
theorem rr_cSNA {K : Nat → Mem → RT} (h : Nat) (N : MD) (as rest : List PV) (idx : Nat) (hd : decode M.2.2.1 pc = .ok (.invokestatic idx, 3)) (host : String) (hlk : Cond.methodLinkNest (onm M.1) idx N.2.1 host ∈ nwW) (hm : mOk N 1 as.length) (hroom : roomOk N M = true) (hck : (Nat.ble (stw rest) 8 && (as.all (fun v => !is2 (some (some v))) && Nat.ble as.length N.2.2.2.1)) = true) (hst0 : st = as.reverse ++ rest) (h12 : s1 ≤ s2) (h2s : s2 ≤ s') (hN : RR N s1 s2 0 (ent N as) [] I XN) (k : ∀ i J, RR M s2 s' (pc + 3) L (vR h i :: rest) J (K i J)) : RR M s1 s' pc L st I (cA h XN K) := by
  rw [← cA_bind]
  exact rr_callSN N as rest idx hd host hlk hm hroom hck hst0 h12 h2s hN (fun r J _ => kA_ok k r J)
theorem rr_cIV {K : Mem → RT} (N : MD) (g i : Nat) (as rest : List PV) (idx : Nat) (hd : decode M.2.2.1 pc = .ok (.invokespecial idx, 3)) (hlk : Cond.methodLink (onm M.1) idx N.2.1 ∈ wAll) (hm : mOk N 2 as.length) (hroom : roomOk N M = true) (hck : (Nat.ble (stw rest) 8 && (isObj g N.1 && ((vR g i :: as).all (fun v => !is2 (some (some v))) && Nat.ble (as.length + 1) N.2.2.2.1))) = true) (hst0 : st = as.reverse ++ vR g i :: rest) (h12 : s1 ≤ s2) (h2s : s2 ≤ s') (hN : RR N s1 s2 0 (ent N (vR g i :: as)) [] I XN) (k : ∀ J, RR M s2 s' (pc + 3) L rest J (K J)) : RR M s1 s' pc L st I (cV XN K) := by
  rw [← cV_bind]
  exact rr_callI N g i as rest idx hd hlk hm hroom hck hst0 h12 h2s hN (fun r J _ => kV_ok k r J)
theorem rr_cINV {K : Mem → RT} (N : MD) (g i : Nat) (as rest : List PV) (idx : Nat) (hd : decode M.2.2.1 pc = .ok (.invokespecial idx, 3)) (host : String) (hlk : Cond.methodLinkNest (onm M.1) idx N.2.1 host ∈ nwW) (hm : mOk N 2 as.length) (hroom : roomOk N M = true) (hck : (Nat.ble (stw rest) 8 && (isObj g N.1 && ((vR g i :: as).all (fun v => !is2 (some (some v))) && Nat.ble (as.length + 1) N.2.2.2.1))) = true) (hst0 : st = as.reverse ++ vR g i :: rest) (h12 : s1 ≤ s2) (h2s : s2 ≤ s') (hN : RR N s1 s2 0 (ent N (vR g i :: as)) [] I XN) (k : ∀ J, RR M s2 s' (pc + 3) L rest J (K J)) : RR M s1 s' pc L st I (cV XN K) := by
  rw [← cV_bind]
  exact rr_callIN N g i as rest idx hd host hlk hm hroom hck hst0 h12 h2s hN (fun r J _ => kV_ok k r J)
variable {s : Nat} {X : RT}
theorem rr_lda {g i : Nat} {x : Int32} {K : Nat → RT} (n : Nat) (hd : decode M.2.2.1 pc = .ok (.iaload, 1)) (hg : arrT 0 g = true) (hn : aln I g = n) (k : ∀ j, RR M s s' (pc + 1) L (vI (I g i j) :: st) I (K j)) : RR M s s' pc L (vI x :: vR g i :: st) I (ix x n K) := by
  rw [← hn]; exact rr_iald hd hg k
theorem rr_ldz {g i : Nat} {x : Int32} {K : Nat → RT} (n : Nat) (hd : decode M.2.2.1 pc = .ok (.baload, 1)) (hg : arrT 1 g = true) (hn : aln I g = n) (k : ∀ j, RR M s s' (pc + 1) L (vI (I g i j) :: st) I (K j)) : RR M s s' pc L (vI x :: vR g i :: st) I (ix x n K) := by
  rw [← hn]; exact rr_zald hd hg k
theorem rr_sta {g i : Nat} {x v : Int32} {K : Nat → RT} (n : Nat) (hd : decode M.2.2.1 pc = .ok (.iastore, 1)) (hg : arrT 0 g = true) (hg1 : Nat.blt g 100 = true) (hn : aln I g = n) (k : ∀ j, RR M s s' (pc + 1) L st (mup I g i j v) (K j)) : RR M s s' pc L (vI v :: vI x :: vR g i :: st) I (ix x n K) := by
  rw [← hn]; exact rr_iast hd hg hg1 k
theorem rr_stz {g i : Nat} {x v : Int32} {K : Nat → RT} (n : Nat) (hd : decode M.2.2.1 pc = .ok (.bastore, 1)) (hg : arrT 1 g = true) (hn : aln I g = n) (k : ∀ j, RR M s s' (pc + 1) L st (mup I g i j (znar v)) (K j)) : RR M s s' pc L (vI v :: vI x :: vR g i :: st) I (ix x n K) := by
  rw [← hn]; exact rr_zast hd hg k
theorem rr_ldq {g i : Nat} {x : Int32} {K : Nat → RT} (t n h : Nat) (hd : decode M.2.2.1 pc = .ok (.aaload, 1)) (hg : skd g = some (.inr (t + 2, n))) (hh : rtg (t + 2) = h) (k : ∀ j, RR M SF SF (pc + 1) L (vR h j :: st) I (K j)) : RR M SF SF pc L (vI x :: vR g i :: st) I (ix x n K) := by
  subst hh; exact rr_aald hd hg k
theorem rr_retZ {v : Int32} (hd : decode M.2.2.1 pc = .ok (.ireturn, 1)) (hr : M.2.2.2.2.1 = some .boolean) : RR M s s pc L [vI v] I (rZ v I) := rr_zret hd hr
end WR
