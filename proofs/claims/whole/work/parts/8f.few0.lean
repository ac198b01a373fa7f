/-! ===== the best ways with few joins ===== -/
def of1 : Option WE → Option WE → Option WE
  | acc, none => acc
  | none, some y => some y
  | some x, some y => if x.key < y.key then some y else some x
def ofl (C : Nat → Option WE) : Nat → Option WE
  | 0 => none
  | n + 1 => of1 (ofl C n) (C n)
theorem of1_none (acc : Option WE) : of1 acc none = acc := by cases acc <;> rfl
theorem of1_some {acc c : Option WE} {e : WE} (h : of1 acc c = some e) : acc = some e ∨ c = some e := by
  cases c with
  | none => rw [of1_none] at h; exact Or.inl h
  | some y =>
    cases acc with
    | none => exact Or.inr h
    | some x =>
      have h' : (if x.key < y.key then some y else some x) = some e := h
      split at h'
      · exact Or.inr h'
      · exact Or.inl h'
theorem ofl_some {C : Nat → Option WE} {e : WE} : ∀ n, ofl C n = some e → ∃ u, u < n ∧ C u = some e := by
  intro n
  induction n with
  | zero => intro h; simp [ofl] at h
  | succ n ih =>
    intro h
    rw [ofl] at h
    rcases of1_some h with z | z
    · obtain ⟨u, h1, h2⟩ := ih z
      exact ⟨u, by omega, h2⟩
    · exact ⟨n, by omega, z⟩
def nxC (A : Mem) (b t : Nat) (G : Nat → Nat → Option WE) (l u : Nat) : Option WE := if alw A b t u ∧ sJ t u ≤ l then (G u (l - sJ t u)).map (fun x => mkW4 ((mWo A t b).toInt + x.v - sC A b t u) (x.jn + sJ t u) u (l - sJ t u)) else none
def gf (A : Mem) (B : Nat) : Nat → Nat → Nat → Option WE
  | 0, t, _ => if mMay A t (B - 1) then some (mkW4 (mWo A t (B - 1)).toInt 0 0 0) else none
  | d + 1, t, l => if mMay A t (B - 1 - (d + 1)) then ofl (nxC A (B - 1 - (d + 1)) t (gf A B d) l) 6 else none
def GG (A : Mem) (B b t l : Nat) : Option WE := gf A B (B - 1 - b) t l
theorem GG_last (A : Mem) (B t l : Nat) : GG A B (B - 1) t l = if mMay A t (B - 1) then some (mkW4 (mWo A t (B - 1)).toInt 0 0 0) else none := by
  unfold GG
  rw [Nat.sub_self, gf]
theorem GG_step {A : Mem} {B b t l : Nat} (h : b + 1 < B) : GG A B b t l = if mMay A t b then ofl (nxC A b t (GG A B (b + 1)) l) 6 else none := by
  have e : B - 1 - b = (B - 1 - (b + 1)) + 1 := by omega
  have e2 : B - 1 - (B - 1 - (b + 1) + 1) = b := by omega
  have e3 : gf A B (B - 1 - (b + 1)) = GG A B (b + 1) := rfl
  unfold GG
  rw [e, gf, e2, e3]
theorem nxC_some {A : Mem} {b t l u : Nat} {G : Nat → Nat → Option WE} {e : WE} (h : nxC A b t G l u = some e) : alw A b t u ∧ sJ t u ≤ l ∧ ∃ x, G u (l - sJ t u) = some x ∧ e = mkW4 ((mWo A t b).toInt + x.v - sC A b t u) (x.jn + sJ t u) u (l - sJ t u) := by
  unfold nxC at h
  split at h
  · next q =>
    refine ⟨q.1, q.2, ?_⟩
    cases hx : G u (l - sJ t u) with
    | none => rw [hx] at h; simp at h
    | some x =>
      rw [hx] at h
      simp only [Option.map_some, Option.some.injEq] at h
      exact ⟨x, rfl, h.symm⟩
  · simp at h
theorem GG_may {A : Mem} {B b t l : Nat} (hb : b < B) {e : WE} (h : GG A B b t l = some e) : mMay A t b := by
  rcases Nat.lt_or_ge (b + 1) B with z | z
  · rw [GG_step z] at h
    split at h
    · next q => exact q
    · simp at h
  · have : b = B - 1 := by omega
    subst this
    rw [GG_last] at h
    split at h
    · next q => exact q
    · simp at h
theorem GG_none {A : Mem} {B b t l : Nat} (hb : b < B) (h : ¬ mMay A t b) : GG A B b t l = none := by
  cases hl : GG A B b t l with
  | none => rfl
  | some x => exact absurd (GG_may hb hl) h
theorem GG_rg {A : Mem} {B : Nat} (hM : InvM A) (hB : B ≤ 24) : ∀ (d b t l : Nat), t < 6 → b + d + 1 = B → ∀ e : WE, GG A B b t l = some e → -(21000 * ((d : Int) + 1)) ≤ e.v ∧ e.v ≤ 21000 * ((d : Int) + 1) ∧ e.jn ≤ d := by
  intro d
  induction d with
  | zero =>
    intro b t l ht hd e h
    have : b = B - 1 := by omega
    subst this
    have w := wo_rg hM ht (b := B - 1) (by omega)
    rw [GG_last] at h
    split at h
    · simp only [Option.some.injEq] at h
      subst h
      unfold mkW4 WE.v WE.jn
      dsimp only
      omega
    · simp at h
  | succ d ih =>
    intro b t l ht hd e h
    have w := wo_rg hM ht (b := b) (by omega)
    rw [GG_step (by omega)] at h
    split at h
    · obtain ⟨u, hu, hm⟩ := ofl_some 6 h
      obtain ⟨-, -, x, hx, rfl⟩ := nxC_some hm
      have q := ih (b + 1) u _ hu (by omega) x hx
      have c : 0 ≤ sC A b t u ∧ sC A b t u ≤ 13000 := by
        unfold sC
        split
        · omega
        · exact co_rg hM ht hu (b + 1)
      have c2 : sJ t u ≤ 1 := by
        unfold sJ
        split <;> omega
      unfold mkW4 WE.v WE.jn at *
      dsimp only
      omega
    · simp at h
theorem GG_key {A : Mem} {B b t l : Nat} {e : WE} (hM : InvM A) (hB : B ≤ 24) (ht : t < 6) (hb : b < B) (h : GG A B b t l = some e) : -32300000 ≤ e.key ∧ e.key ≤ 32300000 ∧ e.jn < 24 ∧ -504000 ≤ e.v ∧ e.v ≤ 504000 := by
  have := GG_rg hM hB (B - 1 - b) b t l ht (by omega) e h
  unfold WE.key
  omega
theorem GG_next {A : Mem} {B b t l : Nat} {e : WE} (hb : b + 1 < B) (h : GG A B b t l = some e) : e.u < 6 ∧ sJ t e.u ≤ l ∧ e.j = l - sJ t e.u ∧ ∃ x, GG A B (b + 1) e.u e.j = some x := by
  rw [GG_step hb] at h
  split at h
  · obtain ⟨u, hu, hm⟩ := ofl_some 6 h
    obtain ⟨-, h2, x, hx, rfl⟩ := nxC_some hm
    exact ⟨hu, h2, rfl, x, hx⟩
  · simp at h
/-- the last choice -/
def fiC (A : Mem) (B l t : Nat) : Option WE := (GG A B 0 t l).map (fun x => mkW4 x.v x.jn t l)
def FG (A : Mem) (B l : Nat) : Option WE := ofl (fiC A B l) 6
theorem fiC_some {A : Mem} {B l t : Nat} {e : WE} (h : fiC A B l t = some e) : ∃ x, GG A B 0 t l = some x ∧ e = mkW4 x.v x.jn t l := by
  unfold fiC at h
  cases hx : GG A B 0 t l with
  | none => rw [hx] at h; simp at h
  | some x =>
    rw [hx] at h
    simp only [Option.map_some, Option.some.injEq] at h
    exact ⟨x, rfl, h.symm⟩
theorem FG_get {A : Mem} {B l : Nat} {e : WE} (h : FG A B l = some e) : e.u < 6 ∧ e.j = l ∧ ∃ x, GG A B 0 e.u e.j = some x ∧ e.v = x.v ∧ e.jn = x.jn := by
  obtain ⟨u, hu, hm⟩ := ofl_some 6 h
  obtain ⟨x, hx, rfl⟩ := fiC_some hm
  exact ⟨hu, rfl, x, hx, rfl, rfl⟩
def wf (A : Mem) (B : Nat) (e : WE) : Nat → Nat × Nat
  | 0 => (e.u, e.j)
  | b + 1 => match GG A B b (wf A B e b).1 (wf A B e b).2 with
    | some x => (x.u, x.j)
    | none => (0, 0)
theorem wf_ok {A : Mem} {B l : Nat} {e : WE} (h : FG A B l = some e) : ∀ b, b < B → (wf A B e b).1 < 6 ∧ (wf A B e b).2 ≤ l ∧ ∃ x : WE, GG A B b (wf A B e b).1 (wf A B e b).2 = some x ∧ (b + 1 < B → wf A B e (b + 1) = (x.u, x.j) ∧ x.j = (wf A B e b).2 - sJ (wf A B e b).1 x.u) := by
  intro b
  induction b with
  | zero =>
    intro hb
    obtain ⟨h1, h2, x, h3, -⟩ := FG_get h
    refine ⟨h1, by show e.j ≤ l; omega, x, h3, fun hl => ⟨by rw [wf, show wf A B e 0 = (e.u, e.j) from rfl, h3], ?_⟩⟩
    exact (GG_next hl h3).2.2.1
  | succ b ih =>
    intro hb
    obtain ⟨h1, h2, x, h3, h4⟩ := ih (by omega)
    obtain ⟨n1, n2, n3, y, hy⟩ := GG_next hb h3
    obtain ⟨hw, hj⟩ := h4 hb
    rw [hw]
    refine ⟨n1, by show x.j ≤ l; omega, y, hy, fun hl => ⟨by rw [wf, hw, hy], ?_⟩⟩
    exact (GG_next hl hy).2.2.1
