/-! ===== the ways from a beat and a take on, in their order ===== -/
def sC (A : Mem) (b t u : Nat) : Int := if u = t then 0 else mCo A t u (b + 1)
def sJ (t u : Nat) : Nat := if u = t then 0 else 1
abbrev alw (A : Mem) (b t u : Nat) : Prop := u = t ∨ A 36 0 (b + 1) = 0
def nxF (A : Mem) (b t : Nat) (L : Nat → List WE) (u : Nat) : List WE := if alw A b t u then (L u).mapIdx (fun j e => mkW4 ((mWo A t b).toInt + e.v - sC A b t u) (e.jn + sJ t u) u j) else []
def lf (A : Mem) (B : Nat) : Nat → Nat → List WE
  | 0, t => if mMay A t (B - 1) then [mkW4 (mWo A t (B - 1)).toInt 0 0 0] else []
  | d + 1, t => if mMay A t (B - 1 - (d + 1)) then mgl (nxF A (B - 1 - (d + 1)) t (lf A B d)) 6 else []
def LL (A : Mem) (B b t : Nat) : List WE := lf A B (B - 1 - b) t
theorem LL_last (A : Mem) (B t : Nat) : LL A B (B - 1) t = if mMay A t (B - 1) then [mkW4 (mWo A t (B - 1)).toInt 0 0 0] else [] := by
  unfold LL
  rw [Nat.sub_self, lf]
theorem LL_step {A : Mem} {B b t : Nat} (h : b + 1 < B) : LL A B b t = if mMay A t b then mgl (nxF A b t (LL A B (b + 1))) 6 else [] := by
  have e : B - 1 - b = (B - 1 - (b + 1)) + 1 := by omega
  have e2 : B - 1 - (B - 1 - (b + 1) + 1) = b := by omega
  have e3 : lf A B (B - 1 - (b + 1)) = LL A B (b + 1) := rfl
  unfold LL
  rw [e, lf, e2, e3]
theorem nxF_get {A : Mem} {b t u j : Nat} {L : Nat → List WE} {e : WE} (h : (nxF A b t L u)[j]? = some e) : alw A b t u ∧ ∃ x, (L u)[j]? = some x ∧ e = mkW4 ((mWo A t b).toInt + x.v - sC A b t u) (x.jn + sJ t u) u j := by
  unfold nxF at h
  split at h
  · next q =>
    refine ⟨q, ?_⟩
    rw [List.getElem?_mapIdx] at h
    cases hx : (L u)[j]? with
    | none => rw [hx] at h; simp at h
    | some x =>
      rw [hx] at h
      simp only [Option.map_some, Option.some.injEq] at h
      exact ⟨x, rfl, h.symm⟩
  · simp at h
theorem mem_get {e : WE} {X : List WE} (h : e ∈ X) : ∃ j : Nat, X[j]? = some e := by
  obtain ⟨j, hj⟩ := List.mem_iff_getElem?.mp h
  exact ⟨j, hj⟩
theorem nxF_srt {A : Mem} {b t : Nat} {L : Nat → List WE} (h : ∀ u, srt (L u)) (u : Nat) : srt (nxF A b t L u) := by
  unfold nxF
  split
  · rw [srt, List.pairwise_iff_getElem]
    intro i j hi hj hij
    rw [List.length_mapIdx] at hi hj
    rw [List.getElem_mapIdx, List.getElem_mapIdx]
    have := List.pairwise_iff_getElem.mp (h u) i j hi hj hij
    unfold WE.key mkW4 WE.v WE.jn at *
    dsimp only
    omega
  · exact List.Pairwise.nil
theorem LL_srt (A : Mem) (B : Nat) : ∀ d t, srt (lf A B d t) := by
  intro d
  induction d with
  | zero =>
    intro t
    rw [lf]
    split
    · exact List.pairwise_singleton _ _
    · exact List.Pairwise.nil
  | succ d ih =>
    intro t
    rw [lf]
    split
    · exact mgl_srt (nxF_srt ih) 6
    · exact List.Pairwise.nil
theorem LL_may {A : Mem} {B b t : Nat} (hb : b < B) {j : Nat} {e : WE} (h : (LL A B b t)[j]? = some e) : mMay A t b := by
  rcases Nat.lt_or_ge (b + 1) B with z | z
  · rw [LL_step z] at h
    split at h
    · next q => exact q
    · simp at h
  · have : b = B - 1 := by omega
    subst this
    rw [LL_last] at h
    split at h
    · next q => exact q
    · simp at h
theorem LL_rg {A : Mem} {B : Nat} (hM : InvM A) (hB : B ≤ 24) : ∀ d b t, t < 6 → b + d + 1 = B → ∀ (j : Nat) (e : WE), (LL A B b t)[j]? = some e → -(21000 * ((d : Int) + 1)) ≤ e.v ∧ e.v ≤ 21000 * ((d : Int) + 1) ∧ e.jn ≤ d := by
  intro d
  induction d with
  | zero =>
    intro b t ht hd j e h
    have : b = B - 1 := by omega
    subst this
    have w := wo_rg hM ht (b := B - 1) (by omega)
    rw [LL_last] at h
    split at h
    · cases j with
      | zero =>
        simp only [List.getElem?_cons_zero, Option.some.injEq] at h
        subst h
        unfold mkW4 WE.v WE.jn
        dsimp only
        omega
      | succ j => simp at h
    · simp at h
  | succ d ih =>
    intro b t ht hd j e h
    have w := wo_rg hM ht (b := b) (by omega)
    rw [LL_step (by omega)] at h
    split at h
    · obtain ⟨u, hu, hm⟩ := mgl_mem 6 (List.mem_of_getElem? h)
      obtain ⟨i, hi⟩ := mem_get hm
      obtain ⟨-, x, hx, rfl⟩ := nxF_get hi
      have q := ih (b + 1) u hu (by omega) i x hx
      have c : 0 ≤ sC A b t u ∧ sC A b t u ≤ 13000 := by
        unfold sC
        split
        · omega
        · exact co_rg hM ht hu (b + 1)
      have c2 : sJ t u ≤ 1 := by
        unfold sJ
        split <;> omega
      unfold mkW4 WE.v WE.jn at *
      dsimp only
      omega
    · simp at h
/-- lists of which heads have gone -/
def dF (G : Nat → List WE) (h : Nat → Nat) (u : Nat) : List WE := (G u).drop (h u)
def hup (h : Nat → Nat) (w : Nat) (u : Nat) : Nat := if u = w then h u + 1 else h u
theorem tl_dF (G : Nat → List WE) (h : Nat → Nat) (w : Nat) : tlF (dF G h) w = dF G (hup h w) := by
  funext u
  unfold tlF dF hup
  split
  · rw [List.tail_drop]
  · rfl
theorem dF_cons {G : Nat → List WE} {h : Nat → Nat} {u : Nat} {x : WE} {X : List WE} (e : dF G h u = x :: X) : (G u)[h u]? = some x := by
  unfold dF at e
  have := congrArg (fun l => l[0]?) e
  simp only [List.getElem?_drop, Nat.add_zero, List.getElem?_cons_zero] at this
  exact this
theorem dF_some {G : Nat → List WE} {h : Nat → Nat} {u : Nat} {x : WE} (e : (G u)[h u]? = some x) : ∃ X, dF G h u = x :: X := by
  unfold dF
  obtain ⟨hl, he⟩ := List.getElem?_eq_some_iff.mp e
  rw [List.drop_eq_getElem_cons hl, he]
  exact ⟨_, rfl⟩
theorem dF_none {G : Nat → List WE} {h : Nat → Nat} {u : Nat} (e : (G u)[h u]? = none) : dF G h u = [] := by
  unfold dF
  exact List.drop_eq_nil_of_le (List.getElem?_eq_none_iff.mp e)
theorem mgl_j {G : Nat → List WE} (hu : ∀ (u j : Nat) (e : WE), (G u)[j]? = some e → e.u = u ∧ e.j = j) : ∀ (i : Nat) (h : Nat → Nat) (e : WE), (mgl (dF G h) 6)[i]? = some e → e.j ≤ h e.u + i := by
  intro i
  induction i with
  | zero =>
    intro h e he
    cases hp : pk (dF G h) 6 with
    | none => rw [pk_none 6 hp] at he; simp at he
    | some p =>
      obtain ⟨w, x⟩ := p
      obtain ⟨-, ⟨X, h2⟩, h3⟩ := pk_some 6 hp
      rw [h3] at he
      simp only [List.getElem?_cons_zero, Option.some.injEq] at he
      subst he
      have := hu w _ _ (dF_cons h2)
      rw [this.1, this.2]; omega
  | succ i ih =>
    intro h e he
    cases hp : pk (dF G h) 6 with
    | none => rw [pk_none 6 hp] at he; simp at he
    | some p =>
      obtain ⟨w, x⟩ := p
      obtain ⟨-, -, h3⟩ := pk_some 6 hp
      rw [h3, tl_dF, List.getElem?_cons_succ] at he
      have := ih _ _ he
      unfold hup at this
      split at this <;> omega
theorem nxF_uj {A : Mem} {b t : Nat} {L : Nat → List WE} (u j : Nat) (e : WE) (h : (nxF A b t L u)[j]? = some e) : e.u = u ∧ e.j = j := by
  obtain ⟨-, x, -, rfl⟩ := nxF_get h
  exact ⟨rfl, rfl⟩
theorem dF_0 (G : Nat → List WE) : dF G (fun _ => 0) = G := by
  funext u
  exact List.drop_zero
/-- where a way goes on -/
theorem LL_next {A : Mem} {B b t i : Nat} {e : WE} (hb : b + 1 < B) (h : (LL A B b t)[i]? = some e) : e.u < 6 ∧ e.j ≤ i ∧ ∃ x, (LL A B (b + 1) e.u)[e.j]? = some x := by
  rw [LL_step hb] at h
  split at h
  · have h' := h
    rw [← dF_0 (nxF A b t (LL A B (b + 1)))] at h'
    have hj := mgl_j nxF_uj i _ e h'
    obtain ⟨u, hu, hm⟩ := mgl_mem 6 (List.mem_of_getElem? h)
    obtain ⟨k, hk⟩ := mem_get hm
    obtain ⟨e1, e2⟩ := nxF_uj u k e hk
    obtain ⟨-, x, hx, -⟩ := nxF_get hk
    exact ⟨by omega, by omega, x, by rw [e1, e2]; exact hx⟩
  · simp at h
