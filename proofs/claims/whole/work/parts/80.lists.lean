/-! ===== ways in order: lists, their merging, and insertion ===== -/
def WE : Type := Int × Nat × Nat × Nat
def WE.v (e : WE) : Int := e.1
def WE.jn (e : WE) : Nat := e.2.1
def WE.u (e : WE) : Nat := e.2.2.1
def WE.j (e : WE) : Nat := e.2.2.2
def mkW4 (v : Int) (jn u j : Nat) : WE := (v, jn, u, j)
def WE.key (e : WE) : Int := 64 * e.v - e.jn
def mg : List WE → List WE → List WE
  | [], Y => Y
  | x :: X, [] => x :: X
  | x :: X, y :: Y => if x.key < y.key then y :: mg (x :: X) Y else x :: mg X (y :: Y)
termination_by X Y => X.length + Y.length
theorem mg_nl (Y : List WE) : mg [] Y = Y := by rw [mg]
theorem mg_nr (X : List WE) : mg X [] = X := by cases X <;> rw [mg]
theorem mg_cc (x y : WE) (X Y : List WE) : mg (x :: X) (y :: Y) = if x.key < y.key then y :: mg (x :: X) Y else x :: mg X (y :: Y) := by rw [mg]
/-- the first of the highest goes; behind all that are not lower -/
def ins (e : WE) : List WE → List WE
  | [] => [e]
  | x :: X => if x.key < e.key then e :: x :: X else x :: ins e X
abbrev srt (X : List WE) : Prop := X.Pairwise fun a b => b.key ≤ a.key
theorem mg_ins (e : WE) : ∀ (n : Nat) (X Y : List WE), X.length + Y.length ≤ n → (∀ y ∈ Y, e.key ≤ y.key) → srt Y → mg X (Y ++ [e]) = ins e (mg X Y) := by
  intro n
  induction n with
  | zero =>
    intro X Y hn hy hs
    have hX : X = [] := List.length_eq_zero_iff.mp (by omega)
    have hY : Y = [] := List.length_eq_zero_iff.mp (by omega)
    subst hX hY
    rw [List.nil_append, mg_nl, mg_nl, ins]
  | succ n ih =>
    intro X Y hn hy hs
    cases X with
    | nil =>
      rw [mg_nl, mg_nl]
      clear ih hn
      induction Y with
      | nil => rfl
      | cons y Y ihy =>
        rw [List.cons_append, ins, if_neg (by have := hy y (List.mem_cons_self ..); omega), ihy (fun z hz => hy z (List.mem_cons_of_mem _ hz)) (List.pairwise_cons.mp hs).2]
    | cons x X =>
      cases Y with
      | nil =>
        rw [List.nil_append, mg_cc, mg_nr, ins]
        by_cases h : x.key < e.key
        · rw [if_pos h, if_pos h]
        · rw [if_neg h, if_neg h]
          have := ih X [] (by simp at hn ⊢; omega) (by simp) List.Pairwise.nil
          rw [List.nil_append, mg_nr] at this
          rw [this]
      | cons y Y =>
        have hey := hy y (List.mem_cons_self ..)
        obtain ⟨s1, s2⟩ := List.pairwise_cons.mp hs
        rw [List.cons_append, mg_cc, mg_cc]
        by_cases h : x.key < y.key
        · rw [if_pos h, if_pos h, ins, if_neg (by omega), ih (x :: X) Y (by simp at hn ⊢; omega) (fun z hz => hy z (List.mem_cons_of_mem _ hz)) s2]
        · have := ih X (y :: Y) (by simp at hn ⊢; omega) hy hs
          rw [List.cons_append] at this
          rw [if_neg h, if_neg h, ins, if_neg (by omega), this]
theorem ins_take (e : WE) : ∀ (n : Nat) (Z : List WE), (ins e (Z.take n)).take n = (ins e Z).take n := by
  intro n
  induction n with
  | zero => intro Z; simp
  | succ n ih =>
    intro Z
    cases Z with
    | nil => simp
    | cons z Z =>
      rw [List.take_succ_cons, ins, ins]
      by_cases h : z.key < e.key
      · rw [if_pos h, if_pos h, List.take_succ_cons, List.take_succ_cons]
        congr 1
        cases n with
        | zero => simp
        | succ m => rw [List.take_succ_cons, List.take_succ_cons, List.take_take]; congr 2; omega
      · rw [if_neg h, if_neg h, List.take_succ_cons, List.take_succ_cons, ih]
theorem mg_take : ∀ (n m : Nat) (X Y : List WE), m ≤ n → (mg X (Y.take n)).take m = (mg X Y).take m := by
  intro n m
  induction m generalizing n with
  | zero => intro X Y h; simp
  | succ m ihm =>
    intro X Y h
    cases X with
    | nil => rw [mg_nl, mg_nl, List.take_take]; congr 1; omega
    | cons x X =>
      obtain ⟨k, rfl⟩ : ∃ k, n = k + 1 := ⟨n - 1, by omega⟩
      cases Y with
      | nil => rw [List.take_nil]
      | cons y Y =>
        rw [List.take_succ_cons, mg_cc, mg_cc]
        by_cases q : x.key < y.key
        · rw [if_pos q, if_pos q, List.take_succ_cons, List.take_succ_cons, ihm k _ _ (by omega)]
        · rw [if_neg q, if_neg q, List.take_succ_cons, List.take_succ_cons, ← ihm (k + 1) X (y :: Y) (by omega), List.take_succ_cons]
theorem mg_mem {e : WE} : ∀ (n : Nat) (X Y : List WE), X.length + Y.length ≤ n → e ∈ mg X Y → e ∈ X ∨ e ∈ Y := by
  intro n
  induction n with
  | zero =>
    intro X Y hn h
    have hX : X = [] := List.length_eq_zero_iff.mp (by omega)
    subst hX
    rw [mg_nl] at h; exact Or.inr h
  | succ n ih =>
    intro X Y hn h
    cases X with
    | nil => rw [mg_nl] at h; exact Or.inr h
    | cons x X =>
      cases Y with
      | nil => rw [mg_nr] at h; exact Or.inl h
      | cons y Y =>
        rw [mg_cc] at h
        by_cases q : x.key < y.key
        · rw [if_pos q] at h
          rcases List.mem_cons.mp h with z | z
          · exact Or.inr (by rw [z]; exact List.mem_cons_self ..)
          · rcases ih _ _ (by simp at hn ⊢; omega) z with w | w
            · exact Or.inl w
            · exact Or.inr (List.mem_cons_of_mem _ w)
        · rw [if_neg q] at h
          rcases List.mem_cons.mp h with z | z
          · exact Or.inl (by rw [z]; exact List.mem_cons_self ..)
          · rcases ih _ _ (by simp at hn ⊢; omega) z with w | w
            · exact Or.inl (List.mem_cons_of_mem _ w)
            · exact Or.inr w
theorem mg_srt : ∀ (n : Nat) (X Y : List WE), X.length + Y.length ≤ n → srt X → srt Y → srt (mg X Y) := by
  intro n
  induction n with
  | zero =>
    intro X Y hn h1 h2
    have hX : X = [] := List.length_eq_zero_iff.mp (by omega)
    subst hX
    rw [mg_nl]; exact h2
  | succ n ih =>
    intro X Y hn h1 h2
    cases X with
    | nil => rw [mg_nl]; exact h2
    | cons x X =>
      cases Y with
      | nil => rw [mg_nr]; exact h1
      | cons y Y =>
        obtain ⟨a1, a2⟩ := List.pairwise_cons.mp h1
        obtain ⟨b1, b2⟩ := List.pairwise_cons.mp h2
        rw [mg_cc]
        by_cases q : x.key < y.key
        · rw [if_pos q]
          refine List.pairwise_cons.mpr ⟨fun z hz => ?_, ih _ _ (by simp at hn ⊢; omega) h1 b2⟩
          rcases mg_mem _ _ _ (Nat.le_refl _) hz with w | w
          · rcases List.mem_cons.mp w with r | r
            · rw [r]; omega
            · have := a1 z r; omega
          · exact b1 z w
        · rw [if_neg q]
          refine List.pairwise_cons.mpr ⟨fun z hz => ?_, ih _ _ (by simp at hn ⊢; omega) a2 h2⟩
          rcases mg_mem _ _ _ (Nat.le_refl _) hz with w | w
          · exact a1 z w
          · rcases List.mem_cons.mp w with r | r
            · rw [r]; omega
            · have := b1 z r; omega
/-- the merging of the first n lists -/
def mgl (F : Nat → List WE) : Nat → List WE
  | 0 => []
  | n + 1 => mg (mgl F n) (F n)
theorem mgl_cong {F G : Nat → List WE} : ∀ n, (∀ u, u < n → F u = G u) → mgl F n = mgl G n := by
  intro n
  induction n with
  | zero => intro _; rfl
  | succ n ih => intro h; rw [mgl, mgl, ih (fun u hu => h u (by omega)), h n (by omega)]
theorem mgl_mem {F : Nat → List WE} {e : WE} : ∀ n, e ∈ mgl F n → ∃ u, u < n ∧ e ∈ F u := by
  intro n
  induction n with
  | zero => intro h; simp [mgl] at h
  | succ n ih =>
    intro h
    rw [mgl] at h
    rcases mg_mem _ _ _ (Nat.le_refl _) h with w | w
    · obtain ⟨u, h1, h2⟩ := ih w
      exact ⟨u, by omega, h2⟩
    · exact ⟨n, by omega, w⟩
theorem mgl_srt {F : Nat → List WE} (h : ∀ u, srt (F u)) : ∀ n, srt (mgl F n) := by
  intro n
  induction n with
  | zero => exact List.Pairwise.nil
  | succ n ih => rw [mgl]; exact mg_srt _ _ _ (Nat.le_refl _) ih (h n)
/-- the head that goes first: the first of the highest -/
def pk (F : Nat → List WE) : Nat → Option (Nat × WE)
  | 0 => none
  | n + 1 =>
    match F n, pk F n with
    | [], p => p
    | y :: _, none => some (n, y)
    | y :: _, some (i, x) => if x.key < y.key then some (n, y) else some (i, x)
def tlF (F : Nat → List WE) (i : Nat) : Nat → List WE := fun u => if u = i then (F u).tail else F u
theorem pk_none {F : Nat → List WE} : ∀ n, pk F n = none → mgl F n = [] := by
  intro n
  induction n with
  | zero => intro _; rfl
  | succ n ih =>
    intro h
    rw [pk] at h
    rw [mgl]
    cases hF : F n with
    | nil =>
      rw [hF] at h
      rw [ih h, mg_nl]
    | cons y Y =>
      rw [hF] at h
      cases hp : pk F n with
      | none => rw [hp] at h; simp at h
      | some p =>
        obtain ⟨i, x⟩ := p
        rw [hp] at h
        simp only at h
        split at h <;> simp at h
theorem pk_some {F : Nat → List WE} {i : Nat} {x : WE} : ∀ n, pk F n = some (i, x) → i < n ∧ (∃ X, F i = x :: X) ∧ mgl F n = x :: mgl (tlF F i) n := by
  intro n
  induction n generalizing i x with
  | zero => intro h; simp [pk] at h
  | succ n ih =>
    intro h
    rw [pk] at h
    rw [mgl, mgl]
    cases hF : F n with
    | nil =>
      rw [hF] at h
      obtain ⟨h1, h2, h3⟩ := ih h
      refine ⟨by omega, h2, ?_⟩
      rw [h3, mg_nr]
      unfold tlF
      rw [if_neg (by omega), hF, mg_nr]
    | cons y Y =>
      rw [hF] at h
      cases hp : pk F n with
      | none =>
        rw [hp] at h
        simp only [Option.some.injEq, Prod.mk.injEq] at h
        obtain ⟨rfl, rfl⟩ := h
        refine ⟨by omega, ⟨Y, hF⟩, ?_⟩
        have e1 : mgl (tlF F n) n = mgl F n := mgl_cong n (fun u hu => by unfold tlF; rw [if_neg (by omega)])
        rw [pk_none n hp, mg_nl, e1, pk_none n hp, mg_nl]
        unfold tlF
        rw [if_pos rfl, hF]; rfl
      | some p =>
        obtain ⟨i', x'⟩ := p
        rw [hp] at h
        obtain ⟨h1, h2, h3⟩ := ih hp
        simp only at h
        by_cases q : x'.key < y.key
        · rw [if_pos q] at h
          simp only [Option.some.injEq, Prod.mk.injEq] at h
          obtain ⟨rfl, rfl⟩ := h
          refine ⟨by omega, ⟨Y, hF⟩, ?_⟩
          have e1 : mgl (tlF F n) n = mgl F n := mgl_cong n (fun u hu => by unfold tlF; rw [if_neg (by omega)])
          rw [e1, h3, mg_cc, if_pos q]
          unfold tlF
          rw [if_pos rfl, hF]; rfl
        · rw [if_neg q] at h
          simp only [Option.some.injEq, Prod.mk.injEq] at h
          obtain ⟨rfl, rfl⟩ := h
          refine ⟨by omega, h2, ?_⟩
          rw [h3, mg_cc, if_neg q]
          unfold tlF
          rw [if_neg (by omega), hF]
