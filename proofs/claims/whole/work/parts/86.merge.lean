/-! ===== the class: lists are merged ===== -/
def ce (b u j : Nat) : Nat := (b * 6 + u) * 24 + j
theorem cellOf_t (b u j : Nat) (I : Mem) : f_X0_cellOf (nI b) (nI u) (nI j) I = rI (nI (ce b u j)) I := by
  unfold f_X0_cellOf ce
  have m6 : ∀ n : Nat, nI n * 6 = nI (n * 6) := fun n => pk_mul n 6
  have m24 : ∀ n : Nat, nI n * 24 = nI (n * 24) := fun n => pk_mul n 24
  rw [m6, nI_add, m24, nI_add]
theorem pk_nil {F : Nat → List WE} {u : Nat} (h : F u = []) : pk F (u + 1) = pk F u := by rw [pk, h]
theorem pk_cn {F : Nat → List WE} {u : Nat} {y : WE} {Y : List WE} (h : F u = y :: Y) (h2 : pk F u = none) : pk F (u + 1) = some (u, y) := by rw [pk, h, h2]
theorem pk_cs {F : Nat → List WE} {u w : Nat} {x y : WE} {Y : List WE} (h : F u = y :: Y) (h2 : pk F u = some (w, x)) : pk F (u + 1) = if x.key < y.key then some (u, y) else some (w, x) := by rw [pk, h, h2]
def srcOk (J : Mem) (a b' : Nat) (gk : Int) (G : Nat → List WE) (u : Nat) : Prop := (J 24 0 u = -1 ∧ G u = []) ∨ (∃ st : Int, J 24 0 u = Int32.ofInt st ∧ 0 ≤ st ∧ st ≤ 900000 ∧ ∀ j : Nat, j ≤ a → (∀ e : WE, (G u)[j]? = some e → J 22 0 (ce b' u j) = Int32.ofInt (e.key - gk + st)) ∧ ((G u)[j]? = none → J 22 0 (ce b' u j) = -2000000000))
def lstOk (gk : Int) (G : Nat → List WE) : Prop := -600000 ≤ gk ∧ gk ≤ 600000 ∧ ∀ (u j : Nat) (e : WE), u < 6 → (G u)[j]? = some e → e.u = u ∧ e.j = j ∧ -40000000 ≤ e.key ∧ e.key ≤ 40000000
def p3 : Option (Nat × WE) → Int32
  | none => -1
  | some (w, _) => nI w
def p4 (gk : Int) : Option (Nat × WE) → Int32
  | none => -2000000000
  | some (_, x) => Int32.ofInt (x.key - gk)
theorem no_t : (-2000000000 : Int32).toInt = -2000000000 := by decide
theorem m1_t : (-1 : Int32).toInt = -1 := by decide
theorem c_nio {J : Mem} {a b' : Nat} {gk : Int} {G : Nat → List WE} {h : Nat → Nat} (ha : a < 24) (hb : b' < 24) (hG : lstOk gk G) (hs : ∀ u, u < 6 → srcOk J a b' gk G u) (h25 : ∀ u, u < 6 → J 25 0 u = nI (h u)) (hh : ∀ u, u < 6 → h u ≤ a) :
    ∀ (d u fuel : Nat), u + d = 6 → d < fuel → f_X0_nextInOrder_p9 fuel (nI b') (nI a) (p3 (pk (dF G h) u)) (p4 gk (pk (dF G h) u)) (nI u) J = rI (p3 (pk (dF G h) 6)) J := by
  intro d
  induction d with
  | zero =>
    intro u fuel hd hf
    obtain ⟨fu, rfl⟩ : ∃ fu, fuel = fu + 1 := ⟨fuel - 1, by omega⟩
    have : u = 6 := by omega
    subst this
    rw [f_X0_nextInOrder_p9, if_pos (by decide)]
  | succ d ih =>
    intro u fuel hd hf
    obtain ⟨fu, rfl⟩ : ∃ fu, fuel = fu + 1 := ⟨fuel - 1, by omega⟩
    have hu : u < 6 := by omega
    have next := ih (u + 1) fu (by omega) (by omega)
    rw [f_X0_nextInOrder_p9, if_neg (show ¬ (6 : Int32) ≤ nI u from nI_ge hu (by decide)), ix6 hu]
    rcases hs u hu with ⟨s1, s2⟩ | ⟨st, s1, s2, s3, s4⟩
    · rw [if_pos s1, nI_1]
      have : dF G h u = [] := by unfold dF; rw [s2]; exact List.drop_nil
      rw [pk_nil this] at next
      exact next
    · have est : (Int32.ofInt st).toInt = st := oI (by omega) (by omega)
      have hne : ¬ J 24 0 u = -1 := by rw [s1, eq_i, est, m1_t]; omega
      obtain ⟨t1, t2⟩ := s4 (h u) (hh u hu)
      have hx := hh u hu
      rw [if_neg hne, ix6 hu, h25 u hu, if_pos ((nI_leI (by omega) (by omega)).mpr (hh u hu)), ix6 hu, h25 u hu, cellOf_t, cI_r, ix_nI (by unfold ce; omega) (by decide)]
      cases hg : (G u)[h u]? with
      | none =>
        rw [t2 hg, if_pos rfl, nI_1]
        rw [pk_nil (dF_none hg)] at next
        exact next
      | some e =>
        obtain ⟨-, -, k1, k2⟩ := hG.2.2 u (h u) e hu hg
        have g1 := hG.1
        have g2 := hG.2.1
        obtain ⟨X, eX⟩ := dF_some hg
        have ev : (Int32.ofInt (e.key - gk + st)).toInt = e.key - gk + st := oI (by omega) (by omega)
        have es : Int32.ofInt (e.key - gk + st) - Int32.ofInt st = Int32.ofInt (e.key - gk) := by rw [← Int32.ofInt_sub]; congr 1; omega
        have ek : (Int32.ofInt (e.key - gk)).toInt = e.key - gk := oI (by omega) (by omega)
        rw [t1 e hg, if_neg (by rw [eq_i, ev, no_t]; omega)]
        cases hp : pk (dF G h) u with
        | none =>
          rw [if_pos (show p3 none < 0 by decide)]
          unfold f_X0_nextInOrder_p87
          rw [ix6 hu, s1, es, nI_1]
          rw [pk_cn eX hp] at next
          exact next
        | some q =>
          obtain ⟨w, x⟩ := q
          obtain ⟨hw, ⟨X2, hX2⟩, -⟩ := pk_some u hp
          obtain ⟨-, -, k3, k4⟩ := hG.2.2 w (h w) x (by omega) (dF_cons hX2)
          have ek2 : (Int32.ofInt (x.key - gk)).toInt = x.key - gk := oI (by omega) (by omega)
          rw [pk_cs eX hp] at next
          rw [if_neg (show ¬ p3 (some (w, x)) < 0 from nI_nneg (by omega)), ix6 hu, s1, es]
          by_cases hk : x.key < e.key
          · rw [if_neg (show ¬ Int32.ofInt (e.key - gk) ≤ p4 gk (some (w, x)) by unfold p4; rw [le_i, ek, ek2]; omega)]
            unfold f_X0_nextInOrder_p87
            rw [ix6 hu, s1, es, nI_1]
            rw [if_pos hk] at next
            exact next
          · rw [if_pos (show Int32.ofInt (e.key - gk) ≤ p4 gk (some (w, x)) by unfold p4; rw [le_i, ek, ek2]; omega), nI_1]
            rw [if_neg hk] at next
            exact next
theorem c_mrg {a b' tb : Nat} {gk : Int} {G : Nat → List WE} (ha : a < 24) (hb : b' < 24) (htb : tb + a < 3480) (hdis : ∀ u j i : Nat, u < 6 → j ≤ a → i ≤ a → ce b' u j ≠ tb + i) (hG : lstOk gk G) :
    ∀ (d i fuel : Nat) (h : Nat → Nat) (J : Mem), i + d = a + 1 → d < fuel → (∀ u, u < 6 → srcOk J a b' gk G u) → (∀ u, u < 6 → J 25 0 u = nI (h u)) → (∀ u, u < 6 → h u ≤ i) →
    ∃ J', f_X0_merge_p11 fuel (nI b') (nI a) (nI tb) (Int32.ofInt gk) (nI i) J = rV J' ∧ (∀ g, g ≠ 22 → g ≠ 23 → g ≠ 25 → J' g = J g) ∧ (∀ c, ¬ (tb + i ≤ c ∧ c ≤ tb + a) → J' 22 0 c = J 22 0 c ∧ J' 23 0 c = J 23 0 c) ∧ ∀ k : Nat, k < d → (∀ e : WE, (mgl (dF G h) 6)[k]? = some e → J' 22 0 (tb + i + k) = Int32.ofInt e.key ∧ J' 23 0 (tb + i + k) = nI (ce b' e.u e.j)) ∧ ((mgl (dF G h) 6)[k]? = none → J' 22 0 (tb + i + k) = J 22 0 (tb + i + k)) := by
  intro d
  induction d with
  | zero =>
    intro i fuel h J hd hf hs h25 hh
    obtain ⟨fu, rfl⟩ : ∃ fu, fuel = fu + 1 := ⟨fuel - 1, by omega⟩
    exact ⟨J, by rw [f_X0_merge_p11, if_pos (by rw [nI_ltI (by omega) (by omega)]; omega)], fun _ _ _ _ => rfl, fun _ _ => ⟨rfl, rfl⟩, fun k hk => by omega⟩
  | succ d ih =>
    intro i fuel h J hd hf hs h25 hh
    obtain ⟨fu, rfl⟩ : ∃ fu, fuel = fu + 1 := ⟨fuel - 1, by omega⟩
    have hn := c_nio ha hb hG hs h25 (fun u hu => by have := hh u hu; omega) 6 0 FU (by omega) (by rw [FU_v]; omega)
    have hn' : f_X0_nextInOrder (nI b') (nI a) J = rI (p3 (pk (dF G h) 6)) J := hn
    rw [f_X0_merge_p11, if_neg (by rw [nI_ltI (by omega) (by omega)]; omega), hn', cI_r]
    cases hp : pk (dF G h) 6 with
    | none =>
      refine ⟨J, by rw [if_neg (show ¬ (0 : Int32) ≤ p3 none by decide)], fun _ _ _ _ => rfl, fun _ _ => ⟨rfl, rfl⟩, fun k hk => ?_⟩
      rw [pk_none 6 hp]
      exact ⟨fun e he => by simp at he, fun _ => rfl⟩
    | some q =>
      obtain ⟨w, x⟩ := q
      obtain ⟨hw, ⟨X2, hX2⟩, hmg⟩ := pk_some 6 hp
      have hgx := dF_cons hX2
      obtain ⟨x1, x2, k1, k2⟩ := hG.2.2 w (h w) x hw hgx
      have g1 := hG.1
      have g2 := hG.2.1
      have hhw := hh w hw
      obtain ⟨st, s1, s2, s3, s4⟩ : ∃ st : Int, J 24 0 w = Int32.ofInt st ∧ 0 ≤ st ∧ st ≤ 900000 ∧ ∀ j : Nat, j ≤ a → (∀ e : WE, (G w)[j]? = some e → J 22 0 (ce b' w j) = Int32.ofInt (e.key - gk + st)) ∧ ((G w)[j]? = none → J 22 0 (ce b' w j) = -2000000000) := by
        rcases hs w hw with ⟨-, z⟩ | z
        · rw [z] at hgx; simp at hgx
        · exact z
      have hv := (s4 (h w) (by omega)).1 x hgx
      have ev : Int32.ofInt gk + Int32.ofInt (x.key - gk + st) - Int32.ofInt st = Int32.ofInt x.key := by
        rw [← Int32.ofInt_add, ← Int32.ofInt_sub]; congr 1; omega
      rw [if_pos (show (0 : Int32) ≤ p3 (some (w, x)) from (nI_leI (a := 0) (by omega) (by omega)).mpr (Nat.zero_le _))]
      rw [show p3 (some (w, x)) = nI w from rfl, ix6 hw, h25 w hw, cellOf_t, cI_r, ix_nI (by unfold ce; omega) (by decide), ix6 hw, nI_add, ix_nI (by omega) (by decide), ix_nI (by omega) (by decide), ix6 hw, ix6 hw, hv, s1, ev, mup_g (show (25 : Nat) ≠ 23 by decide), mup_g (show (25 : Nat) ≠ 22 by decide), h25 w hw, nI_1, nI_1]
      obtain ⟨J', e', f1, f2, f3⟩ := ih (i + 1) fu (hup h w) (mup (mup (mup J 22 0 (tb + i) (Int32.ofInt x.key)) 23 0 (tb + i) (nI (ce b' w (h w)))) 25 0 w (nI (h w + 1))) (by omega) (by omega) (fun u hu => by
        have k22 : ∀ j : Nat, j ≤ a → mup (mup (mup J 22 0 (tb + i) (Int32.ofInt x.key)) 23 0 (tb + i) (nI (ce b' w (h w)))) 25 0 w (nI (h w + 1)) 22 0 (ce b' u j) = J 22 0 (ce b' u j) := fun j hj => by
          rw [mup_g (by decide), mup_g (by decide), mup_0, if_neg (hdis u j i hu hj (by omega))]
        rcases hs u hu with z | ⟨st', z1, z2, z3, z4⟩
        · exact Or.inl ⟨by rw [mup_g (by decide), mup_g (by decide), mup_g (by decide)]; exact z.1, z.2⟩
        · refine Or.inr ⟨st', by rw [mup_g (by decide), mup_g (by decide), mup_g (by decide)]; exact z1, z2, z3, fun j hj => ?_⟩
          rw [k22 j hj]
          exact z4 j hj) (fun u hu => by
        rw [mup_0]
        unfold hup
        by_cases z : u = w
        · rw [if_pos z, if_pos z, z]
        · rw [if_neg z, if_neg z, mup_g (by decide), mup_g (by decide)]; exact h25 u hu) (fun u hu => by
        have := hh u hu
        unfold hup
        split <;> omega)
      refine ⟨J', e', fun g z1 z2 z3 => by rw [f1 g z1 z2 z3, mup_g z3, mup_g z2, mup_g z1], fun c hc => ?_, fun k hk => ?_⟩
      · obtain ⟨y1, y2⟩ := f2 c (by omega)
        rw [y1, y2, mup_g (by decide), mup_g (by decide), mup_0, if_neg (by omega), mup_g (by decide), mup_0, if_neg (by omega), mup_g (by decide)]
        exact ⟨rfl, rfl⟩
      · rw [hmg, tl_dF]
        cases k with
        | zero =>
          rw [List.getElem?_cons_zero]
          obtain ⟨y1, y2⟩ := f2 (tb + i) (by omega)
          refine ⟨fun e he => ?_, fun he => by simp at he⟩
          simp only [Option.some.injEq] at he
          subst he
          rw [Nat.add_zero, y1, y2, mup_g (by decide), mup_g (by decide), mup_at, mup_g (by decide), mup_at, x1, x2]
          exact ⟨rfl, rfl⟩
        | succ k =>
          rw [List.getElem?_cons_succ]
          obtain ⟨y1, y2⟩ := f3 k (by omega)
          rw [show tb + (i + 1) + k = tb + i + (k + 1) by omega] at y1 y2
          refine ⟨y1, fun he => ?_⟩
          rw [y2 he, mup_g (by decide), mup_g (by decide), mup_0, if_neg (by omega)]
theorem c_merge {I : Mem} {a b' tb : Nat} {gk : Int} {G : Nat → List WE} (ha : a < 24) (hb : b' < 24) (htb : tb + a < 3480) (hdis : ∀ u j i : Nat, u < 6 → j ≤ a → i ≤ a → ce b' u j ≠ tb + i) (hG : lstOk gk G) (hs : ∀ u, u < 6 → srcOk I a b' gk G u) :
    ∃ J', f_X0_merge (nI b') (nI a) (nI tb) (Int32.ofInt gk) I = rV J' ∧ (∀ g, g ≠ 22 → g ≠ 23 → g ≠ 25 → J' g = I g) ∧ (∀ c, ¬ (tb ≤ c ∧ c ≤ tb + a) → J' 22 0 c = I 22 0 c ∧ J' 23 0 c = I 23 0 c) ∧ ∀ k : Nat, k ≤ a → (∀ e : WE, (mgl G 6)[k]? = some e → J' 22 0 (tb + k) = Int32.ofInt e.key ∧ J' 23 0 (tb + k) = nI (ce b' e.u e.j)) ∧ ((mgl G 6)[k]? = none → J' 22 0 (tb + k) = I 22 0 (tb + k)) := by
  have hf : ∀ g, g ≠ 25 → fil I 25 0 0 6 0 g = I g := fun g hg => fil_g hg
  obtain ⟨J', e, f1, f2, f3⟩ := c_mrg ha hb htb hdis hG (a + 1) 0 FU (fun _ => 0) (fil I 25 0 0 6 0) (by omega) (by rw [FU_v]; omega) (fun u hu => by
    unfold srcOk
    rw [hf 24 (by decide), hf 22 (by decide)]
    exact hs u hu) (fun u hu => by rw [fil_at, if_pos (by omega)]; rfl) (fun u hu => Nat.le_refl _)
  refine ⟨J', ?_, fun g z1 z2 z3 => by rw [f1 g z1 z2 z3, hf g z3], fun c hc => ?_, fun k hk => ?_⟩
  · unfold f_X0_merge
    rw [filled_25, cV_r]
    exact e
  · obtain ⟨y1, y2⟩ := f2 c (by omega)
    rw [y1, y2, hf 22 (by decide), hf 23 (by decide)]
    exact ⟨rfl, rfl⟩
  · have := f3 k (by omega)
    rw [dF_0, Nat.add_zero, hf 22 (by decide)] at this
    exact this
