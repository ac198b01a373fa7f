/-! ===== the class: the last merging, the way traced ===== -/
def fiF (A : Mem) (B u : Nat) : List WE := (LL A B 0 u).mapIdx (fun j e => mkW4 e.v e.jn u j)
def FL (A : Mem) (B : Nat) : List WE := mgl (fiF A B) 6
theorem fiF_get {A : Mem} {B u j : Nat} {e : WE} (h : (fiF A B u)[j]? = some e) : ∃ x, (LL A B 0 u)[j]? = some x ∧ e = mkW4 x.v x.jn u j := by
  unfold fiF at h
  rw [List.getElem?_mapIdx] at h
  cases hx : (LL A B 0 u)[j]? with
  | none => rw [hx] at h; simp at h
  | some x =>
    rw [hx] at h
    simp only [Option.map_some, Option.some.injEq] at h
    exact ⟨x, rfl, h.symm⟩
theorem fiF_uj {A : Mem} {B : Nat} (u j : Nat) (e : WE) (h : (fiF A B u)[j]? = some e) : e.u = u ∧ e.j = j := by
  obtain ⟨x, -, rfl⟩ := fiF_get h
  exact ⟨rfl, rfl⟩
theorem FL_get {A : Mem} {B i : Nat} {e : WE} (h : (FL A B)[i]? = some e) : e.u < 6 ∧ e.j ≤ i ∧ ∃ x, (LL A B 0 e.u)[e.j]? = some x ∧ e.v = x.v ∧ e.jn = x.jn := by
  unfold FL at h
  have h' := h
  rw [← dF_0 (fiF A B)] at h'
  have hj := mgl_j fiF_uj i _ e h'
  obtain ⟨u, hu, hm⟩ := mgl_mem 6 (List.mem_of_getElem? h)
  obtain ⟨k, hk⟩ := mem_get hm
  obtain ⟨e1, e2⟩ := fiF_uj u k e hk
  obtain ⟨x, hx, ex⟩ := fiF_get hk
  refine ⟨by omega, by omega, x, by rw [e1, e2]; exact hx, ?_⟩
  rw [ex]
  exact ⟨rfl, rfl⟩
def wq (A : Mem) (B : Nat) (e : WE) : Nat → Nat × Nat
  | 0 => (e.u, e.j)
  | b + 1 => match (LL A B b (wq A B e b).1)[(wq A B e b).2]? with
    | some x => (x.u, x.j)
    | none => (0, 0)
theorem wq_ok {A : Mem} {B i : Nat} {e : WE} (h : (FL A B)[i]? = some e) : ∀ b, b < B → (wq A B e b).1 < 6 ∧ (wq A B e b).2 ≤ i ∧ ∃ x : WE, (LL A B b (wq A B e b).1)[(wq A B e b).2]? = some x ∧ (b + 1 < B → wq A B e (b + 1) = (x.u, x.j)) := by
  intro b
  induction b with
  | zero =>
    intro hb
    obtain ⟨h1, h2, x, h3, -⟩ := FL_get h
    exact ⟨h1, h2, x, h3, fun _ => by rw [wq, show wq A B e 0 = (e.u, e.j) from rfl, h3]⟩
  | succ b ih =>
    intro hb
    obtain ⟨h1, h2, x, h3, h4⟩ := ih (by omega)
    obtain ⟨n1, n2, y, hy⟩ := LL_next hb h3
    have hw := h4 hb
    rw [hw]
    exact ⟨n1, by show x.j ≤ i; omega, y, hy, fun _ => by rw [wq, hw, hy]⟩
theorem nI_div {n k : Nat} (hn : n < 2 ^ 31) (hk : 1 ≤ k) (hk2 : k < 2 ^ 31) : nI n / nI k = nI (n / k) := by
  have := Nat.div_le_self n k
  rw [eq_i, Int32.toInt_div, nIt hn, nIt hk2, nIt (by omega), Int.tdiv_eq_ediv_of_nonneg (by omega)]
  have e : (n : Int) / (k : Int) = ((n / k : Nat) : Int) := rfl
  rw [e]
  generalize n / k = q at *
  exact bm32 (by omega) (by omega)
theorem ce_take {b u j : Nat} (hb : b < 24) (hu : u < 6) (hj : j < 24) : nI (ce b u j) / 24 - nI (ce b u j) / 24 / 6 * 6 = nI u := by
  have h1 : nI (ce b u j) / 24 = nI (b * 6 + u) := by
    rw [show (24 : Int32) = nI 24 from rfl, nI_div (by unfold ce; omega) (by decide) (by decide)]
    congr 1
    unfold ce; omega
  have h2 : nI (b * 6 + u) / 6 = nI b := by
    rw [show (6 : Int32) = nI 6 from rfl, nI_div (by omega) (by decide) (by decide)]
    congr 1
    omega
  have m6 : nI b * 6 = nI (b * 6) := pk_mul b 6
  rw [h1, h2, m6]
  rw [show nI (b * 6 + u) - nI (b * 6) = nI (b * 6 + u - b * 6) from pk_sub (by omega)]
  congr 1
  omega
theorem c_trc {A J : Mem} {B a i a1 : Nat} {e : WE} (hB : B ≤ 24) (ha : a < 20) (eB : J 1 0 0 = nI B) (hi : i ≤ a) (h : (FL A B)[i]? = some e) (ha1 : a1 < 3480) (hc : ∀ b', b' < B → ∀ u, u < 6 → cOk J A B a b' u) :
    ∀ (d k fuel c : Nat) (J' : Mem), k + d = B → d < fuel → c < 3480 → (k < B → J 23 0 c = nI (ce k (wq A B e k).1 (wq A B e k).2)) → (∀ g, g ≠ 26 → J' g = J g) → (∀ b, b < k → J' 26 0 b = nI (wq A B e b).1) →
    ∃ J2, f_X0_trace_p18 fuel (nI a1) (nI c) (nI k) J' = rI (J 22 0 a1) J2 ∧ (∀ g, g ≠ 26 → J2 g = J g) ∧ ∀ b, b < B → J2 26 0 b = nI (wq A B e b).1 := by
  intro d
  induction d with
  | zero =>
    intro k fuel c J' hd hf hcc hl hg h26
    obtain ⟨fu, rfl⟩ : ∃ fu, fuel = fu + 1 := ⟨fuel - 1, by omega⟩
    have : k = B := by omega
    subst this
    exact ⟨J', by rw [f_X0_trace_p18, hg 1 (by decide), eB, if_pos ((nI_leI (by omega) (by omega)).mpr (Nat.le_refl _)), ix_nI ha1 (by decide), hg 22 (by decide)], hg, h26⟩
  | succ d ih =>
    intro k fuel c J' hd hf hcc hl hg h26
    obtain ⟨fu, rfl⟩ : ∃ fu, fuel = fu + 1 := ⟨fuel - 1, by omega⟩
    obtain ⟨w1, w2, x, w3, w4⟩ := wq_ok h k (by omega)
    rw [f_X0_trace_p18, hg 1 (by decide), eB, if_neg (by rw [nI_leI (by omega) (by omega)]; omega), ix_nI hcc (by decide), if_neg (by decide), if_neg (by decide), ix_nI (by omega) (by decide), hg 23 (by decide), hl (by omega), ce_take (by omega) w1 (by omega), nI_1]
    refine ih (k + 1) fu (ce k (wq A B e k).1 (wq A B e k).2) _ (by omega) (by omega) (by unfold ce; omega) (fun hk => ?_) (fun g hg' => by rw [mup_g hg']; exact hg g hg') (fun b hb => ?_)
    · rw [((hc k (by omega) _ w1 _ (by omega)).1 x w3).2 hk, w4 hk]
    · rw [mup_0]
      by_cases z : b = k
      · rw [if_pos z, z]
      · rw [if_neg z]; exact h26 b (by omega)
/-- the class finds the way of a rank -/
theorem c_ranked {I A : Mem} {B a : Nat} (hM : InvM A) (hB1 : 1 ≤ B) (hB : B ≤ 24) (eB : A 33 0 0 = nI B) (ha : a < 20) (hR : RC I A) :
    ∃ J, RC J A ∧ (∀ g, ¬ (13 ≤ g ∧ g ≤ 16) → ¬ (22 ≤ g ∧ g ≤ 26) → J g = I g) ∧ (((FL A B)[a]? = none ∧ f_X0_findRanked (nI a) I = rI (-2000000000) J) ∨ ∃ e : WE, (FL A B)[a]? = some e ∧ f_X0_findRanked (nI a) I = rI (Int32.ofInt e.key) J ∧ ∀ b, b < B → J 26 0 b = nI (wq A B e b).1) := by
  have e1B : I 1 0 0 = nI B := by rw [hR.1.1, eB]
  obtain ⟨J1, fu, e1, r1, g1, o1⟩ := c_frB hM hB eB ha (B - 1) FU I (by omega) (by rw [FU_v]; omega) hR (fun b' h1 h2 => by omega)
  have hs : f_X0_findRanked (nI a) I = f_X0_findRanked_p10 (fu + 1) (nI a) (-1) J1 := by
    unfold f_X0_findRanked
    rw [e1B, mM1 hB1, e1]
  have r2 : RC (fil (fil J1 22 0 3456 (3456 + (a + 1)) (-2000000000)) 24 0 0 6 0) A := RC_scrC r1 (fun g hg => by rw [fil_g (by omega), fil_g (by omega)])
  have f22 : ∀ c, fil (fil J1 22 0 3456 (3456 + (a + 1)) (-2000000000)) 24 0 0 6 0 22 0 c = if 3456 ≤ c ∧ c < 3456 + (a + 1) then -2000000000 else J1 22 0 c := fun c => by rw [fil_g (by decide)]; exact fil_at
  have f24 : ∀ u, u < 6 → fil (fil J1 22 0 3456 (3456 + (a + 1)) (-2000000000)) 24 0 0 6 0 24 0 u = 0 := fun u hu => by rw [fil_at, if_pos (by omega)]
  have fg : ∀ g, g ≠ 22 → g ≠ 24 → fil (fil J1 22 0 3456 (3456 + (a + 1)) (-2000000000)) 24 0 0 6 0 g = J1 g := fun g z1 z2 => by rw [fil_g z2, fil_g z1]
  generalize hJ2 : fil (fil J1 22 0 3456 (3456 + (a + 1)) (-2000000000)) 24 0 0 6 0 = J2 at r2 f22 f24 fg
  have o2 : ∀ b', b' < B → ∀ u, u < 6 → cOk J2 A B a b' u := fun b' hb' u hu => cOk_fr (o1 b' hb' u hu) (fun j hj => by
    rw [f22, if_neg (by unfold ce; omega), fg 23 (by decide) (by decide)]
    exact ⟨rfl, rfl⟩)
  obtain ⟨J3, e3, g3, q3, m3⟩ := c_merge (I := J2) (a := a) (b' := 0) (tb := 3456) (gk := 0) (G := fiF A B) (by omega) (by omega) (by omega) (fun u j i hu hj hi => by unfold ce; omega) ⟨by omega, by omega, fun u j e hu he => by
    obtain ⟨y1, y2⟩ := fiF_uj u j e he
    obtain ⟨x, hx, rfl⟩ := fiF_get he
    have kx := LL_key hM hB hu (by omega) hx
    refine ⟨y1, y2, ?_⟩
    unfold WE.key mkW4 WE.v WE.jn at *
    dsimp only
    omega⟩ (fun u hu => Or.inr ⟨0, f24 u hu, by omega, by omega, fun j hj => ⟨fun e he => by
      obtain ⟨x, hx, rfl⟩ := fiF_get he
      rw [((o2 0 (by omega) u hu j hj).1 x hx).1]
      congr 1
      unfold WE.key mkW4 WE.v WE.jn
      dsimp only
      omega, fun he => by
      refine (o2 0 (by omega) u hu j hj).2 ?_
      unfold fiF at he
      rw [List.getElem?_mapIdx] at he
      cases hx : (LL A B 0 u)[j]? with
      | none => rfl
      | some x => rw [hx] at he; simp at he⟩⟩)
  have r3 : RC J3 A := RC_scrC r2 (fun g hg => g3 g (by omega) (by omega) (by omega))
  have o3 : ∀ b', b' < B → ∀ u, u < 6 → cOk J3 A B a b' u := fun b' hb' u hu => cOk_fr (o2 b' hb' u hu) (fun j hj => q3 _ (by unfold ce; omega))
  have hall : ∀ g, ¬ (13 ≤ g ∧ g ≤ 16) → ¬ (22 ≤ g ∧ g ≤ 26) → J3 g = I g := fun g h1 h2 => by rw [g3 g (by omega) (by omega) (by omega), fg g (by omega) (by omega), g1 g h1 (by omega)]
  have hs2 : f_X0_findRanked (nI a) I = cI (f_X0_trace (nI (3456 + a)) J3) fun v5 J4 => rI v5 J4 := by
    rw [hs, f_X0_findRanked_p10, if_pos (by decide), nI_1, show (3456 : Int32) = nI 3456 from rfl, c_fil22 _ _ _ _ (by omega) (by omega), cV_r, filled_24, cV_r, hJ2]
    rw [show f_X0_merge 0 (nI a) (nI 3456) 0 J2 = rV J3 from e3, cV_r, nI_add]
  have hm := m3 a (Nat.le_refl _)
  cases hx : (FL A B)[a]? with
  | none =>
    refine ⟨J3, r3, hall, Or.inl ⟨rfl, ?_⟩⟩
    have hv : J3 22 0 (3456 + a) = -2000000000 := by rw [hm.2 hx, f22, if_pos (by omega)]
    rw [hs2]
    unfold f_X0_trace
    rw [ix_nI (by omega) (by decide), hv, if_pos rfl, cI_r]
  | some e =>
    obtain ⟨n1, n2⟩ := hm.1 e hx
    obtain ⟨x1, x2, x, x3, x4, x5⟩ := FL_get hx
    have kx := LL_key hM hB x1 (by omega) x3
    have kk : (Int32.ofInt e.key).toInt = e.key := oI (by unfold WE.key at *; omega) (by unfold WE.key at *; omega)
    obtain ⟨J4, e4, g4, t4⟩ := c_trc (A := A) (J := J3) (a := a) (i := a) (a1 := 3456 + a) hB ha (by rw [r3.1.1, eB]) (Nat.le_refl _) hx (by omega) o3 B 0 FU (3456 + a) J3 (by omega) (by rw [FU_v]; omega) (by omega) (fun _ => n2) (fun _ _ => rfl) (fun b hb => by omega)
    refine ⟨J4, RC_scrC r3 (fun g hg => g4 g (by omega)), fun g h1 h2 => by rw [g4 g (by omega), hall g h1 h2], Or.inr ⟨e, rfl, ?_, t4⟩⟩
    rw [hs2]
    unfold f_X0_trace
    rw [ix_nI (by omega) (by decide), n1, if_neg (by rw [eq_i, kk, no_t]; unfold WE.key; omega), ← n1]
    rw [show f_X0_trace_p18 FU (nI (3456 + a)) (nI (3456 + a)) 0 J3 = rI (J3 22 0 (3456 + a)) J4 from e4, cI_r]
