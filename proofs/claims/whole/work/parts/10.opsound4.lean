section OPS4
variable {M : MD} {s s' pc : Nat} {L : LC} {st : List PV} {I : Mem} {X : Option (Option PV × Mem)} {a b cx : Nat} {z : Int32}
theorem FC_fx {G : GX} {p : Program} {R : Room} {s0 : State} {mid : MethodId} {args : Array Value} {meth : Method} {c : Code} (h : FC G M p R s0 mid args meth c) : FX G s0 := h.2.2.2.2.2.2.2.2
theorem cG_arr {G : GX} {g i t n : Nat} (h : skd g = some (.inr (t, n))) (ht : t < 2) : cG G s I g i = .inl (G.2.2.1 t, n, .inl (I g i)) := by
  rw [cG, h]
  show (if t < 2 then _ else _) = _
  rw [if_pos ht]
theorem cG_rarr {G : GX} {g i t n : Nat} (h : skd g = some (.inr (t, n))) (ht : ¬ t < 2) : cG G s I g i = .inl (G.2.2.1 t, n, .inr (.inr (.inr (.inr (fun j => if sA s g i j = true then some (G.1 + pos (rtg t) j) else none))))) := by
  rw [cG, h]
  show (if t < 2 then _ else _) = _
  rw [if_neg ht]
theorem skd_t {g t n : Nat} (h : skd g = some (.inr (t, n))) : t < 4 := by
  have t1 : ∀ g, g < 100 → (match skd g with | some (.inr (t, _)) => Nat.blt t 4 | _ => true) = true := by decide +kernel
  have := t1 g (skd_lt h)
  rw [h] at this
  exact Nat.blt_eq.mp this
theorem tysG_at {G : GX} {t : Nat} (h : t < 4) : (tysG G)[t]? = some (G.2.2.1 t, [.int, .boolean, .object (rcl 2), .object (rcl 3)].getD t .int) := by
  match t, h with
  | 0, _ => rfl
  | 1, _ => rfl
  | 2, _ => rfl
  | 3, _ => rfl
theorem rok_ext {g i : Nat} (h : rok s g i) (hg : skd g = none) : 100 ≤ g ∧ g < 103 ∧ i = 0 := by
  rcases h with h | h
  · have t1 : ∀ g, g < 100 → 0 < scnt g → (skd g).isSome = true := by decide +kernel
    have := t1 g h.1 (by omega)
    rw [hg] at this
    cases this
  · exact h
theorem aln_ext {G : GX} {g : Nat} (hx : xok G I) (hL : G.2.2.2.1.2.1 < 2 ^ 31) (hs : skd g = none) : (g = 100 → aln I g = G.2.2.2.1.2.1) ∧ (g = 101 → aln I g = 5) ∧ (g = 102 → aln I g = 4) := by
  refine ⟨fun e => ?_, fun e => ?_, fun e => ?_⟩ <;> subst e <;> unfold aln <;> rw [hs]
  · show (if 100 = 100 then _ else _) = _
    rw [if_pos rfl, hx.2.1, nI_clamp hL]
  · rfl
  · rfl
theorem op_27 {g i : Nat} {o : Nat × Nat × Nat × Int32} (hok : okOp M pc (27, o) = true) (hg : isArr g = true) (k : RR M s s' (pc + 1) L (vI (nI (aln I g)) :: st) I X) : RR M s s' pc L (vR g i :: st) I X := by
  obtain ⟨hd, ho⟩ := ok_d hok
  refine rr_pure (fun _ h => sok_i (sok_t h)) (fun G p l e R s0 mid args below meth c Q H locs cells slots ls hF hl hH hS hL hst kk => ?_) k
  have hfx := FC_fx hF
  show W p l e R s0 mid args below meth c H locs cells slots Q (F0 mid pc ls (.ref (ada G g i) :: st.map (tvv G)))
  cases hsk : skd g with
  | none =>
    obtain ⟨e1, e2, e3⟩ := rok_ext (sok_h hst) hsk
    obtain ⟨f1, f2, f3⟩ := aln_ext hH.2.2 hfx.2.1.2.2 hsk
    rcases (show g = 100 ∨ g = 101 ∨ g = 102 by omega) with rfl | rfl | rfl
    · rw [f1 rfl] at kk
      exact va_slen hF.1 hF.2.1 hfx.2.1.1 (Nat.lt_of_lt_of_le hfx.2.1.2.1 hfx.2.2.2.2.1) (Nat.not_le.mpr hfx.2.1.2.1) hS hd kk
    · rw [f2 rfl] at kk
      exact va_tlen hF.1 hF.2.1 hfx.2.2.1.2 hS rfl hd kk
    · rw [f3 rfl] at kk
      exact va_tlen hF.1 hF.2.1 hfx.2.2.2.1.2 hS rfl hd kk
  | some x =>
    have hlt := skd_lt hsk
    rw [ada_lt hlt]
    obtain ⟨q1, q2⟩ := rok_at (sok_h hst) hlt
    have hws := wsG_get (G := G) (I := I) q1 q2
    rcases x with ci | ⟨t, n⟩
    · rw [isArr, hsk] at hg; cases hg
    · have ha : aln I g = n := by rw [aln, hsk]
      rw [ha] at kk
      by_cases h2 : t < 2
      · rw [cG_arr hsk h2] at hws
        exact va_alen hF.1 hF.2.1 hfx.1 hH.1 (pos g i) t hws (tysG_at (skd_t hsk)) rfl hd kk
      · rw [cG_rarr hsk h2] at hws
        exact va_alen hF.1 hF.2.1 hfx.1 hH.1 (pos g i) t hws (tysG_at (skd_t hsk)) rfl hd kk
theorem op_29 (hok : okOp M pc (29, a, b, cx, z) = true) (k : RR M s s' (pc + 3) L (vR a 0 :: st) I X) : RR M s s' pc L st I X := by
  obtain ⟨hd, ho⟩ := ok_d hok
  have ho2 : (a = 101 ∧ M.1 = 7 ∧ cx = 309) ∨ (a = 102 ∧ M.1 = 6 ∧ cx = 68) := by
    simp only [opOk, Bool.or_eq_true, Bool.and_eq_true, beq_iff_eq] at ho
    rcases ho with ⟨⟨h1, h2⟩, h3⟩ | ⟨⟨h1, h2⟩, h3⟩
    · exact Or.inl ⟨h1, h2, h3⟩
    · exact Or.inr ⟨h1, h2, h3⟩
  refine rr_pure (fun _ h => sok_c (v := vR a 0) (Or.inr (by rcases ho2 with q | q <;> (rw [q.1]; decide))) h) (fun G p l e R s0 mid args below meth c Q H locs cells slots ls hF hl hH hS hL hst kk => ?_) k
  have hfx := FC_fx hF
  have hown := hF.2.2.2.1
  rcases ho2 with ⟨rfl, e2, rfl⟩ | ⟨rfl, e2, rfl⟩
  · rw [e2] at hown
    exact va_gets hF.1 hF.2.1 hfx.2.2.1.1 hS hown (hF.2.2.2.2.1 _ xs101_in) (fun _ q => q) hd kk
  · rw [e2] at hown
    exact va_getsN hF.1 hF.2.1 hfx.2.2.2.1.1 hS hown (va_Nw.use rfl (hfx.2.2.2.2.2.1 _ xs102_in)) (fun _ q => q) hd kk
end OPS4
/-- an instruction of a row -/
theorem rr_op1 {M : MD} {s s' pc : Nat} {L L' : LC} {st st' : List PV} {I I1 : Mem} {X : Option (Option PV × Mem)} {fin : Bool} (hfin : fin = true → s = SF) : ∀ o : PO, okOp M pc o = true → seg1 fin s o L st I = some (L', st', I1) → RR M s s' (nxO pc o) L' st' I1 X → RR M s s' pc L st I X
  | (0, 0, _, _, _), hok, hs, k => by cases hs; exact op_0_0 hok k
  | (0, 1, _, _, _), hok, hs, k => by cases hs; exact op_0_1 hok k
  | (0, 2, _, _, _), hok, hs, k => by cases hs; exact op_0_2 hok k
  | (0, 3, _, _, _), hok, hs, k => by cases hs; exact op_0_3 hok k
  | (0, _ + 4, _, _, _), hok, hs, k => by cases hs; exact op_0_4 hok k
  | (1, a, 0, _, _), hok, hs, k => by
    simp only [seg1] at hs
    split at hs
    · next e => cases hs; exact op_1_0 hok e k
    · cases hs
  | (1, a, _ + 1, _, _), hok, hs, k => by
    simp only [seg1] at hs
    split at hs
    · next e => cases hs; exact op_1_1 hok e k
    · cases hs
  | (2, a, 0, _, _), hok, hs, k => by
    simp only [seg1] at hs
    split at hs
    · next e => cases hs; exact op_2_0 hok e k
    · cases hs
  | (2, a, _ + 1, _, _), hok, hs, k => by
    simp only [seg1] at hs
    split at hs
    · next e => cases hs; exact op_2_1 hok e k
    · cases hs
  | (3, a, _, _, _), hok, hs, k => by
    simp only [seg1] at hs
    split at hs
    · next e => cases hs; exact op_3 hok e k
    · cases hs
  | (4, a, 0, _, _), hok, hs, k => by
    simp only [seg1] at hs
    split at hs
    · obtain ⟨L1, h1, h2⟩ := Option.map_eq_some_iff.mp hs
      cases h2; exact op_4_0 hok h1 k
    · cases hs
  | (4, a, _ + 1, _, _), hok, hs, k => by
    simp only [seg1] at hs
    split at hs
    · obtain ⟨L1, h1, h2⟩ := Option.map_eq_some_iff.mp hs
      cases h2; exact op_4_1 hok h1 k
    · cases hs
  | (5, a, 0, _, _), hok, hs, k => by
    simp only [seg1] at hs
    split at hs
    · obtain ⟨L1, h1, h2⟩ := Option.map_eq_some_iff.mp hs
      cases h2; exact op_5_0 hok h1 k
    · cases hs
  | (5, a, _ + 1, _, _), hok, hs, k => by
    simp only [seg1] at hs
    split at hs
    · obtain ⟨L1, h1, h2⟩ := Option.map_eq_some_iff.mp hs
      cases h2; exact op_5_1 hok h1 k
    · cases hs
  | (6, a, _, _, _), hok, hs, k => by
    simp only [seg1] at hs
    split at hs
    · obtain ⟨L1, h1, h2⟩ := Option.map_eq_some_iff.mp hs
      cases h2; exact op_6 hok h1 k
    · cases hs
  | (7, a, _, _, z), hok, hs, k => by
    simp only [seg1] at hs
    split at hs
    · next e =>
      obtain ⟨L1, h1, h2⟩ := Option.map_eq_some_iff.mp hs
      cases h2; exact op_7 hok e h1 k
    · cases hs
  | (8, _), hok, hs, k => by simp only [seg1] at hs; split at hs <;> cases hs; exact op_8 hok k
  | (9, _), hok, hs, k => by simp only [seg1] at hs; split at hs <;> cases hs; exact op_9 hok k
  | (10, _), hok, hs, k => by simp only [seg1] at hs; split at hs <;> cases hs; exact op_10 hok k
  | (11, _), hok, hs, k => by simp only [seg1] at hs; split at hs <;> cases hs; exact op_11 hok k
  | (12, _), hok, hs, k => by simp only [seg1] at hs; split at hs <;> cases hs; exact op_12 hok k
  | (13, _), hok, hs, k => by simp only [seg1] at hs; split at hs <;> cases hs; exact op_13 hok k
  | (14, _), hok, hs, k => by simp only [seg1] at hs; split at hs <;> cases hs; exact op_14 hok k
  | (15, _), hok, hs, k => by simp only [seg1] at hs; split at hs <;> cases hs; exact op_15 hok k
  | (16, _), hok, hs, k => by simp only [seg1] at hs; split at hs <;> cases hs; exact op_16 hok k
  | (17, _), hok, hs, k => by simp only [seg1] at hs; split at hs <;> cases hs; exact op_17 hok k
  | (18, _), hok, hs, k => by simp only [seg1] at hs; split at hs <;> cases hs; exact op_18 hok k
  | (19, _), hok, hs, k => by cases hs; exact op_19 hok k
  | (20, _, _, _, _), hok, hs, k => by cases hs; exact op_20 hok k
  | (21, _), hok, hs, k => by simp only [seg1] at hs; split at hs <;> cases hs <;> exact op_21 rfl hok k
  | (22, _), hok, hs, k => by simp only [seg1] at hs; split at hs <;> cases hs <;> exact op_22 rfl rfl hok k
  | (23, _, _, _, _), hok, hs, k => by cases hs; exact op_23 hok k
  | (24, a, b, _, _), hok, hs, k => by
    simp only [seg1] at hs
    split at hs
    · split at hs
      · next h0 =>
        rw [Bool.and_eq_true] at h0
        cases hs; exact op_24 hok h0.1 (Nat.blt_eq.mp h0.2) k
      · cases hs
    · cases hs
  | (25, a, b, _, _), hok, hs, k => by
    simp only [seg1] at hs
    split at hs
    · split at hs
      · next h0 =>
        rw [Bool.and_eq_true] at h0
        split at hs
        · next e => cases hs; exact op_25 hfin hok h0.1 h0.2 e k
        · cases hs
      · cases hs
    · cases hs
  | (26, a, b, _, _), hok, hs, k => by
    simp only [seg1] at hs
    split at hs
    · split at hs
      · next h0 =>
        rw [Bool.and_eq_true] at h0
        cases hs; exact op_26 hok h0.1 h0.2 k
      · cases hs
    · cases hs
  | (27, _), hok, hs, k => by
    simp only [seg1] at hs
    split at hs
    · split at hs
      · next h0 => cases hs; exact op_27 hok h0 k
      · cases hs
    · cases hs
  | (28, _), hok, hs, k => by simp only [seg1] at hs; split at hs <;> cases hs; exact op_28 hok k
  | (29, _, _, _, _), hok, hs, k => by cases hs; exact op_29 hok k
  | (_ + 30, _), _, hs, _ => by cases hs
theorem rr_seg0 {M : MD} {s s' : Nat} {X : Option (Option PV × Mem)} {fin : Bool} (hfin : fin = true → s = SF) : ∀ (ops : List PO) {pc pc' : Nat} {L L' : LC} {st st' : List PV} {I I1 : Mem}, okOps M pc ops = true → seg fin s ops pc L st I = some (pc', L', st', I1) → RR M s s' pc' L' st' I1 X → RR M s s' pc L st I X
  | [], _, _, _, _, _, _, _, _, _, hs, k => by cases hs; exact k
  | o :: os, pc, pc', L, L', st, st', I, I1, hok, hs, k => by
    simp only [okOps, Bool.and_eq_true] at hok
    simp only [seg] at hs
    split at hs
    · next e => exact rr_op1 hfin o hok.1 e (rr_seg0 hfin os hok.2 hs k)
    · cases hs
/-- straight rows of instructions, in the end and while the heap is made -/
theorem rr_seg {M : MD} {pc : Nat} {L : LC} {st : List PV} {I : Mem} {X : Option (Option PV × Mem)} (ops : List PO) (pc' : Nat) (L' : LC) (st' : List PV) (I1 : Mem) (hok : okOps M pc ops = true) (hs : seg true SF ops pc L st I = some (pc', L', st', I1)) (k : RR M SF SF pc' L' st' I1 X) : RR M SF SF pc L st I X := rr_seg0 (fun _ => rfl) ops hok hs k
theorem rr_segC {M : MD} {s s' pc : Nat} {L : LC} {st : List PV} {I : Mem} {X : Option (Option PV × Mem)} (ops : List PO) (pc' : Nat) (L' : LC) (st' : List PV) (I1 : Mem) (hok : okOps M pc ops = true) (hs : seg false s ops pc L st I = some (pc', L', st', I1)) (k : RR M s s' pc' L' st' I1 X) : RR M s s' pc L st I X := rr_seg0 (fun h => by cases h) ops hok hs k
