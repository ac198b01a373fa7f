/-! ===== branches, arrays, quotients, answers ===== -/
/-- an index is looked at before it is used -/
def ix {α : Type} (x : Int32) (n : Nat) (k : Nat → Option α) : Option α := if x < 0 ∨ n ≤ x.toNatClampNeg then none else k x.toNatClampNeg
theorem ix_some {α : Type} {x : Int32} {n : Nat} {k : Nat → Option α} {r : α} (h : ix x n k = some r) : vp_in x n ∧ k x.toNatClampNeg = some r := by
  unfold ix at h
  split at h
  · cases h
  · next q => exact ⟨q, h⟩
theorem ix_nI {α : Type} {i n : Nat} {k : Nat → Option α} (h : i < n) (hn : n < 2 ^ 31) : ix (nI i) n k = k i := by
  unfold ix
  rw [if_neg (nI_in h hn), nI_clamp (by omega)]
def znar (x : Int32) : Int32 := vp_nar .boolean x
theorem znar_0 : znar 0 = 0 := by decide +kernel
theorem znar_1 : znar 1 = 1 := by decide +kernel
section RUL
variable {M : MD} {s s' pc : Nat} {L : LC} {st : List PV} {I : Mem} {X Y : Option (Option PV × Mem)}
theorem rr_if_eq {x : Int32} (tg : Nat) (hd : decode M.2.2.1 pc = .ok (.ifCond .eq ((tg : Int) - (pc : Int)), 3)) (kt : RR M s s' tg L st I X) (kf : RR M s s' (pc + 3) L st I Y) : RR M s s' pc L (vI x :: st) I (if x = 0 then X else Y) := by
  intro r I' hX hL hst hss G p l e R s0 mid args below meth c Q c0 z0 hF hc hz hQ H locs cells slots ls hH hS h1 h2 hl
  by_cases h : x = 0
  · rw [if_pos h] at hX
    exact lv_if_eq hF.1 hF.2.1 (tgt := tg) hd (by omega) (fun _ => kt r I' hX hL (sok_t hst) hss G p l e R s0 mid args below meth c Q c0 z0 hF hc hz hQ H locs cells slots ls hH hS h1 h2 hl) (fun n => absurd h n)
  · rw [if_neg h] at hX
    exact lv_if_eq hF.1 hF.2.1 (tgt := tg) hd (by omega) (fun n => absurd n h) (fun _ => kf r I' hX hL (sok_t hst) hss G p l e R s0 mid args below meth c Q c0 z0 hF hc hz hQ H locs cells slots ls hH hS h1 h2 hl)
theorem rr_if_ne {x : Int32} (tg : Nat) (hd : decode M.2.2.1 pc = .ok (.ifCond .ne ((tg : Int) - (pc : Int)), 3)) (kt : RR M s s' tg L st I X) (kf : RR M s s' (pc + 3) L st I Y) : RR M s s' pc L (vI x :: st) I (if x = 0 then Y else X) := by
  intro r I' hX hL hst hss G p l e R s0 mid args below meth c Q c0 z0 hF hc hz hQ H locs cells slots ls hH hS h1 h2 hl
  by_cases h : x = 0
  · rw [if_pos h] at hX
    exact lv_if_ne hF.1 hF.2.1 (tgt := tg) hd (by omega) (fun n => absurd h n) (fun _ => kf r I' hX hL (sok_t hst) hss G p l e R s0 mid args below meth c Q c0 z0 hF hc hz hQ H locs cells slots ls hH hS h1 h2 hl)
  · rw [if_neg h] at hX
    exact lv_if_ne hF.1 hF.2.1 (tgt := tg) hd (by omega) (fun _ => kt r I' hX hL (sok_t hst) hss G p l e R s0 mid args below meth c Q c0 z0 hF hc hz hQ H locs cells slots ls hH hS h1 h2 hl) (fun n => absurd n h)
theorem rr_if_lt {x : Int32} (tg : Nat) (hd : decode M.2.2.1 pc = .ok (.ifCond .lt ((tg : Int) - (pc : Int)), 3)) (kt : RR M s s' tg L st I X) (kf : RR M s s' (pc + 3) L st I Y) : RR M s s' pc L (vI x :: st) I (if x < 0 then X else Y) := by
  intro r I' hX hL hst hss G p l e R s0 mid args below meth c Q c0 z0 hF hc hz hQ H locs cells slots ls hH hS h1 h2 hl
  by_cases h : x < 0
  · rw [if_pos h] at hX
    exact lv_if_lt hF.1 hF.2.1 (tgt := tg) hd (by omega) (fun _ => kt r I' hX hL (sok_t hst) hss G p l e R s0 mid args below meth c Q c0 z0 hF hc hz hQ H locs cells slots ls hH hS h1 h2 hl) (fun n => absurd h n)
  · rw [if_neg h] at hX
    exact lv_if_lt hF.1 hF.2.1 (tgt := tg) hd (by omega) (fun n => absurd n h) (fun _ => kf r I' hX hL (sok_t hst) hss G p l e R s0 mid args below meth c Q c0 z0 hF hc hz hQ H locs cells slots ls hH hS h1 h2 hl)
theorem rr_if_ge {x : Int32} (tg : Nat) (hd : decode M.2.2.1 pc = .ok (.ifCond .ge ((tg : Int) - (pc : Int)), 3)) (kt : RR M s s' tg L st I X) (kf : RR M s s' (pc + 3) L st I Y) : RR M s s' pc L (vI x :: st) I (if 0 ≤ x then X else Y) := by
  intro r I' hX hL hst hss G p l e R s0 mid args below meth c Q c0 z0 hF hc hz hQ H locs cells slots ls hH hS h1 h2 hl
  by_cases h : 0 ≤ x
  · rw [if_pos h] at hX
    exact lv_if_ge hF.1 hF.2.1 (tgt := tg) hd (by omega) (fun _ => kt r I' hX hL (sok_t hst) hss G p l e R s0 mid args below meth c Q c0 z0 hF hc hz hQ H locs cells slots ls hH hS h1 h2 hl) (fun n => absurd h n)
  · rw [if_neg h] at hX
    exact lv_if_ge hF.1 hF.2.1 (tgt := tg) hd (by omega) (fun n => absurd n h) (fun _ => kf r I' hX hL (sok_t hst) hss G p l e R s0 mid args below meth c Q c0 z0 hF hc hz hQ H locs cells slots ls hH hS h1 h2 hl)
theorem rr_if_gt {x : Int32} (tg : Nat) (hd : decode M.2.2.1 pc = .ok (.ifCond .gt ((tg : Int) - (pc : Int)), 3)) (kt : RR M s s' tg L st I X) (kf : RR M s s' (pc + 3) L st I Y) : RR M s s' pc L (vI x :: st) I (if 0 < x then X else Y) := by
  intro r I' hX hL hst hss G p l e R s0 mid args below meth c Q c0 z0 hF hc hz hQ H locs cells slots ls hH hS h1 h2 hl
  by_cases h : 0 < x
  · rw [if_pos h] at hX
    exact lv_if_gt hF.1 hF.2.1 (tgt := tg) hd (by omega) (fun _ => kt r I' hX hL (sok_t hst) hss G p l e R s0 mid args below meth c Q c0 z0 hF hc hz hQ H locs cells slots ls hH hS h1 h2 hl) (fun n => absurd h n)
  · rw [if_neg h] at hX
    exact lv_if_gt hF.1 hF.2.1 (tgt := tg) hd (by omega) (fun n => absurd n h) (fun _ => kf r I' hX hL (sok_t hst) hss G p l e R s0 mid args below meth c Q c0 z0 hF hc hz hQ H locs cells slots ls hH hS h1 h2 hl)
theorem rr_if_le {x : Int32} (tg : Nat) (hd : decode M.2.2.1 pc = .ok (.ifCond .le ((tg : Int) - (pc : Int)), 3)) (kt : RR M s s' tg L st I X) (kf : RR M s s' (pc + 3) L st I Y) : RR M s s' pc L (vI x :: st) I (if x ≤ 0 then X else Y) := by
  intro r I' hX hL hst hss G p l e R s0 mid args below meth c Q c0 z0 hF hc hz hQ H locs cells slots ls hH hS h1 h2 hl
  by_cases h : x ≤ 0
  · rw [if_pos h] at hX
    exact lv_if_le hF.1 hF.2.1 (tgt := tg) hd (by omega) (fun _ => kt r I' hX hL (sok_t hst) hss G p l e R s0 mid args below meth c Q c0 z0 hF hc hz hQ H locs cells slots ls hH hS h1 h2 hl) (fun n => absurd h n)
  · rw [if_neg h] at hX
    exact lv_if_le hF.1 hF.2.1 (tgt := tg) hd (by omega) (fun n => absurd n h) (fun _ => kf r I' hX hL (sok_t hst) hss G p l e R s0 mid args below meth c Q c0 z0 hF hc hz hQ H locs cells slots ls hH hS h1 h2 hl)
theorem rr_ic_eq {x y : Int32} (tg : Nat) (hd : decode M.2.2.1 pc = .ok (.if_icmp .eq ((tg : Int) - (pc : Int)), 3)) (kt : RR M s s' tg L st I X) (kf : RR M s s' (pc + 3) L st I Y) : RR M s s' pc L (vI y :: vI x :: st) I (if x = y then X else Y) := by
  intro r I' hX hL hst hss G p l e R s0 mid args below meth c Q c0 z0 hF hc hz hQ H locs cells slots ls hH hS h1 h2 hl
  by_cases h : x = y
  · rw [if_pos h] at hX
    exact lv_icmp_eq hF.1 hF.2.1 (tgt := tg) hd (by omega) (fun _ => kt r I' hX hL (sok_t (sok_t hst)) hss G p l e R s0 mid args below meth c Q c0 z0 hF hc hz hQ H locs cells slots ls hH hS h1 h2 hl) (fun n => absurd h n)
  · rw [if_neg h] at hX
    exact lv_icmp_eq hF.1 hF.2.1 (tgt := tg) hd (by omega) (fun n => absurd n h) (fun _ => kf r I' hX hL (sok_t (sok_t hst)) hss G p l e R s0 mid args below meth c Q c0 z0 hF hc hz hQ H locs cells slots ls hH hS h1 h2 hl)
theorem rr_ic_ne {x y : Int32} (tg : Nat) (hd : decode M.2.2.1 pc = .ok (.if_icmp .ne ((tg : Int) - (pc : Int)), 3)) (kt : RR M s s' tg L st I X) (kf : RR M s s' (pc + 3) L st I Y) : RR M s s' pc L (vI y :: vI x :: st) I (if x = y then Y else X) := by
  intro r I' hX hL hst hss G p l e R s0 mid args below meth c Q c0 z0 hF hc hz hQ H locs cells slots ls hH hS h1 h2 hl
  by_cases h : x = y
  · rw [if_pos h] at hX
    exact lv_icmp_ne hF.1 hF.2.1 (tgt := tg) hd (by omega) (fun n => absurd h n) (fun _ => kf r I' hX hL (sok_t (sok_t hst)) hss G p l e R s0 mid args below meth c Q c0 z0 hF hc hz hQ H locs cells slots ls hH hS h1 h2 hl)
  · rw [if_neg h] at hX
    exact lv_icmp_ne hF.1 hF.2.1 (tgt := tg) hd (by omega) (fun _ => kt r I' hX hL (sok_t (sok_t hst)) hss G p l e R s0 mid args below meth c Q c0 z0 hF hc hz hQ H locs cells slots ls hH hS h1 h2 hl) (fun n => absurd n h)
theorem rr_ic_lt {x y : Int32} (tg : Nat) (hd : decode M.2.2.1 pc = .ok (.if_icmp .lt ((tg : Int) - (pc : Int)), 3)) (kt : RR M s s' tg L st I X) (kf : RR M s s' (pc + 3) L st I Y) : RR M s s' pc L (vI y :: vI x :: st) I (if x < y then X else Y) := by
  intro r I' hX hL hst hss G p l e R s0 mid args below meth c Q c0 z0 hF hc hz hQ H locs cells slots ls hH hS h1 h2 hl
  by_cases h : x < y
  · rw [if_pos h] at hX
    exact lv_icmp_lt hF.1 hF.2.1 (tgt := tg) hd (by omega) (fun _ => kt r I' hX hL (sok_t (sok_t hst)) hss G p l e R s0 mid args below meth c Q c0 z0 hF hc hz hQ H locs cells slots ls hH hS h1 h2 hl) (fun n => absurd h n)
  · rw [if_neg h] at hX
    exact lv_icmp_lt hF.1 hF.2.1 (tgt := tg) hd (by omega) (fun n => absurd n h) (fun _ => kf r I' hX hL (sok_t (sok_t hst)) hss G p l e R s0 mid args below meth c Q c0 z0 hF hc hz hQ H locs cells slots ls hH hS h1 h2 hl)
theorem rr_ic_ge {x y : Int32} (tg : Nat) (hd : decode M.2.2.1 pc = .ok (.if_icmp .ge ((tg : Int) - (pc : Int)), 3)) (kt : RR M s s' tg L st I X) (kf : RR M s s' (pc + 3) L st I Y) : RR M s s' pc L (vI y :: vI x :: st) I (if y ≤ x then X else Y) := by
  intro r I' hX hL hst hss G p l e R s0 mid args below meth c Q c0 z0 hF hc hz hQ H locs cells slots ls hH hS h1 h2 hl
  by_cases h : y ≤ x
  · rw [if_pos h] at hX
    exact lv_icmp_ge hF.1 hF.2.1 (tgt := tg) hd (by omega) (fun _ => kt r I' hX hL (sok_t (sok_t hst)) hss G p l e R s0 mid args below meth c Q c0 z0 hF hc hz hQ H locs cells slots ls hH hS h1 h2 hl) (fun n => absurd h n)
  · rw [if_neg h] at hX
    exact lv_icmp_ge hF.1 hF.2.1 (tgt := tg) hd (by omega) (fun n => absurd n h) (fun _ => kf r I' hX hL (sok_t (sok_t hst)) hss G p l e R s0 mid args below meth c Q c0 z0 hF hc hz hQ H locs cells slots ls hH hS h1 h2 hl)
theorem rr_ic_gt {x y : Int32} (tg : Nat) (hd : decode M.2.2.1 pc = .ok (.if_icmp .gt ((tg : Int) - (pc : Int)), 3)) (kt : RR M s s' tg L st I X) (kf : RR M s s' (pc + 3) L st I Y) : RR M s s' pc L (vI y :: vI x :: st) I (if y < x then X else Y) := by
  intro r I' hX hL hst hss G p l e R s0 mid args below meth c Q c0 z0 hF hc hz hQ H locs cells slots ls hH hS h1 h2 hl
  by_cases h : y < x
  · rw [if_pos h] at hX
    exact lv_icmp_gt hF.1 hF.2.1 (tgt := tg) hd (by omega) (fun _ => kt r I' hX hL (sok_t (sok_t hst)) hss G p l e R s0 mid args below meth c Q c0 z0 hF hc hz hQ H locs cells slots ls hH hS h1 h2 hl) (fun n => absurd h n)
  · rw [if_neg h] at hX
    exact lv_icmp_gt hF.1 hF.2.1 (tgt := tg) hd (by omega) (fun n => absurd n h) (fun _ => kf r I' hX hL (sok_t (sok_t hst)) hss G p l e R s0 mid args below meth c Q c0 z0 hF hc hz hQ H locs cells slots ls hH hS h1 h2 hl)
theorem rr_ic_le {x y : Int32} (tg : Nat) (hd : decode M.2.2.1 pc = .ok (.if_icmp .le ((tg : Int) - (pc : Int)), 3)) (kt : RR M s s' tg L st I X) (kf : RR M s s' (pc + 3) L st I Y) : RR M s s' pc L (vI y :: vI x :: st) I (if x ≤ y then X else Y) := by
  intro r I' hX hL hst hss G p l e R s0 mid args below meth c Q c0 z0 hF hc hz hQ H locs cells slots ls hH hS h1 h2 hl
  by_cases h : x ≤ y
  · rw [if_pos h] at hX
    exact lv_icmp_le hF.1 hF.2.1 (tgt := tg) hd (by omega) (fun _ => kt r I' hX hL (sok_t (sok_t hst)) hss G p l e R s0 mid args below meth c Q c0 z0 hF hc hz hQ H locs cells slots ls hH hS h1 h2 hl) (fun n => absurd h n)
  · rw [if_neg h] at hX
    exact lv_icmp_le hF.1 hF.2.1 (tgt := tg) hd (by omega) (fun n => absurd n h) (fun _ => kf r I' hX hL (sok_t (sok_t hst)) hss G p l e R s0 mid args below meth c Q c0 z0 hF hc hz hQ H locs cells slots ls hH hS h1 h2 hl)
theorem rr_idiv {x y : Int32} (hd : decode M.2.2.1 pc = .ok (.idiv, 1)) (k : RR M s s' (pc + 1) L (vI (x / y) :: st) I X) : RR M s s' pc L (vI y :: vI x :: st) I (if y = 0 then none else X) := by
  intro r I' hX hL hst hss G p l e R s0 mid args below meth c Q c0 z0 hF hc hz hQ H locs cells slots ls hH hS h1 h2 hl
  by_cases h : y = 0
  · rw [if_pos h] at hX; cases hX
  · rw [if_neg h] at hX
    exact lv_idiv hF.1 hF.2.1 hd h (k r I' hX hL (sok_i (sok_t (sok_t hst))) hss G p l e R s0 mid args below meth c Q c0 z0 hF hc hz hQ H locs cells slots ls hH hS h1 h2 hl)
theorem rr_irem {x y : Int32} (hd : decode M.2.2.1 pc = .ok (.irem, 1)) (k : RR M s s' (pc + 1) L (vI (x - x / y * y) :: st) I X) : RR M s s' pc L (vI y :: vI x :: st) I (if y = 0 then none else X) := by
  intro r I' hX hL hst hss G p l e R s0 mid args below meth c Q c0 z0 hF hc hz hQ H locs cells slots ls hH hS h1 h2 hl
  by_cases h : y = 0
  · rw [if_pos h] at hX; cases hX
  · rw [if_neg h] at hX
    exact lv_irem hF.1 hF.2.1 hd h (k r I' hX hL (sok_i (sok_t (sok_t hst))) hss G p l e R s0 mid args below meth c Q c0 z0 hF hc hz hQ H locs cells slots ls hH hS h1 h2 hl)
theorem rr_ldiv {x y : Int64} (hd : decode M.2.2.1 pc = .ok (.ldiv, 1)) (k : RR M s s' (pc + 1) L (vL (x / y) :: st) I X) : RR M s s' pc L (vL y :: vL x :: st) I (if y = 0 then none else X) := by
  intro r I' hX hL hst hss G p l e R s0 mid args below meth c Q c0 z0 hF hc hz hQ H locs cells slots ls hH hS h1 h2 hl
  by_cases h : y = 0
  · rw [if_pos h] at hX; cases hX
  · rw [if_neg h] at hX
    exact lv_ldiv hF.1 hF.2.1 hd h (k r I' hX hL (sok_l (sok_t (sok_t hst))) hss G p l e R s0 mid args below meth c Q c0 z0 hF hc hz hQ H locs cells slots ls hH hS h1 h2 hl)
/-- arrays of numbers -/
def arrT (t g : Nat) : Bool := match skd g with
  | some (.inr (a, _)) => Nat.beq a t
  | some (.inl _) => false
  | none => Nat.beq t 0 && (Nat.beq g 100 || (Nat.beq g 101 || Nat.beq g 102))
theorem arrT_at {t g a n : Nat} (h : arrT t g = true) (hs : skd g = some (.inr (a, n))) : a = t := by
  unfold arrT at h
  rw [hs] at h
  exact Nat.eq_of_beq_eq_true h
theorem rr_iald {g i : Nat} {x : Int32} {K : Nat → Option (Option PV × Mem)} (hd : decode M.2.2.1 pc = .ok (.iaload, 1)) (hg : arrT 0 g = true) (k : ∀ j, RR M s s' (pc + 1) L (vI (I g i j) :: st) I (K j)) : RR M s s' pc L (vI x :: vR g i :: st) I (ix x (aln I g) K) := by
  intro r I' hX hL hst hss G p l e R s0 mid args below meth c Q c0 z0 hF hc hz hQ H locs cells slots ls hH hS h1 h2 hl
  obtain ⟨hin, hX⟩ := ix_some hX
  have kk := k x.toNatClampNeg r I' hX hL (sok_i (sok_t (sok_t hst))) hss G p l e R s0 mid args below meth c Q c0 z0 hF hc hz hQ H locs cells slots ls hH hS h1 h2 hl
  have hfx := FC_fx hF
  show W p l e R s0 mid args below meth c H locs cells slots Q (F0 mid pc ls (.int x :: .ref (ada G g i) :: st.map (tvv G)))
  cases hsk : skd g with
  | none =>
    obtain ⟨e1, e2, e3⟩ := rok_ext (sok_h (sok_t hst)) hsk
    subst e3
    obtain ⟨f1, f2, f3⟩ := aln_ext hH.2.2 hfx.2.1.2.2 hsk
    rcases (show g = 100 ∨ g = 101 ∨ g = 102 by omega) with rfl | rfl | rfl
    · rw [f1 rfl] at hin
      refine va_sld hF.1 hF.2.1 hfx.2.1.1 (Nat.lt_of_lt_of_le hfx.2.1.2.1 hfx.2.2.2.2.1) (Nat.not_le.mpr hfx.2.1.2.1) hS hin hd ?_
      rw [← hH.2.2.1]
      exact kk
    · rw [f2 rfl] at hin
      exact va_ti hF.1 hF.2.1 hfx.2.2.1.2 hS hin (by rw [← hH.2.2.2.2.1]; rfl) hd kk
    · rw [f3 rfl] at hin
      exact va_ti hF.1 hF.2.1 hfx.2.2.2.1.2 hS hin (by rw [← hH.2.2.2.2.2]; rfl) hd kk
  | some y =>
    have hlt := skd_lt hsk
    rw [ada_lt hlt]
    obtain ⟨q1, q2⟩ := rok_at (sok_h (sok_t hst)) hlt
    have hws := wsG_get (G := G) (I := I) q1 q2
    rcases y with ci | ⟨t, n⟩
    · rw [arrT, hsk] at hg; cases hg
    · have ha : aln I g = n := by rw [aln, hsk]
      rw [ha] at hin
      have ht := arrT_at hg hsk
      subst ht
      rw [cG_arr hsk (by decide)] at hws
      exact va_iald hF.1 hF.2.1 hfx.1 hH.1 (pos g i) 0 hws (tysG_at (by decide)) hin hd kk
theorem arrT1 {g : Nat} (hg : arrT 1 g = true) : ∃ n, skd g = some (.inr (1, n)) := by
  cases hsk : skd g with
  | none => rw [arrT, hsk] at hg; cases hg
  | some y =>
    rcases y with ci | ⟨t, n⟩
    · rw [arrT, hsk] at hg; cases hg
    · exact ⟨n, by rw [arrT_at hg hsk]⟩
theorem rr_zald {g i : Nat} {x : Int32} {K : Nat → Option (Option PV × Mem)} (hd : decode M.2.2.1 pc = .ok (.baload, 1)) (hg : arrT 1 g = true) (k : ∀ j, RR M s s' (pc + 1) L (vI (I g i j) :: st) I (K j)) : RR M s s' pc L (vI x :: vR g i :: st) I (ix x (aln I g) K) := by
  intro r I' hX hL hst hss G p l e R s0 mid args below meth c Q c0 z0 hF hc hz hQ H locs cells slots ls hH hS h1 h2 hl
  obtain ⟨hin, hX⟩ := ix_some hX
  have kk := k x.toNatClampNeg r I' hX hL (sok_i (sok_t (sok_t hst))) hss G p l e R s0 mid args below meth c Q c0 z0 hF hc hz hQ H locs cells slots ls hH hS h1 h2 hl
  show W p l e R s0 mid args below meth c H locs cells slots Q (F0 mid pc ls (.int x :: .ref (ada G g i) :: st.map (tvv G)))
  obtain ⟨n, hsk⟩ := arrT1 hg
  have hlt := skd_lt hsk
  rw [ada_lt hlt]
  obtain ⟨q1, q2⟩ := rok_at (sok_h (sok_t hst)) hlt
  have hws := wsG_get (G := G) (I := I) q1 q2
  have ha : aln I g = n := by rw [aln, hsk]
  rw [ha] at hin
  rw [cG_arr hsk (by decide)] at hws
  exact va_zald hF.1 hF.2.1 (FC_fx hF).1 hH.1 (pos g i) 1 hws (tysG_at (by decide)) hin hd kk
theorem arrW {t g : Nat} (hg : arrT t g = true) (h1 : Nat.blt g 100 = true) (ht : t < 2) : ∃ n, skd g = some (.inr (t, n)) ∨ (skd g = none ∧ scnt g = 0) := by
  cases hsk : skd g with
  | none =>
    refine ⟨0, Or.inr ⟨rfl, ?_⟩⟩
    have t1 : ∀ g, g < 100 → skd g = none → scnt g = 0 := by decide +kernel
    exact t1 g (Nat.blt_eq.mp h1) hsk
  | some y =>
    rcases y with ci | ⟨a, n⟩
    · rw [arrT, hsk] at hg; cases hg
    · exact ⟨n, Or.inl (by rw [arrT_at hg hsk])⟩
theorem cG_st {G : GX} {g i t n j : Nat} {v : Int32} (hsk : skd g = some (.inr (t, n))) (ht : t < 2) : (.inl (G.2.2.1 t, n, .inl (upd (I g i) j v)) : va_E) = cG G s (mup I g i j v) g i := by
  rw [cG_arr hsk ht]
  congr 4
  funext q
  by_cases h : q = j
  · subst h; simp [upd, mup]
  · simp [upd, mup, h]
theorem rr_iast {g i : Nat} {x v : Int32} {K : Nat → Option (Option PV × Mem)} (hd : decode M.2.2.1 pc = .ok (.iastore, 1)) (hg : arrT 0 g = true) (hg1 : Nat.blt g 100 = true) (k : ∀ j, RR M s s' (pc + 1) L st (mup I g i j v) (K j)) : RR M s s' pc L (vI v :: vI x :: vR g i :: st) I (ix x (aln I g) K) := by
  intro r I' hX hL hst hss G p l e R s0 mid args below meth c Q c0 z0 hF hc hz hQ H locs cells slots ls hH hS h1 h2 hl
  obtain ⟨hin, hX⟩ := ix_some hX
  have kk := k x.toNatClampNeg r I' hX hL (sok_t (sok_t (sok_t hst))) hss G p l e R s0 mid args below meth c Q c0 z0 hF hc hz hQ
  have hlt := Nat.blt_eq.mp hg1
  show W p l e R s0 mid args below meth c H locs cells slots Q (F0 mid pc ls (.int v :: .int x :: .ref (ada G g i) :: st.map (tvv G)))
  rw [ada_lt hlt]
  obtain ⟨q1, q2⟩ := rok_at (sok_h (sok_t (sok_t hst))) hlt
  obtain ⟨n, hsk | ⟨-, hsk⟩⟩ := arrW hg hg1 (by decide)
  · have hws := wsG_get (G := G) (I := I) q1 q2
    have ha : aln I g = n := by rw [aln, hsk]
    rw [ha] at hin
    rw [cG_arr hsk (by decide)] at hws
    have hD := wsG_D G s I
    obtain ⟨hP, hsz, hxo⟩ := hH
    refine W.iast hF.1 hF.2.1 (hP _ _ hws) (((FC_fx hF).1.2 0 _ (tysG_at (by decide))).1 n (fun j => .int (I g i j))) (fun q => by cases q) (by show ¬ (x < 0 ∨ (arrV _ _ _).slots.size ≤ _); rw [arrV_size]; exact hin) rfl rfl hd fun H1 e1 z1 oq => ?_
    have hP' := hP.set hD hws (e := .inl (G.2.2.1 0, n, .inl (upd (I g i) x.toNatClampNeg v))) (by
      show H1[_]? = some (vp_cell _ _)
      rw [e1, vp_cell_i, vp_cell_i, arrV_store]
      congr 2
      funext q
      by_cases hq : q = x.toNatClampNeg
      · subst hq; simp [updV, upd]
      · simp [updV, upd, hq]) oq
    rw [cG_st hsk (by decide), wsG_set q1 q2 rfl (fun h bb _ hne => cG_mup hne)] at hP'
    exact kk H1 _ cells slots ls ⟨hP', z1.trans hsz, xok_mup hxo hlt⟩ (hS.put z1 oq (hD.2 _ _ hws)) h1 h2 hl
  · omega
theorem rr_zast {g i : Nat} {x v : Int32} {K : Nat → Option (Option PV × Mem)} (hd : decode M.2.2.1 pc = .ok (.bastore, 1)) (hg : arrT 1 g = true) (k : ∀ j, RR M s s' (pc + 1) L st (mup I g i j (znar v)) (K j)) : RR M s s' pc L (vI v :: vI x :: vR g i :: st) I (ix x (aln I g) K) := by
  intro r I' hX hL hst hss G p l e R s0 mid args below meth c Q c0 z0 hF hc hz hQ H locs cells slots ls hH hS h1 h2 hl
  obtain ⟨hin, hX⟩ := ix_some hX
  have kk := k x.toNatClampNeg r I' hX hL (sok_t (sok_t (sok_t hst))) hss G p l e R s0 mid args below meth c Q c0 z0 hF hc hz hQ
  obtain ⟨n, hsk⟩ := arrT1 hg
  have hlt := skd_lt hsk
  show W p l e R s0 mid args below meth c H locs cells slots Q (F0 mid pc ls (.int v :: .int x :: .ref (ada G g i) :: st.map (tvv G)))
  rw [ada_lt hlt]
  obtain ⟨q1, q2⟩ := rok_at (sok_h (sok_t (sok_t hst))) hlt
  have hws := wsG_get (G := G) (I := I) q1 q2
  have ha : aln I g = n := by rw [aln, hsk]
  rw [ha] at hin
  rw [cG_arr hsk (by decide)] at hws
  have hD := wsG_D G s I
  obtain ⟨hP, hsz, hxo⟩ := hH
  refine W.zast hF.1 hF.2.1 (hP _ _ hws) (((FC_fx hF).1.2 1 _ (tysG_at (by decide))).1 n (fun j => .int (I g i j))) (fun q => by cases q) (by show ¬ (x < 0 ∨ (arrV _ _ _).slots.size ≤ _); rw [arrV_size]; exact hin) rfl rfl hd fun H1 e1 z1 oq => ?_
  have hP' := hP.set hD hws (e := .inl (G.2.2.1 1, n, .inl (upd (I g i) x.toNatClampNeg (znar v)))) (by
    show H1[_]? = some (vp_cell _ _)
    rw [e1, vp_cell_i, vp_cell_i, arrV_store]
    congr 2
    funext q
    by_cases hq : q = x.toNatClampNeg
    · subst hq; simp [updV, upd, znar, vp_nar]; try rfl
    · simp [updV, upd, hq]) oq
  rw [cG_st hsk (by decide), wsG_set q1 q2 rfl (fun h bb _ hne => cG_mup hne)] at hP'
  exact kk H1 _ cells slots ls ⟨hP', z1.trans hsz, xok_mup hxo hlt⟩ (hS.put z1 oq (hD.2 _ _ hws)) h1 h2 hl
/-- an array of references, when all are set -/
theorem rr_aald {g i t n : Nat} {x : Int32} {K : Nat → Option (Option PV × Mem)} (hd : decode M.2.2.1 pc = .ok (.aaload, 1)) (hg : skd g = some (.inr (t + 2, n))) (k : ∀ j, RR M SF SF (pc + 1) L (vR (rtg (t + 2)) j :: st) I (K j)) : RR M SF SF pc L (vI x :: vR g i :: st) I (ix x n K) := by
  intro r I' hX hL hst hss G p l e R s0 mid args below meth c Q c0 z0 hF hc hz hQ H locs cells slots ls hH hS h1 h2 hl
  obtain ⟨hin, hX⟩ := ix_some hX
  have hlt := skd_lt hg
  obtain ⟨q1, q2⟩ := rok_at (sok_h (sok_t hst)) hlt
  have hjn : x.toNatClampNeg < n := Nat.not_le.mp fun q => hin (Or.inr q)
  have htg : tgt g i x.toNatClampNeg = some (rtg (t + 2), x.toNatClampNeg) := by
    rw [tgt, hg]
    show (if t + 2 < 2 then none else if _ then _ else none) = _
    rw [if_neg (by omega), if_pos hjn]
  have hset : sA SF g i x.toNatClampNeg = true := sA_all q1 (by rw [csz, hg]; exact hjn) (by rw [htg]; exact fun q => by cases q)
  have hro : rok SF (rtg (t + 2)) x.toNatClampNeg ∧ rtg (t + 2) < 100 := by
    obtain ⟨t1, b1, e1, e2, e3⟩ := sA_tgt hset
    rw [htg] at e1
    cases e1
    exact ⟨e2, e3⟩
  have kk := k x.toNatClampNeg r I' hX hL (sok_c (v := vR (rtg (t + 2)) x.toNatClampNeg) hro.1 (sok_t (sok_t hst))) hss G p l e R s0 mid args below meth c Q c0 z0 hF hc hz hQ H locs cells slots ls hH hS h1 h2 hl
  show W p l e R s0 mid args below meth c H locs cells slots Q (F0 mid pc ls (.int x :: .ref (ada G g i) :: st.map (tvv G)))
  rw [ada_lt hlt]
  have hws := wsG_get (G := G) (I := I) q1 q2
  rw [cG_rarr hg (by omega)] at hws
  have ht4 := skd_t hg
  have hty : ([.int, .boolean, .object (rcl 2), .object (rcl 3)] : List FieldType).getD (t + 2) .int = .object (rcl (t + 2)) := by
    rcases (show t = 0 ∨ t = 1 by omega) with rfl | rfl <;> rfl
  refine va_aldq hF.1 hF.2.1 (FC_fx hF).1 hH.1 (pos g i) (t + 2) hws (by rw [tysG_at ht4, hty]) hin hd ?_
  rw [if_pos hset]
  show W p l e R s0 mid args below meth c H locs cells slots Q (F0 mid (pc + 1) ls (.ref (G.1 + pos (rtg (t + 2)) x.toNatClampNeg) :: st.map (tvv G)))
  rw [← ada_lt hro.2]
  exact kk
/-- the answers -/
theorem rr_iret {v : Int32} (hd : decode M.2.2.1 pc = .ok (.ireturn, 1)) (hr : retOk M (some (vI v))) : RR M s s pc L [vI v] I (some (some (vI v), I)) := by
  intro r I' hX hL hst hss G p l e R s0 mid args below meth c Q c0 z0 hF hc hz hQ H locs cells slots ls hH hS h1 h2 hl
  cases hX
  exact hQ H locs cells slots pc ls hr (fun v h => by cases h; trivial) hH hS h1 h2 hd
theorem rr_zret {v : Int32} (hd : decode M.2.2.1 pc = .ok (.ireturn, 1)) (hr : M.2.2.2.2.1 = some .boolean) : RR M s s pc L [vI v] I (if v = 0 ∨ v = 1 then some (some (vI v), I) else none) := by
  intro r I' hX hL hst hss G p l e R s0 mid args below meth c Q c0 z0 hF hc hz hQ H locs cells slots ls hH hS h1 h2 hl
  split at hX
  · next h =>
    cases hX
    exact hQ H locs cells slots pc ls (by unfold retOk; rw [hr]; exact h) (fun v h => by cases h; trivial) hH hS h1 h2 hd
  · cases hX
theorem rr_vret (hd : decode M.2.2.1 pc = .ok (.return_, 1)) (hr : retOk M none) : RR M s s pc L [] I (some (none, I)) := by
  intro r I' hX hL hst hss G p l e R s0 mid args below meth c Q c0 z0 hF hc hz hQ H locs cells slots ls hH hS h1 h2 hl
  cases hX
  exact hQ H locs cells slots pc ls hr (fun v h => by cases h) hH hS h1 h2 hd
theorem rr_aret {g i : Nat} (hd : decode M.2.2.1 pc = .ok (.areturn, 1)) (hr : retOk M (some (vR g i))) : RR M s s pc L [vR g i] I (some (some (vR g i), I)) := by
  intro r I' hX hL hst hss G p l e R s0 mid args below meth c Q c0 z0 hF hc hz hQ H locs cells slots ls hH hS h1 h2 hl
  cases hX
  exact hQ H locs cells slots pc ls hr (fun v h => by cases h; exact sok_h hst) hH hS h1 h2 hd
/-- fewer locals -/
def lmask : List Bool → LC → LC
  | [], L => L
  | _, [] => []
  | true :: bs, v :: L => v :: lmask bs L
  | false :: bs, _ :: L => none :: lmask bs L
theorem lmask_len (bs : List Bool) (L : LC) : (lmask bs L).length = L.length := by
  induction bs generalizing L with
  | nil => rfl
  | cons b bs ih => cases L with
    | nil => cases b <;> rfl
    | cons v L => cases b <;> simp [lmask, ih]
theorem lmask_at (bs : List Bool) (L : LC) {i : Nat} {v : PV} (h : (lmask bs L)[i]? = some (some v)) : L[i]? = some (some v) := by
  induction bs generalizing L i with
  | nil => exact h
  | cons b bs ih => cases L with
    | nil => cases b <;> simp [lmask] at h
    | cons w L => cases i with
      | zero => cases b <;> simp [lmask] at h; simpa using h
      | succ i => cases b <;> (simp only [lmask, List.getElem?_cons_succ] at h ⊢; exact ih L h)
theorem rr_mask {L' : LC} (bs : List Bool) (hm : lmask bs L = L') (k : RR M s s' pc L' st I X) : RR M s s' pc L st I X := by
  subst hm
  intro r I' hX hL hst hss G p l e R s0 mid args below meth c Q c0 z0 hF hc hz hQ H locs cells slots ls hH hS h1 h2 hl
  refine k r I' hX (fun v hv => ?_) hst hss G p l e R s0 mid args below meth c Q c0 z0 hF hc hz hQ H locs cells slots ls hH hS h1 h2 ⟨⟨hl.1.1, hl.1.2.1, fun q hq => ?_⟩, by rw [lmask_len]; exact hl.2⟩
  · obtain ⟨i, hi⟩ := List.getElem?_of_mem hv
    exact hL v (List.mem_of_getElem? (lmask_at bs L hi))
  · obtain ⟨i, v, h3, rfl⟩ := lvl_mem.mp hq
    exact hl.1.2.2 _ (lvl_mem.mpr ⟨i, v, lmask_at bs L h3, rfl⟩)
end RUL
