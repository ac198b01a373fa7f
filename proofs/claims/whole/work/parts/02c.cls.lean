/-! ===== the classes and links, by program ===== -/
def sty (ci : Nat) : Nat → FieldType := [tyX0, tyX1, tyX2, tyX3, tyX4, tyX5, tyX6, tyX7, tyX8].getD ci (fun _ => .int)
def clOk (ci : Nat) (r : vw_C) : Prop := (∀ w ∈ u_ws r.1 r.2.1 r.2.2, w ∈ wAll) ∧ (∀ a, a < r.2.2 → ∀ b, b < r.2.2 → a ≠ b → (r.2.1 a).2.1 ≠ (r.2.1 b).2.1) ∧ (∀ k, k < r.2.2 → parseFieldDescriptor (r.2.1 k).2.2.1 = some (sty ci k)) ∧ snf ci = r.2.2
theorem wX0_in : ∀ w ∈ wsX00, w ∈ wAll := by decide +kernel
theorem wX1_in : ∀ w ∈ wsX10, w ∈ wAll := by decide +kernel
theorem wX2_in : ∀ w ∈ wsX20, w ∈ wAll := by decide +kernel
theorem wX3_in : ∀ w ∈ wsX30, w ∈ wAll := by decide +kernel
theorem wX4_in : ∀ w ∈ wsX40, w ∈ wAll := by decide +kernel
theorem wX5_in : ∀ w ∈ wsX50, w ∈ wAll := by decide +kernel
theorem wX6_in : ∀ w ∈ wsX60, w ∈ wAll := by decide +kernel
theorem wX7_in : ∀ w ∈ wsX70, w ∈ wAll := by decide +kernel
theorem wX8_in : ∀ w ∈ wsX80, w ∈ wAll := by decide +kernel
theorem cl_ok : ∀ (ci : Nat) (r : vw_C), xcl[ci]? = some r → clOk ci r
  | 0, r, h => by cases h; exact ⟨wX0_in, nmX0, tyX0_ok, rfl⟩
  | 1, r, h => by cases h; exact ⟨wX1_in, nmX1, tyX1_ok, rfl⟩
  | 2, r, h => by cases h; exact ⟨wX2_in, nmX2, tyX2_ok, rfl⟩
  | 3, r, h => by cases h; exact ⟨wX3_in, nmX3, tyX3_ok, rfl⟩
  | 4, r, h => by cases h; exact ⟨wX4_in, nmX4, tyX4_ok, rfl⟩
  | 5, r, h => by cases h; exact ⟨wX5_in, nmX5, tyX5_ok, rfl⟩
  | 6, r, h => by cases h; exact ⟨wX6_in, nmX6, tyX6_ok, rfl⟩
  | 7, r, h => by cases h; exact ⟨wX7_in, nmX7, tyX7_ok, rfl⟩
  | 8, r, h => by cases h; exact ⟨wX8_in, nmX8, tyX8_ok, rfl⟩
  | k + 9, r, h => by simp [xcl] at h
/-- a field's word, as it stands in the tables -/
def flW (e : Nat × Nat × Nat × Nat) : Cond := .fieldLink (onm e.1) e.2.1 ((xcl.getD e.2.2.1 ("", TX0, 0)).2.1 e.2.2.2).1 ((xcl.getD e.2.2.1 ("", TX0, 0)).2.1 e.2.2.2).2.1 ((xcl.getD e.2.2.1 ("", TX0, 0)).2.1 e.2.2.2).2.2.1
def flOk (e : Nat × Nat × Nat × Nat) : Bool := decide (e.2.2.1 < 9) && decide (e.2.2.2 < (xcl.getD e.2.2.1 ("", TX0, 0)).2.2)
theorem fld_in1 : ∀ e ∈ fldT, flOk e = true := by decide +kernel
set_option maxRecDepth 100000 in
theorem fld_in2 : ∀ e ∈ fldT, flW e ∈ wAll := by decide +kernel
theorem cst_in : ∀ e ∈ cstT, Cond.constant (onm e.1) e.2.1 e.2.2 ∈ wAll := by decide +kernel
theorem cstL_in : ∀ e ∈ cstLT, Cond.constantLong (onm e.1) e.2.1 (Int64.ofNat e.2.2) ∈ wAll := by decide +kernel
theorem xs101_in : Cond.fieldLink RX7 309 "TakeDesk" "KIND_ABOVE" "[I" ∈ wAll := by decide +kernel
theorem xs102_in : Cond.fieldLinkNest RX6 68 "TakeDesk" "MARK_WORTH" "[I" RX7 ∈ nwW := by decide +kernel
theorem good_all {w : Cond} (h : w ∈ wAll) : goodWord w = true := (List.mem_filter.mp h).2
theorem goodIn_all : GoodIn wAll wAll := fun _ h => ⟨h, good_of_word (good_all h)⟩
