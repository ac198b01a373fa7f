theorem cn_take {a b : Nat} (h : a ≤ b) : ∃ t, evs.take b = evs.take a ++ t := ⟨(evs.take b).drop a, by
  have h1 : evs.take a = (evs.take b).take a := by rw [List.take_take, Nat.min_eq_left h]
  rw [h1, List.take_append_drop]⟩
theorem cnS_le {a b : Nat} (h : a ≤ b) : cnS a ≤ cnS b := by
  obtain ⟨t, ht⟩ := cn_take h
  simp [cnS, ht]
theorem slS_le {a b : Nat} (h : a ≤ b) : slS a ≤ slS b := by
  obtain ⟨t, ht⟩ := cn_take h
  simp [slS, ht]
theorem sA_le {a b g i k : Nat} (h : a ≤ b) (hs : sA a g i k = true) : sA b g i k = true := by
  obtain ⟨t, ht⟩ := cn_take h
  unfold sA at hs ⊢
  rw [ht]
  simp only [List.contains_iff_mem, List.mem_append] at hs ⊢
  exact Or.inl hs
theorem scnt_hi {g : Nat} (h : 100 ≤ g) : scnt g = 0 := by
  unfold scnt
  rw [List.getD_eq_getElem?_getD, List.getElem?_eq_none]
  · rfl
  · exact Nat.le_trans (by decide) h
theorem scnt_le (g : Nat) : scnt g ≤ 24 := by
  by_cases h : g < 100
  · have : ∀ g, g < 100 → scnt g ≤ 24 := by decide +kernel
    exact this g h
  · rw [scnt_hi (Nat.not_lt.mp h)]; decide
theorem cells_at {g i : Nat} (h : i < scnt g) : cellsL.getD (pos g i) (0, 0) = (g, i) := by
  have hg : g < 100 := by
    rcases Nat.lt_or_ge g 100 with q | q
    · exact q
    · rw [scnt_hi q] at h; omega
  have h24 : i < 24 := Nat.lt_of_lt_of_le h (scnt_le g)
  have : ∀ g, g < 100 → ∀ i, i < 24 → i < scnt g → cellsL.getD (pos g i) (0, 0) = (g, i) := by decide +kernel
  exact this g hg i h24 h
theorem cells_of {k : Nat} (h : k < cnS SF) : (cellsL.getD k (0, 0)).2 < scnt (cellsL.getD k (0, 0)).1 ∧ pos (cellsL.getD k (0, 0)).1 (cellsL.getD k (0, 0)).2 = k := by
  have : ∀ k, k < cnS SF → (cellsL.getD k (0, 0)).2 < scnt (cellsL.getD k (0, 0)).1 ∧ pos (cellsL.getD k (0, 0)).1 (cellsL.getD k (0, 0)).2 = k := by decide +kernel
  exact this k h
theorem cnS_SF (s : Nat) : cnS s ≤ cnS SF := by
  rcases Nat.le_total s SF with h | h
  · exact cnS_le h
  · have : evs.take s = evs.take SF := by
      rw [List.take_of_length_le, List.take_of_length_le]
      · decide +kernel
      · exact Nat.le_trans (by decide +kernel) h
    simp [cnS, this]
theorem pos_SF {g i : Nat} (h : i < scnt g) : pos g i < cnS SF := by
  have hg : g < 100 := by
    rcases Nat.lt_or_ge g 100 with q | q
    · exact q
    · rw [scnt_hi q] at h; omega
  have h24 : i < 24 := Nat.lt_of_lt_of_le h (scnt_le g)
  have : ∀ g, g < 100 → ∀ i, i < 24 → i < scnt g → pos g i < cnS SF := by decide +kernel
  exact this g hg i h24 h
theorem wsG_len (G : GX) (s : Nat) (I : Mem) : (wsG G s I).length = cnS s := by simp [wsG]
theorem wsG_at {G : GX} {s : Nat} {I : Mem} {k : Nat} (h : k < cnS s) : (wsG G s I)[k]? = some (cE G s I k) := by simp [wsG, h]
theorem wsG_get {G : GX} {s : Nat} {I : Mem} {g i : Nat} (h : i < scnt g) (hp : pos g i < cnS s) : (wsG G s I)[pos g i]? = some (G.1 + pos g i, cG G s I g i) := by
  rw [wsG_at hp, cE, cells_at h]
theorem wsG_D (G : GX) (s : Nat) (I : Mem) : va_D (gA G) (wsG G s I) := by
  refine ⟨fun i j p q hi hj h => ?_, fun k q hk => ?_⟩
  · have h1 := (List.getElem?_eq_some_iff.mp hi).1
    have h2 := (List.getElem?_eq_some_iff.mp hj).1
    rw [wsG_len] at h1 h2
    rw [wsG_at h1] at hi
    rw [wsG_at h2] at hj
    cases hi
    cases hj
    simp only [cE] at h
    omega
  · have h1 := (List.getElem?_eq_some_iff.mp hk).1
    rw [wsG_len] at h1
    rw [wsG_at h1] at hk
    cases hk
    show G.1 ≤ _
    simp only [cE]
    omega
/-- one cell changed: the list of all -/
theorem wsG_set {G : GX} {s t : Nat} {I J : Mem} {g i : Nat} (hi : i < scnt g) (hp : pos g i < cnS s) (hc : cnS t = cnS s) (ho : ∀ h b, b < scnt h → (h, b) ≠ (g, i) → cG G t J h b = cG G s I h b) : (wsG G s I).set (pos g i) (G.1 + pos g i, cG G t J g i) = wsG G t J := by
  apply List.ext_getElem?
  intro k
  by_cases hk : k < cnS s
  · rw [wsG_at (by rw [hc]; exact hk)]
    by_cases e : k = pos g i
    · subst e
      rw [List.getElem?_set_self (by rw [wsG_len]; exact hk), cE, cells_at hi]
    · rw [List.getElem?_set_ne (fun q => e q.symm), wsG_at hk]
      obtain ⟨q1, q2⟩ := cells_of (k := k) (Nat.lt_of_lt_of_le hk (cnS_SF s))
      unfold cE
      rw [ho _ _ q1 (fun q => e (by obtain ⟨w1, w2⟩ := Prod.mk.inj q; rw [w1, w2] at q2; exact q2.symm))]
  · rw [List.getElem?_eq_none, List.getElem?_eq_none]
    · rw [wsG_len]; omega
    · rw [List.length_set, wsG_len]; omega
theorem wsG_push {G : GX} {s t : Nat} {I J : Mem} {g i : Nat} (hi : i < scnt g) (hp : pos g i = cnS s) (hc : cnS t = cnS s + 1) (ho : ∀ h b, b < scnt h → pos h b < cnS s → cG G t J h b = cG G s I h b) : wsG G s I ++ [(G.1 + pos g i, cG G t J g i)] = wsG G t J := by
  apply List.ext_getElem?
  intro k
  by_cases hk : k < cnS s
  · rw [List.getElem?_append_left (by rw [wsG_len]; exact hk), wsG_at hk, wsG_at (by omega)]
    obtain ⟨q1, q2⟩ := cells_of (k := k) (Nat.lt_of_lt_of_le hk (cnS_SF s))
    unfold cE
    rw [ho _ _ q1 (by omega)]
  · by_cases e : k = cnS s
    · subst e
      rw [List.getElem?_append_right (by rw [wsG_len]; omega), wsG_at (by omega), wsG_len, Nat.sub_self, cE, ← hp, cells_at hi]
      rfl
    · rw [List.getElem?_eq_none, List.getElem?_eq_none]
      · rw [wsG_len]; omega
      · rw [List.length_append, wsG_len, List.length_singleton]; omega
theorem lvl_mem {G : GX} {L : LC} {k : Nat} {q : Nat × Value} : q ∈ lvl G k L ↔ ∃ i v, L[i]? = some (some v) ∧ q = (k + i, tvv G v) := by
  induction L generalizing k with
  | nil => simp [lvl]
  | cons a t ih =>
    cases a with
    | none =>
      simp only [lvl, ih]
      constructor
      · rintro ⟨i, v, h1, h2⟩
        exact ⟨i + 1, v, by simpa using h1, by rw [h2]; congr 1; omega⟩
      · rintro ⟨i, v, h1, h2⟩
        cases i with
        | zero => simp at h1
        | succ i => exact ⟨i, v, by simpa using h1, by rw [h2]; congr 1; omega⟩
    | some w =>
      simp only [lvl, List.mem_cons, ih]
      constructor
      · rintro (rfl | ⟨i, v, h1, h2⟩)
        · exact ⟨0, w, rfl, rfl⟩
        · exact ⟨i + 1, v, by simpa using h1, by rw [h2]; congr 1; omega⟩
      · rintro ⟨i, v, h1, h2⟩
        cases i with
        | zero => left; simp at h1; rw [h2, h1]; rfl
        | succ i => right; exact ⟨i, v, by simpa using h1, by rw [h2]; congr 1; omega⟩
theorem lvl_at {G : GX} {L : LC} {ls : Array Slot} {nL i : Nat} {v : PV} (h : lv_has ls nL (lvl G 0 L)) (hi : L[i]? = some (some v)) : ls[i]? = some (.val (tvv G v)) := h.2.2 (i, tvv G v) (lvl_mem.mpr ⟨i, v, hi, by rw [Nat.zero_add]⟩)
theorem lok_at {s : Nat} {L : LC} {i : Nat} {v : PV} (h : lok s L) (hi : L[i]? = some (some v)) : pok s v := h v (List.mem_of_getElem? hi)
theorem pok_le {s t : Nat} {v : PV} (h : s ≤ t) (hp : pok s v) : pok t v := by
  rcases v with x | x | ⟨g, i⟩
  · trivial
  · trivial
  · rcases hp with ⟨h1, h2, h3⟩ | h4
    · exact Or.inl ⟨h1, h2, Nat.lt_of_lt_of_le h3 (cnS_le h)⟩
    · exact Or.inr h4
theorem lok_le {s t : Nat} {L : LC} (h : s ≤ t) (hp : lok s L) : lok t L := fun v hv => pok_le h (hp v hv)
theorem sok_le {s t : Nat} {L : List PV} (h : s ≤ t) (hp : sok s L) : sok t L := fun v hv => pok_le h (hp v hv)
theorem sok_c {s : Nat} {v : PV} {st : List PV} (hv : pok s v) (h : sok s st) : sok s (v :: st) := fun w hw => (List.mem_cons.mp hw).elim (fun e => e ▸ hv) (h w)
theorem sok_h {s : Nat} {v : PV} {st : List PV} (h : sok s (v :: st)) : pok s v := h v List.mem_cons_self
theorem sok_t {s : Nat} {v : PV} {st : List PV} (h : sok s (v :: st)) : sok s st := fun w hw => h w (List.mem_cons_of_mem _ hw)
theorem lok_set {s : Nat} {L : LC} {a : Nat} {v : PV} (h : lok s L) (hv : pok s v) : lok s (L.set a (some v)) := by
  intro w hw
  rcases List.mem_or_eq_of_mem_set hw with q | q
  · exact h w q
  · cases q; exact hv
theorem lok_setN {s : Nat} {L : LC} {a : Nat} (h : lok s L) : lok s (L.set a none) := by
  intro w hw
  rcases List.mem_or_eq_of_mem_set hw with q | q
  · exact h w q
  · cases q
def is2 (o : Option (Option PV)) : Bool := match o with
  | some (some (.inr (.inl _))) => true
  | _ => false
theorem tvv_cat (G : GX) (v : PV) : (tvv G v).category = if is2 (some (some v)) = true then 2 else 1 := by
  rcases v with x | x | ⟨g, i⟩ <;> rfl
/-- a store of one word: no long stands just ahead of it -/
theorem lvl_set {G : GX} {L : LC} {ls : Array Slot} {nL a : Nat} {v : PV} (hl : a < L.length) (h2 : a = 0 ∨ is2 L[a - 1]? = false) (h : lv_has ls nL ((a, tvv G v) :: (lvl G 0 L).filter (fun q => !(q.1 == a) && !(q.1 + 1 == a && q.2.category == 2)))) : lv_has ls nL (lvl G 0 (L.set a (some v))) := by
  refine ⟨h.1, h.2.1, fun q hq => ?_⟩
  obtain ⟨i, w, h3, rfl⟩ := lvl_mem.mp hq
  by_cases e : i = a
  · subst e
    rw [List.getElem?_set_self hl] at h3
    cases h3
    exact h.2.2 _ (by rw [Nat.zero_add]; exact List.mem_cons_self)
  · rw [List.getElem?_set_ne (fun q => e q.symm)] at h3
    refine h.2.2 _ (List.mem_cons_of_mem _ (List.mem_filter.mpr ⟨lvl_mem.mpr ⟨i, w, h3, rfl⟩, ?_⟩))
    have e1 : (0 + i == a) = false := by simp; omega
    have e2 : (0 + i + 1 == a && (tvv G w).category == 2) = false := by
      rcases h2 with h2 | h2
      · simp; omega
      · by_cases e3 : i + 1 = a
        · subst e3
          rw [Nat.add_sub_cancel, h3] at h2
          rw [tvv_cat, h2]
          simp
        · simp; omega
    rw [e1, e2]; rfl
theorem lvl_set2 {G : GX} {L : LC} {ls : Array Slot} {nL a : Nat} {x : Int64} (hl : a + 1 < L.length) (h2 : a = 0 ∨ is2 L[a - 1]? = false) (h : lv_has ls nL ((a, tvv G (vL x)) :: (lvl G 0 L).filter (fun q => !(q.1 == a) && (!(q.1 == a + 1) && !(q.1 + 1 == a && q.2.category == 2))))) : lv_has ls nL (lvl G 0 ((L.set a (some (vL x))).set (a + 1) none)) := by
  refine ⟨h.1, h.2.1, fun q hq => ?_⟩
  obtain ⟨i, w, h3, rfl⟩ := lvl_mem.mp hq
  by_cases e0 : i = a + 1
  · subst e0
    rw [List.getElem?_set_self (by rw [List.length_set]; exact hl)] at h3
    cases h3
  rw [List.getElem?_set_ne (fun q => e0 q.symm)] at h3
  by_cases e : i = a
  · subst e
    rw [List.getElem?_set_self (by omega)] at h3
    cases h3
    exact h.2.2 _ (by rw [Nat.zero_add]; exact List.mem_cons_self)
  · rw [List.getElem?_set_ne (fun q => e q.symm)] at h3
    refine h.2.2 _ (List.mem_cons_of_mem _ (List.mem_filter.mpr ⟨lvl_mem.mpr ⟨i, w, h3, rfl⟩, ?_⟩))
    have e1 : (0 + i == a) = false := by simp; omega
    have e4 : (0 + i == a + 1) = false := by simp; omega
    have e2 : (0 + i + 1 == a && (tvv G w).category == 2) = false := by
      rcases h2 with h2 | h2
      · simp; omega
      · by_cases e3 : i + 1 = a
        · subst e3
          rw [Nat.add_sub_cancel, h3] at h2
          rw [tvv_cat, h2]
          simp
        · simp; omega
    rw [e1, e2, e4]; rfl
