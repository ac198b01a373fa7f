/-! ===== the model: a way is entered ===== -/
theorem ins_get (e : WE) : ∀ (m : Nat) (Z : List WE), m ≤ Z.length → (∀ (i : Nat) (x : WE), i < m → Z[i]? = some x → e.key ≤ x.key) → (∀ x : WE, Z[m]? = some x → x.key < e.key) → ∀ i : Nat, (ins e Z)[i]? = if i < m then Z[i]? else if i = m then some e else Z[i - 1]? := by
  intro m
  induction m with
  | zero =>
    intro Z _ _ h2 i
    rw [if_neg (by omega)]
    cases Z with
    | nil =>
      rw [ins]
      cases i with
      | zero => rfl
      | succ i => simp
    | cons z Z =>
      rw [ins, if_pos (h2 z rfl)]
      cases i with
      | zero => rfl
      | succ i => simp
  | succ m ih =>
    intro Z hm h1 h2 i
    cases Z with
    | nil => simp at hm
    | cons z Z =>
      have := h1 0 z (by omega) rfl
      rw [ins, if_neg (by omega)]
      cases i with
      | zero => rfl
      | succ i =>
        rw [List.getElem?_cons_succ, ih Z (by simp at hm; omega) (fun i x hi hx => h1 (i + 1) x (by omega) (by rw [List.getElem?_cons_succ]; exact hx)) (fun x hx => h2 x (by rw [List.getElem?_cons_succ]; exact hx)) i]
        by_cases q1 : i < m
        · rw [if_pos q1, if_pos (show i + 1 < m + 1 by omega)]; simp
        · rw [if_neg q1, if_neg (show ¬ i + 1 < m + 1 by omega)]
          by_cases q2 : i = m
          · rw [if_pos q2, if_pos (show i + 1 = m + 1 by omega)]
          · rw [if_neg q2, if_neg (show ¬ i + 1 = m + 1 by omega)]
            obtain ⟨i', rfl⟩ : ∃ i', i = i' + 1 := ⟨i - 1, by omega⟩
            simp
theorem ins_len (e : WE) : ∀ Z : List WE, (ins e Z).length = Z.length + 1 := by
  intro Z
  induction Z with
  | nil => rfl
  | cons z Z ih =>
    rw [ins]
    split
    · rfl
    · rw [List.length_cons, ih, List.length_cons]
def mL (X : Mem) (c : Nat) (Z : List WE) : Prop := X 52 0 c = nI Z.length ∧ Z.length ≤ 20 ∧ ∀ (i : Nat) (e : WE), Z[i]? = some e → X 53 0 (20 * c + i) = Int32.ofInt e.v ∧ X 54 0 (20 * c + i) = nI e.jn ∧ X 55 0 (20 * c + i) = nI e.u ∧ X 56 0 (20 * c + i) = nI e.j
def eOk (e : WE) : Prop := -20000000 ≤ e.v ∧ e.v ≤ 20000000 ∧ e.jn < 64 ∧ e.u < 6
theorem nI_inj {a b : Nat} (ha : a < 2 ^ 31) (hb : b < 2 ^ 31) : nI a = nI b ↔ a = b := by
  constructor
  · intro z
    have := congrArg Int32.toNatClampNeg z
    rw [nI_clamp ha, nI_clamp hb] at this
    exact this
  · intro z; rw [z]
theorem oI_inj {a b : Int} (h1 : -2147483648 ≤ a) (h2 : a < 2147483648) (h3 : -2147483648 ≤ b) (h4 : b < 2147483648) : Int32.ofInt a = Int32.ofInt b ↔ a = b := by rw [eq_i, oI h1 h2, oI h3 h4]
theorem m_ahead {X : Mem} {k : Nat} {e x : WE} (hk : k < 2880) (he : eOk e) (hx : eOk x) (hu : x.u ≤ e.u) (h53 : X 53 0 k = Int32.ofInt x.v) (h54 : X 54 0 k = nI x.jn) (h55 : X 55 0 k = nI x.u) : f_X8_isAhead (Int32.ofInt e.v) (nI e.jn) (nI e.u) (nI k) X = rI (bi (x.key < e.key)) X := by
  obtain ⟨e1, e2, e3, e4⟩ := he
  obtain ⟨x1, x2, x3, x4⟩ := hx
  unfold f_X8_isAhead
  rw [ix_nI hk (by decide), ix_nI hk (by decide), ix_nI hk (by decide), ix_nI hk (by decide), ix_nI hk (by decide), h53, h54, h55]
  by_cases h1 : e.v = x.v
  · rw [if_pos (by rw [h1])]
    by_cases h2 : e.jn = x.jn
    · rw [if_pos (by rw [h2]), if_pos ((nI_leI (by omega) (by omega)).mpr hu), bi_f (by unfold WE.key; omega)]
    · rw [if_neg (by rw [nI_inj (by omega) (by omega)]; exact h2)]
      by_cases h3 : x.jn ≤ e.jn
      · rw [if_pos ((nI_leI (by omega) (by omega)).mpr h3), bi_f (by unfold WE.key; omega)]
      · rw [if_neg (by rw [nI_leI (by omega) (by omega)]; exact h3), bi_t (by unfold WE.key; omega)]
  · rw [if_neg (by rw [oI_inj (by omega) (by omega) (by omega) (by omega)]; exact h1)]
    by_cases h3 : e.v ≤ x.v
    · rw [if_pos (by rw [le_i, oI (by omega) (by omega), oI (by omega) (by omega)]; exact h3), bi_f (by unfold WE.key; omega)]
    · rw [if_neg (by rw [le_i, oI (by omega) (by omega), oI (by omega) (by omega)]; exact h3), bi_t (by unfold WE.key; omega)]
theorem m_scan {X : Mem} {c : Nat} {Z : List WE} {e : WE} (hc : c < 144) (hL : mL X c Z) (hs : srt Z) (he : eOk e) (hZ : ∀ x ∈ Z, eOk x ∧ x.u ≤ e.u) :
    ∀ (n fuel : Nat), n ≤ Z.length → n < fuel → (∀ x : WE, Z[n]? = some x → x.key < e.key) → ∃ m, m ≤ Z.length ∧ (∀ (i : Nat) (x : WE), i < m → Z[i]? = some x → e.key ≤ x.key) ∧ (∀ x : WE, Z[m]? = some x → x.key < e.key) ∧ f_X8_enter_p8 fuel (nI c) (Int32.ofInt e.v) (nI e.jn) (nI e.u) (nI e.j) (nI n) X = f_X8_enter_p39 (nI c) (Int32.ofInt e.v) (nI e.jn) (nI e.u) (nI e.j) (nI m) X := by
  intro n
  induction n with
  | zero =>
    intro fuel hn hf hb
    obtain ⟨fu, rfl⟩ : ∃ fu, fuel = fu + 1 := ⟨fuel - 1, by omega⟩
    exact ⟨0, by omega, fun i x hi => by omega, hb, by rw [f_X8_enter_p8, if_pos (by decide)]⟩
  | succ n ih =>
    intro fuel hn hf hb
    obtain ⟨fu, rfl⟩ : ∃ fu, fuel = fu + 1 := ⟨fuel - 1, by omega⟩
    have h20 := hL.2.1
    have hx : Z[n]? = some (Z[n]'(by omega)) := List.getElem?_eq_getElem (by omega)
    generalize Z[n]'(by omega) = x at hx
    obtain ⟨s1, s2, s3, -⟩ := hL.2.2 n x hx
    have hxm := hZ x (List.mem_of_getElem? hx)
    rw [f_X8_enter_p8, if_neg (by rw [le_i, nIt (by omega)]; have : (0 : Int32).toInt = 0 := rfl; omega), mul20, nI_add, mM1 (by omega), show 20 * c + (n + 1) - 1 = 20 * c + n by omega, m_ahead (by omega) he hxm.1 hxm.2 s1 s2 s3, cI_r]
    by_cases hk : x.key < e.key
    · rw [bi_t hk, if_neg (by decide), show nI (n + 1) + (-1) = nI n from by rw [← nI_1]; grind]
      exact ih fu (by omega) (by omega) (fun y hy => by
        rw [hx] at hy
        simp only [Option.some.injEq] at hy
        rw [← hy]; exact hk)
    · refine ⟨n + 1, hn, fun i y hi hy => ?_, hb, by rw [bi_f hk, if_pos rfl]⟩
      rcases Nat.lt_or_ge i n with z | z
      · obtain ⟨hn', en⟩ := List.getElem?_eq_some_iff.mp hx
        obtain ⟨hi', ei⟩ := List.getElem?_eq_some_iff.mp hy
        have := List.pairwise_iff_getElem.mp hs i n hi' hn' z
        rw [en, ei] at this
        omega
      · have : i = n := by omega
        subst this
        rw [hx] at hy
        simp only [Option.some.injEq] at hy
        rw [← hy]; omega
theorem m_shf {X : Mem} {c m l : Nat} {v jn u j : Int32} (hc : c < 144) (hm : m ≤ l) (hl : l ≤ 19) :
    ∀ (d n fuel : Nat) (Y : Mem), m + d = n → d < fuel → n ≤ l → (∀ g, ¬ (53 ≤ g ∧ g ≤ 56) → Y g = X g) → (∀ g, 53 ≤ g → g ≤ 56 → ∀ k, Y g 0 k = if 20 * c + n < k ∧ k ≤ 20 * c + l then X g 0 (k - 1) else X g 0 k) →
    ∃ X', f_X8_enter_p64 fuel (nI c) v jn u j (nI m) (nI l) (nI n) Y = rV X' ∧ (∀ g, ¬ (52 ≤ g ∧ g ≤ 56) → X' g = X g) ∧ (∀ k, X' 52 0 k = if k = c then nI (l + 1) else X 52 0 k) ∧ (∀ k, X' 53 0 k = if k = 20 * c + m then v else if 20 * c + m < k ∧ k ≤ 20 * c + l then X 53 0 (k - 1) else X 53 0 k) ∧ (∀ k, X' 54 0 k = if k = 20 * c + m then jn else if 20 * c + m < k ∧ k ≤ 20 * c + l then X 54 0 (k - 1) else X 54 0 k) ∧ (∀ k, X' 55 0 k = if k = 20 * c + m then u else if 20 * c + m < k ∧ k ≤ 20 * c + l then X 55 0 (k - 1) else X 55 0 k) ∧ (∀ k, X' 56 0 k = if k = 20 * c + m then j else if 20 * c + m < k ∧ k ≤ 20 * c + l then X 56 0 (k - 1) else X 56 0 k) := by
  intro d
  induction d with
  | zero =>
    intro n fuel Y hd hf hnl hg hk
    obtain ⟨fu, rfl⟩ : ∃ fu, fuel = fu + 1 := ⟨fuel - 1, by omega⟩
    have : m = n := by omega
    subst this
    rw [f_X8_enter_p64, if_pos ((nI_leI (by omega) (by omega)).mpr (Nat.le_refl _)), mul20, nI_add, ix_nI (by omega) (by decide), ix_nI (by omega) (by decide), ix_nI (by omega) (by decide), ix_nI (by omega) (by decide), ix_nI (by omega) (by decide), nI_1]
    refine ⟨_, rfl, fun g h1 => ?_, fun k => ?_, fun k => ?_, fun k => ?_, fun k => ?_, fun k => ?_⟩
    · rw [mup_g (by omega), mup_g (by omega), mup_g (by omega), mup_g (by omega), mup_g (by omega)]; exact hg g (by omega)
    · rw [mup_0, mup_g (by decide), mup_g (by decide), mup_g (by decide), mup_g (by decide), hg 52 (by decide)]
    · rw [mup_g (by decide), mup_g (by decide), mup_g (by decide), mup_g (by decide), mup_0, hk 53 (by decide) (by decide)]
    · rw [mup_g (by decide), mup_g (by decide), mup_g (by decide), mup_0, mup_g (by decide), hk 54 (by decide) (by decide)]
    · rw [mup_g (by decide), mup_g (by decide), mup_0, mup_g (by decide), mup_g (by decide), hk 55 (by decide) (by decide)]
    · rw [mup_g (by decide), mup_0, mup_g (by decide), mup_g (by decide), mup_g (by decide), hk 56 (by decide) (by decide)]
  | succ d ih =>
    intro n fuel Y hd hf hnl hg hk
    obtain ⟨fu, rfl⟩ : ∃ fu, fuel = fu + 1 := ⟨fuel - 1, by omega⟩
    obtain ⟨n', rfl⟩ : ∃ n', n = n' + 1 := ⟨n - 1, by omega⟩
    rw [f_X8_enter_p64, if_neg (by rw [nI_leI (by omega) (by omega)]; omega), mul20, nI_add, mM1 (by omega), show 20 * c + (n' + 1) - 1 = 20 * c + n' by omega, ix_nI (by omega) (by decide), ix_nI (by omega) (by decide), ix_nI (by omega) (by decide), ix_nI (by omega) (by decide), ix_nI (by omega) (by decide), ix_nI (by omega) (by decide), ix_nI (by omega) (by decide), ix_nI (by omega) (by decide), show nI (n' + 1) + (-1) = nI n' from by rw [← nI_1]; grind]
    refine ih n' fu _ (by omega) (by omega) (by omega) (fun g h1 => ?_) (fun g h1 h2 k => ?_)
    · rw [mup_g (by omega), mup_g (by omega), mup_g (by omega), mup_g (by omega)]; exact hg g h1
    · have step : ∀ g, 53 ≤ g → g ≤ 56 → (if k = 20 * c + (n' + 1) then Y g 0 (20 * c + n') else Y g 0 k) = if 20 * c + n' < k ∧ k ≤ 20 * c + l then X g 0 (k - 1) else X g 0 k := by
        intro g h1 h2
        rw [hk g h1 h2, hk g h1 h2]
        by_cases z : k = 20 * c + (n' + 1)
        · rw [if_pos z, if_neg (by omega), if_pos (by omega), z]; congr 1
        · rw [if_neg z]
          by_cases z2 : 20 * c + (n' + 1) < k ∧ k ≤ 20 * c + l
          · rw [if_pos z2, if_pos (by omega)]
          · rw [if_neg z2, if_neg (by omega)]
      rw [← step g h1 h2]
      rcases (by omega : g = 53 ∨ g = 54 ∨ g = 55 ∨ g = 56) with rfl | rfl | rfl | rfl
      · simp only [mup_g (show (53 : Nat) ≠ 54 by decide), mup_g (show (53 : Nat) ≠ 55 by decide), mup_g (show (53 : Nat) ≠ 56 by decide), mup_0]
      · simp only [mup_g (show (54 : Nat) ≠ 53 by decide), mup_g (show (54 : Nat) ≠ 55 by decide), mup_g (show (54 : Nat) ≠ 56 by decide), mup_0]
      · simp only [mup_g (show (55 : Nat) ≠ 53 by decide), mup_g (show (55 : Nat) ≠ 54 by decide), mup_g (show (55 : Nat) ≠ 56 by decide), mup_0]
      · simp only [mup_g (show (56 : Nat) ≠ 53 by decide), mup_g (show (56 : Nat) ≠ 54 by decide), mup_g (show (56 : Nat) ≠ 55 by decide), mup_0]
/-- memories alike but for the list of one cell -/
def lcc (X X' : Mem) (c : Nat) : Prop := (∀ g, ¬ (52 ≤ g ∧ g ≤ 56) → X' g = X g) ∧ (∀ k, k ≠ c → X' 52 0 k = X 52 0 k) ∧ ∀ g, 53 ≤ g → g ≤ 56 → ∀ k, ¬ (20 * c ≤ k ∧ k < 20 * c + 20) → X' g 0 k = X g 0 k
theorem lcc_rf {X : Mem} {c : Nat} : lcc X X c := ⟨fun _ _ => rfl, fun _ _ => rfl, fun _ _ _ _ _ => rfl⟩
theorem lcc_tr {X Y Z : Mem} {c : Nat} (h : lcc X Y c) (h2 : lcc Y Z c) : lcc X Z c := ⟨fun g a => (h2.1 g a).trans (h.1 g a), fun k a => (h2.2.1 k a).trans (h.2.1 k a), fun g a b k d => (h2.2.2 g a b k d).trans (h.2.2 g a b k d)⟩
theorem m_enter {X : Mem} {c : Nat} {Z : List WE} {e : WE} (hc : c < 144) (hL : mL X c Z) (hs : srt Z) (he : eOk e) (hZ : ∀ x ∈ Z, eOk x ∧ x.u ≤ e.u) :
    ∃ X', f_X8_enter (nI c) (Int32.ofInt e.v) (nI e.jn) (nI e.u) (nI e.j) X = rV X' ∧ lcc X X' c ∧ mL X' c ((ins e Z).take 20) := by
  have h20 := hL.2.1
  obtain ⟨m, hm, p1, p2, e1⟩ := m_scan hc hL hs he hZ Z.length FU (Nat.le_refl _) (by rw [FU_v]; omega) (fun x hx => by rw [List.getElem?_eq_none (Nat.le_refl _)] at hx; simp at hx)
  have hg := ins_get e m Z hm p1 p2
  unfold f_X8_enter
  rw [ix_nI hc (by decide), hL.1, e1]
  unfold f_X8_enter_p39
  by_cases h : m = 20
  · refine ⟨X, by rw [h, if_pos (show nI 20 = 20 from rfl)], lcc_rf, ?_⟩
    have hl : Z.length = 20 := by omega
    have : (ins e Z).take 20 = Z := by
      apply List.ext_getElem?
      intro i
      rw [List.getElem?_take]
      by_cases z : i < 20
      · rw [if_pos z, hg i, if_pos (by omega)]
      · rw [if_neg z, List.getElem?_eq_none (by omega)]
    rw [this]
    exact hL
  · have hmin : f_J9_min_7cf53 (nI Z.length) 19 X = rI (nI (min Z.length 19)) X := by
      unfold f_J9_min_7cf53
      have i1 : (19 : Int32) < nI Z.length ↔ 19 < Z.length := nI_ltI (a := 19) (by omega) (by omega)
      by_cases z : 19 < Z.length
      · rw [if_pos (i1.mpr z), Nat.min_eq_right (by omega)]; rfl
      · rw [if_neg (fun w => z (i1.mp w)), Nat.min_eq_left (by omega)]
    rw [if_neg (show ¬ nI m = 20 from fun z => h ((nI_inj (b := 20) (by omega) (by omega)).mp z)), ix_nI hc (by decide), hL.1, hmin, cI_r]
    obtain ⟨X', e2, g1, g2, g3, g4, g5, g6⟩ := m_shf (X := X) (v := Int32.ofInt e.v) (jn := nI e.jn) (u := nI e.u) (j := nI e.j) hc (show m ≤ min Z.length 19 by omega) (by omega) (min Z.length 19 - m) (min Z.length 19) FU X (by omega) (by rw [FU_v]; omega) (Nat.le_refl _) (fun _ _ => rfl) (fun g _ _ k => by rw [if_neg (by omega)])
    refine ⟨X', e2, ⟨g1, fun k hk => by rw [g2 k, if_neg hk], fun g h1 h2 k hk => ?_⟩, ?_, ?_, fun i x hx => ?_⟩
    · rcases (by omega : g = 53 ∨ g = 54 ∨ g = 55 ∨ g = 56) with rfl | rfl | rfl | rfl
      · rw [g3 k, if_neg (by omega), if_neg (by omega)]
      · rw [g4 k, if_neg (by omega), if_neg (by omega)]
      · rw [g5 k, if_neg (by omega), if_neg (by omega)]
      · rw [g6 k, if_neg (by omega), if_neg (by omega)]
    · rw [g2 c, if_pos rfl, List.length_take, ins_len]; congr 1; omega
    · rw [List.length_take]; omega
    · rw [List.getElem?_take] at hx
      by_cases z : i < 20
      · rw [if_pos z, hg i] at hx
        rw [g3, g4, g5, g6]
        by_cases q1 : i < m
        · rw [if_pos q1] at hx
          rw [if_neg (by omega), if_neg (by omega), if_neg (by omega), if_neg (by omega), if_neg (by omega), if_neg (by omega), if_neg (by omega), if_neg (by omega)]
          exact hL.2.2 i x hx
        · rw [if_neg q1] at hx
          by_cases q2 : i = m
          · rw [if_pos q2] at hx
            simp only [Option.some.injEq] at hx
            subst hx
            rw [if_pos (by omega), if_pos (by omega), if_pos (by omega), if_pos (by omega)]
            exact ⟨rfl, rfl, rfl, rfl⟩
          · rw [if_neg q2] at hx
            obtain ⟨hl, -⟩ := List.getElem?_eq_some_iff.mp hx
            rw [if_neg (by omega), if_pos (by omega), if_neg (by omega), if_pos (by omega), if_neg (by omega), if_pos (by omega), if_neg (by omega), if_pos (by omega), show 20 * c + i - 1 = 20 * c + (i - 1) by omega]
            exact hL.2.2 (i - 1) x hx
      · rw [if_neg z] at hx; simp at hx
