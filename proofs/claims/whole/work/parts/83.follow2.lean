theorem rwS_cg {A : Mem} {p p' : Nat → Nat} {q : Nat} (h : p' q = p q) : rwS A p' q = rwS A p q := by
  unfold rwS rwT rwH
  rw [h]
theorem rwU_cg {A : Mem} {n n' r : Nat} {p p' : Nat → Nat} (hp : ∀ q, q ≤ r → p' q = p q) (hn : r < n) (hn' : r < n') {q : Nat} (hq : q < r) : rwU A n' p' q = rwU A n p q := by
  unfold rwU rwL rwE
  rw [rwS_cg (hp q (by omega)), if_neg (by omega), if_neg (by omega)]
  unfold rwT
  rw [hp q (by omega), hp (q + 1) (by omega)]
theorem rwM_cg {A : Mem} {n n' r : Nat} {p p' : Nat → Nat} (hp : ∀ q, q ≤ r → p' q = p q) (hn : r < n) (hn' : r < n') : ∀ q, q ≤ r → rwM A n' p' q = rwM A n p q := by
  intro q
  induction q with
  | zero => intro _; rfl
  | succ q ih =>
    intro hq
    rw [rwM, rwM, ih (by omega), rwU_cg hp hn hn' (by omega)]
    unfold rwL
    rw [rwS_cg (hp q (by omega))]
def stF (I A : Mem) (n : Nat) (p : Nat → Nat) (r : Nat) : Prop := I 30 r 0 = A 48 0 (p r) ∧ I 30 r 1 = nI (p r) ∧ I 30 r 2 = (if r = 0 then -1 else A 48 0 (p r - 1)) ∧ (0 < r → I 30 r 3 = 10 * mFr A (rwH A p r) (p r)) ∧ I 30 r 4 = rwS A p r ∧ I 30 r 5 = rwL A p r ∧ I 30 r 6 = rwU A n p r ∧ I 30 r 7 = rwM A n p r
theorem stF_cg {I J A : Mem} {n n' r : Nat} {p p' : Nat → Nat} (hp : ∀ q, q ≤ r → p' q = p q) (hn : r < n) (hn' : r < n') {q : Nat} (hq : q < r) (h30 : J 30 q = I 30 q) (h : stF I A n p q) : stF J A n' p' q := by
  unfold stF at h ⊢
  rw [h30, rwS_cg (hp q (by omega)), rwU_cg hp hn hn' hq, rwM_cg hp hn hn' q (by omega)]
  unfold rwL rwH
  unfold rwL rwH at h
  rw [rwS_cg (hp q (by omega)), hp q (by omega)]
  exact h
/-- rows up to one that is under way -/
def rwO (A : Mem) (r : Nat) (p : Nat → Nat) : Prop := p 0 = 0 ∧ (∀ q, q < r → p q < p (q + 1)) ∧ (∀ q, q < r → ∀ b, p q ≤ b → b < p (q + 1) → A 48 0 b = A 48 0 (p q)) ∧ ∀ q, 0 < q → q ≤ r → A 48 0 (p q) ≠ A 48 0 (p q - 1)
theorem rwO_le {A : Mem} {r : Nat} {p : Nat → Nat} (h : rwO A r p) : ∀ q, q ≤ r → q ≤ p q := by
  intro q
  induction q with
  | zero => intro _; omega
  | succ q ih =>
    intro hq
    have := h.2.1 q (by omega)
    have := ih (by omega)
    omega
/-- a row is added -/
theorem c_srow {J A : Mem} {B f c r n : Nat} {p p' : Nat → Nat} {a3 : Int32} (hM : InvM A) (hB : B ≤ 24) (hw : wayOk A B) (h4 : rc4 J A) (e28 : ∀ b, b < B → J 28 0 b = A 48 0 b) (e6 : J 27 0 6 = nI r) (e7 : J 27 0 7 = rwM A (r + 1) p r) (hst : ∀ q, q < r → stF J A (r + 1) p q) (hO : rwO A r p) (epf : p r = f) (hfc : f < c) (hcB : c ≤ B) (hsame : ∀ b, f ≤ b → b < c → A 48 0 b = A 48 0 f)
    (hp' : ∀ q, q ≤ r → p' q = p q) (hpc : p' (r + 1) = c) (hn : r < n) (h3 : (a3 = 0 ∧ r + 1 ≠ n) ∨ (a3 = 1 ∧ r + 1 = n)) :
    ∃ J', f_X3_addStretch (nI f) (nI c) a3 J = rV J' ∧ fch J J' ∧ rcC J' A ∧ (∀ b, b < B → J' 28 0 b = A 48 0 b) ∧ J' 27 0 2 = J 27 0 2 ∧ J' 27 0 6 = nI (r + 1) ∧ J' 27 0 7 = rwM A n p' (r + 1) ∧ ∀ q, q < r + 1 → stF J' A n p' q := by
  have hrf := rwO_le hO r (Nat.le_refl _)
  obtain ⟨T, hT, eT, mT⟩ := hw f (by omega)
  have eTn : rwT A p' r = T := by unfold rwT; rw [hp' r (Nat.le_refl _), epf, eT, nI_clamp (by omega)]
  have hr0 : r = 0 ↔ f = 0 := by
    constructor
    · intro z; subst z; rw [← epf]; exact hO.1
    · intro z; omega
  obtain ⟨H, hH6, eH, mH⟩ := hw (f - 1) (by omega)
  have eHn : rwH A p' r = H := by unfold rwH; rw [hp' r (Nat.le_refl _), epf, eH, nI_clamp (by omega)]
  obtain ⟨Tc, hTc, eTc, mTc⟩ := hw (c - 1) (by omega)
  have hcT : mHas A T (nI (c - 1)) := by
    have q1 := hsame (c - 1) (by omega) (by omega)
    rw [eT, eTc] at q1
    have q2 : Tc = T := by
      have := congrArg Int32.toNatClampNeg q1
      rw [nI_clamp (by omega), nI_clamp (by omega)] at this
      exact this
    subst q2
    exact mTc.2.2.1
  obtain ⟨J', S, e, eS, c1, c2, c3, c4, c5, c6, c7, k0, k1, k2, k3, k4, k5, k6, k7⟩ := c_add (J := J) (A := A) (f := f) (c := c) (r := r) (T := T) (H := H) (E := rwE A n p' r) (a3 := a3) hM h4 (by omega) (by omega) hT mT (by rw [e28 f (by omega), eT]) e6 (fun z => ⟨hH6, mH, by rw [e28 (f - 1) (by omega), eH]⟩) (by
    unfold rwE
    rw [eTn, hpc]
    rcases h3 with ⟨z1, z2⟩ | ⟨z1, z2⟩
    · exact Or.inl ⟨z1, by rw [if_neg z2], by omega, Or.inr ⟨by omega, hcT⟩⟩
    · exact Or.inr ⟨z1, by rw [if_pos z2]⟩)
  have eS' : rwS A p' r = S := by
    unfold rwS
    rw [eTn, eHn, hp' r (Nat.le_refl _), epf, eS]
    congr 1
    by_cases z : f = 0
    · rw [if_pos z, if_pos (hr0.mpr z)]
    · rw [if_neg z, if_neg (fun w => z (hr0.mp w))]
  have eM : rwM A n p' r = J 27 0 7 := by rw [e7]; exact rwM_cg hp' (by omega) hn r (Nat.le_refl _)
  have eL : rwL A p' r = imax 0 S := by unfold rwL; rw [eS']
  have eU : rwU A n p' r = imax (imax 0 S) (imin (rwE A n p' r) (A 42 0 T)) := by unfold rwU; rw [eL, eTn]
  refine ⟨J', e, c1, c2, fun b hb => by rw [c3]; exact e28 b hb, c4, c5, ?_, fun q hq => ?_⟩
  · rw [rwM, eM, eU, eL]; exact c6
  · rcases Nat.lt_or_ge q r with z | z
    · exact stF_cg hp' (by omega) hn z (c7 q (by omega)) (hst q z)
    · have : q = r := by omega
      subst this
      unfold stF
      rw [eL, eU, eM, eS', hp' q (Nat.le_refl _), epf, eHn]
      refine ⟨k0.trans eT.symm, k1, ?_, fun z => k3 (by omega), k4, k5, k6, k7⟩
      rw [k2, eH]
      by_cases z : f = 0
      · rw [if_pos z, if_pos (hr0.mpr z)]
      · rw [if_neg z, if_neg (fun w => z (hr0.mp w))]
theorem rwO_ext {A : Mem} {r f c : Nat} {p p' : Nat → Nat} (h : rwO A r p) (hp : ∀ q, q ≤ r → p' q = p q) (hc : p' (r + 1) = c) (e : p r = f) (hfc : f < c) (hs : ∀ b, f ≤ b → b < c → A 48 0 b = A 48 0 f) : p' 0 = 0 ∧ (∀ q, q < r + 1 → p' q < p' (q + 1)) ∧ (∀ q, q < r + 1 → ∀ b, p' q ≤ b → b < p' (q + 1) → A 48 0 b = A 48 0 (p' q)) ∧ ∀ q, 0 < q → q ≤ r → A 48 0 (p' q) ≠ A 48 0 (p' q - 1) := by
  refine ⟨by rw [hp 0 (by omega)]; exact h.1, fun q hq => ?_, fun q hq b hb1 hb2 => ?_, fun q h1 h2 => by rw [hp q h2]; exact h.2.2.2 q h1 h2⟩
  · rw [hp q (by omega)]
    by_cases z : q = r
    · rw [z, hc, e]; exact hfc
    · rw [hp (q + 1) (by omega)]; exact h.2.1 q (by omega)
  · rw [hp q (by omega)] at hb1 ⊢
    by_cases z : q = r
    · rw [z, hc] at hb2
      rw [z, e] at hb1 ⊢
      exact hs b hb1 hb2
    · rw [hp (q + 1) (by omega)] at hb2
      exact h.2.2.1 q (by omega) b hb1 hb2
theorem p_ext (p : Nat → Nat) (r c : Nat) : ∃ p' : Nat → Nat, (∀ q, q ≤ r → p' q = p q) ∧ p' (r + 1) = c := ⟨fun q => if q = r + 1 then c else p q, fun q hq => if_neg (by omega), if_pos rfl⟩
theorem c_flw {I A : Mem} {B : Nat} (hM : InvM A) (hB1 : 1 ≤ B) (hB : B ≤ 24) (hw : wayOk A B) (h4 : rc4 I A) :
    ∀ (d c f r fuel : Nat) (p : Nat → Nat) (J : Mem), c + d = B → d + 1 < fuel → fch I J → rcC J A → (∀ b, b < B → J 28 0 b = A 48 0 b) → J 27 0 6 = nI r → J 27 0 7 = rwM A (r + 1) p r → (∀ q, q < r → stF J A (r + 1) p q) → rwO A r p → p r = f → f < c → (∀ b, f ≤ b → b < c → A 48 0 b = A 48 0 f) →
    ∃ J', f_X3_follow_p37 fuel (nI B) (nI f) (nI c) J = rV J' ∧ fch I J' ∧ rcC J' A ∧ J' 27 0 2 = 1 ∧ (∀ b, b < B → J' 28 0 b = A 48 0 b) ∧ strOk J' A B := by
  intro d
  induction d with
  | zero =>
    intro c f r fuel p J hd hfu c1 c2 c3 c4 c5 c6 c7 c8 c9 c10
    obtain ⟨fu, rfl⟩ : ∃ fu, fuel = fu + 2 := ⟨fuel - 2, by omega⟩
    have hc : c = B := by omega
    subst hc
    obtain ⟨p', hp1, hp2⟩ := p_ext p r c
    have hx := rwO_ext c7 hp1 hp2 c8 c9 c10
    obtain ⟨J', e, g1, g2, g3, g4, g5, g6, g7⟩ := c_srow (p' := p') (n := r + 1) (a3 := 1) hM hB hw (rc4_fch h4 c1 c2) c3 c4 c5 c6 c7 c8 c9 (Nat.le_refl _) c10 hp1 hp2 (by omega) (Or.inr ⟨rfl, rfl⟩)
    have hrf := rwO_le c7 r (Nat.le_refl _)
    refine ⟨mup J' 27 0 2 1, ?_, fch_tr (fch_tr c1 g1) ⟨fun g a1 a2 a3 a4 => mup_g a2, fun k a1 a2 a3 => mup_ne (by omega)⟩, rcC_gr g2 (mup_g (by decide)) (mup_g (by decide)), mup_at, fun b hb => by rw [mup_g (by decide)]; exact g3 b hb, ?_⟩
    · rw [f_X3_follow_p37, if_neg (by rw [nI_ltI (by omega) (by omega)]; omega), if_pos rfl]
      unfold f_X3_follow_p65 f_X3_follow_p80
      rw [if_pos rfl, e, cV_r, nI_1]
      show f_X3_follow_p37 (fu + 1) _ _ _ _ = _
      rw [f_X3_follow_p37, if_pos (by rw [nI_ltI (by omega) (by omega)]; omega)]
    · refine ⟨r + 1, p', by omega, by omega, ⟨hx.1, hp2, hx.2.1, hx.2.2.1, fun q h1 h2 => hx.2.2.2 q h1 (by omega)⟩, ?_, ?_, fun q hq => ?_⟩
      · rw [mup_ne (by omega)]; exact g5
      · rw [mup_ne (by omega)]; exact g6
      · have := g7 q hq
        unfold stF at this
        rw [mup_g (by decide)]
        exact this
  | succ d ih =>
    intro c f r fuel p J hd hfu c1 c2 c3 c4 c5 c6 c7 c8 c9 c10
    obtain ⟨fu, rfl⟩ : ∃ fu, fuel = fu + 1 := ⟨fuel - 1, by omega⟩
    have hrf := rwO_le c7 r (Nat.le_refl _)
    rw [f_X3_follow_p37, if_neg (by rw [nI_ltI (by omega) (by omega)]; omega), if_neg (by intro z; have := congrArg Int32.toNatClampNeg z; rw [nI_clamp (by omega), nI_clamp (by omega)] at this; omega), ix_nI (by omega) (by decide), ix_nI (by omega) (by decide), c3 c (by omega), c3 f (by omega)]
    by_cases hs : A 48 0 c = A 48 0 f
    · rw [if_pos hs, nI_1]
      refine ih (c + 1) f r fu p J (by omega) (by omega) c1 c2 c3 c4 c5 c6 c7 c8 (by omega) (fun b h1 h2 => ?_)
      by_cases z : b = c
      · rw [z]; exact hs
      · exact c10 b h1 (by omega)
    · obtain ⟨p', hp1, hp2⟩ := p_ext p r c
      have hx := rwO_ext c7 hp1 hp2 c8 c9 c10
      obtain ⟨J', e, g1, g2, g3, g4, g5, g6, g7⟩ := c_srow (p' := p') (n := r + 2) (a3 := 0) hM hB hw (rc4_fch h4 c1 c2) c3 c4 c5 c6 c7 c8 c9 (by omega) c10 hp1 hp2 (by omega) (Or.inl ⟨rfl, by omega⟩)
      rw [if_neg hs]
      unfold f_X3_follow_p65 f_X3_follow_p80
      rw [if_neg (by intro z; have := congrArg Int32.toNatClampNeg z; rw [nI_clamp (by omega), nI_clamp (by omega)] at this; omega), e, cV_r, nI_1]
      refine ih (c + 1) c (r + 1) fu p' J' (by omega) (by omega) (fch_tr c1 g1) g2 g3 g5 g6 g7 ⟨hx.1, hx.2.1, hx.2.2.1, fun q hq1 hq2 => ?_⟩ hp2 (by omega) (fun b h1 h2 => by rw [show b = c by omega])
      by_cases z : q = r + 1
      · rw [z, hp2, c10 (c - 1) (by omega) (by omega)]; exact hs
      · exact hx.2.2.2 q hq1 (by omega)
theorem c_cpy {I : Mem} {B : Nat} (hB : B ≤ 24) : ∀ (d k fuel : Nat) (J : Mem), k + d = B → d < fuel → (∀ g, g ≠ 28 → J g = I g) → (∀ b, b < k → J 28 0 b = I 26 0 b) →
    ∃ J', f_X3_follow_p12 fuel (nI B) (nI k) J = f_X3_follow_p37 FU (nI B) 0 1 J' ∧ (∀ g, g ≠ 28 → J' g = I g) ∧ ∀ b, b < B → J' 28 0 b = I 26 0 b := by
  intro d
  induction d with
  | zero =>
    intro k fuel J hd hfu h1 h2
    obtain ⟨fu, rfl⟩ : ∃ fu, fuel = fu + 1 := ⟨fuel - 1, by omega⟩
    have : k = B := by omega
    subst this
    exact ⟨J, by rw [f_X3_follow_p12, if_pos (by rw [nI_leI (by omega) (by omega)]; omega)], h1, h2⟩
  | succ d ih =>
    intro k fuel J hd hfu h1 h2
    obtain ⟨fu, rfl⟩ : ∃ fu, fuel = fu + 1 := ⟨fuel - 1, by omega⟩
    rw [f_X3_follow_p12, if_neg (by rw [nI_leI (by omega) (by omega)]; omega), ix_nI (by omega) (by decide), ix_nI (by omega) (by decide), nI_1]
    refine ih (k + 1) fu _ (by omega) (by omega) (fun g hg => by rw [mup_g hg]; exact h1 g hg) (fun b hb => ?_)
    rw [mup_0]
    by_cases z : b = k
    · rw [if_pos z, h1 26 (by decide), z]
    · rw [if_neg z]; exact h2 b (by omega)
theorem c_follow {I A : Mem} {B : Nat} (hM : InvM A) (hB1 : 1 ≤ B) (hB : B ≤ 24) (hw : wayOk A B) (h4 : rc4 I A) (h26 : ∀ b, b < B → I 26 0 b = A 48 0 b) :
    ∃ J, f_X3_follow (nI B) I = rV J ∧ fch I J ∧ rcC J A ∧ J 27 0 2 = 1 ∧ (∀ b, b < B → J 28 0 b = A 48 0 b) ∧ strOk J A B := by
  obtain ⟨J1, e1, g1, g2⟩ := c_cpy (I := mup (mup I 27 0 6 0) 27 0 7 0) hB B 0 FU _ (by omega) (by rw [FU_v]; omega) (fun _ _ => rfl) (fun b hb => by omega)
  unfold f_X3_follow
  rw [show (0 : Int32) = nI 0 from rfl] at e1 ⊢
  rw [e1]
  have f1 : fch I J1 := ⟨fun g a1 a2 a3 a4 => by rw [g1 g a3, mup_g a2, mup_g a2], fun k a1 a2 a3 => by rw [g1 27 (by decide), mup_ne (by omega), mup_ne (by omega)]⟩
  refine c_flw hM hB1 hB hw h4 (B - 1) 1 0 0 FU (fun _ => 0) J1 (by omega) (by rw [FU_v]; omega) f1 (rcC_gr h4.2.2.2.1 (by rw [g1 15 (by decide), mup_g (by decide), mup_g (by decide)]) (by rw [g1 16 (by decide), mup_g (by decide), mup_g (by decide)])) (fun b hb => ?_) ?_ ?_ (fun q hq => by omega) ⟨rfl, fun q hq => by omega, fun q hq => by omega, fun q h1 h2 => by omega⟩ rfl (by omega) (fun b h1 h2 => by rw [show b = 0 by omega])
  · rw [g2 b hb, mup_g (by decide), mup_g (by decide)]; exact h26 b hb
  · rw [g1 27 (by decide), mup_ne (by omega), mup_at]; rfl
  · rw [g1 27 (by decide), mup_at]; rfl
