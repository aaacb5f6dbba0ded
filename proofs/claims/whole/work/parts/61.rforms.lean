section RFM
variable {N : RM} {f a b t u n k : Nat} {φ ψ : List Ag} {τ σ : Ty} {g g' : Ag}
theorem map_getD (Ls : List (List Int32)) (j : Nat) (h : j < Ls.length) : (Ls.map wcode).getD j 0 = wcode (Ls.getD j []) := by
  rw [List.getD_eq_getElem?_getD, List.getElem?_map, List.getD_eq_getElem?_getD, List.getElem?_eq_getElem h]; rfl
theorem pad_inj {Ls Ks : List (List Int32)} (hl : Ls.length = Ks.length) (h1 : ∀ j, j < Ls.length → (Ls.getD j []).all isL = true ∧ (Ls.getD j []).length ≤ 8) (h2 : ∀ j, j < Ks.length → (Ks.getD j []).all isL = true ∧ (Ks.getD j []).length ≤ 8) : pad (Ls.map wcode) = pad (Ks.map wcode) ↔ ∀ j, j < Ls.length → Ls.getD j [] = Ks.getD j [] := by
  constructor
  · intro e j hj
    have e1 : (pad (Ls.map wcode)).getD j 0 = (pad (Ks.map wcode)).getD j 0 := by rw [e]
    rw [padD, padD, map_getD _ _ hj, map_getD _ _ (by omega)] at e1
    exact (wcode_inj (h1 j hj).1 (h2 j (by omega)).1 (h1 j hj).2 (h2 j (by omega)).2).mp e1
  · intro e
    have : Ls = Ks := by
      apply List.ext_getElem hl
      intro j a b
      have := e j a
      rw [List.getD_eq_getElem?_getD, List.getD_eq_getElem?_getD, List.getElem?_eq_getElem a, List.getElem?_eq_getElem b] at this
      exact this
    rw [this]
theorem pad_nlen {Ls Ks : List (List Int32)} (h : Ls.length < Ks.length) (h5 : Ks.length ≤ 5) (h2 : ∀ j, j < Ks.length → (Ks.getD j []).all isL = true ∧ (Ks.getD j []).length ≤ 8 ∧ 1 ≤ (Ks.getD j []).length) : pad (Ls.map wcode) ≠ pad (Ks.map wcode) := by
  intro e
  have e1 : (pad (Ls.map wcode)).getD Ls.length 0 = (pad (Ks.map wcode)).getD Ls.length 0 := by rw [e]
  rw [padD, padD, map_getD Ks _ h] at e1
  have z : (Ls.map wcode).getD Ls.length 0 = 0 := by
    rw [List.getD_eq_getElem?_getD, List.getElem?_eq_none (by rw [List.length_map]; exact Nat.le_refl _)]; rfl
  rw [z] at e1
  have := h2 Ls.length h
  exact wcode_ne0 this.1 this.2.1 this.2.2 e1.symm
theorem r_sameName (h : rTy N t τ) (h' : rTy N u σ) (ht : t < 370) (hu : u < 370) {Q : Int32 → RM → Prop} (q1 : τ = σ → Q 1 N) (q0 : τ ≠ σ → Q 0 N) : fm_isSameName (nI t) (nI u) N Q := by
  obtain ⟨a0, a1, a2, a3, a4⟩ := h
  obtain ⟨b0, b1, b2, b3, b4⟩ := h'
  obtain ⟨τ1, τ2, τ3, τ4⟩ := τ
  obtain ⟨σ1, σ2, σ3, σ4⟩ := σ
  dsimp only at a0 a1 a2 a3 a4 b0 b1 b2 b3 b4
  unfold fm_isSameName fm_isSameName_b49
  rw [nI_clamp (by omega), nI_clamp (by omega), a1, b1, a2, b2, a3, b3]
  have it := vp_in_nI ht (by omega)
  have iu := vp_in_nI hu (by omega)
  have no : ((τ1, τ2, τ3, τ4) : Ty) ≠ (σ1, σ2, σ3, σ4) → fm_isSameName_b50 Q (nI t) (nI u) 0 N := by
    intro c
    unfold fm_isSameName_b50 fm_isSameName_b128
    exact ⟨fun _ => ⟨nZ_0, q0 c⟩, fun z => absurd rfl z⟩
  refine ⟨it, iu, fun c => no (fun z => c (by cases z; rfl)), fun c => ⟨it, iu, fun d => no (fun z => d (by cases z; rfl)), fun d => ⟨it, iu, fun e => no (fun z => e (by cases z; rfl)), fun e => ?_⟩⟩⟩
  have c' := (nI_eq (by omega) (by omega)).mp c
  have e' := bI_i.mp e
  subst c' d e'
  unfold fm_isSameName_b50 fm_isSameName_b128 fm_isSameName_b86
  rw [nI_clamp (by omega), a1]
  refine ⟨fun z => absurd z (by decide), fun _ => ⟨it, fun c8 => ⟨nZ_1, q1 ?_⟩, fun c8 => ⟨it, iu, ?_⟩⟩⟩
  · rcases a4 with ⟨_, a4⟩ | ⟨a4, -⟩
    · rcases b4 with ⟨_, b4⟩ | ⟨b4, -⟩
      · rw [a4, b4]
      · exact absurd (by rw [b4]; rfl) c8
    · exact absurd (by rw [a4]; rfl) c8
  · have t8 : τ1 = 8 := (nI_eq (a := τ1) (b := 8) (by omega) (by decide)).mp c8
    rcases a4 with ⟨a4, -⟩ | ⟨-, Ls, l1, l5, e11, ep, hw⟩
    · exact absurd t8 a4
    rcases b4 with ⟨b4, -⟩ | ⟨-, Ks, k1, k5, f11, fp, kw⟩
    · exact absurd t8 b4
    have hL : ∀ j, j < Ls.length → (Ls.getD j []).all isL = true ∧ (Ls.getD j []).length ≤ 8 := fun j hj => ⟨(hw j hj).2.2.1, (hw j hj).2.1⟩
    have hK : ∀ j, j < Ks.length → (Ks.getD j []).all isL = true ∧ (Ks.getD j []).length ≤ 8 := fun j hj => ⟨(kw j hj).2.2.1, (kw j hj).2.1⟩
    rw [nI_clamp (by omega), e11, f11]
    have lp : ∀ m i, i + m = Ls.length → Ls.length = Ks.length → (∀ j, j < i → Ls.getD j [] = Ks.getD j []) → fm_isSameName_l90 Q (m + 1) (nI t) (nI u) 1 (nI i) N := by
      intro m
      induction m with
      | zero =>
        intro i hi el ee
        show fm_isSameName_c90 Q _ _ _ _ _ N
        unfold fm_isSameName_c90 fm_isSameName_b128
        rw [nI_clamp (by omega), e11]
        refine ⟨it, br_t (nI_le (by omega) (by omega)) ⟨nZ_1, q1 ?_⟩⟩
        rw [ep, fp, (pad_inj el hL hK).mpr (fun j hj => ee j (by omega))]
      | succ m ih =>
        intro i hi el ee
        show fm_isSameName_c90 Q (fm_isSameName_l90 Q (m + 1)) _ _ _ _ N
        unfold fm_isSameName_c90 fm_isSameName_b128
        rw [nI_clamp (by omega), e11, m5, m5, nI_add, nI_add, nI_1]
        refine ⟨it, br_f (nI_ge (by omega) (by omega)) ⟨fun z => absurd z (by decide), fun _ => r_sameWord (hw i (by omega)) (kw i (by omega)) (by omega) (by omega) (fun y => nm_e (ih (i + 1) (by omega) el (fun j hj => ?_))) (fun y => nm_e ?_)⟩⟩
        · by_cases z : j = i
          · rw [z]; exact y
          · exact ee j (by omega)
        · -- the flag is down: the loop ends
          show fm_isSameName_c90 Q (fm_isSameName_l90 Q m) _ _ _ _ N
          unfold fm_isSameName_c90 fm_isSameName_b128
          have bad : ((τ1, τ2, τ3, τ4) : Ty) ≠ (τ1, τ2, τ3, σ4) := fun z => by
            have z4 : τ4 = σ4 := by cases z; rfl
            rw [ep, fp] at z4
            exact y ((pad_inj el hL hK).mp z4 i (by omega))
          exact ⟨it, fun _ => ⟨nZ_0, q0 bad⟩, fun _ => ⟨fun _ => ⟨nZ_0, q0 bad⟩, fun z => absurd rfl z⟩⟩
    refine And.symm ?_
    refine pk_eq Ls.length Ks.length (fun el => ⟨Ls.length + 1, lp Ls.length 0 (by omega) el (fun j hj => absurd hj (Nat.not_lt_zero j))⟩) (fun el => ⟨1, ?_⟩)
    show fm_isSameName_c90 Q _ _ _ _ _ N
    unfold fm_isSameName_c90 fm_isSameName_b128
    have bad : ((τ1, τ2, τ3, τ4) : Ty) ≠ (τ1, τ2, τ3, σ4) := fun z => by
      have z4 : τ4 = σ4 := by cases z; rfl
      rw [ep, fp] at z4
      rcases Nat.lt_trichotomy Ls.length Ks.length with y | y | y
      · exact pad_nlen y k5 (fun j hj => ⟨(kw j hj).2.2.1, (kw j hj).2.1, (kw j hj).1⟩) z4
      · exact el y
      · exact pad_nlen y l5 (fun j hj => ⟨(hw j hj).2.2.1, (hw j hj).2.1, (hw j hj).1⟩) z4.symm
    exact ⟨it, fun _ => ⟨nZ_0, q0 bad⟩, fun _ => ⟨fun _ => ⟨nZ_0, q0 bad⟩, fun z => absurd rfl z⟩⟩
theorem r_same (h : rAg N a g) (h' : rAg N b g') (ha : a < 185) (hb : b < 185) {Q : Int32 → RM → Prop} (q1 : g = g' → Q 1 N) (q0 : g ≠ g' → Q 0 N) : fm_isSame (nI a) (nI b) N Q := by
  obtain ⟨a1, a2, a3, a4⟩ := h
  obtain ⟨b1, b2, b3, b4⟩ := h'
  obtain ⟨o, v, τ, el⟩ := g
  obtain ⟨o', v', σ, el'⟩ := g'
  dsimp only at a1 a2 a3 a4 b1 b2 b3 b4
  unfold fm_isSame fm_isSame_b47
  rw [nI_clamp (by omega), nI_clamp (by omega), a1, b1, a2, b2]
  have ia := vp_in_nI ha (by omega)
  have ib := vp_in_nI hb (by omega)
  have no : ((o, v, τ, el) : Ag) ≠ (o', v', σ, el') → fm_isSame_b48 Q (nI a) (nI b) 0 N := by
    intro c
    unfold fm_isSame_b48 fm_isSame_b87 fm_isSame_b88
    exact ⟨fun _ => ⟨nZ_0, q0 c⟩, fun z => absurd rfl z⟩
  refine ⟨ia, ib, fun c => no (fun z => c (by cases z; rfl)), fun c => ⟨ia, ib, fun d => no (fun z => d (by cases z; rfl)), fun d => ?_⟩⟩
  have c' := bI_i.mp c
  have d' := bI_i.mp d
  subst c' d'
  rw [m2, m2]
  refine r_sameName a3 b3 (by omega) (by omega) (fun e => ⟨fun z => absurd z (by decide), fun _ => ?_⟩) (fun e => ⟨fun _ => no (fun z => e (by cases z; rfl)), fun z => absurd rfl z⟩)
  subst e
  unfold fm_isSame_b48 fm_isSame_b83 fm_isSame_b87 fm_isSame_b88
  rw [m2, m2, nI_clamp (by omega), a3.2.1, nI_1, nI_1]
  refine ⟨fun z => absurd z (by decide), fun _ => ⟨vp_in_nI (by omega) (by omega), fun c9 => ⟨nZ_1, q1 ?_⟩, fun c9 => ?_⟩⟩
  · have n9 : τ.1 ≠ 9 := fun z => c9 (by rw [z]; rfl)
    rcases a4 with ⟨x, -⟩ | ⟨s, x, y, -⟩
    · rcases b4 with ⟨z, -⟩ | ⟨s', z, w, -⟩
      · rw [x, z]
      · exact absurd w n9
    · exact absurd y n9
  · have y9 : τ.1 = 9 := (nI_eq (a := τ.1) (b := 9) (by have := a3.1; omega) (by decide)).mp c9
    rcases a4 with ⟨-, y⟩ | ⟨s, x, -, -, hs⟩
    · exact absurd y9 y
    rcases b4 with ⟨-, y⟩ | ⟨s', x', -, -, hs'⟩
    · exact absurd y9 y
    refine r_sameName hs hs' (by omega) (by omega) (fun e => ⟨fun z => absurd z (by decide), fun _ => ⟨nZ_1, q1 ?_⟩⟩) (fun e => ⟨fun _ => ⟨nZ_0, q0 (fun z => e ?_)⟩, fun z => absurd rfl z⟩)
    · rw [x, x', e]
    · have : el = el' := by cases z; rfl
      rw [x, x'] at this; exact Option.some.inj this
def fam (i : Nat) : Int32 := ([0, 1, 1, 1, 1, 1, 2, 4, 2, 3] : List Int32).getD i 0
theorem r_family {i : Nat} (hi : i < 10) {Q : Int32 → RM → Prop} (q : Q (fam i) N) : fm_family (nI i) N Q := by
  unfold fm_family fm_family_b44 fm_family_b29
  unfold fm_family_b44
  have : i = 0 ∨ i = 1 ∨ i = 2 ∨ i = 3 ∨ i = 4 ∨ i = 5 ∨ i = 6 ∨ i = 7 ∨ i = 8 ∨ i = 9 := by omega
  rcases this with h | h | h | h | h | h | h | h | h | h <;> subst h <;> refine ⟨fun c0 => ⟨fun c5 => ⟨fun c6 => ?_, fun c6 => ⟨fun c8 => ⟨fun c9 => ?_, fun c9 => ?_⟩, fun c8 => ?_⟩⟩, fun c5 => ?_⟩, fun c0 => ?_⟩ <;> first | exact q | exact absurd c0 (by decide) | exact absurd c5 (by decide) | exact absurd c6 (by decide) | exact absurd c8 (by decide) | exact absurd c9 (by decide)
theorem fam_s : ∀ i, i < 10 → ∀ j, j < 10 → i ≠ 7 → j ≠ 7 → (fam i = fam j ↔ nSort i = nSort j) := by decide +kernel
theorem nSort_0 : ∀ i, i < 10 → (nSort i = 0 ↔ i = 7) := by decide +kernel
theorem r_distinct (h : rTy N (2 * a) τ) (h' : rTy N (2 * b) σ) (ha : a < 185) (hb : b < 185) {Q : Int32 → RM → Prop} (q1 : dstT τ σ = true → Q 1 N) (q0 : dstT τ σ = false → Q 0 N) : fm_isDistinct (nI a) (nI b) N Q := by
  obtain ⟨a0, a1, a2, a3, -⟩ := h
  obtain ⟨b0, b1, b2, b3, -⟩ := h'
  have ia := vp_in_nI (n := 2 * a) (N := 370) (by omega) (by omega)
  have ib := vp_in_nI (n := 2 * b) (N := 370) (by omega) (by omega)
  have s0 := nSort_0 τ.1 a0
  have s1 := nSort_0 σ.1 b0
  have no : ¬ (nSort τ.1 ≠ 0 ∧ nSort σ.1 ≠ 0 ∧ ¬ (τ.2.2.1 = true ∧ σ.2.2.1 = true) ∧ nSort τ.1 ≠ nSort σ.1) → nZ 0 ∧ Q 0 N := fun c => ⟨nZ_0, q0 (decide_eq_false c)⟩
  have fin : nSort τ.1 ≠ 0 → nSort σ.1 ≠ 0 → ¬ (τ.2.2.1 = true ∧ σ.2.2.1 = true) → fm_isDistinct_b51 Q (nI (2 * a)) (nI (2 * b)) N := by
    intro c d e
    unfold fm_isDistinct_b51 fm_isDistinct_b77 fm_isDistinct_b78
    rw [nI_clamp (by omega), nI_clamp (by omega), a1]
    refine ⟨ia, r_family a0 ⟨ib, ?_⟩⟩
    rw [b1]
    have fs := fam_s τ.1 a0 σ.1 b0 (fun z => c (s0.mpr z)) (fun z => d (s1.mpr z))
    exact r_family b0 ⟨fun f => no (fun z => z.2.2.2 (fs.mp f)), fun f => ⟨nZ_1, q1 (decide_eq_true ⟨c, d, e, fun z => f (fs.mpr z)⟩)⟩⟩
  unfold fm_isDistinct fm_isDistinct_b77 fm_isDistinct_b78
  rw [m2, m2]
  refine nm_e (nm_e ⟨ia, ?_⟩)
  rw [nI_clamp (by omega), nI_clamp (by omega), a1, b1, a3, b3]
  refine ⟨fun c => no (fun z => z.1 (s0.mpr ((nI_eq (b := 7) (by omega) (by decide)).mp c))), fun c => ⟨ib, fun d => no (fun z => z.2.1 (s1.mpr ((nI_eq (b := 7) (by omega) (by decide)).mp d))), fun d => ⟨ia, ?_⟩⟩⟩
  have c' : nSort τ.1 ≠ 0 := fun z => c (by rw [s0.mp z]; rfl)
  have d' : nSort σ.1 ≠ 0 := fun z => d (by rw [s1.mp z]; rfl)
  refine ⟨fun e => fin c' d' (fun z => by rw [bI_0.mp e] at z; exact absurd z.1 (by decide)), fun e => ⟨ib, fun f => no (fun z => z.2.2.1 ⟨?_, ?_⟩), fun f => fin c' d' (fun z => by rw [bI_0.mp f] at z; exact absurd z.2 (by decide))⟩⟩
  · cases y : τ.2.2.1 with
    | true => rfl
    | false => rw [y] at e; exact absurd rfl e
  · cases y : σ.2.2.1 with
    | true => rfl
    | false => rw [y] at f; exact absurd rfl f
/-- value n of two forms decided at d -/
def gp (φ ψ : List Ag) (n d : Nat) : Prop := d < n ∧ (∀ k, k < d → aOf φ k = aOf ψ k) ∧ dstT (aOf φ d).2.2.1 (aOf ψ d).2.2.1 = true
theorem dstT_self (τ : Ty) : dstT τ τ = false := decide_eq_false (fun z => z.2.2.2 rfl)
theorem gp_u {n d d' : Nat} (h : gp φ ψ n d) (h' : gp φ ψ n d') : d = d' := by
  rcases Nat.lt_trichotomy d d' with c | c | c
  · have e := h'.2.1 d c
    have := h.2.2
    rw [e, dstT_self] at this; cases this
  · exact c
  · have e := h.2.1 d' c
    have := h'.2.2
    rw [e, dstT_self] at this; cases this
theorem r_differ (hφ : rFm N a φ) (hψ : rFm N b ψ) (ha : a < 37) (hb : b < 37) (tφ : takes φ n) (tψ : takes ψ n) {Q : Int32 → RM → Prop} (q : ∀ d, d ≤ n → (∀ k, k < d → aOf φ k = aOf ψ k) → (d < n → aOf φ d ≠ aOf ψ d) → Q (nI d) N) : fm_differAt (nI a) (nI b) (nI n) N Q := by
  have hn : n ≤ 8 := Nat.le_trans tφ.2 (most_le hφ.1)
  have lp : ∀ m i, i + m = n → (∀ j, j < i → aOf φ j = aOf ψ j) → fm_differAt_l3 Q (m + 1) (nI a) (nI b) (nI n) (nI i) N := by
    intro m
    induction m with
    | zero =>
      intro i hi e
      show fm_differAt_c3 Q _ _ _ _ _ N
      unfold fm_differAt_c3 fm_differAt_b36
      exact br_t (nI_le (by omega) (by omega)) (q i (by omega) e (fun z => absurd z (by omega)))
    | succ m ih =>
      intro i hi e
      show fm_differAt_c3 Q (fm_differAt_l3 Q (m + 1)) _ _ _ _ N
      unfold fm_differAt_c3 fm_differAt_b36
      have l1 := argI_lt tφ (show i < n by omega)
      have l2 := argI_lt tψ (show i < n by omega)
      have h5 := hφ.1
      have h5' := hψ.1
      refine br_f (nI_ge (by omega) (by omega)) (r_argOf hφ ha tφ (by omega) (r_argOf hψ hb tψ (by omega) (r_same (hφ.2.2 _ l1) (hψ.2.2 _ l2) (by omega) (by omega) (fun c => ⟨fun z => absurd z (by decide), fun _ => nm_e ?_⟩) (fun c => ⟨fun _ => q i (by omega) e (fun _ => c), fun z => absurd rfl z⟩))))
      rw [nI_1]
      refine ih (i + 1) (by omega) (fun j hj => ?_)
      by_cases y : j = i
      · rw [y]; exact c
      · exact e j (by omega)
  exact ⟨n + 1, lp n 0 (by omega) (fun j hj => absurd hj (Nat.not_lt_zero j))⟩
/-- the forms of an operation, and perhaps a new one -/
def rOp (N : RM) (o : Nat) (fs : List (List Ag)) : Prop := fs.length ≤ 6 ∧ rA N 4 o = nI fs.length ∧ ∀ i, i < fs.length → rFm N (6 * o + i) (fs.getD i [])
def fAt (fs : List (List Ag)) (φ : List Ag) (i : Nat) : List Ag := if i < fs.length then fs.getD i [] else φ
def fIx (fs : List (List Ag)) (o i : Nat) : Nat := if i < fs.length then 6 * o + i else 36
/-- what the pairs P of forms say of the deciding place -/
def dcI (A : Nat → List Ag) (n all : Nat) (v : Int32) (P : Nat → Nat → Prop) : Prop := (v = -1 ∧ ∀ i j, P i j → j < i → i < all → ¬ (takes (A i) n ∧ takes (A j) n)) ∨ (∃ d, d < n ∧ v = nI d ∧ (∃ i j, P i j ∧ j < i ∧ i < all ∧ takes (A i) n ∧ takes (A j) n) ∧ ∀ i j, P i j → j < i → i < all → takes (A i) n → takes (A j) n → gp (A i) (A j) n d)
theorem dcI_skip {A : Nat → List Ag} {n all : Nat} {v : Int32} {P P' : Nat → Nat → Prop} (h : dcI A n all v P) (h1 : ∀ i j, P' i j → j < i → i < all → P i j ∨ ¬ (takes (A i) n ∧ takes (A j) n)) (h2 : ∀ i j, P i j → P' i j) : dcI A n all v P' := by
  rcases h with ⟨e, h⟩ | ⟨d, hd, e, ⟨a, b, pa, x⟩, h⟩
  · exact Or.inl ⟨e, fun i j p q r => (h1 i j p q r).elim (fun z => h i j z q r) id⟩
  · exact Or.inr ⟨d, hd, e, ⟨a, b, h2 a b pa, x⟩, fun i j p q r t1 t2 => (h1 i j p q r).elim (fun z => h i j z q r t1 t2) (fun z => absurd ⟨t1, t2⟩ z)⟩
theorem dcI_new {A : Nat → List Ag} {n all d a b : Nat} {v : Int32} {P P' : Nat → Nat → Prop} (h : dcI A n all v P) (hv : v = -1 ∨ v = nI d) (hd : d < n) (hn : n ≤ 8) (hb : b < a) (ha : a < all) (ta : takes (A a) n) (tb : takes (A b) n) (g : gp (A a) (A b) n d) (h1 : ∀ i j, P' i j → P i j ∨ (i = a ∧ j = b)) (h3 : P' a b) : dcI A n all (nI d) P' := by
  refine Or.inr ⟨d, hd, rfl, ⟨a, b, h3, hb, ha, ta, tb⟩, fun i j p q r t1 t2 => ?_⟩
  rcases h1 i j p with z | ⟨rfl, rfl⟩
  · rcases h with ⟨e, h⟩ | ⟨d', hd', e, -, h⟩
    · exact absurd ⟨t1, t2⟩ (h i j z q r)
    · have : d' = d := by
        rcases hv with hv | hv
        · rw [e] at hv
          have := congrArg Int32.toInt hv
          rw [nI_toInt (by omega)] at this
          have e1 : (-1 : Int32).toInt = -1 := rfl
          omega
        · rw [e] at hv; exact (nI_eq (by omega) (by omega)).mp hv
      rw [← this]; exact h i j z q r t1 t2
  · exact g
theorem r_deciding {o : Nat} {fs : List (List Ag)} (ho : o < 6) (hO : rOp N o fs) (w : Bool) (hw : w = true → rFm N 36 φ) (hn : n ≤ 8) {Q : Int32 → RM → Prop} {all : Nat} (hall : all = fs.length + (if w = true then 1 else 0))
    (q1 : (∀ i j, j < i → i < all → ¬ (takes (fAt fs φ i) n ∧ takes (fAt fs φ j) n)) → Q (-1) N)
    (q2 : ∀ d, d < n → (∃ i j, j < i ∧ i < all ∧ takes (fAt fs φ i) n ∧ takes (fAt fs φ j) n) → (∀ i j, j < i → i < all → takes (fAt fs φ i) n → takes (fAt fs φ j) n → gp (fAt fs φ i) (fAt fs φ j) n d) → Q (nI d) N)
    (q3 : (¬ ∃ d, ∀ i j, j < i → i < all → takes (fAt fs φ i) n → takes (fAt fs φ j) n → gp (fAt fs φ i) (fAt fs φ j) n d) → Q (-2) N) : fm_deciding (nI o) (nI n) (bI w) N Q := by
  obtain ⟨f6, e4, hF⟩ := hO
  have all7 : all ≤ fs.length + 1 := by rw [hall]; split <;> omega
  have hfm : ∀ i, i < all → rFm N (fIx fs o i) (fAt fs φ i) ∧ fIx fs o i < 37 := by
    intro i hi
    unfold fIx fAt
    by_cases c : i < fs.length
    · rw [if_pos c, if_pos c]; exact ⟨hF i c, by omega⟩
    · rw [if_neg c, if_neg c]
      have : w = true := by
        cases w with
        | true => rfl
        | false => simp at hall; omega
      exact ⟨hw this, by decide⟩
  -- the pairs seen so far
  have outer : ∀ m i (v : Int32), i + m = all → dcI (fAt fs φ) n all v (fun a _ => a < i) → fm_deciding_l24 Q (m + 1) (nI o) (nI n) v (nI all) (nI i) N := by
    intro m
    induction m with
    | zero =>
      intro i v hi h
      show fm_deciding_c24 Q _ _ _ _ _ _ N
      unfold fm_deciding_c24
      refine br_t (nI_le (by omega) (by omega)) ?_
      rcases h with ⟨e, h⟩ | ⟨d, hd, e, ⟨a, b, pa, x⟩, h⟩
      · rw [e]; exact q1 (fun i' j h1 h2 => h i' j (by omega) h1 h2)
      · rw [e]; exact q2 d hd ⟨a, b, x⟩ (fun i' j h1 h2 => h i' j (by omega) h1 h2)
    | succ m ih =>
      intro i v hi h
      show fm_deciding_c24 Q (fm_deciding_l24 Q (m + 1)) _ _ _ _ _ N
      obtain ⟨hfi, hxi⟩ := hfm i (by omega)
      have inner : ∀ p j (v : Int32), j + p = i → dcI (fAt fs φ) n all v (fun a b => a < i ∨ (a = i ∧ b < j)) → fm_deciding_l59 Q (fm_deciding_l24 Q (m + 1)) (p + 1) (nI o) (nI n) v (nI all) (nI i) (nI (fIx fs o i)) (nI j) N := by
        intro p
        induction p with
        | zero =>
          intro j v hj h
          show fm_deciding_c59 Q (fm_deciding_l24 Q (m + 1)) _ _ _ _ _ _ _ _ N
          unfold fm_deciding_c59
          refine br_t (nI_le (by omega) (by omega)) (nm_e ?_)
          rw [nI_1]
          exact ih (i + 1) v (by omega) (dcI_skip h (fun a b z q r => Or.inl (by omega)) (fun a b z => by omega))
        | succ p ihp =>
          intro j v hj h
          show fm_deciding_c59 Q (fm_deciding_l24 Q (m + 1)) (fm_deciding_l59 Q (fm_deciding_l24 Q (m + 1)) (p + 1)) _ _ _ _ _ _ _ N
          have hjs : j < fs.length := by omega
          obtain ⟨hfj, hxj⟩ := hfm j (by omega)
          have ej : fIx fs o j = 6 * o + j := if_pos hjs
          rw [ej] at hfj hxj
          have step : ∀ v', dcI (fAt fs φ) n all v' (fun a b => a < i ∨ (a = i ∧ b < j + 1)) → ∀ x1 : Int32, x1 = nI j + 1 → fm_deciding_l59 Q (fm_deciding_l24 Q (m + 1)) (p + 1) (nI o) (nI n) v' (nI all) (nI i) (nI (fIx fs o i)) x1 N := fun v' h' => nm_r (nI_1 j) (ihp (j + 1) v' (by omega) h')
          have skip : ¬ (takes (fAt fs φ i) n ∧ takes (fAt fs φ j) n) → dcI (fAt fs φ) n all v (fun a b => a < i ∨ (a = i ∧ b < j + 1)) := fun c => dcI_skip h (fun a b z q r => by
            rcases z with z | ⟨z, z2⟩
            · exact Or.inl (Or.inl z)
            · by_cases y : b = j
              · right; rw [z, y]; exact c
              · exact Or.inl (Or.inr ⟨z, by omega⟩)) (fun a b z => by omega)
          unfold fm_deciding_c59 fm_deciding_b157 fm_deciding_b153 fm_deciding_b150
          rw [m6, nI_add]
          refine br_f (nI_ge (by omega) (by omega)) (nm_e (r_takes hfi hxi (by omega) (fun ti => ⟨fun z => absurd z (by decide), fun _ => r_takes hfj hxj (by omega) (fun tj => ⟨fun _ => ?_, fun z => absurd z (by decide)⟩) (fun tj => ⟨fun z => absurd rfl z, fun _ => step v (skip (fun z => tj z.2))⟩)⟩) (fun ti => ⟨fun _ => step v (skip (fun z => ti z.1)), fun z => absurd rfl z⟩)))
          refine r_differ hfi hfj hxi hxj ti tj (fun d hd hs hne => ?_)
          have bad : (¬ ∃ d', gp (fAt fs φ i) (fAt fs φ j) n d') → Q (-2) N := fun c => q3 (fun ⟨d', z⟩ => c ⟨d', z i j (by omega) (by omega) ti tj⟩)
          have only : ∀ d', gp (fAt fs φ i) (fAt fs φ j) n d' → d < n ∧ d' = d := by
            intro d' g
            have dn : d < n := by
              refine Nat.lt_of_not_le (fun z => ?_)
              have e := hs d' (Nat.lt_of_lt_of_le g.1 z)
              have := g.2.2
              rw [e, dstT_self] at this; cases this
            refine ⟨dn, ?_⟩
            rcases Nat.lt_trichotomy d' d with c | c | c
            · have e := hs d' c
              have := g.2.2
              rw [e, dstT_self] at this; cases this
            · exact c
            · exact absurd (g.2.1 d c) (hne dn)
          refine ⟨fun c => bad (fun ⟨d', g⟩ => ?_), fun c => ?_⟩
          · have := (only d' g).1
            have e := (nI_eq (by omega) (by omega)).mp c
            omega
          · have dn : d < n := by
              have : d ≠ n := fun z => c (by rw [z])
              omega
            have li := argI_lt ti dn
            have lj := argI_lt tj dn
            have h5 := hfi.1
            have h5' := hfj.1
            refine r_argOf hfi hxi ti dn (r_argOf hfj hxj tj dn (r_distinct (hfi.2.2 _ li).2.2.1 (hfj.2.2 _ lj).2.2.1 (by omega) (by omega) (fun e => ⟨fun z => absurd z (by decide), fun _ => ?_⟩) (fun e => ⟨fun _ => bad (fun ⟨d', g⟩ => ?_), fun z => absurd rfl z⟩)))
            · have g : gp (fAt fs φ i) (fAt fs φ j) n d := ⟨dn, hs, e⟩
              have nw : (v = -1 ∨ v = nI d) → dcI (fAt fs φ) n all (nI d) (fun a b => a < i ∨ (a = i ∧ b < j + 1)) := fun hv => dcI_new h hv dn hn (show j < i by omega) (by omega) ti tj g (fun a b z => by
                rcases z with z | ⟨z, z2⟩
                · exact Or.inl (Or.inl z)
                · by_cases y : b = j
                  · exact Or.inr ⟨z, y⟩
                  · exact Or.inl (Or.inr ⟨z, by omega⟩)) (Or.inr ⟨rfl, Nat.lt_succ_self j⟩)
              refine ⟨fun v0 => step (nI d) (nw ?_), fun v0 => ⟨fun vd => step (nI d) (nw (Or.inr vd)), fun vd => q3 (fun ⟨d', z⟩ => ?_)⟩⟩
              · rcases h with ⟨e1, -⟩ | ⟨d1, hd1, e1, -⟩
                · exact Or.inl e1
                · rw [e1] at v0; exact absurd v0 (nI_pos (by omega))
              · rcases h with ⟨e1, -⟩ | ⟨d1, hd1, e1, ⟨a, b, x0, x1, x2, x3, x4⟩, x5⟩
                · rw [e1] at v0; exact absurd (by decide) v0
                · have y1 := gp_u g (z i j (by omega) (by omega) ti tj)
                  have y2 := gp_u (x5 a b x0 x1 x2 x3 x4) (z a b x1 x2 x3 x4)
                  exact vd (by rw [e1, y2, ← y1])
            · have := only d' g
              have y := g.2.2
              have e' : dstT (aOf (fAt fs φ i) d).2.2.1 (aOf (fAt fs φ j) d).2.2.1 = false := e
              rw [this.2, e'] at y; cases y
      unfold fm_deciding_c24 fm_deciding_b54
      rw [nI_clamp (by omega), e4, m6, nI_add]
      have go : ∃ nn, fm_deciding_l59 Q (fm_deciding_l24 Q (m + 1)) nn (nI o) (nI n) v (nI all) (nI i) (nI (fIx fs o i)) 0 N := ⟨i + 1, inner i 0 v (by omega) (dcI_skip h (fun a b z q r => Or.inl (by omega)) (fun a b z => Or.inl z))⟩
      refine br_f (nI_ge (by omega) (by omega)) ⟨vp_in_nI ho (by omega), pk_le fs.length i (fun c => ?_) (fun c => ?_)⟩
      · have e : fIx fs o i = 36 := if_neg (by omega)
        rw [e] at go; exact go
      · have e : fIx fs o i = 6 * o + i := if_pos c
        rw [e] at go; exact go
  have start : ∃ nn, fm_deciding_l24 Q nn (nI o) (nI n) (-1) (nI all) 0 N := ⟨all + 1, outer all 0 (-1) (by omega) (Or.inl ⟨rfl, fun i j p _ _ => absurd p (Nat.not_lt_zero i)⟩)⟩
  unfold fm_deciding fm_deciding_b18
  rw [nI_clamp (by omega), e4]
  refine nm_e ⟨vp_in_nI ho (by omega), fun c => nm_r ?_ start, fun c => nm_r ?_ start⟩
  · have c' := bI_0.mp c
    rw [hall, c']; simp
  · have c' : w = true := by
      cases w with
      | true => rfl
      | false => exact absurd rfl c
    rw [hall, c', if_pos rfl, nI_1]
end RFM
