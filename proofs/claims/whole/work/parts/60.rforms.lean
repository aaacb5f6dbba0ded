/-! the reference: its memory -/
theorem rI_wI (M : RM) (f : Nat) (v : Int32) (g : Nat) : rI (wI M f v) g = if g = f then v else rI M g := rfl
theorem rI_wA (M : RM) (f i : Nat) (v : Int32) (g : Nat) : rI (wA M f i v) g = rI M g := rfl
theorem rI_wJ (M : RM) (f i : Nat) (v : Int64) (g : Nat) : rI (wJ M f i v) g = rI M g := rfl
theorem rI_wD (M : RM) (f i : Nat) (v : UInt64) (g : Nat) : rI (wD M f i v) g = rI M g := rfl
theorem rA_wI (M : RM) (f : Nat) (v : Int32) (g : Nat) : rA (wI M f v) g = rA M g := rfl
theorem rA_wJ (M : RM) (f i : Nat) (v : Int64) (g : Nat) : rA (wJ M f i v) g = rA M g := rfl
theorem rA_wD (M : RM) (f i : Nat) (v : UInt64) (g : Nat) : rA (wD M f i v) g = rA M g := rfl
theorem rA_wA (M : RM) (f i : Nat) (v : Int32) (g j : Nat) : rA (wA M f i v) g j = if g = f ∧ j = i then v else rA M g j := by
  show (if g = f then upd (M.2.1 g) i v else M.2.1 g) j = _
  by_cases h : g = f
  · rw [if_pos h]
    by_cases k : j = i
    · rw [if_pos ⟨h, k⟩, k]; exact pk_us
    · rw [if_neg (fun z => k z.2)]; exact pk_un k
  · rw [if_neg h, if_neg (fun z => h z.1)]; rfl
theorem rJ_wJ (M : RM) (f i : Nat) (v : Int64) (g j : Nat) : rJ (wJ M f i v) g j = if g = f ∧ j = i then v else rJ M g j := by
  show (if g = f then vp_updL (M.2.2.1 g) i v else M.2.2.1 g) j = _
  by_cases h : g = f
  · rw [if_pos h]
    by_cases k : j = i
    · rw [if_pos ⟨h, k⟩, k]; exact pk_uLs
    · rw [if_neg (fun z => k z.2)]; exact pk_uLn k
  · rw [if_neg h, if_neg (fun z => h z.1)]; rfl
theorem rD_wD (M : RM) (f i : Nat) (v : UInt64) (g j : Nat) : rD (wD M f i v) g j = if g = f ∧ j = i then v else rD M g j := by
  show (if g = f then vf_upd (M.2.2.2 g) i v else M.2.2.2 g) j = _
  by_cases h : g = f
  · rw [if_pos h]
    show (if j = i then v else M.2.2.2 g j) = _
    by_cases k : j = i
    · rw [if_pos k, if_pos ⟨h, k⟩]
    · rw [if_neg k, if_neg (fun z => k z.2)]; rfl
  · rw [if_neg h, if_neg (fun z => h z.1)]; rfl
/-! words and their codes -/
def lv (c : Int32) : Nat := c.toNatClampNeg - 96
def wN (l : List Int32) : Nat := l.foldl (fun a c => a * 32 + lv c) 0
theorem isL_c {c : Int32} (h : isL c = true) : ∃ k, k < 26 ∧ c = nI (97 + k) := by
  unfold isL at h
  rw [Bool.and_eq_true] at h
  have h1 : ¬ c < 97 := by simpa using h.1
  have h2 : ¬ 122 < c := by simpa using h.2
  rw [Int32.lt_iff_toInt_lt] at h1 h2
  have e1 : (97 : Int32).toInt = 97 := rfl
  have e2 : (122 : Int32).toInt = 122 := rfl
  refine ⟨c.toInt.toNat - 97, by omega, ?_⟩
  apply Int32.toInt_inj.mp
  rw [nI_toInt (by omega)]; omega
theorem lv_c {c : Int32} (h : isL c = true) : 1 ≤ lv c ∧ lv c ≤ 26 ∧ c = nI (96 + lv c) ∧ c ≠ 0 := by
  obtain ⟨k, hk, rfl⟩ := isL_c h
  unfold lv
  rw [nI_clamp (by omega)]
  refine ⟨by omega, by omega, by rw [show 96 + (97 + k - 96) = 97 + k by omega], fun z => ?_⟩
  have := (nI_eq (a := 97 + k) (b := 0) (by omega) (by decide)).mp z
  omega
theorem wl_c {n : Nat} {c : Int32} (h : isL c = true) : wl (lN n) c = lN (n * 32 + lv c) := by
  obtain ⟨a, b, e, -⟩ := lv_c h
  unfold wl
  have e2 : (c - 97) + 1 = nI (lv c) := by
    have e3 : c - 97 = nI (96 + lv c) - nI 97 := by rw [← e]; rfl
    rw [e3, pk_sub (by omega), nI_1, show 96 + lv c - 97 + 1 = lv c by omega]
  rw [e2, nI_l (by omega), show (32 : Int64) = lN 32 from rfl, lN_mul, lN_add]
theorem wcode_a : ∀ (l : List Int32) (n : Nat), l.all isL = true → l.foldl wl (lN n) = lN (l.foldl (fun a c => a * 32 + lv c) n)
  | [], _, _ => rfl
  | c :: l, n, h => by
    rw [List.all_cons, Bool.and_eq_true] at h
    show l.foldl wl (wl (lN n) c) = _
    rw [wl_c h.1]; exact wcode_a l _ h.2
theorem wcode_N {l : List Int32} (h : l.all isL = true) : wcode l = lN (wN l) := wcode_a l 0 h
theorem wN_snoc (l : List Int32) (c : Int32) : wN (l ++ [c]) = wN l * 32 + lv c := by unfold wN; rw [List.foldl_append]; rfl
theorem all_snoc {l : List Int32} {c : Int32} (h : (l ++ [c]).all isL = true) : l.all isL = true ∧ isL c = true := by
  rw [List.all_append, Bool.and_eq_true] at h
  exact ⟨h.1, by simpa using h.2⟩
theorem wN_lt : ∀ (n : Nat) (l : List Int32), l.length = n → l.all isL = true → wN l < 32 ^ n := by
  intro n
  induction n with
  | zero =>
    intro l hl _
    rw [List.eq_nil_of_length_eq_zero hl]; decide
  | succ n ih =>
    intro l hl h
    rcases List.eq_nil_or_concat l with e | ⟨m, c, e⟩
    · rw [e] at hl; cases hl
    · rw [e] at h hl ⊢
      rw [List.concat_eq_append] at h hl ⊢
      rw [List.length_append, List.length_singleton] at hl
      have := ih m (by omega) (all_snoc h).1
      have hc := lv_c (all_snoc h).2
      rw [wN_snoc, Nat.pow_succ]; omega
theorem wN_inj : ∀ (n : Nat) (l m : List Int32), l.length = n → l.all isL = true → m.all isL = true → wN l = wN m → l = m := by
  intro n
  induction n with
  | zero =>
    intro l m hl _ hm e
    rw [List.eq_nil_of_length_eq_zero hl] at e ⊢
    rcases List.eq_nil_or_concat m with z | ⟨m', c, z⟩
    · exact z.symm
    · rw [z, List.concat_eq_append] at e hm
      have hc := lv_c (all_snoc hm).2
      rw [wN_snoc] at e
      have : wN ([] : List Int32) = 0 := rfl
      omega
  | succ n ih =>
    intro l m hl h hm e
    rcases List.eq_nil_or_concat l with z | ⟨l', c, z⟩
    · rw [z] at hl; cases hl
    · rw [z, List.concat_eq_append] at e h hl ⊢
      rw [List.length_append, List.length_singleton] at hl
      have hc := lv_c (all_snoc h).2
      rcases List.eq_nil_or_concat m with y | ⟨m', d, y⟩
      · rw [y, wN_snoc] at e
        have : wN ([] : List Int32) = 0 := rfl
        omega
      · rw [y, List.concat_eq_append] at e hm ⊢
        have hd := lv_c (all_snoc hm).2
        rw [wN_snoc, wN_snoc] at e
        have e1 : lv c = lv d := by omega
        have e2 : wN l' = wN m' := by omega
        have ecd : c = d := by rw [hc.2.2.1, e1]; exact hd.2.2.1.symm
        rw [ih l' m' (by omega) (all_snoc h).1 (all_snoc hm).1 e2, ecd]
theorem wcode_inj {l m : List Int32} (h : l.all isL = true) (hm : m.all isL = true) (h8 : l.length ≤ 8) (m8 : m.length ≤ 8) : wcode l = wcode m ↔ l = m := by
  refine ⟨fun e => ?_, fun e => by rw [e]⟩
  rw [wcode_N h, wcode_N hm] at e
  have a := wN_lt _ l rfl h
  have b := wN_lt _ m rfl hm
  have p8 : (32 : Nat) ^ 8 < 2 ^ 63 := by decide
  have a8 : (32 : Nat) ^ l.length ≤ 32 ^ 8 := Nat.pow_le_pow_right (by decide) h8
  have b8 : (32 : Nat) ^ m.length ≤ 32 ^ 8 := Nat.pow_le_pow_right (by decide) m8
  exact wN_inj _ l m rfl h hm ((pk_lEQ (by omega) (by omega)).mp e)
theorem wcode_ne0 {l : List Int32} (h : l.all isL = true) (h8 : l.length ≤ 8) (h1 : 1 ≤ l.length) : wcode l ≠ 0 := by
  intro e
  have := (wcode_inj (l := l) (m := []) h rfl h8 (Nat.zero_le _)).mp e
  rw [this] at h1; exact absurd h1 (by decide)
/-! forms as the reference has them -/
def rWd (N : RM) (k : Nat) (L : List Int32) : Prop := 1 ≤ L.length ∧ L.length ≤ 8 ∧ L.all isL = true ∧ ∀ i, i < 8 → rA N 12 (8 * k + i) = L.getD i 0
def rTy (N : RM) (t : Nat) (τ : Ty) : Prop := τ.1 < 10 ∧ rA N 8 t = nI τ.1 ∧ rA N 9 t = τ.2.1 ∧ rA N 10 t = bI τ.2.2.1 ∧ ((τ.1 ≠ 8 ∧ τ.2.2.2 = []) ∨ (τ.1 = 8 ∧ ∃ Ls : List (List Int32), 1 ≤ Ls.length ∧ Ls.length ≤ 5 ∧ rA N 11 t = nI Ls.length ∧ τ.2.2.2 = pad (Ls.map wcode) ∧ ∀ j, j < Ls.length → rWd N (5 * t + j) (Ls.getD j [])))
def rAg (N : RM) (a : Nat) (g : Ag) : Prop := rA N 6 a = bI g.1 ∧ rA N 7 a = bI g.2.1 ∧ rTy N (2 * a) g.2.2.1 ∧ ((g.2.2.2 = none ∧ g.2.2.1.1 ≠ 9) ∨ ∃ σ, g.2.2.2 = some σ ∧ g.2.2.1.1 = 9 ∧ σ.1 ≠ 9 ∧ rTy N (2 * a + 1) σ)
def rFm (N : RM) (f : Nat) (φ : List Ag) : Prop := φ.length ≤ 5 ∧ rA N 5 f = nI φ.length ∧ ∀ i, i < φ.length → rAg N (5 * f + i) (φ.getD i dA)
theorem m5 (f : Nat) : (5 : Int32) * nI f = nI (5 * f) := pk_mul 5 f
theorem m2 (f : Nat) : (2 : Int32) * nI f = nI (2 * f) := pk_mul 2 f
theorem m6 (f : Nat) : (6 : Int32) * nI f = nI (6 * f) := pk_mul 6 f
theorem m8 (f : Nat) : (8 : Int32) * nI f = nI (8 * f) := pk_mul 8 f
theorem ix5 (f n : Nat) : ((5 : Int32) * nI f + nI (n + 1)) - 1 = nI (5 * f + n) := by rw [m5, nI_add, ← Nat.add_assoc, nI_pred]
section RFM
variable {N : RM} {f a b t u n k : Nat} {φ ψ : List Ag} {τ σ : Ty} {g g' : Ag}
theorem r_least (h : rFm N f φ) (hf : f < 37) {Q : Int32 → RM → Prop} (q : Q (nI (least φ)) N) : fm_least (nI f) N Q := by
  obtain ⟨l5, e5, ha⟩ := h
  have lp : ∀ n, n ≤ φ.length → lstF φ n = least φ → fm_least_l7 Q (n + 1) (nI f) (nI n) N := by
    intro n
    induction n with
    | zero =>
      intro hn e
      show fm_least_c7 Q _ _ _ N
      unfold fm_least_c7 fm_least_b47
      rw [← e] at q
      exact br_t (nI_le (b := 0) (by omega) (by omega)) q
    | succ n ih =>
      intro hn e
      show fm_least_c7 Q (fm_least_l7 Q (n + 1)) _ _ N
      unfold lstF at e
      obtain ⟨h6, h7, -⟩ := ha n (by omega)
      unfold fm_least_c7 fm_least_b47 fm_least_b41
      rw [ix5]
      have go : miss (φ.getD n dA) = true → ∀ x1 : Int32, x1 = nI (n + 1) + (-1) → fm_least_l7 Q (n + 1) (nI f) x1 N := fun m => nm_r (pk_m1 n) (ih (by omega) (by rw [if_pos m] at e; exact e))
      refine br_f (nI_nle (by omega) (by omega)) ⟨vp_in_nI (by omega) (by omega), ?_⟩
      rw [nI_clamp (by omega), h6, h7]
      refine ⟨fun c => go ?_, fun c => ⟨vp_in_nI (by omega) (by omega), fun d => ?_, fun d => go ?_⟩⟩
      · unfold miss
        cases y : (φ.getD n dA).1 with
        | true => rfl
        | false => rw [y] at c; exact absurd rfl c
      · rw [bI_0] at c d
        rw [if_neg (by unfold miss; rw [c, d]; decide)] at e
        rw [← e] at q; exact q
      · unfold miss
        cases y : (φ.getD n dA).2.1 with
        | true => rw [Bool.or_true]
        | false => rw [y] at d; exact absurd rfl d
  unfold fm_least
  rw [nI_clamp (by omega)]
  exact ⟨vp_in_nI hf (by omega), nm_r e5 ⟨_, lp φ.length (Nat.le_refl _) rfl⟩⟩
theorem r_most (h : rFm N f φ) (hf : f < 37) {Q : Int32 → RM → Prop} (q : Q (nI (most φ)) N) : fm_most (nI f) N Q := by
  obtain ⟨l5, e5, ha⟩ := h
  unfold fm_most fm_most_b34 fm_most_b40
  rw [nI_clamp (by omega), e5]
  have no : lastV φ = false → vp_in (nI f) 37 ∧ Q (nI φ.length) N := fun e => ⟨vp_in_nI hf (by omega), by unfold most at q; rw [e] at q; exact q⟩
  refine ⟨vp_in_nI hf (by omega), pk_le φ.length 0 (fun c => no ?_) (fun c => ?_)⟩
  · have e0 : φ = [] := List.eq_nil_of_length_eq_zero (by omega)
    rw [e0]; rfl
  · have e : φ.length = (φ.length - 1) + 1 := by omega
    rw [e, ix5]
    refine ⟨vp_in_nI hf (by omega), vp_in_nI (by omega) (by omega), ?_⟩
    rw [nI_clamp (by omega), (ha (φ.length - 1) (by omega)).2.1, ← e]
    refine ⟨fun d => no (bI_0.mp d), fun d => ?_⟩
    have dl : lastV φ = true := by
      unfold lastV
      cases y : (φ.getD (φ.length - 1) dA).2.1 with
      | true => rfl
      | false => rw [y] at d; exact absurd rfl d
    unfold most at q
    rw [if_pos dl] at q; exact q
theorem r_takes (h : rFm N f φ) (hf : f < 37) (hn : n < 1000) {Q : Int32 → RM → Prop} (q1 : takes φ n → Q 1 N) (q0 : ¬ takes φ n → Q 0 N) : fm_takesMany (nI f) (nI n) N Q := by
  have hl : least φ ≤ φ.length := lstF_le φ _
  have hm := most_le h.1
  have h5 := h.1
  unfold fm_takesMany fm_takesMany_b22 fm_takesMany_b23
  exact r_least h hf (pk_lt n (least φ) (fun c => ⟨nZ_0, q0 (fun z => by unfold takes at z; omega)⟩) (fun c => r_most h hf (pk_lt (most φ) n (fun d => ⟨nZ_0, q0 (fun z => by unfold takes at z; omega)⟩) (fun d => ⟨nZ_1, q1 ⟨c, d⟩⟩))))
theorem r_argOf (h : rFm N f φ) (hf : f < 37) (ht : takes φ n) (hk : k < n) {Q : Int32 → RM → Prop} (q : Q (nI (5 * f + argI φ k)) N) : fm_argumentOf (nI f) (nI k) N Q := by
  have hm := most_le h.1
  have h5 := h.1
  have h8 : n ≤ 8 := Nat.le_trans ht.2 hm
  unfold fm_argumentOf fm_argumentOf_b25
  rw [nI_clamp (by omega), h.2.1, m5]
  refine ⟨vp_in_nI hf (by omega), pk_le φ.length k (fun c => ⟨vp_in_nI hf (by omega), ?_⟩) (fun c => ?_)⟩
  · have lv : lastV φ = true := by
      cases y : lastV φ with
      | true => rfl
      | false =>
        have := ht.2
        unfold most at this
        rw [y] at this
        simp only [Bool.false_eq_true, if_false] at this
        omega
    have p := lastV_pos lv
    have e : argI φ k = φ.length - 1 := by unfold argI; rw [if_pos ⟨lv, by omega⟩]
    rw [e] at q
    rw [show nI φ.length - 1 = nI (φ.length - 1) from pk_sub (b := 1) p, nI_add]; exact q
  · have e : argI φ k = k := by unfold argI; rw [if_neg (fun z => by omega)]
    rw [e] at q
    rw [nI_add]; exact q
theorem word_ext {L L' : List Int32} (h : L.all isL = true) (h' : L'.all isL = true) (l8 : L.length ≤ 8) (l8' : L'.length ≤ 8) (e : ∀ i, i < 8 → L.getD i 0 = L'.getD i 0) : L = L' := by
  have nz : ∀ {K : List Int32} {i : Nat}, K.all isL = true → i < K.length → K.getD i 0 ≠ 0 := by
    intro K i hK hi
    rw [List.getD_eq_getElem?_getD, List.getElem?_eq_getElem hi]
    exact (lv_c (List.all_eq_true.mp hK _ (List.getElem_mem hi))).2.2.2
  have zz : ∀ {K : List Int32} {i : Nat}, K.length ≤ i → K.getD i 0 = 0 := by
    intro K i hi
    rw [List.getD_eq_getElem?_getD, List.getElem?_eq_none hi]; rfl
  have el : L.length = L'.length := by
    rcases Nat.lt_trichotomy L.length L'.length with c | c | c
    · exact absurd ((e L.length (by omega)).symm.trans (zz (Nat.le_refl _))) (nz h' c)
    · exact c
    · exact absurd ((e L'.length (by omega)).trans (zz (Nat.le_refl _))) (nz h c)
  apply List.ext_getElem el
  intro j h1 h2
  have := e j (by omega)
  rw [List.getD_eq_getElem?_getD, List.getD_eq_getElem?_getD, List.getElem?_eq_getElem h1, List.getElem?_eq_getElem h2] at this
  exact this
theorem r_sameWord {L L' : List Int32} (h : rWd N a L) (h' : rWd N b L') (ha : a < 1850) (hb : b < 1850) {Q : Int32 → RM → Prop} (q1 : L = L' → Q 1 N) (q0 : L ≠ L' → Q 0 N) : fm_isSameWord (nI a) (nI b) N Q := by
  obtain ⟨l1, l8, al, el⟩ := h
  obtain ⟨l1', l8', al', el'⟩ := h'
  have lp : ∀ m i (v : Bool), i + m = 8 → (v = true → ∀ j, j < i → L.getD j 0 = L'.getD j 0) → (v = false → L ≠ L') → fm_isSameWord_l5 Q (m + 1) (nI a) (nI b) (bI v) (nI i) N := by
    intro m
    induction m with
    | zero =>
      intro i v hi e1 e0
      show fm_isSameWord_c5 Q _ _ _ _ _ N
      unfold fm_isSameWord_c5
      refine br_t (nI_le (a := 8) (by omega) (by omega)) ⟨bI_z v, ?_⟩
      cases v with
      | true => exact q1 (word_ext al al' l8 l8' (fun j hj => e1 rfl j (by omega)))
      | false => exact q0 (e0 rfl)
    | succ m ih =>
      intro i v hi e1 e0
      show fm_isSameWord_c5 Q (fm_isSameWord_l5 Q (m + 1)) _ _ _ _ N
      unfold fm_isSameWord_c5 fm_isSameWord_b47 fm_isSameWord_b48
      rw [m8, m8, nI_add, nI_add, nI_1]
      have go : ∀ v', (v' = true → ∀ j, j < i + 1 → L.getD j 0 = L'.getD j 0) → (v' = false → L ≠ L') → ∀ x1 : Int32, x1 = nI (i + 1) → fm_isSameWord_l5 Q (m + 1) (nI a) (nI b) (bI v') x1 N := fun v' a1 a0 => nm_e (ih (i + 1) v' (by omega) a1 a0)
      refine br_f (nI_ge (b := 8) (by omega) (by omega)) ⟨fun c => go false (fun z => by cases z) (fun _ => e0 (bI_0.mp c)), fun c => ⟨vp_in_nI (by omega) (by omega), vp_in_nI (by omega) (by omega), ?_⟩⟩
      rw [nI_clamp (by omega), nI_clamp (by omega), el i (by omega), el' i (by omega)]
      refine ⟨fun d => go false (fun z => by cases z) (fun _ z => d (by rw [z])), fun d => go true (fun _ j hj => ?_) (fun z => by cases z)⟩
      have v1 : v = true := by
        cases v with
        | true => rfl
        | false => exact absurd rfl c
      by_cases y : j = i
      · rw [y]; exact d
      · exact e1 v1 j (by omega)
  exact ⟨9, lp 8 0 true rfl (fun _ j hj => absurd hj (Nat.not_lt_zero j)) (fun z => by cases z)⟩
end RFM
