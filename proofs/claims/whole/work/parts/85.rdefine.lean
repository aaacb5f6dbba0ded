/-! the reference's define -/
def cY (t : Nat) : Nat → Nat → Prop := fun f i => ((8 ≤ f ∧ f ≤ 11) ∧ i = t) ∨ (f = 12 ∧ 40 * t ≤ i ∧ i < 40 * t + 40)
theorem isL_nC {c : Int32} (h : isL c = true) : nC c := by
  obtain ⟨k, hk, rfl⟩ := isL_c h
  exact pk_charN (by omega)
theorem getD_nC {L : List Int32} (h : L.all isL = true) (i : Nat) : nC (L.getD i 0) := by
  by_cases c : i < L.length
  · rw [List.getD_eq_getElem?_getD, List.getElem?_eq_getElem c]
    exact isL_nC (List.all_eq_true.mp h _ (List.getElem_mem c))
  · rw [List.getD_eq_getElem?_getD, List.getElem?_eq_none (by omega)]; exact nC_0
section RDD
variable {N : RM} {w : List Int32}
theorem m40 (k : Nat) : (40 : Int32) * nI k = nI (40 * k) := pk_mul 40 k
theorem r_copyType {t t' : Nat} (ht : t < 370) (ht' : t' < 370) (hn : t ≠ t') {Q : RM → Prop} (q : ∀ N', zK (cY t) N N' → rI N' 3 = rI N 3 → (∀ τ, rTy N t' τ → rTy N' t τ) → Q N') : fm_copyType (nI t) (nI t') N Q := by
  have it := vp_in_nI (n := t) (N := 370) ht (by omega)
  have it' := vp_in_nI (n := t') (N := 370) ht' (by omega)
  have ct : (nI t).toNatClampNeg = t := nI_clamp (by omega)
  have ct' : (nI t').toNatClampNeg = t' := nI_clamp (by omega)
  unfold fm_copyType
  rw [ct, ct']
  obtain ⟨N1, hN1⟩ : ∃ N1, N1 = wA N 8 t (rA N 8 t') := ⟨_, rfl⟩
  obtain ⟨N2, hN2⟩ : ∃ N2, N2 = wA N1 9 t (rA N1 9 t') := ⟨_, rfl⟩
  obtain ⟨N3, hN3⟩ : ∃ N3, N3 = wA N2 10 t (vp_nar .boolean (rA N2 10 t')) := ⟨_, rfl⟩
  obtain ⟨N4, hN4⟩ : ∃ N4, N4 = wA N3 11 t (rA N3 11 t') := ⟨_, rfl⟩
  have k4 : zK (cY t) N N4 := by
    rw [hN4, hN3, hN2, hN1]
    exact zK_tr (zK_A _ _ (Or.inl ⟨⟨by decide, by decide⟩, rfl⟩)) (zK_tr (zK_A _ _ (Or.inl ⟨⟨by decide, by decide⟩, rfl⟩)) (zK_tr (zK_A _ _ (Or.inl ⟨⟨by decide, by decide⟩, rfl⟩)) (zK_A _ _ (Or.inl ⟨⟨by decide, by decide⟩, rfl⟩))))
  have e8 : rA N4 8 t = rA N 8 t' := by rw [hN4, rA_wA, if_neg (fun z => absurd z.1 (by decide)), hN3, rA_wA, if_neg (fun z => absurd z.1 (by decide)), hN2, rA_wA, if_neg (fun z => absurd z.1 (by decide)), hN1, rA_wA, if_pos ⟨rfl, rfl⟩]
  have e9 : rA N4 9 t = rA N 9 t' := by rw [hN4, rA_wA, if_neg (fun z => absurd z.1 (by decide)), hN3, rA_wA, if_neg (fun z => absurd z.1 (by decide)), hN2, rA_wA, if_pos ⟨rfl, rfl⟩, hN1, rA_wA, if_neg (fun z => absurd z.1 (by decide))]
  have e10 : rA N4 10 t = vp_nar .boolean (rA N 10 t') := by rw [hN4, rA_wA, if_neg (fun z => absurd z.1 (by decide)), hN3, rA_wA, if_pos ⟨rfl, rfl⟩, hN2, rA_wA, if_neg (fun z => absurd z.1 (by decide)), hN1, rA_wA, if_neg (fun z => absurd z.1 (by decide))]
  have e11 : rA N4 11 t = rA N 11 t' := by rw [hN4, rA_wA, if_pos ⟨rfl, rfl⟩, hN3, rA_wA, if_neg (fun z => absurd z.1 (by decide)), hN2, rA_wA, if_neg (fun z => absurd z.1 (by decide)), hN1, rA_wA, if_neg (fun z => absurd z.1 (by decide))]
  have e12 : ∀ x, rA N4 12 x = rA N 12 x := fun x => by rw [hN4, rA_wA, if_neg (fun z => absurd z.1 (by decide)), hN3, rA_wA, if_neg (fun z => absurd z.1 (by decide)), hN2, rA_wA, if_neg (fun z => absurd z.1 (by decide)), hN1, rA_wA, if_neg (fun z => absurd z.1 (by decide))]
  have e3 : rI N4 3 = rI N 3 := by rw [hN4, hN3, hN2, hN1]; rfl
  refine ⟨it', it, nm_r hN1.symm ⟨it', it, nm_r hN2.symm ⟨it', it, nm_r hN3.symm ⟨it', it, nm_r hN4.symm ?_⟩⟩⟩⟩
  have lp : ∀ n v N5, v + n = 40 → zK (fun f i => f = 12 ∧ 40 * t ≤ i ∧ i < 40 * t + 40) N4 N5 → rI N5 3 = rI N 3 → (∀ u, u < v → nC (rA N 12 (40 * t' + u)) → rA N5 12 (40 * t + u) = rA N 12 (40 * t' + u)) → fm_copyType_l50 Q (n + 1) (nI t) (nI t') (nI v) N5 := by
    intro n
    induction n with
    | zero =>
      intro v N5 hv k5 h3 h
      show fm_copyType_c50 Q _ _ _ _ N5
      unfold fm_copyType_c50
      refine br_t (nI_le (a := 40) (by omega) (by omega)) (q N5 (zK_tr k4 (zK_mo (fun f i z => Or.inr z) k5)) h3 (fun τ hτ => ?_))
      have up : ∀ f, f ≠ 12 → rA N5 f t = rA N4 f t := fun f n => k5.2.1 f t (fun z => n z.1)
      obtain ⟨a, b, c, d, e⟩ := hτ
      refine ⟨a, by rw [up 8 (by decide), e8]; exact b, by rw [up 9 (by decide), e9]; exact c, by rw [up 10 (by decide), e10, d]; cases τ.2.2.1 <;> rfl, e.imp id (fun ⟨x, Ls, l1, l5, y, z, g⟩ => ⟨x, Ls, l1, l5, by rw [up 11 (by decide), e11]; exact y, z, fun j hj => ⟨(g j hj).1, (g j hj).2.1, (g j hj).2.2.1, fun i hi => ?_⟩⟩)⟩
      have g4 := (g j hj).2.2.2 i hi
      have q1 := h (8 * j + i) (by omega) (by rw [show 40 * t' + (8 * j + i) = 8 * (5 * t' + j) + i by omega, g4]; exact getD_nC (g j hj).2.2.1 i)
      rw [show 8 * (5 * t + j) + i = 40 * t + (8 * j + i) by omega, q1, show 40 * t' + (8 * j + i) = 8 * (5 * t' + j) + i by omega, g4]
    | succ n ih =>
      intro v N5 hv k5 h3 h
      show fm_copyType_c50 Q (fm_copyType_l50 Q (n + 1)) _ _ _ N5
      unfold fm_copyType_c50
      rw [m40, m40, nI_add, nI_add, nI_1]
      refine br_f (nI_ge (b := 40) (by omega) (by omega)) ⟨vp_in_nI (by omega) (by omega), vp_in_nI (by omega) (by omega), nm_e (nm_e ?_)⟩
      rw [nI_clamp (by omega), nI_clamp (by omega)]
      have p5 : rA N5 12 (40 * t' + v) = rA N 12 (40 * t' + v) := by rw [k5.2.1 12 _ (fun z => by omega), e12]
      refine ih (v + 1) _ (by omega) (zK_tr k5 (zK_A _ _ ⟨rfl, by omega, by omega⟩)) h3 (fun u hu hc => ?_)
      rw [rA_wA]
      by_cases y : u = v
      · rw [if_pos ⟨rfl, by rw [y]⟩, p5, y]
        rw [y] at hc
        exact nC_nar hc
      · rw [if_neg (fun z => by omega)]; exact h u (by omega) hc
  exact ⟨41, lp 40 0 N4 rfl (zK_rf _ _) e3 (fun u hu => absurd hu (Nat.not_lt_zero u))⟩
/-- but for forms and the reader all stands -/
def kDf (N N' : RM) : Prop := (∀ f, f ≠ 0 → f ≠ 26 → f ≠ 27 → f ≠ 3 → rI N' f = rI N f) ∧ (∀ f, f < 4 ∨ 12 < f → rA N' f = rA N f) ∧ N'.2.2 = N.2.2
theorem kDf_mk {S : Nat → Nat → Prop} {N0 : RM} {v : Int32} (hN : N0 = wI N 0 v) {N' : RM} (k : zK S N0 N') (hS : ∀ f i, S f i → 4 ≤ f ∧ f ≤ 12) : kDf N N' := by
  refine ⟨fun f a b c d => ?_, fun f hf => ?_, ?_⟩
  · rw [k.1 f b c d, hN, rI_wI, if_neg a]
  · funext i; rw [k.2.1 f i (fun z => by have := hS f i z; omega), hN, rA_wI]
  · rw [k.2.2.1, hN]; rfl
theorem cA_r {s f i : Nat} (h : cA s f i) : 6 ≤ f ∧ f ≤ 12 := by rcases h with z | z | z <;> omega
theorem zcF_r {f i : Nat} (h : zcF f i) : 5 ≤ f ∧ f ≤ 12 := by
  rcases h with z | ⟨j, hj, z⟩
  · omega
  · have := cA_r z; omega
/-- the cells of a new form -/
def cG (o k : Nat) : Nat → Nat → Prop := fun f i => zcF f i ∨ (f = 4 ∧ i = o) ∨ (f = 5 ∧ i = k) ∨ ∃ j, j < 5 ∧ cA (5 * k + j) f i
theorem cG_r {o k f i : Nat} (h : cG o k f i) : 4 ≤ f ∧ f ≤ 12 := by
  rcases h with z | z | z | ⟨j, hj, z⟩
  · have := zcF_r z; omega
  · omega
  · omega
  · have := cA_r z; omega
theorem zK_rFm {S : Nat → Nat → Prop} {N N' : RM} {f : Nat} {φ : List Ag} (k : zK S N N') (h5 : ¬ S 5 f) (hS : ∀ j g i, j < 5 → cA (5 * f + j) g i → ¬ S g i) (h : rFm N f φ) : rFm N' f φ := ⟨h.1, (k.2.1 5 f h5).trans h.2.1, fun i hi => zK_rAg k (fun g j z => hS i g j (by have := h.1; omega) z) (h.2.2 i hi)⟩
theorem zFm_o {w : List Int32} {o : Int32} {φ : List Ag} (h : zFm w = .inr (o, φ)) : ∃ k, k < 6 ∧ o = nI k := by
  unfold zFm at h
  split at h
  · cases h
  · rename_i c
    split at h
    · split at h
      · cases h
      · injection h with h
        injection h with h1 h2
        obtain ⟨k, hk, e⟩ := nI_of (x := o) (fun z => c (Or.inl (by rw [h1]; exact z)))
        refine ⟨k, ?_, e⟩
        have c2 : o < 6 := by
          apply Decidable.byContradiction
          intro y
          exact c (Or.inr (by rw [h1]; exact y))
        rw [e] at c2
        exact (nI_ltI (a := k) (b := 6) hk (by omega)).mp c2
    · cases h
theorem r_define (hw : gL w) (hz : zLP N w) {F : Nat → List (Nat × List Ag)} (hO : ∀ o, o < 6 → rOp N o ((F o).map Prod.snd)) (x : Nat) {Q : Int32 → RM → Prop}
    (qf : ∀ f, zFm w = .inl f → ∀ N', kDf N N' → (∀ o, o < 6 → rOp N' o ((F o).map Prod.snd)) → rI N' 3 = nI f → Q (-2) N')
    (qs : ∀ o φ n, zFm w = .inr (nI o, φ) → o < 6 → n ≤ 8 → ¬ told (F o ++ [(x, φ)]) n → (∀ j, j < n → told (F o ++ [(x, φ)]) j) → ∀ N', kDf N N' → (∀ o, o < 6 → rOp N' o ((F o).map Prod.snd)) → rI N' 3 = nI n → Q (-3) N')
    (ql : ∀ o φ, zFm w = .inr (nI o, φ) → o < 6 → (∀ j, j ≤ 8 → told (F o ++ [(x, φ)]) j) → (F o).length = 6 → ∀ N', kDf N N' → (∀ o, o < 6 → rOp N' o ((F o).map Prod.snd)) → rI N' 3 = -1 → Q (-4) N')
    (qo : ∀ o φ, zFm w = .inr (nI o, φ) → o < 6 → (∀ j, j ≤ 8 → told (F o ++ [(x, φ)]) j) → (F o).length < 6 → ∀ N', kDf N N' → (∀ o', o' < 6 → o' ≠ o → rOp N' o' ((F o').map Prod.snd)) → rOp N' o ((F o ++ [(x, φ)]).map Prod.snd) → rI N' 3 = -1 → Q (nI (F o).length) N') : fm_define N Q := by
  have i36 : vp_in (36 : Int32) 37 := vp_in_nI (n := 36) (N := 37) (by omega) (by omega)
  have c36 : (36 : Int32).toNatClampNeg = 36 := nI_clamp (n := 36) (by omega)
  unfold fm_define
  refine nm_e (nm_e ⟨nZ_0, nm_e (nm_e ?_)⟩)
  obtain ⟨N0, hN0⟩ : ∃ N0, N0 = wI N 0 0 := ⟨_, rfl⟩
  obtain ⟨N1, hN1⟩ : ∃ N1, N1 = wI (wI (wI (wI N 0 0) 3 (-1)) 27 0) 26 0 := ⟨_, rfl⟩
  rw [← hN1]
  have i1 : ∀ f, f ≠ 0 → f ≠ 26 → f ≠ 27 → f ≠ 3 → rI N1 f = rI N f := fun f a b c d => by rw [hN1, rI_wI, if_neg b, rI_wI, if_neg c, rI_wI, if_neg d, rI_wI, if_neg a]
  have a1 : ∀ f, rA N1 f = rA N f := fun f => by rw [hN1]; rfl
  have z1 : RZ N1 w 0 := ⟨by rw [hN1]; rfl, ⟨(i1 2 (by decide) (by decide) (by decide) (by decide)).trans hz.1, fun i p q => by rw [a1]; exact hz.2 i p q⟩, Nat.zero_le _, 0, by rw [hN1]; rfl, Nat.zero_le _, fun x _ hx => zst_bl0 hx⟩
  have n13 : rI N1 3 = -1 := by rw [hN1]; rfl
  have t1 : N1.2.2 = N.2.2 := by rw [hN1]; rfl
  have kd : ∀ {S : Nat → Nat → Prop} {N'}, zK S N1 N' → (∀ f i, S f i → 4 ≤ f ∧ f ≤ 12) → kDf N N' := fun k hS => ⟨fun f a b c d => (k.1 f b c d).trans (i1 f a b c d), fun f hf => funext (fun i => (k.2.1 f i (fun z => by have := hS f i z; omega)).trans (by rw [a1])), k.2.2.1.trans t1⟩
  have hO1 : ∀ o, o < 6 → rOp N1 o ((F o).map Prod.snd) := fun o ho => by
    obtain ⟨x, y, z⟩ := hO o ho
    refine ⟨x, by rw [a1]; exact y, fun i hi => ?_⟩
    have k0 : zK cO N1 N1 := zK_rf _ _
    obtain ⟨p, q, r⟩ := z i hi
    refine ⟨p, by rw [a1]; exact q, fun j hj => ?_⟩
    obtain ⟨b1, b2, b3, b4⟩ := r j hj
    have ty : ∀ {t τ}, rTy N t τ → rTy N1 t τ := fun ⟨c1, c2, c3, c4, c5⟩ => ⟨c1, by rw [a1]; exact c2, by rw [a1]; exact c3, by rw [a1]; exact c4, c5.imp id (fun ⟨u, Ls, l1, l5, v, s, g⟩ => ⟨u, Ls, l1, l5, by rw [a1]; exact v, s, fun j hj => ⟨(g j hj).1, (g j hj).2.1, (g j hj).2.2.1, fun i hi => by rw [a1]; exact (g j hj).2.2.2 i hi⟩⟩)⟩
    exact ⟨by rw [a1]; exact b1, by rw [a1]; exact b2, ty b3, b4.imp id (fun ⟨σ, u, v, s, t⟩ => ⟨σ, u, v, s, ty t⟩)⟩
  -- forms stand
  have fOp : ∀ {S : Nat → Nat → Prop} {N'} {o : Nat} {l : List (List Ag)}, zK S N1 N' → o < 6 → ¬ S 4 o → (∀ i, i < l.length → ¬ S 5 (6 * o + i)) → (∀ i j g y, i < l.length → j < 5 → cA (5 * (6 * o + i) + j) g y → ¬ S g y) → rOp N1 o l → rOp N' o l := fun k ho h4 h5 hS h => ⟨h.1, (k.2.1 4 _ h4).trans h.2.1, fun i hi => zK_rFm k (h5 i hi) (fun j g y hj z => hS i j g y hi hj z) (h.2.2 i hi)⟩
  have zne : ∀ {s g y}, s < 180 → cA s g y → ¬ zcF g y := fun hs z b => by
    rcases b with b | ⟨j, hj, b⟩
    · have := cA_r z; omega
    · exact cA_ne (by omega) z b
  have fO : ∀ {N'}, zK zcF N1 N' → ∀ o, o < 6 → rOp N' o ((F o).map Prod.snd) := fun k o ho => by
    have hl := (hO1 o ho).1
    exact fOp k ho (fun z => by have := zcF_r z; omega) (fun i hi z => by
      rcases z with z | ⟨j, hj, z⟩
      · omega
      · have := cA_r z; omega) (fun i j g y hi hj z => zne (by omega) z) (hO1 o ho)
  refine r_read hw z1 (fun o' φ ez N2 k2 n27 rf => ?_) (fun f ef N2 v k2 f2 => ?_)
  · obtain ⟨o, ho, eo⟩ := zFm_o ez
    subst eo
    have n23 : rI N2 3 = -1 := ((k2.2.2.2 n27).2).trans n13
    rw [n27]
    refine ⟨fun _ => ?_, fun z => absurd rfl z⟩
    have hO2 := fO k2
    have io := vp_in_nI (n := o) (N := 6) ho (by omega)
    have co : (nI o).toNatClampNeg = o := nI_clamp (by omega)
    have lp : ∀ m n, n + m = 9 → (∀ j, j < n → told (F o ++ [(x, φ)]) j) → fm_define_l37 Q (m + 1) (nI o) (nI n) N2 := by
      intro m
      induction m with
      | zero =>
        intro n hn ht
        show fm_define_c37 Q _ _ _ N2
        unfold fm_define_c37
        rw [co, (hO2 o ho).2.1, List.length_map]
        refine br_t (show (8 : Int32) < nI n from (nI_ltI (a := 8) (by omega) (by omega)).mpr (by omega)) ⟨io, fun d => ⟨io, ?_⟩, fun d => ?_⟩
        · have l6 : (F o).length < 6 := by
            have h1 := (hO2 o ho).1
            rw [List.length_map] at h1
            have : (F o).length ≠ 6 := fun z => d (by rw [z]; rfl)
            omega
          rw [m6, nI_add]
          have ik : vp_in (nI (6 * o + (F o).length)) 37 := vp_in_nI (by omega) (by omega)
          obtain ⟨k, hk⟩ : ∃ k, k = 6 * o + (F o).length := ⟨_, rfl⟩
          rw [← hk] at ik ⊢
          have ck : (nI k).toNatClampNeg = k := nI_clamp (by omega)
          refine nm_e ⟨i36, ik, nm_e ?_⟩
          rw [ck, c36]
          obtain ⟨N3, hN3⟩ : ∃ N3, N3 = wA N2 5 k (rA N2 5 36) := ⟨_, rfl⟩
          rw [← hN3]
          have y3 : zK (cG o k) N2 N3 := by rw [hN3]; exact zK_A _ _ (Or.inr (Or.inr (Or.inl ⟨rfl, rfl⟩)))
          have k3 : zK (cG o k) N1 N3 := zK_tr (zK_mo (fun f i z => Or.inl z) k2) y3
          have e3k : rA N3 5 k = nI φ.length := by rw [hN3, rA_wA, if_pos ⟨rfl, rfl⟩]; exact rf.2.1
          have n33 : rI N3 3 = -1 := by rw [hN3]; exact n23
          have pl : φ.length ≤ 5 := rf.1
          have w3 : zK (fun f i => f = 5 ∧ i = k) N2 N3 := by rw [hN3]; exact zK_A _ _ ⟨rfl, rfl⟩
          have g3 : ∀ j, j < φ.length → rAg N3 (180 + j) (φ.getD j dA) := fun j hj => zK_rAg w3 (fun f i z y => by have := cA_r z; omega) (rf.2.2 j hj)
          have cp : ∀ n i N4, i + n = φ.length → zK (fun f y => ∃ j, j < 5 ∧ cA (5 * k + j) f y) N3 N4 → rI N4 3 = -1 → (∀ j, j < i → rAg N4 (5 * k + j) (φ.getD j dA)) → fm_define_l110 Q (n + 1) (nI o) (nI k) (nI i) N4 := by
            intro n
            induction n with
            | zero =>
              intro i N4 hi k4 n43 h4
              show fm_define_c110 Q _ _ _ _ N4
              unfold fm_define_c110
              have e45 : rA N4 5 k = nI φ.length := (k4.2.1 5 k (fun ⟨j, hj, z⟩ => by have := cA_r z; omega)).trans e3k
              have k4' : zK (cG o k) N1 N4 := zK_tr k3 (zK_mo (fun f y z => Or.inr (Or.inr (Or.inr z))) k4)
              have e44 : rA N4 4 o = nI (F o).length := by
                rw [k4.2.1 4 o (fun ⟨j, hj, z⟩ => by have := cA_r z; omega), w3.2.1 4 o (fun z => absurd z.1 (by decide)), (hO2 o ho).2.1, List.length_map]
              rw [ck, e45, co, e44, nI_1]
              refine ⟨ik, br_t (nI_le (by omega) (by omega)) ⟨io, io, nm_e ⟨io, ?_⟩⟩⟩
              rw [rA_wA, if_pos ⟨rfl, rfl⟩, show nI ((F o).length + 1) - 1 = nI (F o).length from pk_sub (b := 1) (by omega)]
              obtain ⟨N5, hN5⟩ : ∃ N5, N5 = wA N4 4 o (nI ((F o).length + 1)) := ⟨_, rfl⟩
              rw [← hN5]
              have y5 : zK (fun f i => f = 4 ∧ i = o) N4 N5 := by rw [hN5]; exact zK_A _ _ ⟨rfl, rfl⟩
              have k5 : zK (cG o k) N1 N5 := zK_tr k4' (zK_mo (fun f i z => Or.inr (Or.inl z)) y5)
              refine qo o φ ez ho (fun j hj => ht j (by omega)) l6 N5 (kd k5 (fun f i z => cG_r z)) (fun o' ho' no => ?_) ?_ (by rw [hN5]; exact n43)
              · have hl := (hO1 o' ho').1
                refine fOp k5 ho' (fun z => ?_) (fun i hi z => ?_) (fun i j g y hi hj z b => ?_) (hO1 o' ho')
                · rcases z with z | z | z | ⟨j, hj, z⟩
                  · have := zcF_r z; omega
                  · omega
                  · omega
                  · have := cA_r z; omega
                · rcases z with z | z | z | ⟨j, hj, z⟩
                  · rcases z with z | ⟨j, hj, z⟩
                    · omega
                    · have := cA_r z; omega
                  · omega
                  · omega
                  · have := cA_r z; omega
                · rcases b with b | b | b | ⟨j', hj', b⟩
                  · exact zne (by omega) z b
                  · have := cA_r z; omega
                  · have := cA_r z; omega
                  · exact cA_ne (by omega) z b
              · rw [List.map_append]
                refine ⟨by simp; omega, ?_, fun i hi => ?_⟩
                · rw [hN5, rA_wA, if_pos ⟨rfl, rfl⟩]; simp
                · by_cases y : i = (F o).length
                  · have ed : ((F o).map Prod.snd ++ [(x, φ)].map Prod.snd).getD i [] = φ := by rw [y]; simp
                    rw [ed, y, ← hk]
                    refine ⟨pl, (y5.2.1 5 k (fun z => absurd z.1 (by decide))).trans e45, fun j hj => zK_rAg y5 (fun f y z b => by have := cA_r z; omega) (h4 j (by omega))⟩
                  · have hi2 : i < (F o).length := by simp at hi; omega
                    have ed : ((F o).map Prod.snd ++ [(x, φ)].map Prod.snd).getD i [] = ((F o).map Prod.snd).getD i [] := by
                      rw [List.getD_eq_getElem?_getD, List.getD_eq_getElem?_getD, List.getElem?_append_left (by rw [List.length_map]; exact hi2)]
                    rw [ed]
                    refine zK_rFm y5 (fun z => absurd z.1 (by decide)) (fun j g y hj z b => by have := cA_r z; omega) (zK_rFm k4 (fun ⟨j, hj, z⟩ => by have := cA_r z; omega) (fun j g y hj z ⟨j', hj', b⟩ => cA_ne (by omega) z b) (zK_rFm w3 (fun z => by omega) (fun j g y hj z b => by have := cA_r z; omega) ((hO2 o ho).2.2 i (by rw [List.length_map]; exact hi2))))
            | succ n ih =>
              intro i N4 hi k4 n43 h4
              show fm_define_c110 Q (fm_define_l110 Q (n + 1)) _ _ _ N4
              unfold fm_define_c110
              have e45 : rA N4 5 k = nI φ.length := (k4.2.1 5 k (fun ⟨j, hj, z⟩ => by have := cA_r z; omega)).trans e3k
              rw [ck, e45, m5, nI_add, show (180 : Int32) = nI 180 from rfl, nI_add]
              have is : vp_in (nI (180 + i)) 185 := vp_in_nI (by omega) (by omega)
              have id' : vp_in (nI (5 * k + i)) 185 := vp_in_nI (by omega) (by omega)
              have cs : (nI (180 + i)).toNatClampNeg = 180 + i := nI_clamp (by omega)
              have cd : (nI (5 * k + i)).toNatClampNeg = 5 * k + i := nI_clamp (by omega)
              refine ⟨ik, br_f (nI_ge (by omega) (by omega)) (nm_e (nm_e ⟨is, id', nm_e ⟨is, id', nm_e ?_⟩⟩))⟩
              rw [cs, cd, m2, m2, nI_1, nI_1]
              have gs : rAg N4 (180 + i) (φ.getD i dA) := zK_rAg k4 (fun f y z ⟨j, hj, b⟩ => cA_ne (by omega) z b) (g3 i (by omega))
              obtain ⟨N5, hN5⟩ : ∃ N5, N5 = wA N4 6 (5 * k + i) (vp_nar .boolean (rA N4 6 (180 + i))) := ⟨_, rfl⟩
              rw [← hN5]
              obtain ⟨N6, hN6⟩ : ∃ N6, N6 = wA N5 7 (5 * k + i) (vp_nar .boolean (rA N5 7 (180 + i))) := ⟨_, rfl⟩
              rw [← hN6]
              have vb : ∀ b, vp_nar .boolean (bI b) = bI b := fun b => by cases b <;> rfl
              have y6 : zK (fun f y => (f = 6 ∨ f = 7) ∧ y = 5 * k + i) N4 N6 := by rw [hN6, hN5]; exact zK_tr (zK_A _ _ ⟨Or.inl rfl, rfl⟩) (zK_A _ _ ⟨Or.inr rfl, rfl⟩)
              have e66 : rA N6 6 (5 * k + i) = bI (φ.getD i dA).1 := by rw [hN6, rA_wA, if_neg (fun z => absurd z.1 (by decide)), hN5, rA_wA, if_pos ⟨rfl, rfl⟩, gs.1, vb]
              have e67 : rA N6 7 (5 * k + i) = bI (φ.getD i dA).2.1 := by rw [hN6, rA_wA, if_pos ⟨rfl, rfl⟩, hN5, rA_wA, if_neg (fun z => absurd z.1 (by decide)), gs.2.1, vb]
              have n63 : rI N6 3 = -1 := by rw [hN6, hN5]; exact n43
              have gs6 : rAg N6 (180 + i) (φ.getD i dA) := zK_rAg y6 (fun f y z b => by rcases z with z | z | z <;> omega) gs
              refine r_copyType (by omega) (by omega) (by omega) (fun N7 k7 n73 c7 => r_copyType (by omega) (by omega) (by omega) (fun N8 k8 n83 c8 => nm_r (nI_1 i) (ih (i + 1) N8 (by omega) ?_ (by rw [n83, n73]; exact n63) (fun j hj => ?_))))
              · refine zK_tr k4 (zK_tr (zK_mo (fun f y z => ⟨i, by omega, Or.inl z⟩) y6) (zK_tr (zK_mo (fun f y z => ⟨i, by omega, ?_⟩) k7) (zK_mo (fun f y z => ⟨i, by omega, ?_⟩) k8)))
                · exact z.elim (fun z => Or.inr (Or.inl ⟨z.1, Or.inl z.2⟩)) (fun z => Or.inr (Or.inr ⟨z.1, by omega, by omega⟩))
                · exact z.elim (fun z => Or.inr (Or.inl ⟨z.1, Or.inr z.2⟩)) (fun z => Or.inr (Or.inr ⟨z.1, by omega, by omega⟩))
              · by_cases y : j = i
                · rw [y]
                  have t1 := zK_rTy k8 (fun f u v z => by rcases z with z | z <;> omega) (fun y u v z => by rcases z with z | z <;> omega) (c7 _ gs6.2.2.1)
                  refine ⟨?_, ?_, t1, gs6.2.2.2.imp id (fun ⟨σ, a, b, c, d⟩ => ⟨σ, a, b, c, c8 σ (zK_rTy k7 (fun f u v z => by rcases z with z | z <;> omega) (fun y u v z => by rcases z with z | z <;> omega) d)⟩)⟩
                  · rw [k8.2.1 6 _ (fun z => by rcases z with z | z <;> omega), k7.2.1 6 _ (fun z => by rcases z with z | z <;> omega)]; exact e66
                  · rw [k8.2.1 7 _ (fun z => by rcases z with z | z <;> omega), k7.2.1 7 _ (fun z => by rcases z with z | z <;> omega)]; exact e67
                · exact zK_rAg k8 (fun f u z b => by rcases z with z | z | z <;> rcases b with b | b <;> omega) (zK_rAg k7 (fun f u z b => by rcases z with z | z | z <;> rcases b with b | b <;> omega) (zK_rAg y6 (fun f u z b => by rcases z with z | z | z <;> omega) (h4 j (by omega))))
          exact ⟨φ.length + 1, cp φ.length 0 N3 (Nat.zero_add _) (zK_rf _ _) n33 (fun j hj => absurd hj (Nat.not_lt_zero j))⟩
        · have e6 : (F o).length = 6 := (nI_eq (b := 6) (by have := (hO2 o ho).1; rw [List.length_map] at this; omega) (by omega)).mp d
          exact ql o φ ez ho (fun j hj => ht j (by omega)) e6 N2 (kd k2 (fun f i z => by have := zcF_r z; omega)) hO2 n23
      | succ m ih =>
        intro n hn ht
        show fm_define_c37 Q (fm_define_l37 Q (m + 1)) _ _ N2
        unfold fm_define_c37
        refine br_f (fun z => by have := (nI_ltI (a := 8) (b := n) (by omega) (by omega)).mp z; omega) (r_dec1 (p := (x, φ)) ho (hO2 o ho) rf (by omega) (fun c => ⟨fun z => absurd rfl z, fun _ => nm_e ?_⟩) (fun c r hr => ⟨fun _ => nm_r (nI_1 n) (ih (n + 1) (by omega) (fun j hj => ?_)), fun z => absurd z hr⟩))
        · refine qs o φ n ez ho (by omega) c ht _ ⟨fun f a b c d => ?_, (kd k2 (fun f i z => by have := zcF_r z; omega)).2⟩ (fun o' ho' => hO2 o' ho') rfl
          rw [rI_wI, if_neg d]
          exact (kd k2 (fun f i z => by have := zcF_r z; omega)).1 f a b c d
        · by_cases y : j = n
          · rw [y]; exact c
          · exact ht j (by omega)
    exact ⟨10, lp 9 0 rfl (fun j hj => absurd hj (Nat.not_lt_zero j))⟩
  · rw [f2.1]
    exact ⟨fun z => absurd z (by decide), fun _ => qf f ef N2 (kd k2 (fun f i z => by have := zcF_r z; omega)) (fO k2) f2.2⟩
end RDD
