/-! the reference's reader: names of types, marks -/
def cN (t : Nat) : Nat → Nat → Prop := fun f i => ((f = 8 ∨ f = 9) ∧ i = t) ∨ cW t f i
def zWd (w : List Int32) (r : Nat ⊕ (Nat × Int32 × Nat)) : Nat ⊕ (Nat × Int32 × List Int64 × Nat) :=
  match r with
  | .inl f => .inl f
  | .inr p => match (if p.1 = 8 then zWords w p.2.2 else .inr ([], p.2.2) : Nat ⊕ (List Int64 × Nat)) with
    | .inl f => .inl f
    | .inr q => .inr (p.1, p.2.1, q.1, q.2)
def nmd (N : RM) (t i : Nat) (m : Int32) (l : List Int64) : Prop := i < 10 ∧ (i = 9 → m = 0) ∧ rA N 8 t = nI i ∧ rA N 9 t = m ∧ ((i ≠ 8 ∧ l = []) ∨ (i = 8 ∧ ∃ Ls : List (List Int32), 1 ≤ Ls.length ∧ Ls.length ≤ 5 ∧ rA N 11 t = nI Ls.length ∧ l = Ls.map wcode ∧ ∀ j, j < Ls.length → rWd N (5 * t + j) (Ls.getD j [])))
def zMk (w : List Int32) (j : Nat) (m : Int32) (l : List Int64) (e : Nat) : Ty × Nat := if j ≠ 7 ∧ zsg w e = 63 then ((j, m, true, if j = 8 then pad l else []), e + 1) else ((j, m, false, if j = 8 then pad l else []), e)
def cM (t : Nat) : Nat → Nat → Prop := fun f i => f = 10 ∧ i = t
section RDN
variable {N : RM} {w : List Int32} {a t : Nat}
theorem r_isIn14 {i : Nat} (hi : i < 10) {Q : Int32 → RM → Prop} (q1 : bnd i = true → Q 1 N) (q0 : bnd i = false → Q 0 N) : fm_isIn (nI i) 1 4 N Q := by
  unfold fm_isIn fm_isIn_b14 fm_isIn_b15
  unfold bnd at q1 q0
  exact pk_lt i 1 (fun c => ⟨nZ_0, q0 (decide_eq_false (fun z => by omega))⟩) (fun c => pk_lt 4 i (fun d => ⟨nZ_0, q0 (decide_eq_false (fun z => by omega))⟩) (fun d => ⟨nZ_1, q1 (decide_eq_true ⟨by omega, by omega⟩)⟩))
theorem r_nm1 (hw : gL w) (h : RZ N w a) (ht : t < 370) (lt : Bool) {m : Int32} (hm : m = 0 ∨ m = 1 ∨ m = 2) (e9 : rA N 9 t = m) {Q : RM → Prop}
    (q1 : ∀ i m' l e, zWd w (zNm1 w lt m a) = .inr (i, m', l, e) → ∀ N', zK (cN t) N N' → RZ N' w e → nmd N' t i m' l → Q N')
    (q0 : ∀ f, zWd w (zNm1 w lt m a) = .inl f → ∀ N', zK (cN t) N N' → FZ N' f → Q N') : fm_readName_b72 Q (nI t) (bI lt) N := by
  have it := vp_in_nI (n := t) (N := 370) ht (by omega)
  have wm : ∀ f i, cW t f i → cN t f i := fun f i z => Or.inr z
  unfold fm_readName_b72
  rw [h.1]
  refine ⟨fun _ => r_typeHere hw h (fun N1 k1 x1 => ⟨it, nm_e ⟨it, nm_e ⟨it, ?_⟩⟩⟩), fun z => absurd rfl z⟩
  rw [nI_clamp (by omega)]
  obtain ⟨N2, hN2⟩ : ∃ N2, N2 = wA (wA N1 8 t (nmI (nmO (zC w a)))) 11 t 0 := ⟨_, rfl⟩
  rw [← hN2]
  have k2 : zK (cN t) N N2 := by
    rw [hN2]
    exact zK_tr (zK_o k1) (zK_tr (zK_A _ _ (Or.inl ⟨Or.inl rfl, rfl⟩)) (zK_A _ _ (Or.inr (Or.inl ⟨rfl, rfl⟩))))
  have x2 : RX N2 w a := by rw [hN2]; exact RX_A _ (by decide) (RX_A _ (by decide) x1)
  have e8 : rA N2 8 t = nmI (nmO (zC w a)) := by rw [hN2, rA_wA, if_neg (fun z => absurd z.1 (by decide)), rA_wA, if_pos ⟨rfl, rfl⟩]
  have e92 : rA N2 9 t = m := by rw [hN2, rA_wA, if_neg (fun z => absurd z.1 (by decide)), rA_wA, if_neg (fun z => absurd z.1 (by decide)), k1.2.1 9 t (fun z => z)]; exact e9
  have ze := zE_c (w := w) h.2.2.1
  have ze2 := zE_le h.2.2.1
  have bad : zNm1 w lt m a = .inl (zst w a) → fm_readName_b144 Q N2 := by
    intro z
    rw [z] at q0
    unfold fm_readName_b144
    rw [x2.2.2.2]
    exact r_wrong x2 (fun N3 k3 f3 => q0 _ rfl N3 (zK_tr k2 (zK_o k3)) f3)
  rw [e8]
  cases eo : nmO (zC w a) with
  | none =>
    have e := bad (by unfold zNm1; rw [eo])
    exact ⟨fun _ => e, fun z => absurd (by decide : (-1 : Int32) < 0) z⟩
  | some i =>
    have hi := nmO_lt eo
    have ok : ¬ ((m ≠ 0 ∧ bnd i = false) ∨ (i = 9 ∧ lt = false)) → fm_readName_b153 Q (nI t) N2 := by
      intro c
      have ez : zNm1 w lt m a = .inr (i, m, zE w a) := by unfold zNm1; rw [eo]; exact if_neg c
      rw [ez] at q1 q0
      have m9 : i = 9 → m = 0 := fun y => by
        apply Decidable.byContradiction
        intro d
        exact c (Or.inl ⟨d, by rw [y]; rfl⟩)
      unfold fm_readName_b153 fm_readName_b177
      refine r_wordEnd hw (RX_Z x2) (fun N3 k3 x3 => nm_e ⟨it, ?_⟩)
      have z4 : RZ (wI N3 26 (nI (zst w a + (zE w a - a)))) w (zE w a) := ⟨x3.1, zLP_I _ (by decide) x3.2.1, ze2.2, _, rfl, ze.2.1, ze.2.2.1⟩
      obtain ⟨N4, hN4⟩ : ∃ N4, N4 = wI N3 26 (nI (zst w a + (zE w a - a))) := ⟨_, rfl⟩
      rw [← hN4] at z4 ⊢
      have k4 : zK cO N2 N4 := by rw [hN4]; exact zK_tr k3 (zK_I _ _ (Or.inl rfl))
      have e84 : rA N4 8 t = nI i := by rw [k4.2.1 8 t (fun z => z), e8, eo]; rfl
      have e94 : rA N4 9 t = m := by rw [k4.2.1 9 t (fun z => z), e92]
      rw [nI_clamp (by omega), e84]
      refine ⟨fun d => ?_, fun d => ?_⟩
      · have n8 : i ≠ 8 := fun y => d (by rw [y]; rfl)
        refine q1 i m [] (zE w a) ?_ N4 (zK_tr k2 (zK_o k4)) z4 ⟨hi, m9, e84, e94, Or.inl ⟨n8, rfl⟩⟩
        unfold zWd
        dsimp only
        rw [if_neg n8]
      · have y8 : i = 8 := (nI_eq (b := 8) (by omega) (by omega)).mp d
        refine r_readWords hw z4 ht (fun l e el N5 Ls k5 z5 el2 l1 l5 e11 ew => ?_) (fun f ef N5 k5 f5 => ?_)
        · have n8 : ∀ {f}, f = 8 ∨ f = 9 → ¬ cW t f t := fun o z => by rcases z with z | z <;> omega
          refine q1 i m l e ?_ N5 (zK_tr (zK_tr k2 (zK_o k4)) (zK_mo wm k5)) z5 ⟨hi, m9, by rw [k5.2.1 8 t (n8 (Or.inl rfl)), e84], by rw [k5.2.1 9 t (n8 (Or.inr rfl)), e94], Or.inr ⟨y8, Ls, l1, l5, e11, el2, ew⟩⟩
          unfold zWd
          dsimp only
          rw [if_pos y8, el]
        · refine q0 f ?_ N5 (zK_tr (zK_tr k2 (zK_o k4)) (zK_mo wm k5)) f5
          unfold zWd
          dsimp only
          rw [if_pos y8, ef]
    have bd : ((m ≠ 0 ∧ bnd i = false) ∨ (i = 9 ∧ lt = false)) → fm_readName_b144 Q N2 := fun c => bad (by unfold zNm1; rw [eo]; exact if_pos c)
    have two : (i = 9 → lt = true) → fm_readName_b121 Q (nI t) N2 := by
      intro y
      unfold fm_readName_b121
      rw [nI_clamp (by omega), e92, e8, eo]
      refine ⟨it, fun z => ok (fun c => ?_), fun z => ⟨it, r_isIn14 hi (fun b => ⟨fun _ => ok (fun c => ?_), fun z => absurd z (by decide)⟩) (fun b => ⟨fun z => absurd rfl z, fun _ => bd (Or.inl ⟨fun y => z (by rw [y]; decide), b⟩)⟩)⟩⟩
      · rcases c with c | c
        · rcases hm with hm | hm | hm
          · exact c.1 hm
          · rw [hm] at z; exact absurd z (by decide)
          · rw [hm] at z; exact absurd z (by decide)
        · rw [y c.1] at c; exact absurd c.2 (by decide)
      · rcases c with c | c
        · rw [b] at c; exact absurd c.2 (by decide)
        · rw [y c.1] at c; exact absurd c.2 (by decide)
    show (nI i < 0 → _) ∧ (¬ nI i < 0 → _)
    refine br_f (nI_pos (by omega)) ⟨it, ?_⟩
    show (¬ nI i = 9 → _) ∧ (nI i = 9 → _)
    refine ⟨fun d => two (fun y => absurd (by rw [y]; rfl) d), fun d => ?_⟩
    have y9 : i = 9 := (nI_eq (b := 9) (by omega) (by omega)).mp d
    cases lt with
    | true => exact ⟨fun z => absurd z (by decide), fun _ => two (fun _ => rfl)⟩
    | false => exact ⟨fun _ => bd (Or.inr ⟨y9, rfl⟩), fun z => absurd rfl z⟩
theorem r_nm1F {f : Nat} (h : FZ N f) (lt : Int32) {Q : RM → Prop} (q : Q N) : fm_readName_b72 Q (nI t) lt N := by
  unfold fm_readName_b72
  rw [h.1]
  exact ⟨fun z => absurd z (by decide), fun _ => q⟩
theorem r_readName (hw : gL w) (h : RZ N w a) (ht : t < 370) (lt : Bool) {Q : RM → Prop}
    (q1 : ∀ i m' l e, zWd w (zNm w lt a) = .inr (i, m', l, e) → ∀ N', zK (cN t) N N' → RZ N' w e → nmd N' t i m' l → Q N')
    (q0 : ∀ f, zWd w (zNm w lt a) = .inl f → ∀ N', zK (cN t) N N' → FZ N' f → Q N') : fm_readName (nI t) (bI lt) N Q := by
  have it := vp_in_nI (n := t) (N := 370) ht (by omega)
  have c9 : cN t 9 t := Or.inl ⟨Or.inr rfl, rfl⟩
  unfold fm_readName
  refine ⟨it, nm_e ?_⟩
  rw [nI_clamp (by omega)]
  have h1 := RZ_A (f := 9) (i := t) 0 (by decide) h
  have k1 : zK (cN t) N (wA N 9 t 0) := zK_A _ _ c9
  have e1 : rA (wA N 9 t 0) 9 t = 0 := by rw [rA_wA, if_pos ⟨rfl, rfl⟩]
  have mode : ∀ (m : Int32) N2 b, (m = 1 ∨ m = 2) → zK (cN t) N N2 → RZ N2 w b → (zsg w b = 93 → zNm w lt a = zNm1 w lt m (b + 1)) → (zsg w b ≠ 93 → zNm w lt a = .inl (zst w b)) → fm_readName_b48 Q (nI t) (bI lt) m (nI t) N2 := by
    intro m N2 b hm k2 z2 y1 y0
    unfold fm_readName_b48 fm_readName_b66
    refine ⟨it, nm_e ⟨it, ?_⟩⟩
    rw [nI_clamp (by omega), rA_wA, if_pos ⟨rfl, rfl⟩]
    refine ⟨fun _ => ?_, fun z => by rcases hm with y | y <;> rw [y] at z <;> exact absurd z (by decide)⟩
    refine r_want hw (RZ_A (f := 9) (i := t) m (by decide) z2) 93 (by decide) (fun e N3 k3 z3 => ?_) (fun e N3 k3 f3 => r_nm1F f3 _ (q0 _ (by rw [y0 e]; rfl) N3 (zK_tr k2 (zK_tr (zK_A _ _ c9) (zK_o k3))) f3))
    have kk := zK_tr k2 (zK_tr (zK_A (f := 9) (i := t) N2 m c9) (zK_o k3))
    rw [y1 e] at q1 q0
    refine r_nm1 hw z3 ht lt (Or.inr hm) ?_ (fun i m' l e el N4 k4 => q1 i m' l e el N4 (zK_tr kk k4)) (fun f ef N4 k4 => q0 f ef N4 (zK_tr kk k4))
    rw [k3.2.1 9 t (fun z => z), rA_wA, if_pos ⟨rfl, rfl⟩]
  refine r_takesZ hw h1 91 (by decide) (fun e N2 k2 z2 => ⟨fun z => absurd z (by decide), fun _ => ?_⟩) (fun e N2 k2 x2 => ⟨fun _ => ?_, fun z => absurd rfl z⟩)
  · refine r_takesZ hw z2 67 (by decide) (fun e2 N3 k3 z3 => ⟨fun z => absurd z (by decide), fun _ => ?_⟩) (fun e2 N3 k3 x3 => ⟨fun _ => ?_, fun z => absurd rfl z⟩)
    · refine mode 1 N3 (a + 2) (Or.inl rfl) (zK_tr k1 (zK_o (zK_tr k2 k3))) z3 (fun y => ?_) (fun y => ?_)
      · unfold zNm zPre; rw [if_pos e, e2, if_pos rfl, if_neg (by decide), if_pos y]
      · unfold zNm zPre; rw [if_pos e, e2, if_pos rfl, if_neg (by decide), if_neg y]
    · refine r_takesZ hw (RX_Z x3) 69 (by decide) (fun e3 N4 k4 z4 => ⟨fun z => absurd z (by decide), fun _ => ?_⟩) (fun e3 N4 k4 x4 => ⟨fun _ => ?_, fun z => absurd rfl z⟩)
      · refine mode 2 N4 (a + 2) (Or.inr rfl) (zK_tr k1 (zK_o (zK_tr k2 (zK_tr k3 k4)))) z4 (fun y => ?_) (fun y => ?_)
        · unfold zNm zPre; rw [if_pos e, if_neg e2, if_pos e3, if_neg (by decide), if_pos y]
        · unfold zNm zPre; rw [if_pos e, if_neg e2, if_pos e3, if_neg (by decide), if_neg y]
      · have ez : zNm w lt a = .inl (zst w (a + 1)) := by unfold zNm zPre; rw [if_pos e, if_neg e2, if_neg e3, if_pos rfl]
        rw [ez] at q0
        unfold fm_readName_b48 fm_readName_b66
        refine ⟨it, nm_e ⟨it, ?_⟩⟩
        rw [nI_clamp (by omega), rA_wA, if_pos ⟨rfl, rfl⟩]
        have x5 := RX_A (f := 9) (i := t) 0 (by decide) x4
        have k5 := zK_tr k1 (zK_tr (zK_o (zK_tr k2 (zK_tr k3 k4))) (zK_A (f := 9) (i := t) N4 0 c9))
        rw [x5.2.2.2]
        exact ⟨fun z => absurd rfl z, fun _ => r_wrong x5 (fun N6 k6 f6 => r_wantF f6 93 (fun N7 k7 f7 => r_nm1F f7 _ (q0 _ rfl N7 (zK_tr k5 (zK_o (zK_tr k6 k7))) f7)))⟩
  · have ez : zNm w lt a = zNm1 w lt 0 a := by unfold zNm zPre; rw [if_neg e]
    rw [ez] at q1 q0
    have kk : zK (cN t) N N2 := zK_tr k1 (zK_o k2)
    exact r_nm1 hw (RX_Z x2) ht lt (Or.inl rfl) (by rw [k2.2.1 9 t (fun z => z), e1]) (fun i m' l e el N4 k4 => q1 i m' l e el N4 (zK_tr kk k4)) (fun f ef N4 k4 => q0 f ef N4 (zK_tr kk k4))
theorem r_readNameF {f : Nat} (h : FZ N f) (ht : t < 370) (lt : Int32) {Q : RM → Prop} (q : ∀ N', zK (cN t) N N' → FZ N' f → Q N') : fm_readName (nI t) lt N Q := by
  have it := vp_in_nI (n := t) (N := 370) ht (by omega)
  unfold fm_readName
  refine ⟨it, nm_e ?_⟩
  rw [nI_clamp (by omega)]
  exact r_takesF (FZ_A 0 h) 91 ⟨fun _ => r_nm1F (FZ_A 0 h) _ (q _ (zK_A _ _ (Or.inl ⟨Or.inr rfl, rfl⟩)) h), fun z => absurd rfl z⟩
theorem r_readMark (hw : gL w) (h : RZ N w a) (ht : t < 370) {i : Nat} {m : Int32} {l : List Int64} (hn : nmd N t i m l) {Q : RM → Prop}
    (q : ∀ N', zK (cM t) N N' → RZ N' w (zMk w i m l a).2 → rTy N' t (zMk w i m l a).1 → Q N') : fm_readMark (nI t) N Q := by
  have it := vp_in_nI (n := t) (N := 370) ht (by omega)
  obtain ⟨hi, -, e8, e9, hl⟩ := hn
  have fin : ∀ (b : Bool) N2, zK cO N N2 → rTy (wA N2 10 t (vp_nar .boolean (bI b))) t (i, m, b, if i = 8 then pad l else []) := by
    intro b N2 k2
    have vb : vp_nar .boolean (bI b) = bI b := by cases b <;> rfl
    have up : ∀ f x, f ≠ 10 → rA (wA N2 10 t (vp_nar .boolean (bI b))) f x = rA N f x := fun f x n => by rw [rA_wA, if_neg (fun z => n z.1), k2.2.1 f x (fun z => z)]
    refine ⟨hi, by rw [up 8 t (by decide)]; exact e8, by rw [up 9 t (by decide)]; exact e9, by rw [rA_wA, if_pos ⟨rfl, rfl⟩, vb], ?_⟩
    rcases hl with hl | ⟨y8, Ls, l1, l5, e11, el, ew⟩
    · exact Or.inl ⟨hl.1, if_neg hl.1⟩
    · refine Or.inr ⟨y8, Ls, l1, l5, by rw [up 11 t (by decide)]; exact e11, ?_, fun j hj => ⟨(ew j hj).1, (ew j hj).2.1, (ew j hj).2.2.1, fun x hx => by rw [up 12 _ (by decide)]; exact (ew j hj).2.2.2 x hx⟩⟩
      show (if i = 8 then pad l else []) = _
      rw [if_pos y8, el]
  unfold fm_readMark fm_readMark_b36 fm_readMark_b37
  rw [h.1, nI_clamp (by omega), e8]
  refine ⟨fun z => absurd rfl z, fun _ => ⟨it, fun d => ⟨it, nm_e ?_⟩, fun d => r_takesZ hw h 63 (by decide) (fun e N2 k2 z2 => ⟨fun z => absurd z (by decide), fun _ => ⟨it, nm_e ?_⟩⟩) (fun e N2 k2 x2 => ⟨fun _ => ⟨it, nm_e ?_⟩, fun z => absurd rfl z⟩)⟩⟩
  · have y7 : i = 7 := (nI_eq (b := 7) (by omega) (by omega)).mp d
    have ez : zMk w i m l a = ((i, m, false, if i = 8 then pad l else []), a) := by unfold zMk; rw [if_neg (fun z => z.1 y7)]
    rw [ez] at q
    exact q _ (zK_A _ _ ⟨rfl, rfl⟩) (RZ_A _ (by decide) h) (fin false N (zK_rf _ N))
  · have n7 : i ≠ 7 := fun y => d (by rw [y]; rfl)
    have ez : zMk w i m l a = ((i, m, true, if i = 8 then pad l else []), a + 1) := by unfold zMk; rw [if_pos ⟨n7, e⟩]
    rw [ez] at q
    exact q _ (zK_tr (zK_o k2) (zK_A _ _ ⟨rfl, rfl⟩)) (RZ_A _ (by decide) z2) (fin true N2 k2)
  · have ez : zMk w i m l a = ((i, m, false, if i = 8 then pad l else []), a) := by unfold zMk; rw [if_neg (fun z => e z.2)]
    rw [ez] at q
    exact q _ (zK_tr (zK_o k2) (zK_A _ _ ⟨rfl, rfl⟩)) (RZ_A _ (by decide) (RX_Z x2)) (fin false N2 k2)
theorem r_readMarkF {f : Nat} (h : FZ N f) (ht : t < 370) {Q : RM → Prop} (q : ∀ N', zK (cM t) N N' → FZ N' f → Q N') : fm_readMark (nI t) N Q := by
  have it := vp_in_nI (n := t) (N := 370) ht (by omega)
  unfold fm_readMark fm_readMark_b36 fm_readMark_b37
  rw [h.1]
  refine ⟨fun _ => ⟨it, nm_e ?_⟩, fun z => absurd z (by decide)⟩
  rw [nI_clamp (by omega)]
  exact q _ (zK_A _ _ ⟨rfl, rfl⟩) h
end RDN
