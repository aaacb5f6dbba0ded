/-! the reference's reader: an argument -/
def cA (s : Nat) : Nat → Nat → Prop := fun f i => ((f = 6 ∨ f = 7) ∧ i = s) ∨ ((8 ≤ f ∧ f ≤ 11) ∧ (i = 2 * s ∨ i = 2 * s + 1)) ∨ (f = 12 ∧ 80 * s ≤ i ∧ i < 80 * s + 80)
theorem cN_A0 (s : Nat) : ∀ f i, cN (2 * s) f i → cA s f i := by
  intro f i z
  rcases z with z | z | z
  · exact Or.inr (Or.inl ⟨by omega, Or.inl z.2⟩)
  · exact Or.inr (Or.inl ⟨by omega, Or.inl z.2⟩)
  · exact Or.inr (Or.inr ⟨z.1, by omega, by omega⟩)
theorem cN_A1 (s : Nat) : ∀ f i, cN (2 * s + 1) f i → cA s f i := by
  intro f i z
  rcases z with z | z | z
  · exact Or.inr (Or.inl ⟨by omega, Or.inr z.2⟩)
  · exact Or.inr (Or.inl ⟨by omega, Or.inr z.2⟩)
  · exact Or.inr (Or.inr ⟨z.1, by omega, by omega⟩)
theorem cM_A0 (s : Nat) : ∀ f i, cM (2 * s) f i → cA s f i := fun f i z => Or.inr (Or.inl ⟨by have := z.1; omega, Or.inl z.2⟩)
theorem cM_A1 (s : Nat) : ∀ f i, cM (2 * s + 1) f i → cA s f i := fun f i z => Or.inr (Or.inl ⟨by have := z.1; omega, Or.inr z.2⟩)
theorem zK_rTy {S : Nat → Nat → Prop} {N N' : RM} {t : Nat} {τ : Ty} (k : zK S N N') (hS : ∀ f, 8 ≤ f → f ≤ 11 → ¬ S f t) (hW : ∀ i, 40 * t ≤ i → i < 40 * t + 40 → ¬ S 12 i) (h : rTy N t τ) : rTy N' t τ := by
  obtain ⟨a, b, c, d, e⟩ := h
  refine ⟨a, by rw [k.2.1 8 t (hS 8 (by omega) (by omega))]; exact b, by rw [k.2.1 9 t (hS 9 (by omega) (by omega))]; exact c, by rw [k.2.1 10 t (hS 10 (by omega) (by omega))]; exact d, e.imp id (fun ⟨x, Ls, l1, l5, y, z, v⟩ => ⟨x, Ls, l1, l5, by rw [k.2.1 11 t (hS 11 (by omega) (by omega))]; exact y, z, fun j hj => zK_rWd k (fun i u v => hW i (by omega) (by omega)) (v j hj)⟩)⟩
theorem zK_nmd {S : Nat → Nat → Prop} {N N' : RM} {t i : Nat} {m : Int32} {l : List Int64} (k : zK S N N') (hS : ∀ f, 8 ≤ f → f ≤ 11 → f ≠ 10 → ¬ S f t) (hW : ∀ i, 40 * t ≤ i → i < 40 * t + 40 → ¬ S 12 i) (h : nmd N t i m l) : nmd N' t i m l := by
  obtain ⟨a, a', b, c, e⟩ := h
  refine ⟨a, a', by rw [k.2.1 8 t (hS 8 (by omega) (by omega) (by omega))]; exact b, by rw [k.2.1 9 t (hS 9 (by omega) (by omega) (by omega))]; exact c, e.imp id (fun ⟨x, Ls, l1, l5, y, z, v⟩ => ⟨x, Ls, l1, l5, by rw [k.2.1 11 t (hS 11 (by omega) (by omega) (by omega))]; exact y, z, fun j hj => zK_rWd k (fun i u v => hW i (by omega) (by omega)) (v j hj)⟩)⟩
section ZTY
variable {w : List Int32} {a : Nat}
theorem zWd_r {p : Nat × Int32 × Nat} {i : Nat} {m : Int32} {l : List Int64} {e : Nat} (h : zWd w (.inr p) = .inr (i, m, l, e)) : p.1 = i ∧ p.2.1 = m ∧ (if i = 8 then zWords w p.2.2 else .inr ([], p.2.2) : Nat ⊕ (List Int64 × Nat)) = .inr (l, e) := by
  unfold zWd at h
  dsimp only at h
  split at h
  · cases h
  · rename_i q hq
    injection h with h
    injection h with h1 h2
    injection h2 with h2 h3
    injection h3 with h3 h4
    refine ⟨h1, h2, ?_⟩
    rw [← h1, hq, ← h3, ← h4]
theorem zRest_r {i : Nat} {m : Int32} {e0 : Nat} {l : List Int64} {e : Nat} (h : (if i = 8 then zWords w e0 else .inr ([], e0) : Nat ⊕ (List Int64 × Nat)) = .inr (l, e)) : zRest w i m e0 = .inr (zMk w i m l e) := by
  unfold zRest zMk
  rw [h]
  dsimp only
  split <;> rfl
theorem zRest_f {i : Nat} {m : Int32} {e0 f : Nat} (h : (if i = 8 then zWords w e0 else .inr ([], e0) : Nat ⊕ (List Int64 × Nat)) = .inl f) : zRest w i m e0 = .inl f := by
  unfold zRest; rw [h]
theorem zWd_f {p : Nat × Int32 × Nat} {f : Nat} (h : zWd w (.inr p) = .inl f) : (if p.1 = 8 then zWords w p.2.2 else .inr ([], p.2.2) : Nat ⊕ (List Int64 × Nat)) = .inl f := by
  unfold zWd at h
  dsimp only at h
  split at h
  · rename_i q hq; injection h with h; rw [hq, h]
  · cases h
theorem zTy_f {f : Nat} (h : zWd w (zNm w true a) = .inl f) : zTy w a = .inl f := by
  unfold zTy
  cases e : zNm w true a with
  | inl g => rw [e] at h; injection h with h; rw [h]
  | inr p =>
    rw [e] at h
    have q := zWd_f h
    have n9 : p.1 ≠ 9 := fun z => by rw [if_neg (by omega)] at q; cases q
    dsimp only
    rw [if_neg n9]
    unfold zTail
    rw [zRest_f q]
theorem zTy_n {i : Nat} {m : Int32} {l : List Int64} {e : Nat} (h : zWd w (zNm w true a) = .inr (i, m, l, e)) (n9 : i ≠ 9) : zTy w a = .inr ((zMk w i m l e).1, none, (zMk w i m l e).2) := by
  unfold zTy
  cases ez : zNm w true a with
  | inl g => rw [ez] at h; cases h
  | inr p =>
    rw [ez] at h
    obtain ⟨h1, h2, h3⟩ := zWd_r h
    dsimp only
    rw [h1, h2, if_neg n9]
    unfold zTail
    rw [zRest_r h3]
    unfold zEnd
    exact if_neg (by decide)
theorem zTy_l {m : Int32} {l : List Int64} {e : Nat} (h : zWd w (zNm w true a) = .inr (9, m, l, e)) : l = [] ∧ zTy w a = if zsg w e = 60 then (match zNm w false (e + 1) with
    | .inl f => .inl f
    | .inr q => zTail w true q.1 q.2.1 q.2.2) else .inl (zst w e) := by
  unfold zTy
  cases ez : zNm w true a with
  | inl g => rw [ez] at h; cases h
  | inr p =>
    rw [ez] at h
    obtain ⟨h1, h2, h3⟩ := zWd_r h
    rw [if_neg (by decide)] at h3
    injection h3 with h3
    injection h3 with h3 h4
    refine ⟨h3.symm, ?_⟩
    dsimp only
    rw [h1, if_pos rfl, h4]
    rfl
theorem zIn_f {f b : Nat} (h : zWd w (zNm w false b) = .inl f) : (match zNm w false b with
    | .inl f => .inl f
    | .inr q => zTail w true q.1 q.2.1 q.2.2 : Nat ⊕ (Ty × Option Ty × Nat)) = .inl f := by
  cases e : zNm w false b with
  | inl g => rw [e] at h; injection h with h; rw [h]
  | inr p =>
    rw [e] at h
    dsimp only
    unfold zTail
    rw [zRest_f (zWd_f h)]
theorem zIn_r {b j : Nat} {m : Int32} {l : List Int64} {e : Nat} (h : zWd w (zNm w false b) = .inr (j, m, l, e)) : j ≠ 9 ∧ (match zNm w false b with
    | .inl f => .inl f
    | .inr q => zTail w true q.1 q.2.1 q.2.2 : Nat ⊕ (Ty × Option Ty × Nat)) = zEnd w true (zMk w j m l e).1 (zMk w j m l e).2 := by
  cases ez : zNm w false b with
  | inl g => rw [ez] at h; cases h
  | inr p =>
    rw [ez] at h
    obtain ⟨h1, h2, h3⟩ := zWd_r h
    refine ⟨fun z => ?_, ?_⟩
    · unfold zNm at ez
      split at ez
      · cases ez
      · unfold zNm1 at ez
        split at ez
        · cases ez
        · split at ez
          · cases ez
          · rename_i hc
            injection ez with ez
            rw [← ez] at h1
            exact hc (Or.inr ⟨h1.trans z, rfl⟩)
    · dsimp only
      rw [h1, h2]
      unfold zTail
      rw [zRest_r h3]
def zAr3 (w : List Int32) (opt : Bool) (a : Nat) : Nat ⊕ (Ag × Nat) :=
  match zTy w a with
  | .inl f => .inl f
  | .inr p => match zDots w opt p.2.2 with
    | .inl f => .inl f
    | .inr q => .inr ((opt, q.1, p.1, p.2.1), q.2)
theorem zAr_f {b : Bool} {f : Nat} (h : zAr3 w (zOpt w a) (if zOpt w a = true then zE w a else a) = .inl f) : zAr w b a = .inl f := by
  unfold zAr zAr2
  unfold zAr3 at h
  split at h
  · rename_i g e; injection h with h; rw [e, h]
  · rename_i p e
    rw [e]
    dsimp only
    split at h
    · rename_i g e2; injection h with h; rw [e2, h]
    · cases h
theorem zAr_r {b : Bool} {g : Ag} {e : Nat} (h : zAr3 w (zOpt w a) (if zOpt w a = true then zE w a else a) = .inr (g, e)) : zAr w b a = if b = true ∧ g.1 = false ∧ g.2.1 = false then .inl (zst w e) else .inr (g, e) := by
  unfold zAr zAr2
  unfold zAr3 at h
  split at h
  · cases h
  · rename_i p ep
    rw [ep]
    dsimp only
    split at h
    · cases h
    · rename_i q eq
      rw [eq]
      injection h with h
      injection h with h1 h2
      dsimp only
      rw [← h1, ← h2]
end ZTY
section RDA
variable {N : RM} {w : List Int32} {a s : Nat}
theorem r_b94 (hw : gL w) (h : RZ N w a) (hs : s < 185) {i : Nat} {m : Int32} {l : List Int64} (hn : nmd N (2 * s) i m l) {opt : Bool} (e6 : rA N 6 s = bI opt) (e7 : rA N 7 s = 0) {σ : Option Ty} (hσ : (σ = none ∧ i ≠ 9) ∨ ∃ σ', σ = some σ' ∧ i = 9 ∧ σ'.1 ≠ 9 ∧ rTy N (2 * s + 1) σ') {Q : RM → Prop}
    (q1 : ∀ q, zDots w opt (zMk w i m l a).2 = .inr q → ∀ N', zK (cA s) N N' → RZ N' w q.2 → rAg N' s (opt, q.1, (zMk w i m l a).1, σ) → Q N')
    (q0 : ∀ f, zDots w opt (zMk w i m l a).2 = .inl f → ∀ N', zK (cA s) N N' → FZ N' f → Q N') : fm_readArgument_b94 Q (nI s) (nI (2 * s)) N := by
  have i6 := vp_in_nI (n := s) (N := 185) hs (by omega)
  have t1 : (zMk w i m l a).1.1 = i := by unfold zMk; split <;> rfl
  unfold fm_readArgument_b94 fm_readArgument_b143
  refine r_readMark hw h (by omega) hn (fun N1 k1 z1 t => ?_)
  have kk := zK_mo (cM_A0 s) k1
  have f6 : rA N1 6 s = bI opt := by rw [k1.2.1 6 s (fun z => absurd z.1 (by decide))]; exact e6
  have f7 : rA N1 7 s = 0 := by rw [k1.2.1 7 s (fun z => absurd z.1 (by decide))]; exact e7
  have hσ1 : (σ = none ∧ (zMk w i m l a).1.1 ≠ 9) ∨ ∃ σ', σ = some σ' ∧ (zMk w i m l a).1.1 = 9 ∧ σ'.1 ≠ 9 ∧ rTy N1 (2 * s + 1) σ' := by
    rw [t1]
    exact hσ.imp id (fun ⟨x, b, c, d, e⟩ => ⟨x, b, c, d, zK_rTy k1 (fun f _ _ z => by have := z.2; omega) (fun i _ _ z => absurd z.1 (by decide)) e⟩)
  have ag : ∀ N2, zK cO N1 N2 → rAg N2 s (opt, false, (zMk w i m l a).1, σ) := by
    intro N2 k2
    exact ⟨by rw [k2.2.1 6 s (fun z => z)]; exact f6, by rw [k2.2.1 7 s (fun z => z)]; exact f7, zK_rTy k2 (fun _ _ _ z => z) (fun _ _ _ z => z) t, hσ1.imp id (fun ⟨x, b, c, d, e⟩ => ⟨x, b, c, d, zK_rTy k2 (fun _ _ _ z => z) (fun _ _ _ z => z) e⟩)⟩
  unfold zDots at q1 q0
  rw [z1.1, nI_clamp (by omega), f6]
  refine ⟨fun z => absurd rfl z, fun _ => ⟨i6, fun d => ?_, fun d => ?_⟩⟩
  · have o : opt = true := by cases opt with
      | true => rfl
      | false => exact absurd rfl d
    exact q1 (false, (zMk w i m l a).2) (if_neg (fun z => by rw [o] at z; exact absurd z.1 (by decide))) N1 kk z1 (ag N1 (zK_rf _ _))
  · have o : opt = false := bI_0.mp d
    refine r_takesZ hw z1 46 (by decide) (fun e N2 k2 z2 => ⟨fun z => absurd z (by decide), fun _ => ?_⟩) (fun e N2 k2 x2 => ⟨fun _ => ?_, fun z => absurd rfl z⟩)
    · rw [if_pos ⟨o, e⟩] at q1 q0
      refine r_want hw z2 46 (by decide) (fun e2 N3 k3 z3 => ?_) (fun e2 N3 k3 f3 => ?_)
      · rw [if_pos e2] at q1 q0
        refine r_want hw z3 46 (by decide) (fun e3 N4 k4 z4 => ⟨i6, nm_e ?_⟩) (fun e3 N4 k4 f4 => ⟨i6, nm_e ?_⟩)
        · rw [if_pos e3] at q1
          have k5 := zK_tr k2 (zK_tr k3 k4)
          have g := ag N4 k5
          have ky : zK (fun f i => f = 7 ∧ i = s) N4 (wA N4 7 s (vp_nar .boolean 1)) := zK_A _ _ ⟨rfl, rfl⟩
          refine q1 (true, (zMk w i m l a).2 + 3) rfl _ (zK_tr kk (zK_tr (zK_o k5) (zK_A _ _ (Or.inl ⟨Or.inr rfl, rfl⟩)))) (RZ_A _ (by decide) z4) ⟨by rw [rA_wA, if_neg (fun z => absurd z.1 (by decide))]; exact g.1, by rw [rA_wA, if_pos ⟨rfl, rfl⟩]; rfl, zK_rTy ky (fun f u v z => by have := z.1; omega) (fun i _ _ z => absurd z.1 (by decide)) g.2.2.1, ?_⟩
          exact g.2.2.2.imp id (fun ⟨x, b, c, d, e⟩ => ⟨x, b, c, d, zK_rTy ky (fun f u v z => by have := z.1; omega) (fun i _ _ z => absurd z.1 (by decide)) e⟩)
        · rw [if_neg e3] at q0
          exact q0 _ rfl _ (zK_tr kk (zK_tr (zK_o (zK_tr k2 (zK_tr k3 k4))) (zK_A _ _ (Or.inl ⟨Or.inr rfl, rfl⟩)))) f4
      · rw [if_neg e2] at q0
        refine r_wantF f3 46 (fun N4 k4 f4 => ⟨i6, nm_e ?_⟩)
        exact q0 _ rfl _ (zK_tr kk (zK_tr (zK_o (zK_tr k2 (zK_tr k3 k4))) (zK_A _ _ (Or.inl ⟨Or.inr rfl, rfl⟩)))) f4
    · exact q1 (false, (zMk w i m l a).2) (if_neg (fun z => e z.2)) N2 (zK_tr kk (zK_o k2)) (RZ_A (f := 1000) (i := 0) 0 (by decide) (RX_Z x2)) (ag N2 k2)
theorem r_b94F {f : Nat} (h : FZ N f) (hs : s < 185) {Q : RM → Prop} (q : ∀ N', zK (cA s) N N' → FZ N' f → Q N') : fm_readArgument_b94 Q (nI s) (nI (2 * s)) N := by
  unfold fm_readArgument_b94 fm_readArgument_b143
  refine r_readMarkF h (by omega) (fun N1 k1 f1 => ?_)
  rw [f1.1]
  exact ⟨fun _ => q N1 (zK_mo (cM_A0 s) k1) f1, fun z => absurd z (by decide)⟩
theorem r_b39 (hw : gL w) (h : RZ N w a) (hs : s < 185) {opt : Bool} (e6 : rA N 6 s = bI opt) (e7 : rA N 7 s = 0) {Q : RM → Prop}
    (q1 : ∀ g e, zAr3 w opt a = .inr (g, e) → ∀ N', zK (cA s) N N' → RZ N' w e → rAg N' s g → Q N')
    (q0 : ∀ f, zAr3 w opt a = .inl f → ∀ N', zK (cA s) N N' → FZ N' f → Q N') : fm_readArgument_b39 Q (nI s) N := by
  have i2 := vp_in_nI (n := 2 * s) (N := 370) (by omega) (by omega)
  have n6 : ∀ {f t}, f = 6 ∨ f = 7 → ¬ cN t f s := fun o z => by
    rcases z with z | z | z <;> omega
  unfold fm_readArgument_b39
  refine nm_r (m2 s) (r_readName hw h (by omega) true (fun i m l e ez N1 k1 z1 hn => ?_) (fun f ef N1 k1 f1 => ?_))
  · have g6 : rA N1 6 s = bI opt := (k1.2.1 6 s (n6 (Or.inl rfl))).trans e6
    have g7 : rA N1 7 s = 0 := (k1.2.1 7 s (n6 (Or.inr rfl))).trans e7
    have kk := zK_mo (cN_A0 s) k1
    rw [z1.1, nI_clamp (by omega), hn.2.2.1, nI_1]
    refine ⟨fun z => absurd rfl z, fun _ => ⟨i2, fun d => ?_, fun d => ?_⟩⟩
    · have n9 : i ≠ 9 := fun y => d (by rw [y]; rfl)
      have ey := zTy_n ez n9
      refine r_b94 hw z1 hs hn g6 g7 (Or.inl ⟨rfl, n9⟩) (fun q eq N2 k2 z2 g2 => q1 _ _ ?_ N2 (zK_tr kk k2) z2 g2) (fun f ef N2 k2 f2 => q0 f ?_ N2 (zK_tr kk k2) f2)
      · unfold zAr3; rw [ey]; dsimp only; rw [eq]
      · unfold zAr3; rw [ey]; dsimp only; rw [ef]
    · have hi := hn.1
      have y9 : i = 9 := (nI_eq (b := 9) (by omega) (by omega)).mp d
      subst y9
      have m0 := hn.2.1 rfl
      obtain ⟨l0, ey⟩ := zTy_l ez
      have bad : ∀ f, zTy w a = .inl f → zAr3 w opt a = .inl f := fun f e => by unfold zAr3; rw [e]
      have flt : ∀ f N2, zAr3 w opt a = .inl f → zK (cA s) N N2 → FZ N2 f → fm_want 62 N2 (fun M27 => fm_readArgument_b94 Q (nI s) (nI (2 * s)) M27) := fun f N2 ef k2 f2 => r_wantF f2 62 (fun N3 k3 f3 => r_b94F f3 hs (fun N4 k4 f4 => q0 f ef N4 (zK_tr k2 (zK_tr (zK_o k3) k4)) f4))
      refine r_want hw z1 60 (by decide) (fun e60 N2 k2 z2 => ?_) (fun e60 N2 k2 f2 => ?_)
      · rw [if_pos e60] at ey
        refine r_readName hw z2 (by omega) false (fun j m' l' e' ej N3 k3 z3 hn3 => ?_) (fun f ef N3 k3 f3 => ?_)
        · obtain ⟨nj, ei⟩ := zIn_r ej
          rw [ei] at ey
          refine r_readMark hw z3 (by omega) hn3 (fun N4 k4 z4 t4 => ?_)
          have kt : zK (cA s) N N4 := zK_tr kk (zK_tr (zK_o k2) (zK_tr (zK_mo (cN_A1 s) k3) (zK_mo (cM_A1 s) k4)))
          refine r_want hw z4 62 (by decide) (fun e62 N5 k5 z5 => ?_) (fun e62 N5 k5 f5 => ?_)
          · unfold zEnd at ey
            rw [if_pos rfl, if_pos e62] at ey
            have em : zMk w 9 m l ((zMk w j m' l' e').2 + 1) = if zsg w ((zMk w j m' l' e').2 + 1) = 63 then ((9, 0, true, []), (zMk w j m' l' e').2 + 1 + 1) else ((9, 0, false, []), (zMk w j m' l' e').2 + 1) := by
              unfold zMk
              rw [m0]
              by_cases c : zsg w ((if j ≠ 7 ∧ zsg w e' = 63 then ((j, m', true, if j = 8 then pad l' else []), e' + 1) else ((j, m', false, if j = 8 then pad l' else []), e')).2 + 1) = 63
              · rw [if_pos ⟨by decide, c⟩, if_pos c, if_neg (by decide)]
              · rw [if_neg (fun z => c z.2), if_neg c, if_neg (by decide)]
            have ey2 : zTy w a = .inr ((zMk w 9 m l ((zMk w j m' l' e').2 + 1)).1, some (zMk w j m' l' e').1, (zMk w 9 m l ((zMk w j m' l' e').2 + 1)).2) := by
              rw [ey, em]
              split <;> rfl
            have tj : (zMk w j m' l' e').1.1 = j := by unfold zMk; split <;> rfl
            have nn3 : ∀ f, 8 ≤ f → f ≤ 11 → f ≠ 10 → ¬ cN (2 * s + 1) f (2 * s) := fun f _ _ _ z => by rcases z with z | z | z <;> omega
            have hn5 : nmd N5 (2 * s) 9 m l := zK_nmd (zK_tr k4 (zK_o k5)) (fun f _ _ u z => u z.1) (fun i _ _ z => absurd z.1 (by decide)) (zK_nmd k3 nn3 (fun i u v z => by rcases z with z | z | z <;> omega) (zK_nmd k2 (fun _ _ _ _ z => z) (fun _ _ _ z => z) hn))
            have up : ∀ f, f = 6 ∨ f = 7 → rA N5 f s = rA N1 f s := fun f o => by
              rw [k5.2.1 f s (fun z => z), k4.2.1 f s (fun z => by have := z.1; omega), k3.2.1 f s (n6 o), k2.2.1 f s (fun z => z)]
            refine r_b94 hw z5 hs hn5 ((up 6 (Or.inl rfl)).trans g6) ((up 7 (Or.inr rfl)).trans g7) (σ := some (zMk w j m' l' e').1) (Or.inr ⟨_, rfl, rfl, by rw [tj]; exact nj, zK_rTy k5 (fun _ _ _ z => z) (fun _ _ _ z => z) t4⟩) (fun q eq N6 k6 z6 g6' => q1 _ _ ?_ N6 (zK_tr kt (zK_tr (zK_o k5) k6)) z6 g6') (fun f ef N6 k6 f6 => q0 f ?_ N6 (zK_tr kt (zK_tr (zK_o k5) k6)) f6)
            · unfold zAr3; rw [ey2]; dsimp only; rw [eq]
            · unfold zAr3; rw [ey2]; dsimp only; rw [ef]
          · unfold zEnd at ey
            rw [if_pos rfl, if_neg e62] at ey
            exact r_b94F f5 hs (fun N6 k6 f6 => q0 _ (bad _ ey) N6 (zK_tr kt (zK_tr (zK_o k5) k6)) f6)
        · rw [zIn_f ef] at ey
          have kt : zK (cA s) N N3 := zK_tr kk (zK_tr (zK_o k2) (zK_mo (cN_A1 s) k3))
          exact r_readMarkF f3 (by omega) (fun N4 k4 f4 => flt _ N4 (bad _ ey) (zK_tr kt (zK_mo (cM_A1 s) k4)) f4)
      · rw [if_neg e60] at ey
        exact r_readNameF f2 (by omega) 0 (fun N3 k3 f3 => r_readMarkF f3 (by omega) (fun N4 k4 f4 => flt _ N4 (bad _ ey) (zK_tr kk (zK_tr (zK_o k2) (zK_tr (zK_mo (cN_A1 s) k3) (zK_mo (cM_A1 s) k4)))) f4))
  · rw [f1.1]
    refine ⟨fun _ => r_b94F f1 hs (fun N2 k2 f2 => q0 f ?_ N2 (zK_tr (zK_mo (cN_A0 s) k1) k2) f2), fun z => absurd z (by decide)⟩
    unfold zAr3; rw [zTy_f ef]
theorem r_readArgument (hw : gL w) (h : RZ N w a) (hs : s < 185) {Q : RM → Prop}
    (q1 : ∀ g e, zAr3 w (zOpt w a) (if zOpt w a = true then zE w a else a) = .inr (g, e) → ∀ N', zK (cA s) N N' → RZ N' w e → rAg N' s g → Q N')
    (q0 : ∀ f, zAr3 w (zOpt w a) (if zOpt w a = true then zE w a else a) = .inl f → ∀ N', zK (cA s) N N' → FZ N' f → Q N') : fm_readArgument (nI s) N Q := by
  have i6 := vp_in_nI (n := s) (N := 185) hs (by omega)
  have p10 := pkd_all.2.2.2.2.2.2.2.2.2.2
  have ze := zE_c (w := w) h.2.2.1
  have ze2 := zE_le h.2.2.1
  unfold fm_readArgument
  refine ⟨i6, nm_e ⟨i6, nm_e ?_⟩⟩
  rw [nI_clamp (by omega)]
  obtain ⟨N1, hN1⟩ : ∃ N1, N1 = wA (wA N 6 s (vp_nar .boolean 0)) 7 s (vp_nar .boolean 0) := ⟨_, rfl⟩
  rw [← hN1]
  have k1 : zK (cA s) N N1 := by rw [hN1]; exact zK_tr (zK_A _ _ (Or.inl ⟨Or.inl rfl, rfl⟩)) (zK_A _ _ (Or.inl ⟨Or.inr rfl, rfl⟩))
  have z1 : RZ N1 w a := by rw [hN1]; exact RZ_A _ (by decide) (RZ_A _ (by decide) h)
  have e6 : rA N1 6 s = 0 := by rw [hN1, rA_wA, if_neg (fun z => absurd z.1 (by decide)), rA_wA, if_pos ⟨rfl, rfl⟩]; rfl
  have e7 : rA N1 7 s = 0 := by rw [hN1, rA_wA, if_pos ⟨rfl, rfl⟩]; rfl
  refine r_isWord hw z1 p10 (fun e N2 k2 x2 => ⟨fun z => absurd z (by decide), fun _ => ⟨i6, nm_e ?_⟩⟩) (fun e N2 k2 x2 => ⟨fun _ => ?_, fun z => absurd rfl z⟩)
  · have o : zOpt w a = true := decide_eq_true e
    rw [o, if_pos rfl] at q1 q0
    refine r_wordEnd hw (RZ_A (f := 6) _ (by decide) (RX_Z x2)) (fun N3 k3 x3 => nm_e ?_)
    have kk := zK_tr k1 (zK_tr (zK_o k2) (zK_tr (zK_A (f := 6) (i := s) N2 (vp_nar .boolean 1) (Or.inl ⟨Or.inl rfl, rfl⟩)) (zK_tr (zK_o k3) (zK_I N3 (nI (zst w a + (zE w a - a))) (Or.inl rfl)))))
    refine r_b39 (N := wI N3 26 (nI (zst w a + (zE w a - a)))) hw (a := zE w a) ⟨x3.1, zLP_I _ (by decide) x3.2.1, ze2.2, _, rfl, ze.2.1, ze.2.2.1⟩ hs (opt := true) ?_ ?_ (fun g e ez N4 k4 => q1 g e ez N4 (zK_tr kk k4)) (fun f ef N4 k4 => q0 f ef N4 (zK_tr kk k4))
    · rw [rA_wI, k3.2.1 6 s (fun z => z), rA_wA, if_pos ⟨rfl, rfl⟩]; rfl
    · rw [rA_wI, k3.2.1 7 s (fun z => z), rA_wA, if_neg (fun z => absurd z.1 (by decide)), k2.2.1 7 s (fun z => z)]; exact e7
  · have o : zOpt w a = false := decide_eq_false e
    rw [o, if_neg (by decide)] at q1 q0
    have kk := zK_tr k1 (zK_o k2)
    exact r_b39 hw (RX_Z x2) hs (opt := false) (by rw [k2.2.1 6 s (fun z => z)]; exact e6) (by rw [k2.2.1 7 s (fun z => z)]; exact e7) (fun g e ez N4 k4 => q1 g e ez N4 (zK_tr kk k4)) (fun f ef N4 k4 => q0 f ef N4 (zK_tr kk k4))
end RDA
