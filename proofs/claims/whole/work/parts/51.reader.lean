/-! the whole line read as a form -/
def zAs (w : List Int32) : Nat → Nat → List Ag → Bool → Nat ⊕ (List Ag × Nat)
  | 0, a, _, _ => .inl a
  | n + 1, a, acc, b => match zAr w b a with
    | .inl f => .inl f
    | .inr p => if p.1.2.1 = true ∨ n = 0 ∨ zsg w p.2 ≠ 44 then (if zsg w p.2 = 41 then .inr (acc ++ [p.1], p.2 + 1) else .inl (zst w p.2)) else zAs w n (p.2 + 1) (acc ++ [p.1]) (miss p.1)
def zArgs (w : List Int32) : Nat ⊕ (List Ag × Nat) := if zsg w 2 = 41 then .inr ([], 3) else zAs w 5 2 [] false
def zFin (w : List Int32) (r : Nat ⊕ (List Ag × Nat)) : Nat ⊕ List Ag :=
  match r with
  | .inl f => .inl f
  | .inr p => if p.2 = zcn w then .inr p.1 else .inl (zst w p.2)
def zFm (w : List Int32) : Nat ⊕ (Int32 × List Ag) := if zsg w 0 - 97 < 0 ∨ ¬ zsg w 0 - 97 < 6 then .inl (zst w 0) else if zsg w 1 = 40 then (match zFin w (zArgs w) with
    | .inl f => .inl f
    | .inr φ => .inr (zsg w 0 - 97, φ)) else .inl (zst w 1)
theorem snocA (l : List Ag) (c : Ag) (j : Nat) : (l ++ [c]).getD j dA = if j = l.length then c else l.getD j dA := by
  by_cases h : j = l.length
  · rw [if_pos h, h]; simp
  · rw [if_neg h]
    by_cases k : j < l.length
    · rw [List.getD_eq_getElem?_getD, List.getD_eq_getElem?_getD, List.getElem?_append_left k]
    · rw [List.getD_eq_getElem?_getD, List.getD_eq_getElem?_getD, List.getElem?_eq_none (by rw [List.length_append, List.length_singleton]; omega), List.getElem?_eq_none (by omega)]
theorem lastV_snoc (l : List Ag) (c : Ag) : lastV (l ++ [c]) = c.2.1 := by
  unfold lastV; rw [snocA, List.length_append, List.length_singleton, if_pos (by omega)]
section RDR
variable {nm : Nat → Nat} {T : LY} {M : CM} {hr rs rp a : Nat} {w : List Int32}
theorem RD_cg {M' M2 : CM} (c : ∀ c b, c ≠ 23 → c ≠ 24 → cI M2 c b = cI M' c b) (h1 : M2.2.2.2.1 = M'.2.2.2.1) (h2 : M2.2.2.2.2.1 = M'.2.2.2.2.1) (h : RD T M' hr rs rp w a) : RD T M2 hr rs rp w a := by
  obtain ⟨⟨a1, a2, a3, a4, a5, a6, a7⟩, a8, a9, a10, a11, a12⟩ := h
  have cr : ∀ f b, cR M2 f b = cR M' f b := fun f b => by show M2.2.2.2.1 f b = M'.2.2.2.1 f b; rw [h1]
  have xi : ∀ f b, xI M2 f b = xI M' f b := fun f b => by show M2.2.2.2.2.1 f b = M'.2.2.2.2.1 f b; rw [h2]
  exact ⟨⟨a1, (cr _ _).trans a2, a3, a4, (cr _ _).trans a5, a6, a7⟩, a8, (c _ _ (by decide) (by decide)).trans a9, (c _ _ (by decide) (by decide)).trans a10, ⟨(c _ _ (by decide) (by decide)).trans a11.1, a11.2⟩, fun j hj => by rw [xi, xi]; exact a12 j hj⟩
/-- an argument more -/
theorem s_X2_append {T' : LY} {M' : CM} {f r q : Nat} {φ : List Ag} {g : Ag} (x : xT hr T M T' M') (hf : tg T f = 0) (hrr : tg T r = 0) (h22 : cR M' 22 f = some r) (h : fmc nm T' M' f φ) (hl : φ.length < 5) (hq : arc nm T' M' q g) {Q : CM → Prop}
    (k : ∀ M2, xT hr T M T' M2 → (∀ c b, c ≠ 23 → c ≠ 24 → cI M2 c b = cI M' c b) → cR M2 22 f = some r → fmc nm T' M2 f (φ ++ [g]) → arc nm T' M2 q g → (∀ b i, b ≠ r → xR M2 b i = xR M' b i) → M2.2.1 = M'.2.1 ∧ M2.2.2.2.1 = M'.2.2.2.1 ∧ M2.2.2.2.2.1 = M'.2.2.2.2.1 ∧ M2.2.2.2.2.2.1 = M'.2.2.2.2.2.1 → Q M2) : fc_X2_append T' f (some q) M' Q := by
  obtain ⟨a1, a2, a3, a4, r', a5, a6, a7, a8⟩ := h
  have er : r' = r := Option.some.inj (a5.symm.trans h22)
  subst er
  unfold fc_X2_append fc_X2_append_b47
  rw [a3]
  refine ⟨a1, br_f (nI_pos (by omega)) ⟨r', a5, a6, ?_⟩⟩
  rw [a7]
  refine br_f (nI_ge (by omega) (by omega)) ⟨q, rfl, hq.1, vp_in_nI (by omega) (by omega), nm_e (nm_e ?_)⟩
  rw [nI_clamp (by omega)]
  have e23 : cI (yR M' r' φ.length (some q)) 23 f = nI φ.length := a3
  rw [e23, nI_1]
  have e2 : cI (sI (yR M' r' φ.length (some q)) 23 f (nI (φ.length + 1))) 2 q = bI g.2.1 := by rw [cI_sI, if_neg (fun z => by omega)]; exact hq.2.2.1
  rw [e2]
  have karc : ∀ {p : Nat} {g' : Ag}, arc nm T' M' p g' → arc nm T' (sI (sI (yR M' r' φ.length (some q)) 23 f (nI (φ.length + 1))) 24 f (bI g.2.1)) p g' := by
    intro p g' hp
    obtain ⟨b1, b2, b3, ta, b4, b5⟩ := hp
    have ci : ∀ c b, c ≠ 23 → c ≠ 24 → cI (sI (sI (yR M' r' φ.length (some q)) 23 f (nI (φ.length + 1))) 24 f (bI g.2.1)) c b = cI M' c b := fun c b n1 n2 => by rw [cI_sI, if_neg (fun z => n2 z.1), cI_sI, if_neg (fun z => n1 z.1)]; rfl
    have ty : ∀ {t : Nat} {τ : Ty} {e : Option Nat}, tyc nm T' M' t τ e → tyc nm T' (sI (sI (yR M' r' φ.length (some q)) 23 f (nI (φ.length + 1))) 24 f (bI g.2.1)) t τ e := by
      intro t τ e ht
      obtain ⟨c1, c2, c3, c4, c5, c6, c7⟩ := ht
      exact ⟨c1, c2, c3, (ci 91 t (by decide) (by decide)).trans c4, (ci 92 t (by decide) (by decide)).trans c5, c6, c7⟩
    refine ⟨b1, (ci 1 p (by decide) (by decide)).trans b2, (ci 2 p (by decide) (by decide)).trans b3, ta, b4, ?_⟩
    rcases b5 with ⟨d1, d2⟩ | ⟨e, s, d1, d2, d3⟩
    · exact Or.inl ⟨d1, ty d2⟩
    · exact Or.inr ⟨e, s, d1, ty d2, ty d3⟩
  refine ⟨bI_z _, nm_e (k _ (xT_sI (xT_sI (xT_yR x hrr _ _) hf _ _) hf _ _) (fun c b n1 n2 => by rw [cI_sI, if_neg (fun z => n2 z.1), cI_sI, if_neg (fun z => n1 z.1)]; rfl) h22 ⟨a1, ?_, ?_, ?_, r', a5, a6, a7, fun i hi => ?_⟩ (karc hq) (fun b i hb => by
    show xR (yR M' r' φ.length (some q)) b i = _
    rw [xR_yR, if_neg (fun z => hb z.1)]) ⟨rfl, rfl, rfl, rfl⟩)⟩
  · rw [List.length_append, List.length_singleton]; omega
  · rw [cI_sI, if_neg (fun z => by omega), cI_sI, if_pos ⟨rfl, rfl⟩, List.length_append]; rfl
  · rw [cI_sI, if_pos ⟨rfl, rfl⟩, lastV_snoc]
  · rw [List.length_append, List.length_singleton] at hi
    rw [snocA]
    show ∃ p, xR (yR M' r' φ.length (some q)) r' i = some p ∧ _
    rw [xR_yR]
    by_cases y : i = φ.length
    · rw [if_pos ⟨rfl, y⟩, if_pos y]; exact ⟨q, rfl, karc hq⟩
    · rw [if_neg (fun z => y z.2), if_neg y]
      obtain ⟨p, p1, p2⟩ := a8 i (by omega)
      exact ⟨p, p1, karc p2⟩
theorem s_b158 {f : Nat} {Q : Option Nat → LY → CM → Prop} {R : Nat ⊕ List Ag}
    (k1 : ∀ φ, R = .inr φ → ∀ T' M', xT hr T M T' M' → fmc nm T' M' f φ → cI M' 20 f = cI M 20 f → cI M' 21 f = cI M 21 f → Q (some f) T' M')
    (k0 : ∀ c, R = .inl c → ∀ T' M', xT hr T M T' M' → cI M' 66 hr = nI c → Q none T' M') : ∀ T2 N K K2 b φ, K ≤ 22 → K2 ≤ 105 → xT hr T M T2 N → RD T2 N hr rs rp w b → fmc nm T2 N f φ → cI N 20 f = cI M 20 f → cI N 21 f = cI M 21 f → zFin w (.inr (φ, b)) = R → fc_X6_readForm_b158 nm 22 105 hr Q f T2 N K K2 := by
    intro T2 N K K2 b φ hK hK2 x r hfm e20 e21 e
    have hl := zcn_le w
    have h8 := r.2.1
    have hb := r.2.2.2.2.1
    unfold zFin at e
    dsimp only at e
    unfold fc_X6_readForm_b158 fc_X6_readForm_b180 fc_X6_readForm_b185
    rw [hb.1, r.2.2.1]
    refine ⟨r.1.1, pk_eq b (zcn w) (fun c => ⟨hK, hK2, ?_⟩) (fun c => ⟨hK, hK2, s_fail66 r (by omega) (fun M3 q3 m3 => ⟨fun _ => ⟨hK, hK2, ?_⟩, fun z => absurd rfl z⟩)⟩)⟩
    · rw [if_pos c] at e
      exact k1 φ e.symm T2 N x hfm e20 e21
    · rw [if_neg c] at e
      exact k0 _ e.symm T2 M3 (xT_tr x (kR_xT T2 q3)) m3
/-- the arguments one by one, and what comes behind them -/
theorem s_formTail (hnm : ∀ i j, i < 10 → j < 10 → nm i = nm j → i = j) {f r : Nat} (hf : tg T f = 0) (hrr : tg T r = 0) (h7 : tg T hr = 7) {Q : Option Nat → LY → CM → Prop} {R : Nat ⊕ List Ag}
    (k1 : ∀ φ, R = .inr φ → ∀ T' M', xT hr T M T' M' → fmc nm T' M' f φ → cI M' 20 f = cI M 20 f → cI M' 21 f = cI M 21 f → Q (some f) T' M')
    (k0 : ∀ c, R = .inl c → ∀ T' M', xT hr T M T' M' → cI M' 66 hr = nI c → Q none T' M') : ∀ n i b (φ : List Ag) (pb : Bool) T2 N K K2, i + n = 6 → 1 ≤ n → n ≤ 5 → φ.length + 1 = i → K + 4 * n ≤ 22 → K2 + 18 * n ≤ 105 → xT hr T M T2 N → RD T2 N hr rs rp w b → fmc nm T2 N f φ → cR N 22 f = some r → cI N 20 f = cI M 20 f → cI N 21 f = cI M 21 f → (zFin w (zAs w n b φ pb)) = R → fc_X6_readForm_l71 nm 22 105 hr Q (n + 1) f 0 (bI pb) (nI i) T2 N K K2 := by
  have b158 := s_b158 (nm := nm) (rs := rs) (rp := rp) (w := w) (f := f) (Q := Q) (R := R) (T := T) (M := M) (hr := hr) k1 k0
  have b142 : ∀ T2 N K K2 b φ, K ≤ 22 → K2 ≤ 105 → xT hr T M T2 N → RD T2 N hr rs rp w b → fmc nm T2 N f φ → cI N 20 f = cI M 20 f → cI N 21 f = cI M 21 f → zFin w (if zsg w b = 41 then .inr (φ, b + 1) else .inl (zst w b)) = R → fc_X6_readForm_b142 nm 22 105 hr Q f 0 T2 N K K2 := by
    intro T2 N K K2 b φ hK hK2 x r hfm e20 e21 e
    unfold fc_X6_readForm_b142
    refine ⟨fun z => absurd rfl z, fun _ => ⟨r.1.1, hK, hK2, s_need r 41 (by decide) (fun e3 M3 q3 r3 m3 => ⟨fun _ => ?_, fun z => absurd z (by decide)⟩) (fun e3 M3 q3 r3 m3 => ⟨fun z => absurd rfl z, fun _ => ⟨hK, hK2, ?_⟩⟩)⟩⟩
    · rw [if_pos e3] at e
      have hne : f ≠ hr := fun z => by rw [z, h7] at hf; exact absurd hf (by decide)
      exact b158 T2 M3 K K2 (b + 1) φ hK hK2 (xT_tr x (kR_xT T2 q3)) r3 (xT_fmc (kR_xT T2 q3) hfm) ((q3.1 20 f (fun z => hne z.1)).trans e20) ((q3.1 21 f (fun z => hne z.1)).trans e21) e
    · rw [if_neg e3] at e
      exact k0 _ e.symm T2 M3 (xT_tr x (kR_xT T2 q3)) m3
  intro n
  induction n with
  | zero => intro i b φ pb T2 N K K2 _ h1; omega
  | succ n ih =>
    intro i b φ pb T2 N K K2 hi _ h5 hφ hK hK2 x r2 hfm h22 e20 e21 e
    have hne : f ≠ hr := fun z => by rw [z, h7] at hf; exact absurd hf (by decide)
    show fc_X6_readForm_c71 nm 22 105 hr Q (fc_X6_readForm_l71 nm 22 105 hr Q (n + 1)) _ _ _ _ _ _ _ _
    unfold zAs at e
    unfold fc_X6_readForm_c71
    refine ⟨fun c => absurd c (nI_nlt (b := i) (a := 5) (by omega) (by omega)), fun _ => ⟨fun z => absurd rfl z, fun _ => ⟨r2.1.1, 4, 18, by omega, by omega, s_readArgument hnm r2 pb (fun g e1 ee T3 M3 q x3 r3 a3 => ⟨fun _ => ?_, fun z => by cases z⟩) (fun c cc T3 M3 x3 m3 => ⟨fun z => absurd rfl z, fun _ => ⟨by omega, by omega, ?_⟩⟩)⟩⟩⟩
    rotate_left
    · rw [cc] at e
      exact k0 c e.symm T3 M3 (xT_tr x x3) m3
    rw [ee] at e
    dsimp only at e
    have x3' := xT_tr x x3
    have n2f : tg T2 f ≠ 0 := by rw [hfm.1]; decide
    have hfm3 := xT_fmc x3 hfm
    have h22' : cR M3 22 f = some r := (x3.2.2.2.2.1 _ _ n2f).trans h22
    refine ⟨hfm3.1, by omega, by omega, s_X2_append x3' hf hrr h22' hfm3 (by omega) a3 (fun M4 x4 c4 h22'' hfm4 a4 _ hM4 => ⟨q, rfl, a4.1, by omega, by omega, ?_⟩)⟩
    obtain ⟨-, hcR, hxI, -⟩ := hM4
    have r4 : RD T3 M4 hr rs rp w e1 := RD_cg c4 hcR hxI r3
    have e20' : cI M4 20 f = cI M 20 f := (c4 20 f (by decide) (by decide)).trans ((x3.2.1 20 f n2f (by omega)).trans e20)
    have e21' : cI M4 21 f = cI M 21 f := (c4 21 f (by decide) (by decide)).trans ((x3.2.1 21 f n2f (by omega)).trans e21)
    have stop : (g.2.1 = true ∨ n = 0 ∨ zsg w e1 ≠ 44) → fc_X6_readForm_b142 nm 22 105 hr Q f 0 T3 M4 (K + 4) (K2 + 18) := by
      intro c
      rw [if_pos c] at e
      exact b142 T3 M4 _ _ e1 (φ ++ [g]) (by omega) (by omega) x4 r4 hfm4 e20' e21' e
    have nxt : ∀ v, v = miss g → (cI M4 2 q = 0 → (nI i = 5 → fc_X6_readForm_b142 nm 22 105 hr Q f 0 T3 M4 (K + 4) (K2 + 18)) ∧ (¬ nI i = 5 → (tg T3 hr = 7 ∧ (K + 4 ≤ 22 ∧ (K2 + 18 ≤ 105 ∧ fc_X6_take T3 hr 44 M4 (fun (r43 : Int32) (M42 : CM) => ((¬ r43 = 0 → (∀ x48 : Int32, x48 = nI i + 1 → fc_X6_readForm_l71 nm 22 105 hr Q (n + 1) f 0 (bI v) x48 T3 M42 (K + 4) (K2 + 18))) ∧ (r43 = 0 → fc_X6_readForm_b142 nm 22 105 hr Q f 0 T3 M42 (K + 4) (K2 + 18))))))))) := by
      intro v ev c
      rw [a4.2.2.1, bI_0] at c
      refine ⟨fun d => stop (Or.inr (Or.inl ?_)), fun d => ⟨r4.1.1, by omega, by omega, s_rtake r4 44 (by decide) (fun e5 M5 q5 r5 m5 => ⟨fun _ => nm_e ?_, fun z => absurd z (by decide)⟩) (fun e5 => ⟨fun z => absurd rfl z, fun _ => stop (Or.inr (Or.inr e5))⟩)⟩⟩
      · have := (nI_eq (a := i) (b := 5) (by omega) (by decide)).mp d
        omega
      · have n0 : n ≠ 0 := fun z => d (by rw [show i = 5 by omega]; rfl)
        rw [if_neg (fun z => by rcases z with z | z | z; rw [c] at z; exact absurd z (by decide); exact n0 z; exact z e5)] at e
        rw [nI_1]
        exact ih (i + 1) (e1 + 1) (φ ++ [g]) v T3 M5 (K + 4) (K2 + 18) (by omega) (by omega) (by omega) (by rw [List.length_append, List.length_singleton]; omega) (by omega) (by omega) (xT_tr x4 (kR_xT T3 q5)) r5 (xT_fmc (kR_xT T3 q5) hfm4) ((kR_cR q5 22 f).trans h22'') ((q5.1 20 f (fun z => hne z.1)).trans e20') ((q5.1 21 f (fun z => hne z.1)).trans e21') (by rw [ev]; exact e)
    have va : ¬ cI M4 2 q = 0 → g.2.1 = true := by
      intro c
      rw [a4.2.2.1, bI_0] at c
      cases y : g.2.1 with
      | true => rfl
      | false => exact absurd y c
    exact s_X0_canBeMissing a4 (fun d => ⟨fun c => stop (Or.inl (va c)), nxt true d.symm⟩) (fun d => ⟨fun c => stop (Or.inl (va c)), nxt false d.symm⟩)
end RDR
