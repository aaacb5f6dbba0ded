def tya (nm : Nat → Nat) (T : LY) (M : CM) (ta : Nat) (τ : Ty) (el : Option Ty) : Prop := (el = none ∧ tyc nm T M ta τ none) ∨ ∃ e σ, el = some σ ∧ tyc nm T M ta τ (some e) ∧ tyc nm T M e σ none
section RDR
variable {nm : Nat → Nat} {T : LY} {M : CM} {hr rs rp a : Nat} {w : List Int32}
theorem s_b105 {K N e2 j : Nat} {m : Int32} {wo : Option Nat} {cs : List Int64} (hK : K ≤ 1) (hN : N ≤ 5) (r : RD T M hr rs rp w e2) (hj : j < 10) (hw : wds T M wo cs) (lst nul : Bool) {Q : Option Nat → LY → CM → Prop}
    (k1 : ∀ τ el e, zEnd w lst (j, m, nul, cs) e2 = .inr (τ, el, e) → ∀ T' M' ta, xT hr T M T' M' → RD T' M' hr rs rp w e → tya nm T' M' ta τ el → Q (some ta) T' M')
    (k0 : ∀ f, zEnd w lst (j, m, nul, cs) e2 = .inl f → ∀ T' M', xT hr T M T' M' → cI M' 66 hr = nI f → Q none T' M') : fc_X6_readType_b105 nm 3 15 hr Q (some (nm j)) (bI lst) m wo (bI nul) T M K N := by
  have hl := zcn_le w
  have h8 := r.2.1
  unfold zEnd at k1 k0
  unfold fc_X6_readType_b105 fc_X6_readType_b163
  refine ⟨by omega, by omega, fun q T2 M3 hq eT eM => ?_⟩
  subst eT eM
  have tq : tg (mkT T 10 0 q) q = 10 := by rw [tg_mk, if_pos rfl]
  have hne : hr ≠ q := fun z => by have := r.1.1; rw [z, hq] at this; exact absurd this (by decide)
  refine ⟨tq, by omega, by omega, s_newType (hr := hr) (xT_mk M 10 0 hq) tq hq hj hw (fun M7 x7 c7 t7 => ?_)⟩
  have r7 : RD (mkT T 10 0 q) M7 hr rs rp w e2 := xT_RD x7 r (by rw [c7 64 hr hne, cI_mkM, if_neg hne]; exact r.2.2.2.2.1.1) r.2.2.2.2.1.2
  refine ⟨fun c => ⟨r7.1.1, by omega, by omega, ?_⟩, fun c => ⟨by omega, by omega, ?_⟩⟩
  · have cl : lst = true := by
      cases lst with
      | true => rfl
      | false => exact absurd rfl c
    rw [if_pos cl] at k1 k0
    refine s_need r7 62 (by decide) (fun e1 M14 q14 r14 m14 => ⟨fun z => absurd z (by decide), fun _ => ⟨by omega, by omega, fun q2 T21 M22 hq2 eT eM => ?_⟩⟩) (fun e1 M14 q14 r14 m14 => ⟨fun _ => ⟨by omega, by omega, ?_⟩, fun z => absurd rfl z⟩)
    · subst eT eM
      rw [if_pos e1] at k1 k0
      have x14 := xT_tr x7 (kR_xT (mkT T 10 0 q) q14)
      have x22 : xT hr (mkT T 10 0 q) M14 (mkT (mkT T 10 0 q) 10 0 q2) (mkM M14 q2) := xT_mk M14 10 0 hq2
      have tq2 : tg (mkT (mkT T 10 0 q) 10 0 q2) q2 = 10 := by rw [tg_mk, if_pos rfl]
      have hne2 : hr ≠ q2 := fun z => by have := r7.1.1; rw [z, hq2] at this; exact absurd this (by decide)
      have r22 : RD (mkT (mkT T 10 0 q) 10 0 q2) (mkM M14 q2) hr rs rp w (e2 + 1) := xT_RD x22 r14 (by rw [cI_mkM, if_neg hne2]; exact r14.2.2.2.2.1.1) r14.2.2.2.2.1.2
      have t14 := xT_tyc (kR_xT (mkT T 10 0 q) q14) t7
      have hn : wds (mkT T 10 0 q) M14 none [] := Or.inl ⟨rfl, rfl⟩
      refine ⟨r22.1.1, by omega, by omega, s_rtake r22 63 (by decide) (fun e3 M26 q26 r26 m26 => ⟨tq2, by omega, by omega, s_newType (hr := hr) (b := true) (xT_tr x22 (kR_xT _ q26)) tq2 hq2 (by decide) hn (fun M32 x32 c32 t32 => ⟨by omega, by omega, ?_⟩)⟩) (fun e3 => ⟨tq2, by omega, by omega, s_newType (hr := hr) (b := false) x22 tq2 hq2 (by decide) hn (fun M32 x32 c32 t32 => ⟨by omega, by omega, ?_⟩)⟩)⟩
      · rw [if_pos e3] at k1
        exact k1 _ _ _ rfl _ M32 q2 (xT_tr x14 x32) (xT_RD x32 r14 (by rw [c32 64 hr hne2]; exact r26.2.2.2.2.1.1) r26.2.2.2.2.1.2) (Or.inr ⟨q, _, rfl, t32, xT_tyc x32 t14⟩)
      · rw [if_neg e3] at k1
        exact k1 _ _ _ rfl _ M32 q2 (xT_tr x14 x32) (xT_RD x32 r14 (by rw [c32 64 hr hne2]; exact r22.2.2.2.2.1.1) r22.2.2.2.2.1.2) (Or.inr ⟨q, _, rfl, t32, xT_tyc x32 t14⟩)
    · rw [if_neg e1] at k0
      exact k0 _ rfl _ M14 (xT_tr x7 (kR_xT _ q14)) m14
  · have cl : ¬ lst = true := by rw [bI_0] at c; rw [c]; decide
    rw [if_neg cl] at k1
    exact k1 _ _ _ rfl _ M7 q x7 r7 (Or.inl ⟨rfl, t7⟩)
theorem s_b84 (hnm : ∀ i j, i < 10 → j < 10 → nm i = nm j → i = j) {K N e1 j : Nat} {m : Int32} {wo : Option Nat} {cs : List Int64} (hK : K ≤ 1) (hN : N ≤ 5) (r : RD T M hr rs rp w e1) (hj : j < 10) (hw : wds T M wo cs) (lst : Bool) {Q : Option Nat → LY → CM → Prop} {R : Ty × Nat} (hR : R = if j ≠ 7 ∧ zsg w e1 = 63 then ((j, m, true, cs), e1 + 1) else ((j, m, false, cs), e1))
    (k1 : ∀ τ el e, zEnd w lst R.1 R.2 = .inr (τ, el, e) → ∀ T' M' ta, xT hr T M T' M' → RD T' M' hr rs rp w e → tya nm T' M' ta τ el → Q (some ta) T' M')
    (k0 : ∀ f, zEnd w lst R.1 R.2 = .inl f → ∀ T' M', xT hr T M T' M' → cI M' 66 hr = nI f → Q none T' M') : fc_X6_readType_b84 nm 3 15 hr Q (some (nm j)) (bI lst) m wo T M K N := by
  unfold fc_X6_readType_b84 fc_X6_readType_b104
  refine ⟨fun c => ?_, fun c => ⟨r.1.1, by omega, by omega, s_rtake r 63 (by decide) (fun e3 M2 q2 r2 m2 => ⟨fun z => absurd z (by decide), fun _ => ?_⟩) (fun e3 => ⟨fun _ => ?_, fun z => absurd rfl z⟩)⟩⟩
  · have j7 := hnm _ _ hj (by decide) (Option.some.inj c)
    rw [if_neg (fun z => z.1 j7)] at hR
    subst hR
    exact s_b105 hK hN r hj hw lst false k1 k0
  · have j7 : j ≠ 7 := fun z => c (by rw [z])
    rw [if_pos ⟨j7, e3⟩] at hR
    subst hR
    exact s_b105 hK hN r2 hj (xT_wds (kR_xT T q2) hw) lst true (fun τ el e ee T' M' ta x => k1 τ el e ee T' M' ta (xT_tr (kR_xT T q2) x)) (fun f ee T' M' x => k0 f ee T' M' (xT_tr (kR_xT T q2) x))
  · rw [if_neg (fun z => e3 z.2)] at hR
    subst hR
    exact s_b105 hK hN r hj hw lst false k1 k0
theorem s_tail (hnm : ∀ i j, i < 10 → j < 10 → nm i = nm j → i = j) {e j : Nat} {m : Int32} (r : RD T M hr rs rp w e) (hm : cI M 65 hr = m) (hj : j < 10) (lst : Bool) {Q : Option Nat → LY → CM → Prop}
    (k1 : ∀ τ el e', zTail w lst j m e = .inr (τ, el, e') → ∀ T' M' ta, xT hr T M T' M' → RD T' M' hr rs rp w e' → tya nm T' M' ta τ el → Q (some ta) T' M')
    (k0 : ∀ f, zTail w lst j m e = .inl f → ∀ T' M', xT hr T M T' M' → cI M' 66 hr = nI f → Q none T' M') : fc_X6_readType_b42 nm 3 15 hr Q (some (nm j)) (bI lst) T M 0 0 := by
  unfold zTail zRest at k1 k0
  unfold fc_X6_readType_b42 fc_X6_readType_b68
  refine ⟨fun _ => ⟨r.1.1, nm_r hm ⟨fun c => ?_, fun c => ⟨1, 5, by decide, by decide, ?_⟩⟩⟩, fun z => by cases z⟩
  · have j8 : ¬ j = 8 := fun z => c (by rw [z])
    rw [if_neg j8] at k1 k0
    dsimp only at k1 k0
    rw [if_neg j8] at k1 k0
    refine ⟨fun _ => s_b84 hnm (by decide) (by decide) r hj (Or.inl ⟨rfl, rfl⟩) lst (R := if j ≠ 7 ∧ zsg w e = 63 then ((j, m, true, []), e + 1) else ((j, m, false, []), e)) rfl (fun τ el e' ee => k1 τ el e' ?_) (fun f ee => k0 f ?_), fun z => absurd z c⟩
    · by_cases d : j ≠ 7 ∧ zsg w e = 63
      · rw [if_pos d] at ee ⊢; exact ee
      · rw [if_neg d] at ee ⊢; exact ee
    · by_cases d : j ≠ 7 ∧ zsg w e = 63
      · rw [if_pos d] at ee ⊢; exact ee
      · rw [if_neg d] at ee ⊢; exact ee
  · have j8 : j = 8 := hnm _ _ hj (by decide) (Option.some.inj c)
    rw [if_pos j8] at k1 k0
    refine s_readWords r (fun l e1 e1e T' M' p x r' ww => ?_) (fun f ff T' M' x mm => ?_)
    · rw [e1e] at k1 k0
      dsimp only at k1 k0
      rw [if_pos j8] at k1 k0
      refine ⟨fun z => absurd c z, fun _ => ⟨fun _ => s_b84 hnm (by decide) (by decide) r' hj ww lst (R := if j ≠ 7 ∧ zsg w e1 = 63 then ((j, m, true, pad l), e1 + 1) else ((j, m, false, pad l), e1)) rfl (fun τ el e' ee T2 M2 ta x2 => k1 τ el e' ?_ T2 M2 ta (xT_tr x x2)) (fun f ee T2 M2 x2 => k0 f ?_ T2 M2 (xT_tr x x2)), fun z => by cases z⟩⟩
      · by_cases d : j ≠ 7 ∧ zsg w e1 = 63
        · rw [if_pos d] at ee ⊢; exact ee
        · rw [if_neg d] at ee ⊢; exact ee
      · by_cases d : j ≠ 7 ∧ zsg w e1 = 63
        · rw [if_pos d] at ee ⊢; exact ee
        · rw [if_neg d] at ee ⊢; exact ee
    · rw [ff] at k0
      exact ⟨fun z => absurd c z, fun _ => ⟨fun z => absurd rfl z, fun _ => ⟨by decide, by decide, k0 f rfl T' M' x mm⟩⟩⟩
theorem s_readType (hnm : ∀ i j, i < 10 → j < 10 → nm i = nm j → i = j) (r : RD T M hr rs rp w a) {Q : Option Nat → LY → CM → Prop}
    (k1 : ∀ τ el e', zTy w a = .inr (τ, el, e') → ∀ T' M' ta, xT hr T M T' M' → RD T' M' hr rs rp w e' → tya nm T' M' ta τ el → Q (some ta) T' M')
    (k0 : ∀ f, zTy w a = .inl f → ∀ T' M', xT hr T M T' M' → cI M' 66 hr = nI f → Q none T' M') : fc_X6_readType nm 3 15 hr T M Q := by
  unfold zTy at k1 k0
  have nn : ∀ T' M' (s : Int32), Q none T' M' → fc_X6_readType_b42 nm 3 15 hr Q none s T' M' 0 0 := by
    intro T' M' s q
    unfold fc_X6_readType_b42
    exact ⟨fun z => absurd rfl z, fun _ => ⟨by decide, by decide, q⟩⟩
  unfold fc_X6_readType fc_X6_readType_b18 fc_X6_readType_b41
  refine ⟨r.1.1, by decide, by decide, s_readName hnm r true (fun i m e ee M1 q1 r1 m1 hi => ?_) (fun f ff M1 q1 m1 => ?_)⟩
  · rw [ee] at k1 k0
    dsimp only at k1 k0
    refine ⟨fun c => ⟨fun _ => ?_, fun z => absurd rfl z⟩, fun c => ⟨fun z => absurd z (by decide), fun _ => ?_⟩⟩
    · have i9 : ¬ i = 9 := fun z => c (by rw [z])
      rw [if_neg i9] at k1 k0
      exact s_tail hnm r1 m1 hi false (fun τ el e' ee T' M' ta x => k1 τ el e' ee T' M' ta (xT_tr (kR_xT T q1) x)) (fun f ee T' M' x => k0 f ee T' M' (xT_tr (kR_xT T q1) x))
    · have i9 : i = 9 := hnm _ _ hi (by decide) (Option.some.inj c)
      rw [if_pos i9] at k1 k0
      refine ⟨r1.1.1, by decide, by decide, s_need r1 60 (by decide) (fun e2 M2 q2 r2 m2 => ⟨fun z => absurd z (by decide), fun _ => ⟨by decide, by decide, ?_⟩⟩) (fun e2 M2 q2 r2 m2 => ⟨fun _ => ?_, fun z => absurd rfl z⟩)⟩
      · rw [if_pos e2] at k1 k0
        have q12 := kR_tr q1 q2
        refine s_readName hnm r2 false (fun i2 m3 e3 ee3 M3 q3 r3 m3' hi3 => ?_) (fun f ff M3 q3 m3' => ?_)
        · rw [ee3] at k1 k0
          dsimp only at k1 k0
          exact s_tail hnm r3 m3' hi3 true (fun τ el e' ee T' M' ta x => k1 τ el e' ee T' M' ta (xT_tr (kR_xT T (kR_tr q12 q3)) x)) (fun f ee T' M' x => k0 f ee T' M' (xT_tr (kR_xT T (kR_tr q12 q3)) x))
        · rw [ff] at k0
          exact nn T M3 1 (k0 f rfl T M3 (kR_xT T (kR_tr q12 q3)) m3')
      · rw [if_neg e2] at k0
        exact nn T M2 1 (k0 _ rfl T M2 (kR_xT T (kR_tr q1 q2)) m2)
  · rw [ff] at k0
    refine ⟨fun _ => ⟨fun _ => nn T M1 0 (k0 f rfl T M1 (kR_xT T q1) m1), fun z => absurd rfl z⟩, fun z => by cases z⟩
/-- a new argument -/
theorem s_newArg {T' : LY} {M0 : CM} {q ta : Nat} {o v : Bool} {τ : Ty} {el : Option Ty} (x0 : xT hr T M T' M0) (tq : tg T' q = 1) (hq : tg T q = 0) (ht : tya nm T M ta τ el) {Q : CM → Prop} (k : ∀ M', xT hr T M T' M' → (∀ f c, c ≠ q → cI M' f c = cI M0 f c) → arc nm T' M' q (o, v, τ, el) → Q M') : fc_X0_init T' q (some ta) (bI o) (bI v) M0 Q := by
  have x1 := xT_sI (xT_sI (xT_sR x0 hq 0 (some ta)) hq 1 (bI o)) hq 2 (bI v)
  unfold fc_X0_init
  refine ⟨tq, nm_e ⟨bI_z o, nm_e ⟨bI_z v, nm_e (k _ x1 (fun f c hc => ?_) ⟨tq, ?_, ?_, ta, ?_, ?_⟩)⟩⟩⟩
  · rw [cI_sI, if_neg (fun z => hc z.2), cI_sI, if_neg (fun z => hc z.2), cI_sR]
  · simp [cI_sI]
  · simp [cI_sI]
  · simp [cR_sI, cR_sR]
  · rcases ht with ⟨b1, b2⟩ | ⟨e, s, b1, b2, b3⟩
    · exact Or.inl ⟨b1, xT_tyc x1 b2⟩
    · exact Or.inr ⟨e, s, b1, xT_tyc x1 b2, xT_tyc x1 b3⟩
theorem s_readArgument (hnm : ∀ i j, i < 10 → j < 10 → nm i = nm j → i = j) (r : RD T M hr rs rp w a) (b : Bool) {Q : Option Nat → LY → CM → Prop}
    (k1 : ∀ g e, zAr w b a = .inr (g, e) → ∀ T' M' q, xT hr T M T' M' → RD T' M' hr rs rp w e → arc nm T' M' q g → Q (some q) T' M')
    (k0 : ∀ f, zAr w b a = .inl f → ∀ T' M', xT hr T M T' M' → cI M' 66 hr = nI f → Q none T' M') : fc_X6_readArgument nm 4 18 hr (bI b) T M Q := by
  have hl := zcn_le w
  have h8 := r.2.1
  -- behind the type
  have fin : ∀ T2 M2 ta τ el e opt v, xT hr T M T2 M2 → RD T2 M2 hr rs rp w e → tya nm T2 M2 ta τ el → (∀ g e', (if b = true ∧ opt = false ∧ v = false then .inl (zst w e) else .inr ((opt, v, τ, el), e) : Nat ⊕ (Ag × Nat)) = .inr (g, e') → zAr w b a = .inr (g, e')) → (∀ f, (if b = true ∧ opt = false ∧ v = false then .inl (zst w e) else .inr ((opt, v, τ, el), e) : Nat ⊕ (Ag × Nat)) = .inl f → zAr w b a = .inl f) → fc_X6_readArgument_b91 nm 4 18 hr Q (bI b) (bI opt) (some ta) (bI v) T2 M2 3 15 := by
    intro T2 M2 ta τ el e opt v x2 r2 t2 c1 c0
    have good : ¬ (b = true ∧ opt = false ∧ v = false) → fc_X6_readArgument_b115 nm 4 18 hr Q (bI opt) (some ta) (bI v) T2 M2 3 15 := by
      intro c
      rw [if_neg c] at c1
      unfold fc_X6_readArgument_b115
      refine ⟨by decide, by decide, fun q T3 M3 hq eT eM => ?_⟩
      subst eT eM
      have tq : tg (mkT T2 1 0 q) q = 1 := by rw [tg_mk, if_pos rfl]
      have hne : hr ≠ q := fun z => by have := r2.1.1; rw [z, hq] at this; exact absurd this (by decide)
      exact ⟨tq, by decide, by decide, s_newArg (hr := hr) (xT_mk M2 1 0 hq) tq hq t2 (fun M4 x4 c4 a4 => ⟨by decide, by decide, k1 _ _ (c1 _ _ rfl) _ M4 q (xT_tr x2 x4) (xT_RD x4 r2 (by rw [c4 64 hr hne, cI_mkM, if_neg hne]; exact r2.2.2.2.2.1.1) r2.2.2.2.2.1.2) a4⟩)⟩
    unfold fc_X6_readArgument_b91
    refine ⟨fun c => good (fun z => by rw [bI_0] at c; rw [c] at z; exact absurd z.1 (by decide)), fun cb => ⟨fun c => good (fun z => c (by rw [z.2.1]; rfl)), fun co => ⟨fun c => good (fun z => c (by rw [z.2.2]; rfl)), fun cv => ⟨r2.1.1, by decide, by decide, ?_⟩⟩⟩⟩
    rw [bI_0] at cb co cv
    have cb' : b = true := by
      cases b with
      | true => rfl
      | false => exact absurd rfl cb
    rw [if_pos ⟨cb', co, cv⟩] at c0
    rw [r2.2.2.2.2.1.1]
    have := r2.2.2.2.2.1.2
    exact s_fail66 r2 (by omega) (fun M3 q3 m3 => ⟨by decide, by decide, k0 _ (c0 _ rfl) T2 M3 (xT_tr x2 (kR_xT T2 q3)) m3⟩)
  -- from the type on
  have typ : ∀ M2 a1 opt, opt = zOpt w a → a1 = (if zOpt w a = true then zE w a else a) → kR hr M M2 → RD T M2 hr rs rp w a1 → fc_X6_readArgument_b33 nm 4 18 hr Q (bI b) (bI opt) T M2 0 0 := by
    intro M2 a1 opt eo ea q2 r2
    have hz : zAr w b a = zAr2 w b opt a1 := by unfold zAr; rw [eo, ea]
    rw [hz] at k1 k0 fin
    unfold zAr2 at k1 k0 fin
    unfold fc_X6_readArgument_b33 fc_X6_readArgument_b63 fc_X6_readArgument_b64 fc_X6_readArgument_b89
    refine ⟨r2.1.1, 3, 15, by decide, by decide, s_readType hnm r2 (fun τ el e ee T3 M3 ta x3 r3 t3 => ⟨fun _ => ?_, fun z => by cases z⟩) (fun f ff T3 M3 x3 m3 => ⟨fun z => absurd rfl z, fun _ => ⟨by decide, by decide, ?_⟩⟩)⟩
    · have x3' := xT_tr (kR_xT T q2) x3
      rw [ee] at k1 k0 fin
      dsimp only at k1 k0 fin
      unfold zDots at k1 k0 fin
      have no : ¬ (opt = false ∧ zsg w e = 46) → fc_X6_readArgument_b91 nm 4 18 hr Q (bI b) (bI opt) (some ta) 0 T3 M3 3 15 := by
        intro c
        rw [if_neg c] at fin
        exact fin T3 M3 ta τ el e opt false x3' r3 t3 (fun g e' z => z) (fun f z => z)
      refine ⟨fun c => ⟨fun _ => no (fun z => c (by rw [z.1]; rfl)), fun z => absurd rfl z⟩, fun c => ⟨r3.1.1, by decide, by decide, ?_⟩⟩
      have co := bI_0.mp c
      refine s_rtake r3 46 (by decide) (fun e4 M4 q4 r4 m4 => ⟨fun z => absurd z (by decide), fun _ => ⟨fun z => absurd z (by decide), fun _ => ⟨r4.1.1, by decide, by decide, ?_⟩⟩⟩) (fun e4 => ⟨fun _ => ⟨fun _ => no (fun z => e4 z.2), fun z => absurd rfl z⟩, fun z => absurd rfl z⟩)
      rw [if_pos ⟨co, e4⟩] at k1 k0 fin
      have x4 := xT_tr x3' (kR_xT T3 q4)
      refine s_need r4 46 (by decide) (fun e5 M5 q5 r5 m5 => ⟨fun z => absurd z (by decide), fun _ => ⟨by decide, by decide, ?_⟩⟩) (fun e5 M5 q5 r5 m5 => ⟨fun _ => ⟨by decide, by decide, ?_⟩, fun z => absurd rfl z⟩)
      · rw [if_pos e5] at k1 k0 fin
        have x5 := xT_tr x4 (kR_xT T3 q5)
        refine s_need r5 46 (by decide) (fun e6 M6 q6 r6 m6 => ⟨fun _ => ?_, fun z => absurd z (by decide)⟩) (fun e6 M6 q6 r6 m6 => ⟨fun z => absurd rfl z, fun _ => ⟨by decide, by decide, ?_⟩⟩)
        · rw [if_pos e6] at k1 k0 fin
          have x6 := xT_tr x5 (kR_xT T3 q6)
          have t6 : tya nm T3 M6 ta τ el := by
            have y := xT_tr (kR_xT T3 q4) (xT_tr (kR_xT T3 q5) (kR_xT T3 q6))
            rcases t3 with ⟨b1, b2⟩ | ⟨e, s, b1, b2, b3⟩
            · exact Or.inl ⟨b1, xT_tyc y b2⟩
            · exact Or.inr ⟨e, s, b1, xT_tyc y b2, xT_tyc y b3⟩
          exact fin T3 M6 ta τ el (e + 3) opt true x6 r6 t6 (fun g e' z => z) (fun f z => z)
        · rw [if_neg e6] at k0
          exact k0 _ rfl T3 M6 (xT_tr x5 (kR_xT T3 q6)) m6
      · rw [if_neg e5] at k0
        exact k0 _ rfl T3 M5 (xT_tr x4 (kR_xT T3 q5)) m5
    · rw [ff] at k0
      exact k0 f rfl T3 M3 (xT_tr (kR_xT T q2) x3) m3
  have ha := r.2.2.2.2.1
  unfold fc_X6_readArgument fc_X6_readArgument_b23
  refine ⟨r.1.1, nm_r ha.1 ⟨by decide, by decide, s_readWord r (fun M1 q1 r1 m1 => ⟨by decide, by decide, s_X7_codeOf (by decide) ⟨fun c => ⟨fun z => absurd rfl z, fun _ => ⟨r.1.1, nm_e ?_⟩⟩, fun c => ⟨fun _ => ?_, fun z => absurd z (by decide)⟩⟩⟩)⟩⟩
  · have eo : zOpt w a = false := decide_eq_false (fun z => c ((lg_cmp_eq _ _).mpr z))
    have q2 := kR_sI hr M1 (f := 64) (nI a) (by omega)
    exact typ _ a false eo.symm (by rw [eo]; rfl) (kR_tr q1 q2) (kR_RD q2 r1 (by rw [cI_sI, if_pos ⟨rfl, rfl⟩]) ha.2)
  · have eo : zOpt w a = true := decide_eq_true ((lg_cmp_eq _ _).mp c)
    exact typ M1 (zE w a) true eo.symm (by rw [eo]; rfl) q1 r1
end RDR
