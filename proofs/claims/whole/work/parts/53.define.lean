section DEF
variable {nm : Nat → Nat} {T T' : LY} {M M' : CM} {G : Nat → Nat → Nat} {I : Nat → Nat → Int32} {J : Nat → Int64} {D : Nat → UInt64} {W : Nat → List Int32} {hr rs rp px hN cv : Nat} {RW : Nat → Nat} {OA : Nat → Nat → Nat} {F H : Nat → List (Nat × List Ag)}
theorem s_readForm (hnm : ∀ i j, i < 10 → j < 10 → nm i = nm j → i = j) (hS : SA G T M) (hV : VA G M I J D W) (hE : RE G T M hr rs rp) {Q : Option Nat → LY → CM → Prop}
    (k1 : ∀ o φ, zFm (W 144) = .inr (o, φ) → ∀ M1 T' M' f, kL hr rs rp M M1 → xT hr T M1 T' M' → tg T f = 0 → fmc nm T' M' f φ → cI M' 20 f = o → Q (some f) T' M')
    (k0 : ∀ c, zFm (W 144) = .inl c → ∀ M1 T' M', kL hr rs rp M M1 → xT hr T M1 T' M' → cI M' 66 hr = nI c → Q none T' M') : fc_X6_readForm nm 22 105 hr (some (G 1 144)) T M Q := by
  have h7 := hE.1.1
  obtain ⟨w, hw⟩ : ∃ w, w = W 144 := ⟨_, rfl⟩
  unfold fc_X6_readForm
  refine ⟨h7, by decide, by decide, s_load hS hV hE (fun M1 kl r0 _ => ⟨by decide, by decide, s_signAt0 r0 (nm_e ?_)⟩)⟩
  rw [← hw] at k1 k0 r0 ⊢
  unfold zFm at k1 k0
  have b24 : (zsg w 0 - 97 < 0 ∨ ¬ zsg w 0 - 97 < 6) → fc_X6_readForm_b24 nm 22 105 hr Q T M1 0 0 := by
    intro c
    rw [if_pos c] at k0
    unfold fc_X6_readForm_b24
    exact ⟨h7, by decide, by decide, s_fail0 r0 (fun M2 q2 m2 => ⟨by decide, by decide, k0 _ rfl M1 T M2 kl (kR_xT T q2) m2⟩)⟩
  refine ⟨fun c => b24 (Or.inl c), fun c => ⟨fun c6 => ?_, fun c6 => b24 (Or.inr c6)⟩⟩
  rw [if_neg (fun z => z.elim c (fun z => z c6))] at k1 k0
  have c0 : 0 < zcn w := Nat.pos_of_ne_zero (fun z => by unfold zsg at c; rw [if_neg (by omega)] at c; exact c (by decide))
  refine ⟨by decide, by decide, fun f T2 M2 hf eT eM => ?_⟩
  subst eT eM
  have hne : hr ≠ f := fun z => by rw [z, hf] at h7; exact absurd h7 (by decide)
  have x2 : xT hr T M1 (mkT T 3 0 f) (mkM M1 f) := xT_mk M1 3 0 hf
  have tf : tg (mkT T 3 0 f) f = 3 := by rw [tg_mk, if_pos rfl]
  refine ⟨tf, 1, 5, by decide, by decide, ?_⟩
  unfold fc_X2_init
  refine ⟨tf, nm_e ⟨by decide, by decide, by decide, by decide, fun r T4 M4 hr4 eT eM => ?_⟩⟩
  subst eT eM
  have hr4' : tg T r = 0 := by
    rw [tg_mk] at hr4
    by_cases y : r = f
    · rw [y]; exact hf
    · rw [if_neg y] at hr4; exact hr4
  have rf : r ≠ f := fun z => by rw [tg_mk, if_pos z] at hr4; exact absurd hr4 (by decide)
  have hne4 : hr ≠ r := fun z => by rw [z, hr4'] at h7; exact absurd h7 (by decide)
  have T4e : mkT (mkT T 3 0 f) 25 ((5 : Int32).toNatClampNeg) r = mkT (mkT T 3 0 f) 25 5 r := rfl
  have x3 : xT hr T M1 (mkT (mkT T 3 0 f) 25 ((5 : Int32).toNatClampNeg) r) (mkM (sI (mkM M1 f) 21 f (-1)) r) := xT_tr (xT_sI x2 hf 21 (-1)) (xT_mk _ 25 5 hr4)
  have tf4 : tg (mkT (mkT T 3 0 f) 25 ((5 : Int32).toNatClampNeg) r) f = 3 := by rw [tg_mk, if_neg (fun z => rf z.symm)]; exact tf
  obtain ⟨N, hN⟩ : ∃ N, N = sI (sI (sI (sR (mkM (sI (mkM M1 f) 21 f (-1)) r) 22 f (some r)) 23 f 0) 24 f 0) 20 f (zsg w 0 - 97) := ⟨_, rfl⟩
  have xN : xT hr T M1 (mkT (mkT T 3 0 f) 25 ((5 : Int32).toNatClampNeg) r) N := by
    rw [hN]; exact xT_sI (xT_sI (xT_sI (xT_sR x3 hf _ _) hf _ _) hf _ _) hf _ _
  refine ⟨tf4, nm_e (nm_e ⟨nZ_0, nm_e (nm_e ⟨by decide, by decide, ?_⟩)⟩)⟩
  rw [← hN]
  have h7' : tg (mkT (mkT T 3 0 f) 25 ((5 : Int32).toNatClampNeg) r) hr = 7 := (xN.1 hr (by rw [h7]; decide)).1.trans h7
  have q5 := kR_sI hr N (f := 64) 1 (by omega)
  have r5 : RD (mkT (mkT T 3 0 f) 25 ((5 : Int32).toNatClampNeg) r) (sI N 64 hr 1) hr rs rp w 1 := RD0_cg q5 (xT_RD0 xN r0) (by rw [cI_sI, if_pos ⟨rfl, rfl⟩]; rfl) c0
  have x5 := xT_tr xN (kR_xT (mkT (mkT T 3 0 f) 25 ((5 : Int32).toNatClampNeg) r) q5)
  have n22 : cR N 22 f = some r := by rw [hN]; simp [cR_sI, cR_sR]
  have n23 : cI N 23 f = 0 := by rw [hN]; simp [cI_sI]
  have n24 : cI N 24 f = 0 := by rw [hN]; simp [cI_sI]
  have n20 : cI N 20 f = zsg w 0 - 97 := by rw [hN]; simp [cI_sI]
  have fN : fmc nm (mkT (mkT T 3 0 f) 25 ((5 : Int32).toNatClampNeg) r) N f [] := ⟨tf4, by decide, n23, n24, r, n22, by rw [tg_mk, if_pos rfl], by rw [ln_mk, if_pos rfl]; rfl, fun i hi => absurd hi (Nat.not_lt_zero i)⟩
  refine ⟨h7', nm_e ⟨by decide, by decide, s_need r5 40 (by decide) (fun e6 M6 q6 r6 m6 => ⟨fun _ => ⟨by decide, by decide, ?_⟩, fun z => absurd z (by decide)⟩) (fun e6 M6 q6 r6 m6 => ⟨fun z => absurd rfl z, fun _ => ⟨by decide, by decide, ?_⟩⟩)⟩⟩
  rotate_left
  · rw [if_neg e6] at k0
    exact k0 _ rfl M1 _ M6 kl (xT_tr x5 (kR_xT _ q6)) m6
  rw [if_pos e6] at k1 k0
  have q56 := kR_tr q5 q6
  have x6 := xT_tr xN (kR_xT (mkT (mkT T 3 0 f) 25 ((5 : Int32).toNatClampNeg) r) q56)
  have f6 := xT_fmc (kR_xT (mkT (mkT T 3 0 f) 25 ((5 : Int32).toNatClampNeg) r) q56) fN
  -- the rest, told from N on
  have p1 : ∀ φ, zFin w (zArgs w) = .inr φ → ∀ T' M', xT hr T M1 T' M' → fmc nm T' M' f φ → cI M' 20 f = zsg w 0 - 97 → Q (some f) T' M' := by
    intro φ e T' M' x hfm e20
    rw [e] at k1
    exact k1 _ φ rfl M1 T' M' f kl x hf hfm e20
  have p0 : ∀ c, zFin w (zArgs w) = .inl c → ∀ T' M', xT hr T M1 T' M' → cI M' 66 hr = nI c → Q none T' M' := by
    intro c e T' M' x m
    rw [e] at k0
    exact k0 c rfl M1 T' M' kl x m
  -- a memory over T that tells what f is now
  obtain ⟨B, hB⟩ : ∃ B : CM, B = sI (sI M1 20 f (zsg w 0 - 97)) 21 f (-1) := ⟨_, rfl⟩
  have b20 : cI B 20 f = zsg w 0 - 97 := by rw [hB]; simp [cI_sI]
  have b21 : cI B 21 f = -1 := by rw [hB]; simp [cI_sI]
  have xB : ∀ {T' : LY} {M' : CM}, xT hr T M1 T' M' → xT hr T B T' M' := by
    intro T' M' x
    refine ⟨x.1, fun g a z n => ?_, fun g a z => (x.2.2.1 g a z).trans (by rw [hB]; rfl), fun g a z => (x.2.2.2.1 g a z).trans (by rw [hB]; rfl), fun g a z => (x.2.2.2.2.1 g a z).trans (by rw [hB]; rfl), fun a i z => (x.2.2.2.2.2.1 a i z).trans (by rw [hB]; rfl), fun a i z => (x.2.2.2.2.2.2.1 a i z).trans (by rw [hB]; rfl), fun a i z => (x.2.2.2.2.2.2.2 a i z).trans (by rw [hB]; rfl)⟩
    have na : a ≠ f := fun y => z (by rw [y]; exact hf)
    rw [x.2.1 g a z n, hB, cI_sI, if_neg (fun y => na y.2), cI_sI, if_neg (fun y => na y.2)]
  have xB' : ∀ {T' : LY} {M' : CM}, xT hr T B T' M' → xT hr T M1 T' M' := by
    intro T' M' x
    refine ⟨x.1, fun g a z n => ?_, fun g a z => (x.2.2.1 g a z).trans (by rw [hB]; rfl), fun g a z => (x.2.2.2.1 g a z).trans (by rw [hB]; rfl), fun g a z => (x.2.2.2.2.1 g a z).trans (by rw [hB]; rfl), fun a i z => (x.2.2.2.2.2.1 a i z).trans (by rw [hB]; rfl), fun a i z => (x.2.2.2.2.2.2.1 a i z).trans (by rw [hB]; rfl), fun a i z => (x.2.2.2.2.2.2.2 a i z).trans (by rw [hB]; rfl)⟩
    have na : a ≠ f := fun y => z (by rw [y]; exact hf)
    rw [x.2.1 g a z n, hB, cI_sI, if_neg (fun y => na y.2), cI_sI, if_neg (fun y => na y.2)]
  have p1' : ∀ φ, zFin w (zArgs w) = .inr φ → ∀ T' M', xT hr T B T' M' → fmc nm T' M' f φ → cI M' 20 f = cI B 20 f → cI M' 21 f = cI B 21 f → Q (some f) T' M' := fun φ e T' M' x hfm e20 _ => p1 φ e T' M' (xB' x) hfm (e20.trans b20)
  have p0' : ∀ c, zFin w (zArgs w) = .inl c → ∀ T' M', xT hr T B T' M' → cI M' 66 hr = nI c → Q none T' M' := fun c e T' M' x m => p0 c e T' M' (xB' x) m
  have e20 : ∀ {M' : CM}, kR hr N M' → cI M' 20 f = cI B 20 f := fun q => (q.1 20 f (fun z => hne z.1.symm)).trans (n20.trans b20.symm)
  have n21 : cI N 21 f = -1 := by
    rw [hN]
    have : cI (mkM (sI (mkM M1 f) 21 f (-1)) r) 21 f = -1 := by rw [cI_mkM, if_neg (fun z => rf z.symm), cI_sI, if_pos ⟨rfl, rfl⟩]
    simp [cI_sI, cI_sR, this]
  have e21 : ∀ {M' : CM}, kR hr N M' → cI M' 21 f = cI B 21 f := fun q => (q.1 21 f (fun z => hne z.1.symm)).trans (n21.trans b21.symm)
  have arg : zArgs w = if zsg w 2 = 41 then .inr ([], 3) else zAs w 5 2 [] false := rfl
  refine s_rtake r6 41 (by decide) (fun e7 M7 q7 r7 m7 => ⟨7, ?_⟩) (fun e7 => ⟨6, ?_⟩)
  · rw [if_pos e7] at arg
    have q57 := kR_tr q56 q7
    show fc_X6_readForm_c71 nm 22 105 hr Q _ _ _ _ _ _ _ _ _
    unfold fc_X6_readForm_c71 fc_X6_readForm_b142
    refine ⟨fun z => absurd z (by decide), fun _ => ⟨fun _ => ⟨fun _ => ?_, fun z => absurd z (by decide)⟩, fun z => absurd z (by decide)⟩⟩
    exact s_b158 (nm := nm) (R := zFin w (zArgs w)) p1' p0' (mkT (mkT T 3 0 f) 25 ((5 : Int32).toNatClampNeg) r) M7 _ _ 3 [] (by decide) (by decide) (xB (xT_tr xN (kR_xT (mkT (mkT T 3 0 f) 25 ((5 : Int32).toNatClampNeg) r) q57))) r7 (xT_fmc (kR_xT (mkT (mkT T 3 0 f) 25 ((5 : Int32).toNatClampNeg) r) q57) fN) (e20 q57) (e21 q57) (by rw [arg])
  · rw [if_neg e7] at arg
    exact s_formTail hnm hf hr4' h7 (R := zFin w (zArgs w)) p1' p0' 5 1 2 [] false (mkT (mkT T 3 0 f) 25 ((5 : Int32).toNatClampNeg) r) M6 2 10 (by decide) (by decide) (by decide) rfl (by decide) (by decide) (xB x6) r6 f6 ((kR_cR q56 22 f).trans n22) (e20 q56) (e21 q56) (by rw [arg])
theorem xT_SA (k : xT hr T M T' M') (hS : SA G T M) : SA G T' M' := by
  obtain ⟨h1, h2, h3, h4⟩ := hS
  have n1 : ∀ t, t < 145 → tg T (G 1 t) ≠ 0 ∧ tg T (G 2 t) ≠ 0 := fun t ht => ⟨by rw [(h1 t ht).1]; decide, by rw [(h1 t ht).2.2.1]; decide⟩
  have n2 : ∀ t, t < 144 → tg T (G 0 t) ≠ 0 ∧ tg T (G 3 t) ≠ 0 := fun t ht => ⟨by rw [(h2 t ht).1]; decide, by rw [(h2 t ht).2.2.2.1]; decide⟩
  refine ⟨fun t ht => ?_, fun t ht => ?_, fun t ht m j hj => ?_, h4⟩
  · obtain ⟨a, b⟩ := n1 t ht
    rw [(k.1 _ a).1, k.2.2.2.2.1 _ _ a, (k.1 _ b).1, (k.1 _ b).2]; exact h1 t ht
  · obtain ⟨a, b⟩ := n2 t ht
    rw [(k.1 _ a).1, k.2.2.2.2.1 _ _ a, k.2.2.2.2.1 _ _ a, (k.1 _ b).1, (k.1 _ b).2]; exact h2 t ht
  · rw [k.2.2.2.2.2.2.2 _ _ (n2 t ht).2]; exact h3 t ht m j hj
theorem xT_VA (k : xT hr T M T' M') (h7 : tg T hr = 7) (hS : SA G T M) (hV : VA G M I J D W) : VA G M' I J D W := by
  obtain ⟨h1, h2, h3, h4⟩ := hS
  refine ⟨fun t ht => ?_, fun t ht => ?_⟩
  · obtain ⟨⟨a, b, c⟩, d, e, f⟩ := hV.1 t ht
    have n : tg T (G 0 t) ≠ 0 := by rw [(h2 t ht).1]; decide
    exact ⟨⟨(k.2.1 _ _ n (by omega)).trans a, (k.2.1 _ _ n (by omega)).trans b, (k.2.1 _ _ n (by omega)).trans c⟩, (k.2.2.1 _ _ n).trans d, (k.2.2.2.1 _ _ n).trans e, f⟩
  · obtain ⟨a, b, c⟩ := hV.2 t ht
    have n : tg T (G 1 t) ≠ 0 := by rw [(h1 t ht).1]; decide
    have n2 : tg T (G 2 t) ≠ 0 := by rw [(h1 t ht).2.2.1]; decide
    exact ⟨(k.2.1 _ _ n (by omega)).trans a, b, fun i hi => by rw [k.2.2.2.2.2.1 _ _ n2]; exact c i hi⟩
theorem xT_SX (k : xT hr T M T' M') (h : SX G T M px hN RW cv) : SX G T' M' px hN RW cv := by
  obtain ⟨a1, a2, a3, a4, a5, a6, a7, a8, a9⟩ := h
  have n : tg T px ≠ 0 := by rw [a1]; decide
  have n5 : tg T hN ≠ 0 := by rw [a5]; decide
  refine ⟨(k.1 _ n).1.trans a1, (k.2.2.2.2.1 _ _ n).trans a2, (k.2.2.2.2.1 _ _ n).trans a3, (k.2.2.2.2.1 _ _ n).trans a4, (k.1 _ n5).1.trans a5, (k.2.2.2.2.1 _ _ n).trans a6, (k.2.2.2.2.1 _ _ n).trans a7, a8, fun r hr => ?_⟩
  obtain ⟨b1, b2, b3⟩ := a9 r hr
  have nr : tg T (RW r) ≠ 0 := by rw [b1]; decide
  exact ⟨(k.1 _ nr).1.trans b1, (k.1 _ nr).2.trans b2, fun i hi => (k.2.2.2.2.2.2.2 _ _ nr).trans (b3 i hi)⟩
theorem xT_SO {O : Nat → Nat} (k : xT hr T M T' M') (h : SO T M O) : SO T' M' O := by
  obtain ⟨s1, s2, s3, s4, s5, s6, s7, s8⟩ := h
  have n : tg T (O 0) ≠ 0 := by rw [s1]; decide
  have n1 : tg T (O 1) ≠ 0 := by rw [s3]; decide
  have n2 : tg T (O 2) ≠ 0 := by rw [s6]; decide
  exact ⟨(k.1 _ n).1.trans s1, (k.2.2.2.2.1 _ _ n).trans s2, (k.1 _ n1).1.trans s3, (k.1 _ n1).2.trans s4, (k.2.2.2.2.1 _ _ n).trans s5, (k.1 _ n2).1.trans s6, (k.1 _ n2).2.trans s7, s8⟩
theorem xT_VO {O : Nat → Nat} {fs gs : List (Nat × List Ag)} (k : xT hr T M T' M') (hS : SO T M O) (h : VO nm T M O fs gs) : VO nm T' M' O fs gs := by
  obtain ⟨s1, s2, s3, s4, s5, s6, s7, s8⟩ := hS
  have n : tg T (O 0) ≠ 0 := by rw [s1]; decide
  have n1 : tg T (O 1) ≠ 0 := by rw [s3]; decide
  have n2 : tg T (O 2) ≠ 0 := by rw [s6]; decide
  obtain ⟨v1, v2, v3, v4, v5, v6⟩ := h
  exact ⟨v1, (k.2.1 _ _ n (by omega)).trans v2, fun i hi => ⟨(k.2.2.2.2.2.2.2 _ _ n1).trans (v3 i hi).1, xT_fmc k (v3 i hi).2⟩, v4, (k.2.1 _ _ n (by omega)).trans v5, fun i hi => ⟨(k.2.2.2.2.2.2.2 _ _ n2).trans (v6 i hi).1, xT_fmc k (v6 i hi).2⟩⟩
theorem xT_SQ (k : xT hr T M T' M') (h : SQ T M px OA) : SQ T' M' px OA := by
  obtain ⟨a1, r, a2, a3, a4, a5⟩ := h
  have n : tg T px ≠ 0 := by rw [a1]; decide
  have nr : tg T r ≠ 0 := by rw [a3]; decide
  exact ⟨(k.1 _ n).1.trans a1, r, (k.2.2.2.2.1 _ _ n).trans a2, (k.1 _ nr).1.trans a3, (k.1 _ nr).2.trans a4, fun o ho => (k.2.2.2.2.2.2.2 _ _ nr).trans (a5 o ho)⟩
theorem xT_RE (k : xT hr T M T' M') (h : RE G T M hr rs rp) : RE G T' M' hr rs rp := by
  obtain ⟨⟨a1, a2, a3, a4, a5, a6, a7⟩, a8⟩ := h
  have n1 : tg T hr ≠ 0 := by rw [a1]; decide
  have n2 : tg T rs ≠ 0 := by rw [a3]; decide
  have n3 : tg T rp ≠ 0 := by rw [a6]; decide
  exact ⟨⟨(k.1 _ n1).1.trans a1, (k.2.2.2.2.1 _ _ n1).trans a2, (k.1 _ n2).1.trans a3, (k.1 _ n2).2.trans a4, (k.2.2.2.2.1 _ _ n1).trans a5, (k.1 _ n3).1.trans a6, (k.1 _ n3).2.trans a7⟩, a8⟩
end DEF
