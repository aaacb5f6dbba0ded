section LAW
variable {nm : Nat → Nat} {G : Nat → Nat → Nat} {T : LY} {M M' : CM} {N N' : RM} {I I' : Nat → Nat → Int32} {J J' : Nat → Int64} {D D' : Nat → UInt64} {W W' : Nat → List Int32} {px hN cv hr rs rp po P : Nat} {RW : Nat → Nat} {OA : Nat → Nat → Nat} {F H : Nat → List (Nat × List Ag)} {nn : Nat → Nat} {K : LY → CM → RM → Prop}
theorem i2d_0 : FP.i2d 0 = FP.dconst0 := by decide +kernel
theorem i2d_1 : FP.i2d 1 = FP.dconst1 := by decide +kernel
theorem LI_sl {S : Nat → Prop} {nn' : Nat → Nat} (C : CI nm G T M' I' J' D' W' px hN RW cv OA F H hr rs rp po P) (x : cI M' 108 px = cI M 108 px) (V : LV N' I' J' D' W' cv P nn') (kk : kSl S N N') (e144 : W' 144 = W 144) (e3 : rI N 3 = cI M 108 px) (zg : zLP N (W 144) ∧ gL (W 144)) (o : ∀ o, o < 6 → rOp N o ((F o).map Prod.snd)) (t : ∀ o, o < 6 → ∀ n, n ≤ 8 → told (F o) n) : LI nm G px hN RW OA hr rs rp po T M' N' := by
  refine ⟨I', J', D', W', cv, F, H, P, nn', C, V, ?_, ?_, fun q hq => rOp_fr (fun f h1 h2 => kk.2.1 f (by omega) (by omega) (by omega) (by omega)) (o q hq), t⟩
  · rw [kk.1 3 (by decide), e3, x]
  · rw [e144]
    exact ⟨⟨(kk.1 2 (by decide)).trans zg.1.1, fun i a b => by rw [kk.2.1 1 (by decide) (by decide) (by decide) (by decide)]; exact zg.1.2 i a b⟩, zg.2⟩
theorem slot_no {j : Nat} (hj : j < 8) (c : nI j < 0 ∨ 8 ≤ nI j) : False := by
  rcases c with c | c
  · exact nI_pos (by omega) c
  · rw [show (8 : Int32) = nI 8 from rfl, nI_leI (by omega) (by omega)] at c; omega
theorem L_simple (h : LI nm G px hN RW OA hr rs rp po T M N) (k : ∀ T' M' N', LI nm G px hN RW OA hr rs rp po T' M' N' → K T' M' N') (s w : Int32) : fc_L_simple T (some px) s w M (fun (r78 : Int32) (M79 : CM) => fm_simple s w N (fun (N85 : RM) => fm_thrown N85 (fun (r86 : Int32) (N89 : RM) => ((r86 = r78 → K T M79 N89) ∧ (¬ r86 = r78 → False))))) := by
  have hp := LI_po h
  have h1 := LI_0 1 h
  obtain ⟨I, J, D, W, cv, F, H, P, nn, C, V, e3, zg, o, t⟩ := h
  have hcv := C.1.1.2.2.2.2.2.2.2.1
  refine ⟨px, rfl, hp.2, s_simple (X := fun (kk : Nat) (M3 : CM) => (kk = 1 ∧ _)) C.1.1 C.1.2.1 C.2.1 s w (fun j m hj hm ej em M1 I' J' D' W' z1 V1 hr1 e83 e85 sm => ?_) (fun c => ⟨rfl, ?_⟩)⟩
  · subst ej
    subst em
    obtain ⟨C1, x1⟩ := CI_zX z1 V1 C
    refine r_simple (fun j' m' hj' hm' ej' em' N1 kk n0 a13 a14 a16 => ?_) (fun c => ?_)
    rotate_left
    · exfalso
      rcases c with c | c | c | c
      · exact nI_pos (by omega) c
      · exact slot_no hj (Or.inr c)
      · exact nI_pos (by omega) c
      · rw [show (4 : Int32) = nI 4 from rfl, nI_ltI (by omega) (by omega)] at c; omega
    have e1 : j' = j := ((nI_eq (by omega) (by omega)).mp ej').symm
    have e2 : m' = m := ((nI_eq (by omega) (by omega)).mp em').symm
    subst e1
    subst e2
    obtain ⟨r1, r2, r3, r4⟩ := hr1
    have hv : (vT N1 I' J' D' W' j' ∧ (0 : Nat) = 0) ∨ vL N1 I' J' D' W' j' 0 := by
      match m', hm', a13, a14, r1, r2, r3, r4, e83 with
      | 0, _, a13, a14, r1, r2, r3, r4, e83 => exact Or.inl ⟨Or.inl ⟨r1, a13, r4, e83⟩, rfl⟩
      | 1, _, a13, a14, r1, r2, r3, r4, e83 => exact Or.inl ⟨Or.inr (Or.inl ⟨r1, a13, r4, e83, r3⟩), rfl⟩
      | 2, _, a13, a14, r1, r2, r3, r4, e83 => exact Or.inl ⟨Or.inr (Or.inr (Or.inl ⟨false, r1, a13, a14, r2, r4, e83, r3.trans i2d_0⟩)), rfl⟩
      | 3, _, a13, a14, r1, r2, r3, r4, e83 => exact Or.inl ⟨Or.inr (Or.inr (Or.inl ⟨true, r1, a13, a14, r2, r4, e83, r3.trans i2d_1⟩)), rfl⟩
      | 4, _, a13, a14, r1, r2, r3, r4, e83 =>
        refine Or.inr ⟨hj, r1, a13, Nat.zero_le _, e85, a16, r4, ?_, ?_, fun x hx => absurd hx (Nat.not_lt_zero x)⟩
        · have r4' : W' j' = [] := r4
          rw [r4', numT_nil]; exact e83
        · have r4' : W' j' = [] := r4
          rw [r4', numT_nil]; exact r3
    have V2 := LV_upd hcv hj V kk (fun v hv => sm v hv) (fun v hv => Or.inl hv) hv ⟨e85, by decide, fun x hx => absurd hx (Nat.not_lt_zero x)⟩ (fun v y => by
      subst y
      exact ⟨hv.elim (fun z => vT_gd z.1) vL_gd, hv.elim (fun z => vT_83 z.1) vL_83⟩)
    exact ⟨fun _ => k _ _ _ (LI_sl C1 x1 V2 kk (sm 144 (by omega)).2.2.2 e3 zg o t), fun z => z n0⟩
  · refine r_simple (fun j' m' hj' hm' ej' em' => ?_) (fun _ => ⟨fun _ => k _ _ _ h1, fun z => z rfl⟩)
    exfalso
    subst ej'
    subst em'
    rcases c with c | c | c | c
    · exact nI_pos (by omega) c
    · exact slot_no hj' (Or.inr c)
    · exact nI_pos (by omega) c
    · rw [show (4 : Int32) = nI 4 from rfl, nI_ltI (by omega) (by omega)] at c; omega
theorem L_number (h : LI nm G px hN RW OA hr rs rp po T M N) (k : ∀ T' M' N', LI nm G px hN RW OA hr rs rp po T' M' N' → K T' M' N') (s n : Int32) : vf_n64 (nv n) ∧ fc_L_number T (some px) s (nv n) M (fun (r94 : Int32) (M95 : CM) => (vf_n64 (nv n) ∧ fm_number s (nv n) N (fun (N102 : RM) => fm_thrown N102 (fun (r103 : Int32) (N106 : RM) => ((r103 = r94 → K T M95 N106) ∧ (¬ r103 = r94 → False)))))) := by
  have hp := LI_po h
  have h1 := LI_0 1 h
  obtain ⟨I, J, D, W, cv, F, H, P, nn, C, V, e3, zg, o, t⟩ := h
  have hcv := C.1.1.2.2.2.2.2.2.2.1
  have vf : vf_n64 (nv n) := vf_of (nn_of (nv_W n))
  refine ⟨vf, px, rfl, hp.2, s_number (X := fun (kk : Nat) (M3 : CM) => (kk = 1 ∧ _)) C.1.1 C.1.2.1 C.2.1 s n (fun j hj ej M1 I' J' D' W' z1 V1 hr1 sm => ⟨vf, ?_⟩) (fun c => ⟨rfl, vf, ?_⟩)⟩
  · subst ej
    obtain ⟨C1, x1⟩ := CI_zA z1 V1 C
    refine r_number n (fun j' hj' ej' N1 kk n0 a13 a15 a16 => ?_) (fun c => (slot_no hj c).elim)
    have e1 : j' = j := ((nI_eq (by omega) (by omega)).mp ej').symm
    subst e1
    obtain ⟨r1, r2, r3, r4, r5, r6⟩ := hr1
    have hv : vT N1 I' J' D' W' j' := Or.inr (Or.inr (Or.inr (Or.inl ⟨n, r1, a13, a15, r5, r6, r2⟩)))
    have V2 := LV_upd (n' := 0) hcv hj V kk (fun v hv => sm v hv) (fun v hv => Or.inl hv) (Or.inl ⟨hv, rfl⟩) ⟨r3, by decide, fun x hx => absurd hx (Nat.not_lt_zero x)⟩ (fun v y => by
      subst y
      exact ⟨vT_gd hv, vT_83 hv⟩)
    exact ⟨fun _ => k _ _ _ (LI_sl C1 x1 V2 kk (sm 144 (by omega)).2.2.2 e3 zg o t), fun z => z n0⟩
  · refine r_number n (fun j' hj' ej' => ?_) (fun _ => ⟨fun _ => k _ _ _ h1, fun z => z rfl⟩)
    exfalso
    subst ej'
    exact slot_no hj' c
theorem L_text (h : LI nm G px hN RW OA hr rs rp po T M N) (k : ∀ T' M' N', LI nm G px hN RW OA hr rs rp po T' M' N' → K T' M' N') (s a b c : Int32) : fc_L_text T (some px) s a b c (some po) M (fun (r9 : Int32) (M10 : CM) => fm_text s a b c N (fun (r13 : Int32) (N16 : RM) => fm_thrown N16 (fun (r17 : Int32) (N20 : RM) => ((r17 = r9 → ((¬ r9 = 0 → K T M10 N20) ∧ (r9 = 0 → (tg T po = 23 ∧ (vp_in (0 : Int32) (ln T po) ∧ (((lg_cmp (xJ M10 po (0 : Int32).toNatClampNeg) r13.toInt64) = 0 → K T M10 N20) ∧ (¬ (lg_cmp (xJ M10 po (0 : Int32).toNatClampNeg) r13.toInt64) = 0 → False))))))) ∧ (¬ r17 = r9 → False))))) := by
  have hp := LI_po h
  have h1 := LI_0 1 h
  obtain ⟨I, J, D, W, cv, F, H, P, nn, C, V, e3, zg, o, t⟩ := h
  have hcv := C.1.1.2.2.2.2.2.2.2.1
  refine ⟨px, rfl, hp.2, s_text (X := fun (kk : Nat) (M3 : CM) => (kk = 1 ∧ _)) C.1.1 C.1.2.1 C.2.1 s a b c (fun j hj ej M1 z1 V1 => ⟨po, rfl, hp.1.1, po_in hp.1.2, nm_e ?_⟩) (fun q => ⟨rfl, ?_⟩)⟩
  · subst ej
    obtain ⟨C1, x1⟩ := CI_zX z1 V1 C
    obtain ⟨L, hL⟩ : ∃ L, L = sg4 a ++ (sg4 b ++ sg4 c) := ⟨_, rfl⟩
    have l12 : L.length ≤ 12 := by
      have := sg4_len a; have := sg4_len b; have := sg4_len c
      rw [hL]; simp only [List.length_append]; omega
    have okL : ∀ x ∈ L, nC x ∧ x ≠ 0 := fun x hx => by
      rw [hL] at hx
      simp only [List.mem_append] at hx
      rcases hx with h | h | h <;> exact sg4_ok _ x h
    refine r_text a b c (fun j' hj' ej' N1 kk n0 a13 tx => ?_) (fun c => (slot_no hj c).elim)
    have e1 : j' = j := ((nI_eq (by omega) (by omega)).mp ej').symm
    subst e1
    rw [← hL] at C1 V1 tx ⊢
    have hv : vT N1 (upI (bec I j' 5) 83 j' (bI (numT L).isSome)) (va_up J j' 0) (va_up D j' ((numT L).getD FP.dconst0)) (va_up W j' L) j' := by
      refine Or.inr (Or.inr (Or.inr (Or.inr ⟨?_, a13, ?_, ?_, ?_, ?_⟩)))
      · rw [upI_f _ _ (by decide), bec_80]
      · rw [va_ups]
        refine ⟨tx.1, l12, fun i hi => ⟨tx.2 i hi, ?_⟩⟩
        rw [List.getD_eq_getElem?_getD, List.getElem?_eq_getElem hi]
        exact (okL _ (List.getElem_mem hi)).1
      · rw [upI_s, va_ups]
      · rw [va_ups, va_ups]
      · rw [va_ups]; exact fun x hx => (okL x hx).2
    have sm : ∀ v, v ≠ j' → sam I J D W (upI (bec I j' 5) 83 j' (bI (numT L).isSome)) (va_up J j' 0) (va_up D j' ((numT L).getD FP.dconst0)) (va_up W j' L) v := fun v hv => ⟨fun g => (upI_n _ _ hv).trans (bec_n _ _ _ hv), va_upn _ _ hv, va_upn _ _ hv, va_upn _ _ hv⟩
    have V2 := LV_upd (n' := 0) hcv hj V kk sm (fun v hv => Or.inl hv) (Or.inl ⟨hv, rfl⟩) ⟨by rw [upI_f _ _ (by decide), bec_85]; rfl, by decide, fun x hx => absurd hx (Nat.not_lt_zero x)⟩ (fun v y => by
      subst y
      exact ⟨vT_gd hv, vT_83 hv⟩)
    exact ck_ok hp.1 n0 (xJ_po _) (k _ _ _ (LI_yJ _ (LI_sl C1 x1 V2 kk (sm 144 (by omega)).2.2.2 e3 zg o t)))
  · refine r_text a b c (fun j' hj' ej' => ?_) (fun _ => ck_no (by decide) rfl (k _ _ _ h1))
    exfalso
    subst ej'
    exact slot_no hj' q
end LAW
