section LAW
variable {nm : Nat → Nat} {G : Nat → Nat → Nat} {T : LY} {M M' : CM} {N N' : RM} {px hN hr rs rp po : Nat} {RW : Nat → Nat} {OA : Nat → Nat → Nat} {K : LY → CM → RM → Prop}
theorem uF_s {α : Type} (F : Nat → α) (o : Nat) (v : α) : uF F o v o = v := if_pos rfl
theorem uF_n {α : Type} (F : Nat → α) {o x : Nat} (v : α) (h : x ≠ o) : uF F o v x = F x := if_neg h
theorem L_drop (h : LI nm G px hN RW OA hr rs rp po T M N) (k : ∀ T' M' N', LI nm G px hN RW OA hr rs rp po T' M' N' → K T' M' N') (a : Int32) : fc_L_drop T (some px) a (some po) M (fun (r9 : Int32) (M10 : CM) => fm_drop a N (fun (r13 : Int32) (N16 : RM) => fm_thrown N16 (fun (r17 : Int32) (N20 : RM) => ((r17 = r9 → ((¬ r9 = 0 → K T M10 N20) ∧ (r9 = 0 → (tg T po = 23 ∧ (vp_in (0 : Int32) (ln T po) ∧ (((lg_cmp (xJ M10 po (0 : Int32).toNatClampNeg) r13.toInt64) = 0 → K T M10 N20) ∧ (¬ (lg_cmp (xJ M10 po (0 : Int32).toNatClampNeg) r13.toInt64) = 0 → False))))))) ∧ (¬ r17 = r9 → False))))) := by
  have hp := LI_po h
  have h1 := LI_0 1 h
  obtain ⟨I, J, D, W, cv, F, H, P, nn, C, V, e3, ⟨z, g⟩, o, t⟩ := h
  have hcv := C.1.1.2.2.2.2.2.2.2.1
  refine ⟨px, rfl, hp.2, s_drop (X := fun (kk : Nat) (M3 : CM) => (kk = 1 ∧ _)) C.1.2.2.1 C.1.2.2.2.1 C.2.2.1.1 a (fun q hq ea v _ => ⟨po, rfl, hp.1.1, po_in hp.1.2, nm_e ?_⟩) (fun c => ⟨rfl, ?_⟩)⟩
  · subst ea
    refine r_drop _ (fun q' hq' ea' => ?_) (fun c => ?_)
    rotate_left
    · exfalso
      rcases c with c | c
      · exact nI_pos (by omega) c
      · rw [show (6 : Int32) = nI 6 from rfl, nI_leI (by omega) (by omega)] at c; omega
    have : q' = q := ((nI_eq (by omega) (by omega)).mp ea').symm
    subst this
    have e4 := (o q' hq).2.1
    rw [List.length_map] at e4
    rw [e4]
    have ky := kY_sI T M (f := 51) (OA q' 0) 0 (by decide)
    refine ck_ok hp.1 rfl (xJ_po _) (k _ _ _ (LI_yJ _ ⟨I, J, D, W, cv, uF F q' [], H, P, nn, ⟨CS_Y ky C.1, VA_Y ky C.2.1, CF_clear hq C.1 v C.2.2.1, ?_⟩, LV_fr hcv (N := N) ⟨fun f hf => ?_, rfl, ?_⟩ (fun v _ => sam_rf) V, ?_, ⟨⟨?_, fun i hi h100 => ?_⟩, g⟩, fun x hx => ?_, fun x hx n hn => ?_⟩))
    · rw [cI_sI, if_neg (fun z => by omega)]; exact C.2.2.2
    · funext i; rw [rA_wA, if_neg (fun z => by omega)]; rfl
    · rw [rI_wA, rI_wI, if_neg (by decide)]
    · rw [rI_wA, rI_wI, if_neg (by decide), cI_sI, if_neg (fun z => by omega)]; exact e3
    · rw [rI_wA, rI_wI, if_neg (by decide)]; exact z.1
    · rw [rA_wA, if_neg (fun z => absurd z.1 (by decide))]; exact z.2 i hi h100
    · by_cases y : x = q'
      · rw [y, uF_s]
        refine ⟨Nat.zero_le _, ?_, fun i hi => absurd hi (Nat.not_lt_zero i)⟩
        rw [rA_wA, if_pos ⟨rfl, rfl⟩]; rfl
      · rw [uF_n _ _ y]
        obtain ⟨o1, o2, o3⟩ := o x hx
        have k0 : zK (fun f i => f = 4 ∧ i = q') N (wA N 4 q' 0) := zK_A _ _ ⟨rfl, rfl⟩
        refine ⟨o1, ?_, fun i hi => ?_⟩
        · rw [rA_wA, if_neg (fun z => y z.2)]; exact o2
        · exact zK_rFm (N := N) (N' := wA N 4 q' 0) k0 (fun z => absurd z.1 (by decide)) (fun j g' i' _ z b => by have := cA_r z; omega) (o3 i hi)
    · by_cases y : x = q'
      · rw [y, uF_s]; exact told_nil n
      · rw [uF_n _ _ y]; exact t x hx n hn
  · refine r_drop _ (fun q' hq' ea' => ?_) (fun _ => ck_no (by decide) rfl (k _ _ _ h1))
    exfalso
    subst ea'
    rcases c with c | c
    · exact nI_pos (by omega) c
    · rw [show (6 : Int32) = nI 6 from rfl, nI_leI (by omega) (by omega)] at c; omega
theorem L_operation (hnm : ∀ i j, i < 10 → j < 10 → nm i = nm j → i = j) (h : LI nm G px hN RW OA hr rs rp po T M N) (k : ∀ T' M' N', LI nm G px hN RW OA hr rs rp po T' M' N' → K T' M' N') (a w : Int32) : fc_L_operation nm T (some px) a w (some po) M (fun (r9 : Int32) (M10 : CM) => fm_operation a w N (fun (r13 : Int32) (N16 : RM) => fm_thrown N16 (fun (r17 : Int32) (N20 : RM) => ((r17 = r9 → ((¬ r9 = 0 → K T M10 N20) ∧ (r9 = 0 → (tg T po = 23 ∧ (vp_in (0 : Int32) (ln T po) ∧ (((lg_cmp (xJ M10 po (0 : Int32).toNatClampNeg) r13.toInt64) = 0 → K T M10 N20) ∧ (¬ (lg_cmp (xJ M10 po (0 : Int32).toNatClampNeg) r13.toInt64) = 0 → False))))))) ∧ (¬ r17 = r9 → False))))) := by
  have hp := LI_po h
  have h1 := LI_0 1 h
  have h0 := LI_0 0 h
  obtain ⟨I, J, D, W, cv, F, H, P, nn, C, V, e3, ⟨z, g⟩, o, t⟩ := id h
  refine ⟨px, rfl, hp.2, s_operation (X := fun (kk : Nat) (M3 : CM) => (kk = 1 ∧ _)) hnm C.1.2.2.1 C.1.2.2.2.1 C.2.2.1.1 a w (fun q m hq hm ea ew M1 gs' k1 v1 => ⟨po, rfl, hp.1.1, po_in hp.1.2, nm_e ?_⟩) (fun c => ⟨rfl, ?_⟩)⟩
  · subst ea
    subst ew
    refine r_operation o t _ _ (fun q' m' hq' hm' ea' ew' => ?_) (fun c => ?_)
    rotate_left
    · exfalso
      rcases c with c | c | c | c
      · exact nI_pos (by omega) c
      · rw [show (6 : Int32) = nI 6 from rfl, nI_leI (by omega) (by omega)] at c; omega
      · exact nI_pos (by omega) c
      · rw [show (11 : Int32) = nI 11 from rfl, nI_ltI (by omega) (by omega)] at c; omega
    have e1 : q' = q := ((nI_eq (by omega) (by omega)).mp ea').symm
    have e2 : m' = m := ((nI_eq (by omega) (by omega)).mp ew').symm
    subst e1
    subst e2
    have t2 := (C.1.2.2.2.1 q' hq).2.2.2.2.2.1
    have ky := kG_kY t2 k1
    obtain ⟨I', J', D', W', cv', F', H', P', nn', C', r'⟩ := h0
    refine ck_ok hp.1 rfl (xJ_po _) (k _ _ _ (LI_yJ _ ⟨I, J, D, W, cv, F, uF H q' gs', P, nn, ⟨CS_Y ky C.1, VA_Y ky C.2.1, CF_G hq C.1 k1 v1 C.2.2.1, (k1.1 _ _ (fun z => by omega)).trans C.2.2.2⟩, LV_fr C.1.1.2.2.2.2.2.2.2.1 (wI0_kW 0) (fun v _ => sam_rf) V, ?_, ⟨⟨?_, z.2⟩, g⟩, fun x hx => rOp_fr (fun _ _ _ => rfl) (o x hx), t⟩))
    · rw [rI_wI, if_neg (by decide), k1.1 _ _ (fun z => by omega)]; exact e3
    · rw [rI_wI, if_neg (by decide)]; exact z.1
  · refine r_operation o t _ _ (fun q' m' hq' hm' ea' ew' => ?_) (fun _ => ck_no (by decide) rfl (k _ _ _ h1))
    exfalso
    subst ea'
    subst ew'
    rcases c with c | c | c | c
    · exact nI_pos (by omega) c
    · rw [show (6 : Int32) = nI 6 from rfl, nI_leI (by omega) (by omega)] at c; omega
    · exact nI_pos (by omega) c
    · rw [show (11 : Int32) = nI 11 from rfl, nI_ltI (by omega) (by omega)] at c; omega
theorem L_define (hnm : ∀ i j, i < 10 → j < 10 → nm i = nm j → i = j) (h : LI nm G px hN RW OA hr rs rp po T M N) (k : ∀ T' M' N', LI nm G px hN RW OA hr rs rp po T' M' N' → K T' M' N') : tg T px = 11 ∧ (∃ cc41 nz42 : Nat, cc41 ≤ 290 ∧ nz42 ≤ 2990 ∧ fc_X10_define nm cc41 nz42 px T M (fun (r36 : Int32) (T38 : LY) (M37 : CM) => fm_define N (fun (r43 : Int32) (N46 : RM) => ((r36 = r43 → K T38 M37 N46) ∧ (¬ r36 = r43 → False))))) := by
  have hp := LI_po h
  obtain ⟨I, J, D, W, cv, F, H, P, nn, C, V, e3, ⟨z, g⟩, o, t⟩ := id h
  have hcv := C.1.1.2.2.2.2.2.2.2.1
  have kd : ∀ {N'}, kDf N N' → LV N' I J D W cv P nn ∧ zLP N' (W 144) := fun {N'} kd => ⟨LV_fr hcv ⟨fun f hf => kd.2.1 f (Or.inr hf), kd.2.2, kd.1 18 (by decide) (by decide) (by decide) (by decide)⟩ (fun v _ => sam_rf) V, (kd.1 2 (by decide) (by decide) (by decide) (by decide)).trans z.1, fun i a b => by rw [kd.2.1 1 (Or.inl (by decide))]; exact z.2 i a b⟩
  refine ⟨hp.2, 22, 105, by decide, by decide, s_define hnm C t (fun c ec T' M' C' e8 => ?_) (fun q φ x n ez hq hn nt lt T' M' H' C' e8 => ?_) (fun q φ x ez hq al l6 T' M' H' C' e8 => ?_) (fun q φ x ez hq al l6 T' M' H' C' e8 => ?_)⟩
  · refine r_define g z o 0 (fun f ef N' kf of n3 => ⟨fun _ => ?_, fun z => z rfl⟩) (fun q φ n ez => by rw [ec] at ez; cases ez) (fun q φ ez => by rw [ec] at ez; cases ez) (fun q φ ez => by rw [ec] at ez; cases ez)
    rw [ec] at ef
    injection ef with ef
    exact k _ _ _ ⟨I, J, D, W, cv, F, H, P, nn, C', (kd kf).1, by rw [n3, e8, ef], ⟨(kd kf).2, g⟩, of, t⟩
  · refine r_define g z o x (fun f ef => by rw [ez] at ef; cases ef) (fun q' φ' n' ez' hq' hn' nt' lt' N' kf of n3 => ⟨fun _ => ?_, fun z => z rfl⟩) (fun q' φ' ez' hq' al' => ?_) (fun q' φ' ez' hq' al' => ?_)
    · rw [ez] at ez'
      injection ez' with ez'
      injection ez' with e1 e2
      have e1' : q = q' := (nI_eq (by omega) (by omega)).mp e1
      subst e1'
      subst e2
      have en : n' = n := by
        rcases Nat.lt_trichotomy n' n with c | c | c
        · exact absurd (lt n' c) nt'
        · exact c
        · exact absurd (lt' n c) nt
      exact k _ _ _ ⟨I, J, D, W, cv, F, H', P, nn, C', (kd kf).1, by rw [n3, e8, en], ⟨(kd kf).2, g⟩, of, t⟩
    · exfalso
      rw [ez] at ez'
      injection ez' with ez'
      injection ez' with e1 e2
      have e1' : q = q' := (nI_eq (by omega) (by omega)).mp e1
      subst e1'
      subst e2
      exact nt (al' n hn)
    · exfalso
      rw [ez] at ez'
      injection ez' with ez'
      injection ez' with e1 e2
      have e1' : q = q' := (nI_eq (by omega) (by omega)).mp e1
      subst e1'
      subst e2
      exact nt (al' n hn)
  · refine r_define g z o x (fun f ef => by rw [ez] at ef; cases ef) (fun q' φ' n' ez' hq' hn' nt' => ?_) (fun q' φ' ez' hq' al' l6' N' kf of n3 => ⟨fun _ => k _ _ _ ⟨I, J, D, W, cv, F, H', P, nn, C', (kd kf).1, by rw [n3, e8], ⟨(kd kf).2, g⟩, of, t⟩, fun z => z rfl⟩) (fun q' φ' ez' hq' al' l6' => ?_)
    · exfalso
      rw [ez] at ez'
      injection ez' with ez'
      injection ez' with e1 e2
      have e1' : q = q' := (nI_eq (by omega) (by omega)).mp e1
      subst e1'
      subst e2
      exact nt' (al n' hn')
    · exfalso
      rw [ez] at ez'
      injection ez' with ez'
      injection ez' with e1 e2
      have e1' : q = q' := (nI_eq (by omega) (by omega)).mp e1
      subst e1'
      omega
  · refine r_define g z o x (fun f ef => by rw [ez] at ef; cases ef) (fun q' φ' n' ez' hq' hn' nt' => ?_) (fun q' φ' ez' hq' al' l6' => ?_) (fun q' φ' ez' hq' al' l6' N' kf of on n3 => ?_)
    · exfalso
      rw [ez] at ez'
      injection ez' with ez'
      injection ez' with e1 e2
      have e1' : q = q' := (nI_eq (by omega) (by omega)).mp e1
      subst e1'
      subst e2
      exact nt' (al n' hn')
    · exfalso
      rw [ez] at ez'
      injection ez' with ez'
      injection ez' with e1 e2
      have e1' : q = q' := (nI_eq (by omega) (by omega)).mp e1
      subst e1'
      omega
    · rw [ez] at ez'
      injection ez' with ez'
      injection ez' with e1 e2
      have e1' : q = q' := (nI_eq (by omega) (by omega)).mp e1
      subst e1'
      subst e2
      refine ⟨fun _ => k _ _ _ ⟨I, J, D, W, cv, uF F q (F q ++ [(x, φ)]), H', P, nn, C', (kd kf).1, by rw [n3, e8], ⟨(kd kf).2, g⟩, fun y hy => ?_, fun y hy n hn => ?_⟩, fun z => z rfl⟩
      · by_cases c : y = q
        · rw [c, uF_s]; exact on
        · rw [uF_n _ _ c]; exact of y hy c
      · by_cases c : y = q
        · rw [c, uF_s]; exact al n hn
        · rw [uF_n _ _ c]; exact t y hy n hn
theorem L_kind (h : LI nm G px hN RW OA hr rs rp po T M N) (k : ∀ T' M' N', LI nm G px hN RW OA hr rs rp po T' M' N' → K T' M' N') (a : Int32) : tg T px = 11 ∧ fc_X10_kind T px a M (fun (r187 : Int32) (M188 : CM) => fm_kind a N (fun (r192 : Int32) (N195 : RM) => ((r187 = r192 → K T M188 N195) ∧ (¬ r187 = r192 → False)))) := by
  have hp := LI_po h
  have h0 := LI_0 0 h
  obtain ⟨I, J, D, W, cv, F, H, P, nn, C, V, -⟩ := h
  have sz := LV_sz V
  obtain ⟨v1, v2, v3, v4, v5, v6⟩ := V
  refine ⟨hp.2, s_kind C.1.1 C.1.2.1 C.2.1 sz v5 C.2.2.2 a (fun v e => r_kind v5 v4 v6 a (fun v' e' => ⟨fun _ => k _ _ _ h0, fun z => z ?_⟩) (fun e' => by rw [e] at e'; cases e')) (fun e => r_kind v5 v4 v6 a (fun v' e' => by rw [e] at e'; cases e') (fun e' => ⟨fun _ => k _ _ _ h0, fun z => z rfl⟩))⟩
  rw [e] at e'
  injection e' with e'
  rw [e']
theorem L_item (h : LI nm G px hN RW OA hr rs rp po T M N) (k : ∀ T' M' N', LI nm G px hN RW OA hr rs rp po T' M' N' → K T' M' N') (a b : Int32) : tg T px = 11 ∧ fc_X10_item T px a b M (fun (r187 : Int32) (M188 : CM) => fm_item a b N (fun (r192 : Int32) (N195 : RM) => ((r187 = r192 → K T M188 N195) ∧ (¬ r187 = r192 → False)))) := by
  have hp := LI_po h
  have h0 := LI_0 0 h
  obtain ⟨I, J, D, W, cv, F, H, P, nn, C, V, -⟩ := h
  have sz := LV_sz V
  obtain ⟨v1, v2, v3, v4, v5, v6⟩ := V
  refine ⟨hp.2, s_item C.1.1 C.1.2.1 C.2.1 sz v5 C.2.2.2 a b (fun c v e => r_item v5 v4 v6 a b (fun _ v' e' => ⟨fun _ => k _ _ _ h0, fun z => z ?_⟩) (fun e' => by have := e' c; rw [e] at this; cases this)) (fun e => r_item v5 v4 v6 a b (fun c v' e' => by have := e c; rw [this] at e'; cases e') (fun e' => ⟨fun _ => k _ _ _ h0, fun z => z rfl⟩))⟩
  rw [e] at e'
  injection e' with e'
  rw [e']
theorem L_whole (h : LI nm G px hN RW OA hr rs rp po T M N) (k : ∀ T' M' N', LI nm G px hN RW OA hr rs rp po T' M' N' → K T' M' N') (a b : Int32) : tg T px = 11 ∧ fc_X10_whole T px a b M (fun (r211 : Int64) (M188 : CM) => fm_whole a b N (fun (r216 : Int64) (N195 : RM) => (((lg_cmp r211 r216) = 0 → K T M188 N195) ∧ (¬ (lg_cmp r211 r216) = 0 → False)))) := by
  have hp := LI_po h
  have h0 := LI_0 0 h
  obtain ⟨I, J, D, W, cv, F, H, P, nn, C, V, -⟩ := h
  have sz := LV_sz V
  obtain ⟨v1, v2, v3, v4, v5, v6⟩ := V
  refine ⟨hp.2, s_whole C.1.1 C.1.2.1 C.2.1 sz v5 C.2.2.2 a b (fun v e => r_whole v5 v4 v6 a b (fun v' e' => ⟨fun _ => k _ _ _ h0, fun z => z ((lg_cmp_eq _ _).mpr ?_)⟩) (fun e' => by rw [e] at e'; cases e')) (fun e => r_whole v5 v4 v6 a b (fun v' e' => by rw [e] at e'; cases e') (fun e' => ⟨fun _ => k _ _ _ h0, fun z => z ((lg_cmp_eq _ _).mpr rfl)⟩))⟩
  rw [e] at e'
  injection e' with e'
  rw [e']; rfl
theorem L_sign (h : LI nm G px hN RW OA hr rs rp po T M N) (k : ∀ T' M' N', LI nm G px hN RW OA hr rs rp po T' M' N' → K T' M' N') (a b c : Int32) : tg T px = 11 ∧ fc_X10_sign T px a b c M (fun (r187 : Int32) (M188 : CM) => fm_sign a b c N (fun (r192 : Int32) (N195 : RM) => ((r187 = r192 → K T M188 N195) ∧ (¬ r187 = r192 → False)))) := by
  have hp := LI_po h
  have h0 := LI_0 0 h
  obtain ⟨I, J, D, W, cv, F, H, P, nn, C, V, -⟩ := h
  have sz := LV_sz V
  obtain ⟨v1, v2, v3, v4, v5, v6⟩ := V
  refine ⟨hp.2, s_sign C.1.1 C.1.2.1 C.2.1 sz v5 C.2.2.2 a b c (fun v e => r_sign v5 v4 v6 a b c (fun v' e' => ⟨fun _ => k _ _ _ h0, fun z => z ?_⟩) (fun e' => by rw [e] at e'; cases e')) (fun e => r_sign v5 v4 v6 a b c (fun v' e' => by rw [e] at e'; cases e') (fun e' => ⟨fun _ => k _ _ _ h0, fun z => z rfl⟩))⟩
  rw [e] at e'
  injection e' with e'
  rw [e']
theorem real_ck (d : UInt64) {A B : Prop} (k : A) : (((Op.cmpValue (FP.dcmp d d) .l) = 0 → A) ∧ (¬ (Op.cmpValue (FP.dcmp d d) .l) = 0 → (((Op.cmpValue (FP.dcmp d d) .l) = 0 → B) ∧ (¬ (Op.cmpValue (FP.dcmp d d) .l) = 0 → ((¬ (Op.cmpValue (FP.dcmp d d) .l) = 0 → A) ∧ ((Op.cmpValue (FP.dcmp d d) .l) = 0 → B)))))) := ⟨fun _ => k, fun n => ⟨fun z => absurd z n, fun _ => ⟨fun _ => k, fun z => absurd z n⟩⟩⟩
theorem L_real (h : LI nm G px hN RW OA hr rs rp po T M N) {B : LY → CM → RM → Prop} (k : ∀ T' M' N', LI nm G px hN RW OA hr rs rp po T' M' N' → K T' M' N') (a b : Int32) : tg T px = 11 ∧ fc_X10_real T px a b M (fun (r223 : UInt64) (M224 : CM) => fm_real a b N (fun (r228 : UInt64) (N231 : RM) => (((Op.cmpValue (FP.dcmp r223 r228) .l) = 0 → K T M224 N231) ∧ (¬ (Op.cmpValue (FP.dcmp r223 r228) .l) = 0 → (((Op.cmpValue (FP.dcmp r223 r223) .l) = 0 → B T M224 N231) ∧ (¬ (Op.cmpValue (FP.dcmp r223 r223) .l) = 0 → ((¬ (Op.cmpValue (FP.dcmp r228 r228) .l) = 0 → K T M224 N231) ∧ ((Op.cmpValue (FP.dcmp r228 r228) .l) = 0 → B T M224 N231)))))))) := by
  have hp := LI_po h
  have h0 := LI_0 0 h
  obtain ⟨I, J, D, W, cv, F, H, P, nn, C, V, -⟩ := h
  have sz := LV_sz V
  obtain ⟨v1, v2, v3, v4, v5, v6⟩ := V
  refine ⟨hp.2, s_real C.1.1 C.1.2.1 C.2.1 sz v5 C.2.2.2 a b (fun v e => r_real v5 v4 v6 a b (fun v' e' => ?_) (fun e' => by rw [e] at e'; cases e')) (fun e => r_real v5 v4 v6 a b (fun v' e' => by rw [e] at e'; cases e') (fun e' => real_ck _ (k _ _ _ h0)))⟩
  rw [e] at e'
  injection e' with e'
  rw [e']
  exact real_ck _ (k _ _ _ h0)
end LAW
