section LAW
variable {nm : Nat → Nat} {G : Nat → Nat → Nat} {T : LY} {M M' : CM} {N N' : RM} {I I' : Nat → Nat → Int32} {J J' : Nat → Int64} {D D' : Nat → UInt64} {W W' : Nat → List Int32} {px hN cv hr rs rp po P : Nat} {RW : Nat → Nat} {OA : Nat → Nat → Nat} {F H : Nat → List (Nat × List Ag)} {nn : Nat → Nat} {K : LY → CM → RM → Prop}
theorem r_call_bad {a n : Int32} (c : a < 0 ∨ 6 ≤ a ∨ n < 0 ∨ 8 < n) {Q : Int32 → RM → Prop} (q : Q 0 (wI N 0 1)) : fm_call a n N Q := by
  have bad : fm_call_b24 Q a n N := by
    unfold fm_call_b24 fm_call_b25
    exact r_refused ⟨fun z => absurd z (by decide), fun _ => q⟩
  unfold fm_call
  refine r_isIn (a := 0) (b := 5) (by decide) (fun x hx e => ⟨fun z => absurd z (by decide), fun _ => r_isIn (a := 0) (b := 8) (by decide) (fun m hm em => ⟨fun z => absurd z (by decide), fun _ => ?_⟩) (fun _ => ⟨fun _ => bad, fun z => absurd rfl z⟩)⟩) (fun _ => ⟨fun _ => bad, fun z => absurd rfl z⟩)
  exfalso
  subst e
  subst em
  rcases c with c | c | c | c
  · exact nI_pos (by omega) c
  · rw [show (6 : Int32) = nI 6 from rfl, nI_leI (by omega) (by omega)] at c; omega
  · exact nI_pos (by omega) c
  · rw [show (8 : Int32) = nI 8 from rfl, nI_ltI (by omega) (by omega)] at c; omega
theorem vA_sam (s : ∀ v, v < 48 → sam I J D W I' J' D' W' v) (h : vA N I J D W nn) : vA N I' J' D' W' nn := by
  refine ⟨fun i hi => ?_, fun v hv => ?_⟩
  · rcases h.1 i hi with ⟨z, z2⟩ | z
    · exact Or.inl ⟨vT_pt (kP_rf i N) (s i (by omega)) z, z2⟩
    · have n5 := z.2.2.2.1
      exact Or.inr (vL_pt (kP_rf i N) (s i (by omega)) (fun x hx => kP_rf _ N) (fun x hx => s _ (by rw [itm_v hi]; omega)) z)
  · have sv := s v hv
    have q := h.2 v hv
    unfold dV at q ⊢
    rw [sv.1 83, sv.2.2.1]; exact q
/-- after a call: the slots stand -/
theorem LV_call {cv' P' : Nat} (h : LV N I J D W cv P nn) (kv : kV N N') (s : ∀ v, v < 48 → sam I J D W I' J' D' W' v) (e18 : rI N' 18 = nI P') (hP : P' ≤ 8) (hv : ∀ k, k < P' → vis N' I' J' D' W' cv' k) : LV N' I' J' D' W' cv' P' nn := by
  obtain ⟨a, b, c, d, e, f⟩ := h
  refine ⟨vA_sam s (kV_vA kv a), fun v hv => by rw [(s v hv).1 83]; exact b v hv, fun i hi => ?_, e18, hP, hv⟩
  obtain ⟨c1, c2, c3⟩ := c i hi
  exact ⟨((s i (by omega)).1 85).trans c1, c2, fun x hx => ((s _ (by rw [itm_v hi]; omega)).1 85).trans (c3 x hx)⟩
theorem LV_hd (h : LV N I J D W cv P nn) : ∀ v, v < 48 → hasB (I 83 v) = true → Jvm.FP.Core.dIsNaN (D v) = false := fun v hv e => by
  have g := (h.1.2 v hv).1
  unfold dV at g
  rw [if_pos e] at g; exact g
/-- what was seen stands, when a call is refused -/
theorem vis_no (hcv : cv = 1 ∨ cv = 2) (m : ∀ p, p < 48 → ∀ k j d w z, mR N p k j d w z → mR N' p k j d w z) (s : ∀ v, v / 48 ≠ 3 - cv → sam I J D W I' J' D' W' v) {k : Nat} (hk : k < 8) (h : vis N I J D W cv k) : vis N' I' J' D' W' cv k := by
  have s0 := s (48 * cv + k) (by omega)
  obtain ⟨a, b, c⟩ := h
  unfold vis
  rw [s0.1 80, s0.1 85, s0.2.1, s0.2.2.1, s0.2.2.2]
  refine ⟨m _ (by omega) _ _ _ _ _ a, b, c.imp id (fun ⟨c6, n, n5, e, f⟩ => ⟨c6, n, n5, e, fun j hj => ?_⟩)⟩
  have sj := s (itm (48 * cv + k) j) (by rw [itm_div (by omega) (by omega)]; omega)
  rw [sj.1 80, sj.1 85, sj.2.1, sj.2.2.1, sj.2.2.2]
  exact ⟨m _ (by rw [itm_v hk]; omega) _ _ _ _ _ (f j hj).1, (f j hj).2⟩
theorem kV_rA (k : kV N N') (f : Nat) (h : f < 19) : rA N' f = rA N f := k.1 f (by omega) (by omega) (by omega)
theorem N1c_e (f : Nat) (h0 : f ≠ 0) (h3 : f ≠ 3) : rI (N1c N) f = rI N f := by unfold N1c; rw [rI_wI, if_neg h3, rI_wI, if_neg h0]
theorem CI_fin {M2 : CM} {P' : Nat} (S : CS G T M2 px hN RW cv OA hr rs rp po) (X : CF nm T M2 OA F H) (e : M' = sI (sI (sR (sR M2 105 px (some (RW (3 - cv)))) 106 px (some (RW cv))) 107 px (nI P')) 108 px (-1)) (V : VA G M' I' J' D' W') : CI nm G T M' I' J' D' W' px hN RW (3 - cv) OA F H hr rs rp po P' ∧ cI M' 108 px = -1 := by
  obtain ⟨⟨a1, a2, a3, a4, a5, a6, a7, a8, a9⟩, ⟨b1, b2, b3, b4⟩, ⟨c1, r, c2, c3, c4, c5⟩, d, ⟨⟨e1, e2, e3, e4, e5, e6, e7⟩, e8⟩, f, g⟩ := S
  have hc : ∀ f a, f ≠ 105 → f ≠ 106 → cR M' f a = cR M2 f a := fun f a n1 n2 => by
    rw [e]
    show cR (sR (sR M2 105 px (some (RW (3 - cv)))) 106 px (some (RW cv))) f a = _
    rw [cR_sR, if_neg (fun z => n2 z.1), cR_sR, if_neg (fun z => n1 z.1)]
  have h105 : cR M' 105 px = some (RW (3 - cv)) := by
    rw [e]
    show cR (sR (sR M2 105 px (some (RW (3 - cv)))) 106 px (some (RW cv))) 105 px = _
    rw [cR_sR, if_neg (fun z => absurd z.1 (by decide)), cR_sR, if_pos ⟨rfl, rfl⟩]
  have h106 : cR M' 106 px = some (RW cv) := by
    rw [e]
    show cR (sR (sR M2 105 px (some (RW (3 - cv)))) 106 px (some (RW cv))) 106 px = _
    rw [cR_sR, if_pos ⟨rfl, rfl⟩]
  have hx : ∀ a i, xR M' a i = xR M2 a i := fun a i => by rw [e]; rfl
  have hj : ∀ a i, xJ M' a i = xJ M2 a i := fun a i => by rw [e]; rfl
  have hi : ∀ f a, f ≠ 107 → f ≠ 108 → cI M' f a = cI M2 f a := fun f a n1 n2 => by
    rw [e, cI_sI, if_neg (fun z => n2 z.1), cI_sI, if_neg (fun z => n1 z.1)]; rfl
  have kt : kT T M2 M' := ⟨fun f a _ q => hi f a (by omega) (by omega), fun f a q => hc f a (by omega) (by omega), hj, fun a i _ => hx a i⟩
  refine ⟨⟨⟨⟨a1, (hc 100 _ (by decide) (by decide)).trans a2, (hc 103 _ (by decide) (by decide)).trans a3, (hc 104 _ (by decide) (by decide)).trans a4, a5, h105, ?_, by omega, fun r hr => ⟨(a9 r hr).1, (a9 r hr).2.1, fun i hi' => (hx _ _).trans ((a9 r hr).2.2 i hi')⟩⟩, ⟨fun t ht => ?_, fun t ht => ?_, fun t ht m j hj' => (hx _ _).trans (b3 t ht m j hj'), b4⟩, ⟨c1, r, (hc 102 _ (by decide) (by decide)).trans c2, c3, c4, fun o ho => (hx _ _).trans (c5 o ho)⟩, fun o ho => ?_, ⟨⟨e1, (hc 60 _ (by decide) (by decide)).trans e2, e3, e4, (hc 61 _ (by decide) (by decide)).trans e5, e6, e7⟩, e8⟩, (hc 101 _ (by decide) (by decide)).trans f, g⟩, V, ⟨fun o ho => ?_, fun o ho i hi' => (hi 21 _ (by decide) (by decide)).trans (X.2 o ho i hi')⟩, ?_⟩, ?_⟩
  · rw [h106, show 3 - (3 - cv) = cv by omega]
  · rw [hc 70 _ (by decide) (by decide)]; exact b1 t ht
  · rw [hc 84 _ (by decide) (by decide), hc 86 _ (by decide) (by decide)]; exact b2 t ht
  · obtain ⟨s1, s2, s3, s4, s5, s6, s7, s8⟩ := d o ho
    exact ⟨s1, (hc 50 _ (by decide) (by decide)).trans s2, s3, s4, (hc 52 _ (by decide) (by decide)).trans s5, s6, s7, s8⟩
  · obtain ⟨v1, v2, v3, v4, v5, v6⟩ := X.1 o ho
    exact ⟨v1, (hi 51 _ (by decide) (by decide)).trans v2, fun i hi' => ⟨(hx _ _).trans (v3 i hi').1, kT_fmc kt (v3 i hi').2⟩, v4, (hi 53 _ (by decide) (by decide)).trans v5, fun i hi' => ⟨(hx _ _).trans (v6 i hi').1, kT_fmc kt (v6 i hi').2⟩⟩
  · rw [e, cI_sI, if_neg (fun z => absurd z.1 (by decide)), cI_sI, if_pos ⟨rfl, rfl⟩]
  · rw [e, cI_sI, if_pos ⟨rfl, rfl⟩]
theorem L_call (hnm : ∀ i j, i < 10 → j < 10 → nm i = nm j → i = j) (h : LI nm G px hN RW OA hr rs rp po T M N) (k : ∀ T' M' N', LI nm G px hN RW OA hr rs rp po T' M' N' → K T' M' N') (a n : Int32) : fc_L_call nm T (some px) a n (some po) M (fun (r9 : Int32) (M10 : CM) => fm_call a n N (fun (r13 : Int32) (N16 : RM) => fm_thrown N16 (fun (r17 : Int32) (N20 : RM) => ((r17 = r9 → ((¬ r9 = 0 → K T M10 N20) ∧ (r9 = 0 → (tg T po = 23 ∧ (vp_in (0 : Int32) (ln T po) ∧ (((lg_cmp (xJ M10 po (0 : Int32).toNatClampNeg) r13.toInt64) = 0 → K T M10 N20) ∧ (¬ (lg_cmp (xJ M10 po (0 : Int32).toNatClampNeg) r13.toInt64) = 0 → False))))))) ∧ (¬ r17 = r9 → False))))) := by
  have hp := LI_po h
  have h1 := LI_0 1 h
  obtain ⟨I, J, D, W, cv, F, H, P, nn, C, V, e3, zg, o, t⟩ := h
  have hcv := C.1.1.2.2.2.2.2.2.2.1
  have va := V.1
  have hn := V.2.2.1
  refine ⟨px, rfl, hp.2, s_call (X := fun (kk : Nat) (M3 : CM) => (kk = 1 ∧ _)) hnm C.1.1 C.1.2.1 C.2.1 C.1.2.2.1 C.1.2.2.2.1 C.2.2.1.1 nn V.2.1 (LV_hd V) hn a n (fun c => ⟨rfl, r_call_bad c (ck_no (by decide) rfl (k _ _ _ h1))⟩) (fun q m v hq hm hv ea en hrf M1 M2 gs' I' J' D' W' k1 v1 z2 V2 sm => ⟨po, rfl, hp.1.1, po_in hp.1.2, nm_e ?_⟩) (fun q m u gs j φ hq hm ea en hu hgs hj hpk hφ ok0 ok1 M1 M2 M3 gs' I' J' D' W' k1 v1 z2 e3' V3 cv0 cv1 cv2 sm => ⟨po, rfl, hp.1.1, po_in hp.1.2, nm_e ?_⟩)⟩
  · subst ea
    subst en
    have t2 := (C.1.2.2.2.1 q hq).2.2.2.2.2.1
    have ky := kG_kY t2 k1
    have C1 : CI nm G T M1 I J D W px hN RW cv OA F (uF H q gs') hr rs rp po P := ⟨CS_Y ky C.1, VA_Y ky C.2.1, CF_G hq C.1 k1 v1 C.2.2.1, (k1.1 _ _ (fun z => by omega)).trans C.2.2.2⟩
    have C2 := (CI_zA z2 V2 C1).1
    have C3 := CI_108 (a := px) (nI v) C2
    refine r_call_no hq (o q hq) va hm (t q hq) hrf (fun N1 kq => ck_ok hp.1 ?_ (xJ_po _) (k _ _ _ (LI_yJ _ ⟨I', J', D', W', cv, F, _, P, nn, C3, LV_call V (N' := wI N1 3 (nI v)) (kV_tr (kV_N1 N) kq.2.1) (fun v hv => sm v (by omega)) ?_ V.2.2.2.2.1 (fun x hx => ?_), ?_, ?_, fun y hy => rOp_fr (fun f h1 h2 => ?_) (o y hy), t⟩)))
    · rw [rI_wI, if_neg (by decide), kq.1 0 (by decide) (by decide)]; rfl
    · rw [rI_wI, if_neg (by decide), kq.1 18 (by decide) (by decide), N1c_e 18 (by decide) (by decide)]; exact V.2.2.2.1
    · exact vis_no hcv (N' := wI N1 3 (nI v)) (fun p hp k j d w z m => kq.2.2 p hp k j d w z m) sm (by have := V.2.2.2.2.1; omega) (V.2.2.2.2.2 x hx)
    · rw [rI_wI, if_pos rfl, cI_sI, if_pos ⟨rfl, rfl⟩]
    · have e144 : W' 144 = W 144 := (sm 144 (by omega)).2.2.2
      rw [e144]
      refine ⟨⟨?_, fun i p q => ?_⟩, zg.2⟩
      · rw [rI_wI, if_neg (by decide), kq.1 2 (by decide) (by decide), N1c_e 2 (by decide) (by decide)]; exact zg.1.1
      · rw [rA_wI, kV_rA (kV_tr (kV_N1 N) kq.2.1) 1 (by decide)]; exact zg.1.2 i p q
    · rw [rA_wI, kV_rA (kV_tr (kV_N1 N) kq.2.1) f (by omega)]
  · subst ea
    subst en
    have t2 := (C.1.2.2.2.1 q hq).2.2.2.2.2.1
    have ky := kG_kY t2 k1
    have C1 : CI nm G T M1 I J D W px hN RW cv OA F (uF H q gs') hr rs rp po P := ⟨CS_Y ky C.1, VA_Y ky C.2.1, CF_G hq C.1 k1 v1 C.2.2.1, (k1.1 _ _ (fun z => by omega)).trans C.2.2.2⟩
    have S2 : CS G T M2 px hN RW cv OA hr rs rp po := CS_zA z2 C1.1
    have X2 : CF nm T M2 OA F (uF H q gs') := CF_zA z2 C1.2.2.1
    have u8 : u ≤ 8 := by rw [hu]; unfold usd; split <;> omega
    refine r_call_ok hq (o q hq) va hm (t q hq) hu hgs hj hpk hφ ok0 ok1 (fun i N1 hi ei f1 f18 kv m0 m1 m2 => ?_)
    have e21 : cI M 21 (gs.getD j (0, [])).1 = nI i := by rw [ei]; exact C.2.2.1.2 q hq i hi
    have l5 : φ.length ≤ 5 := by
      rw [hφ, ei]
      exact ((C.2.2.1.1 q hq).2.2.1 i hi).2.2.1
    obtain ⟨C3, x108⟩ := CI_fin S2 X2 e3' V3
    have eP : (if u ≤ φ.length then φ.length else u) = (if u < φ.length then φ.length else u) := by split <;> split <;> omega
    rw [eP] at f18
    have n0 : rI N1 0 = 0 := by rw [f1 0 (by decide) (by decide) (by decide)]; rfl
    have P8 : (if u < φ.length then φ.length else u) ≤ 8 := by split <;> omega
    have hv : ∀ x, x < (if u < φ.length then φ.length else u) → vis N1 I' J' D' W' (3 - cv) x := by
      intro x hx
      by_cases y : x < u
      · by_cases y2 : x < dcN gs u
        · exact vis_conv (by omega) (by omega) ((va.1 x (by omega)).imp id id) (m0 x y2) (cv0 x y2)
        · exact vis_conv (by omega) (by omega) ((va.1 x (by omega)).imp id id) (m1 x (by omega) y) (cv1 x (by omega) y)
      · have hx2 : x < φ.length := by
          by_cases c : u < φ.length
          · rw [if_pos c] at hx; exact hx
          · rw [if_neg c] at hx; omega
        obtain ⟨p1, p2⟩ := cv2 x (by omega) hx2
        exact vis_miss (m2 x (by omega) hx2) p1 p2
    rw [e21]
    refine ck_ok hp.1 n0 (xJ_po _) (k _ _ _ (LI_yJ _ ⟨I', J', D', W', 3 - cv, F, _, _, nn, C3, LV_call V kv (fun v hv => sm v (by omega)) f18 P8 hv, ?_, ?_, fun y hy => rOp_fr (fun f h1 h2 => kV_rA kv f (by omega)) (o y hy), t⟩))
    · rw [x108, f1 3 (by decide) (by decide) (by decide)]; rfl
    · have e144 : W' 144 = W 144 := (sm 144 (by omega)).2.2.2
      rw [e144]
      refine ⟨⟨?_, fun i p q => ?_⟩, zg.2⟩
      · rw [f1 2 (by decide) (by decide) (by decide), N1c_e 2 (by decide) (by decide)]; exact zg.1.1
      · rw [kV_rA kv 1 (by decide)]; exact zg.1.2 i p q
end LAW
