/-! the law's rounds -/
def LI (nm : Nat → Nat) (G : Nat → Nat → Nat) (px hN : Nat) (RW : Nat → Nat) (OA : Nat → Nat → Nat) (hr rs rp po : Nat) (T : LY) (M : CM) (N : RM) : Prop :=
  ∃ I J D W cv F H P nn, CI nm G T M I J D W px hN RW cv OA F H hr rs rp po P ∧ LV N I J D W cv P nn ∧ rI N 3 = cI M 108 px ∧ (zLP N (W 144) ∧ gL (W 144)) ∧ (∀ o, o < 6 → rOp N o ((F o).map Prod.snd)) ∧ ∀ o, o < 6 → ∀ n, n ≤ 8 → told (F o) n
theorem rOp_fr {N N' : RM} (e : ∀ f, 4 ≤ f → f ≤ 12 → rA N' f = rA N f) {o : Nat} {l : List (List Ag)} (h : rOp N o l) : rOp N' o l := by
  have wd : ∀ {x L}, rWd N x L → rWd N' x L := fun h => by
    unfold rWd at h ⊢
    rw [e 12 (by decide) (by decide)]; exact h
  have ty : ∀ {t τ}, rTy N t τ → rTy N' t τ := fun ⟨a, b, c, d, f⟩ => ⟨a, by rw [e 8 (by decide) (by decide)]; exact b, by rw [e 9 (by decide) (by decide)]; exact c, by rw [e 10 (by decide) (by decide)]; exact d, f.imp id (fun ⟨x, Ls, l1, l5, y, z, w⟩ => ⟨x, Ls, l1, l5, by rw [e 11 (by decide) (by decide)]; exact y, z, fun j hj => wd (w j hj)⟩)⟩
  have ag : ∀ {a g}, rAg N a g → rAg N' a g := fun ⟨x, y, z, w⟩ => ⟨by rw [e 6 (by decide) (by decide)]; exact x, by rw [e 7 (by decide) (by decide)]; exact y, ty z, w.imp id (fun ⟨σ, a, b, c, d⟩ => ⟨σ, a, b, c, ty d⟩)⟩
  obtain ⟨x, y, z⟩ := h
  refine ⟨x, by rw [e 4 (by decide) (by decide)]; exact y, fun i hi => ?_⟩
  obtain ⟨p, q, r⟩ := z i hi
  exact ⟨p, by rw [e 5 (by decide) (by decide)]; exact q, fun j hj => ag (r j hj)⟩
theorem told_nil (n : Nat) : told [] n := fun z => absurd z (by show ¬ 2 ≤ 0; decide)
theorem ck_ok {T : LY} {po : Nat} {M : CM} {N : RM} {K : RM → Prop} {v : Int32} (t : tg T po = 23 ∧ ln T po = 1) (h0 : rI N 0 = 0) (hx : xJ M po (0 : Int32).toNatClampNeg = v.toInt64) (k : K N) : fm_thrown N (fun (r17 : Int32) (N20 : RM) => ((r17 = 0 → ((¬ (0 : Int32) = 0 → K N20) ∧ ((0 : Int32) = 0 → (tg T po = 23 ∧ (vp_in (0 : Int32) (ln T po) ∧ (((lg_cmp (xJ M po (0 : Int32).toNatClampNeg) v.toInt64) = 0 → K N20) ∧ (¬ (lg_cmp (xJ M po (0 : Int32).toNatClampNeg) v.toInt64) = 0 → False))))))) ∧ (¬ r17 = 0 → False))) := by
  unfold fm_thrown
  rw [h0]
  refine ⟨fun _ => ⟨fun _ => k, fun _ => ⟨t.1, ?_, fun _ => k, fun z => z ?_⟩⟩, fun z => z rfl⟩
  · rw [t.2]; exact vp_in_nI (n := 0) (by decide) (by decide)
  · rw [hx]; exact (lg_cmp_eq _ _).mpr rfl
theorem ck_no {N : RM} {K X : RM → Prop} {e : Int32} (he : e ≠ 0) (h : rI N 0 = e) (k : K N) : fm_thrown N (fun (r17 : Int32) (N20 : RM) => ((r17 = e → ((¬ e = 0 → K N20) ∧ (e = 0 → X N20))) ∧ (¬ r17 = e → False))) := by
  unfold fm_thrown
  exact ⟨fun _ => ⟨fun _ => k, fun z => absurd z he⟩, fun z => z h⟩
section LAW
variable {nm : Nat → Nat} {G : Nat → Nat → Nat} {T : LY} {M M' : CM} {N N' : RM} {I I' : Nat → Nat → Int32} {J J' : Nat → Int64} {D D' : Nat → UInt64} {W W' : Nat → List Int32} {px hN cv hr rs rp po P : Nat} {RW : Nat → Nat} {OA : Nat → Nat → Nat} {F H : Nat → List (Nat × List Ag)} {K : LY → CM → RM → Prop}
theorem CI_zX (z : zX G hN M M') (V : VA G M' I' J' D' W') (C : CI nm G T M I J D W px hN RW cv OA F H hr rs rp po P) : CI nm G T M' I' J' D' W' px hN RW cv OA F H hr rs rp po P ∧ cI M' 108 px = cI M 108 px := by
  obtain ⟨d, z⟩ := z
  have C1 : CS G T (sD M 40 hN d) px hN RW cv OA hr rs rp po := CS_fr (M := M) (fun _ _ => rfl) (fun _ _ _ => rfl) C.1
  have X1 : CF nm T (sD M 40 hN d) OA F H := C.2.2.1
  exact ⟨⟨CS_zA z C1, V, CF_zA z X1, (z.1 107 px (by decide) (by decide)).trans C.2.2.2⟩, z.1 108 px (by decide) (by decide)⟩
theorem CI_zA (z : zA G M M') (V : VA G M' I' J' D' W') (C : CI nm G T M I J D W px hN RW cv OA F H hr rs rp po P) : CI nm G T M' I' J' D' W' px hN RW cv OA F H hr rs rp po P ∧ cI M' 108 px = cI M 108 px := ⟨⟨CS_zA z C.1, V, CF_zA z C.2.2.1, (z.1 107 px (by decide) (by decide)).trans C.2.2.2⟩, z.1 108 px (by decide) (by decide)⟩
theorem up144 (w : List Int32) : ∀ v, v < 144 → sam I J D W I J D (va_up W 144 w) v := fun v hv => ⟨fun _ => rfl, rfl, rfl, va_upn _ _ (by omega)⟩
theorem kLn_kW {x : Int32} (k : kLn (wI N 0 x) N') : kW N N' ∧ (∀ f, 4 ≤ f → f ≤ 12 → rA N' f = rA N f) ∧ rI N' 3 = rI N 3 ∧ rI N' 0 = x := by
  obtain ⟨a, b, c⟩ := k
  refine ⟨⟨fun f hf => (b f (by omega)).trans rfl, c, (a 18 (by decide)).trans ?_⟩, fun f h1 h2 => (b f (by omega)).trans rfl, (a 3 (by decide)).trans ?_, (a 0 (by decide)).trans ?_⟩
  · rw [rI_wI, if_neg (by decide)]
  · rw [rI_wI, if_neg (by decide)]
  · rw [rI_wI, if_pos rfl]
theorem wI0_kW (x : Int32) : kW N (wI N 0 x) := ⟨fun _ _ => rfl, rfl, by rw [rI_wI, if_neg (by decide)]⟩
/-- nothing but a refusal -/
theorem LI_0 (x : Int32) (h : LI nm G px hN RW OA hr rs rp po T M N) : LI nm G px hN RW OA hr rs rp po T M (wI N 0 x) := by
  obtain ⟨I, J, D, W, cv, F, H, P, nn, C, V, e, z, o, t⟩ := h
  refine ⟨I, J, D, W, cv, F, H, P, nn, C, LV_fr C.1.1.2.2.2.2.2.2.2.1 (wI0_kW x) (fun v _ => sam_rf) V, ?_, ⟨⟨?_, z.1.2⟩, z.2⟩, fun q hq => rOp_fr (fun _ _ _ => rfl) (o q hq), t⟩
  rotate_left
  · rw [rI_wI, if_neg (by decide)]; exact z.1.1
  rw [rI_wI, if_neg (by decide)]; exact e
theorem LI_yJ {i : Nat} (v : Int64) (h : LI nm G px hN RW OA hr rs rp po T M N) : LI nm G px hN RW OA hr rs rp po T (yJ M po i v) N := by
  obtain ⟨I, J, D, W, cv, F, H, P, nn, C, r⟩ := h
  exact ⟨I, J, D, W, cv, F, H, P, nn, CI_yJ v C, r⟩
theorem LI_po (h : LI nm G px hN RW OA hr rs rp po T M N) : (tg T po = 23 ∧ ln T po = 1) ∧ tg T px = 11 := by
  obtain ⟨I, J, D, W, cv, F, H, P, nn, C, r⟩ := h
  exact ⟨C.1.2.2.2.2.2.2.1, C.1.1.1⟩
theorem po_in (l : ln T po = 1) : vp_in (0 : Int32) (ln T po) := by rw [l]; exact vp_in_nI (n := 0) (by decide) (by decide)
theorem xJ_po (v : Int64) : xJ (yJ M po (0 : Int32).toNatClampNeg v) po (0 : Int32).toNatClampNeg = v := by rw [xJ_yJ, if_pos ⟨rfl, rfl⟩]
theorem sg4_ok (a : Int32) : (∀ x ∈ sg4 a, nC x ∧ x ≠ 0) := by
  have s1 : ∀ s, ∀ x ∈ sg1 (by8 a s), nC x ∧ x ≠ 0 := fun s x hx => by
    unfold sg1 at hx
    split at hx
    · cases hx
    · rename_i c
      rw [List.mem_singleton] at hx
      rw [hx]
      refine ⟨?_, c⟩
      obtain ⟨k, hk, e⟩ := by8_k a s
      rw [e]; exact pk_charN (by omega)
  unfold sg4
  intro x hx
  simp only [List.mem_append] at hx
  rcases hx with h | h | h | h <;> exact s1 _ x h
theorem gL_app {w l : List Int32} (h : gL w) (hl : ∀ x ∈ l, nC x ∧ x ≠ 0) (h100 : (w ++ l).length ≤ 100) : gL (w ++ l) := by
  have g : ∀ x, x < (w ++ l).length → nC ((w ++ l).getD x 0) ∧ (w ++ l).getD x 0 ≠ 0 := by
    intro x hx
    by_cases c : x < w.length
    · have e : (w ++ l).getD x 0 = w.getD x 0 := by rw [List.getD_eq_getElem?_getD, List.getD_eq_getElem?_getD, List.getElem?_append_left c]
      rw [e]; exact ⟨h.2.1 x, h.2.2 x c⟩
    · rw [List.length_append] at hx
      have hx2 : x - w.length < l.length := by omega
      have e : (w ++ l).getD x 0 = l[x - w.length] := by
        rw [List.getD_eq_getElem?_getD, List.getElem?_append_right (by omega), List.getElem?_eq_getElem hx2]; rfl
      rw [e]; exact hl _ (List.getElem_mem hx2)
  refine ⟨h100, fun x => ?_, fun x hx => (g x hx).2⟩
  by_cases c : x < (w ++ l).length
  · exact (g x c).1
  · rw [List.getD_eq_getElem?_getD, List.getElem?_eq_none (by omega)]; exact nC_0
theorem L_type (h : LI nm G px hN RW OA hr rs rp po T M N) (k : ∀ T' M' N', LI nm G px hN RW OA hr rs rp po T' M' N' → K T' M' N') (a b c d e : Int32) : fc_L_type T (some px) a b c d e (some po) M (fun (r9 : Int32) (M10 : CM) => fm_type a b c d e N (fun (r13 : Int32) (N16 : RM) => fm_thrown N16 (fun (r17 : Int32) (N20 : RM) => ((r17 = r9 → ((¬ r9 = 0 → K T M10 N20) ∧ (r9 = 0 → (tg T po = 23 ∧ (vp_in (0 : Int32) (ln T po) ∧ (((lg_cmp (xJ M10 po (0 : Int32).toNatClampNeg) r13.toInt64) = 0 → K T M10 N20) ∧ (¬ (lg_cmp (xJ M10 po (0 : Int32).toNatClampNeg) r13.toInt64) = 0 → False))))))) ∧ (¬ r17 = r9 → False))))) := by
  have hp := LI_po h
  obtain ⟨I, J, D, W, cv, F, H, P, nn, C, V, e3, ⟨z, g⟩, o, t⟩ := h
  have hcv := C.1.1.2.2.2.2.2.2.2.1
  refine ⟨px, rfl, hp.2, s_type C.1.1 C.1.2.1 C.2.1 a b c d e (fun l1 M1 z1 V1 => ⟨po, rfl, hp.1.1, po_in hp.1.2, nm_e ?_⟩) (fun l0 => ⟨rfl, ?_⟩)⟩
  · obtain ⟨C1, x1⟩ := CI_zA z1 V1 C
    refine r_type z g.1 a b c d e (fun l2 N1 kn zl => ?_) (fun l2 => absurd l1 (by omega))
    obtain ⟨kw, k4, n3, n0⟩ := kLn_kW kn
    refine ck_ok hp.1 n0 (xJ_po _) (k _ _ _ (LI_yJ _ ⟨I, J, D, _, cv, F, H, P, nn, C1, LV_fr hcv kw (up144 _) V, ?_, ?_, fun q hq => rOp_fr k4 (o q hq), t⟩))
    · rw [n3, e3, x1]
    · rw [va_ups]
      refine ⟨zl, gL_app g (fun x hx => ?_) l1⟩
      simp only [List.mem_append] at hx
      rcases hx with h | h | h | h | h <;> exact sg4_ok _ x h
  · refine r_type z g.1 a b c d e (fun l2 => absurd l0 (by omega)) (fun l2 N1 kn zl => ?_)
    obtain ⟨kw, k4, n3, n0⟩ := kLn_kW kn
    exact ck_no (by decide) n0 (k _ _ _ ⟨I, J, D, W, cv, F, H, P, nn, C, LV_fr hcv kw (fun v _ => sam_rf) V, n3.trans e3, ⟨zl, g⟩, fun q hq => rOp_fr k4 (o q hq), t⟩)
theorem L_erase (h : LI nm G px hN RW OA hr rs rp po T M N) (k : ∀ T' M' N', LI nm G px hN RW OA hr rs rp po T' M' N' → K T' M' N') : tg T px = 11 ∧ fc_X10_erase T px M (fun (r26 : Int32) (M27 : CM) => fm_erase N (fun (r31 : Int32) (N34 : RM) => ((r26 = r31 → K T M27 N34) ∧ (¬ r26 = r31 → False)))) := by
  have hp := LI_po h
  obtain ⟨I, J, D, W, cv, F, H, P, nn, C, V, e3, ⟨z, g⟩, o, t⟩ := h
  have hcv := C.1.1.2.2.2.2.2.2.2.1
  refine ⟨hp.2, s_erase C.1.1 C.1.2.1 C.2.1 (fun M1 z1 V1 => r_erase z (fun N1 kn zl => ⟨fun _ => ?_, fun z => z rfl⟩))⟩
  obtain ⟨C1, x1⟩ := CI_zA z1 V1 C
  obtain ⟨kw, k4, n3, n0⟩ := kLn_kW kn
  refine k _ _ _ ⟨I, J, D, _, cv, F, H, P, nn, C1, LV_fr hcv kw (up144 _) V, ?_, ?_, fun q hq => rOp_fr k4 (o q hq), t⟩
  · rw [n3, e3, x1]
  · rw [va_ups]
    exact ⟨zl, by decide, fun x => by rw [List.getD_eq_getElem?_getD, List.getElem?_nil]; exact nC_0, fun x hx => absurd hx (Nat.not_lt_zero x)⟩
theorem L_place (h : LI nm G px hN RW OA hr rs rp po T M N) (k : ∀ T' M' N', LI nm G px hN RW OA hr rs rp po T' M' N' → K T' M' N') : tg T px = 11 ∧ fc_X10_place T px M (fun (r66 : Int32) (M67 : CM) => fm_place N (fun (r71 : Int32) (N74 : RM) => ((r66 = r71 → K T M67 N74) ∧ (¬ r66 = r71 → False)))) := by
  have hp := LI_po h
  have h0 := LI_0 0 h
  obtain ⟨I, J, D, W, cv, F, H, P, nn, C, V, e3, -⟩ := h
  exact ⟨hp.2, s_place hp.2 (r_place ⟨fun _ => k _ _ _ h0, fun z => z e3.symm⟩)⟩
end LAW
