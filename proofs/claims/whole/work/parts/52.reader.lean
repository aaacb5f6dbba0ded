/-! the line laid before the reader; the whole form -/
def RE (G : Nat → Nat → Nat) (T : LY) (M : CM) (hr rs rp : Nat) : Prop := (tg T hr = 7 ∧ cR M 60 hr = some rs ∧ tg T rs = 20 ∧ ln T rs = 100 ∧ cR M 61 hr = some rp ∧ tg T rp = 22 ∧ ln T rp = 100) ∧ ∀ t, t < 145 → rs ≠ G 2 t
def kL (hr rs rp : Nat) (M M' : CM) : Prop := (∀ f b, ¬ (b = hr ∧ 62 ≤ f ∧ f ≤ 66) → cI M' f b = cI M f b) ∧ (∀ a i, a ≠ rs → a ≠ rp → xI M' a i = xI M a i) ∧ (∀ f b, cJ M' f b = cJ M f b) ∧ (∀ f b, cD M' f b = cD M f b) ∧ (∀ f b, cR M' f b = cR M f b) ∧ (∀ f b, xJ M' f b = xJ M f b) ∧ (∀ f b, xR M' f b = xR M f b)
theorem kL_rf (hr rs rp : Nat) (M : CM) : kL hr rs rp M M := ⟨fun _ _ _ => rfl, fun _ _ _ _ => rfl, fun _ _ => rfl, fun _ _ => rfl, fun _ _ => rfl, fun _ _ => rfl, fun _ _ => rfl⟩
theorem kL_tr {hr rs rp : Nat} {M M1 M2 : CM} (h : kL hr rs rp M M1) (k : kL hr rs rp M1 M2) : kL hr rs rp M M2 :=
  ⟨fun f b n => (k.1 f b n).trans (h.1 f b n), fun a i n m => (k.2.1 a i n m).trans (h.2.1 a i n m), fun f b => (k.2.2.1 f b).trans (h.2.2.1 f b), fun f b => (k.2.2.2.1 f b).trans (h.2.2.2.1 f b), fun f b => (k.2.2.2.2.1 f b).trans (h.2.2.2.2.1 f b), fun f b => (k.2.2.2.2.2.1 f b).trans (h.2.2.2.2.2.1 f b), fun f b => (k.2.2.2.2.2.2 f b).trans (h.2.2.2.2.2.2 f b)⟩
theorem kL_sI (hr rs rp : Nat) (M : CM) {f : Nat} (v : Int32) (hf : 62 ≤ f ∧ f ≤ 66) : kL hr rs rp M (sI M f hr v) := ⟨fun g b n => by rw [cI_sI, if_neg (fun z => n ⟨z.2, by omega, by omega⟩)], fun _ _ _ _ => rfl, fun _ _ => rfl, fun _ _ => rfl, fun _ _ => rfl, fun _ _ => rfl, fun _ _ => rfl⟩
theorem kL_yI (hr rs rp : Nat) (M : CM) {q : Nat} (i : Nat) (v : Int32) (hq : q = rs ∨ q = rp) : kL hr rs rp M (yI M q i v) := ⟨fun _ _ _ => rfl, fun a j n m => by rw [xI_yI, if_neg (fun z => hq.elim (fun y => n (z.1.trans y)) (fun y => m (z.1.trans y)))], fun _ _ => rfl, fun _ _ => rfl, fun _ _ => rfl, fun _ _ => rfl, fun _ _ => rfl⟩
def RD0 (T : LY) (M : CM) (hr rs rp : Nat) (w : List Int32) : Prop := (tg T hr = 7 ∧ cR M 60 hr = some rs ∧ tg T rs = 20 ∧ ln T rs = 100 ∧ cR M 61 hr = some rp ∧ tg T rp = 22 ∧ ln T rp = 100) ∧ w.length ≤ 100 ∧ cI M 62 hr = nI (zcn w) ∧ cI M 63 hr = nI w.length ∧ ∀ j, j < zcn w → xI M rs j = zsg w j ∧ nC (zsg w j) ∧ xI M rp j = nI (zst w j)
section RDR
variable {nm : Nat → Nat} {T : LY} {M : CM} {G : Nat → Nat → Nat} {I : Nat → Nat → Int32} {J : Nat → Int64} {D : Nat → UInt64} {W : Nat → List Int32} {hr rs rp : Nat}
theorem kL_SA {M' : CM} (h : kL hr rs rp M M') (hS : SA G T M) : SA G T M' := by
  obtain ⟨h1, h2, h3, h4⟩ := hS
  refine ⟨fun t ht => ?_, fun t ht => ?_, fun t ht m j hj => ?_, h4⟩
  · rw [h.2.2.2.2.1]; exact h1 t ht
  · rw [h.2.2.2.2.1, h.2.2.2.2.1]; exact h2 t ht
  · rw [h.2.2.2.2.2.2]; exact h3 t ht m j hj
theorem kL_VA {M' : CM} (h : kL hr rs rp M M') (h1 : ∀ t, t < 145 → G 2 t ≠ rs ∧ G 2 t ≠ rp) (hV : VA G M I J D W) : VA G M' I J D W := by
  refine ⟨fun t ht => ?_, fun t ht => ?_⟩
  · obtain ⟨⟨a, b, c⟩, d, e, f⟩ := hV.1 t ht
    exact ⟨⟨(h.1 _ _ (by omega)).trans a, (h.1 _ _ (by omega)).trans b, (h.1 _ _ (by omega)).trans c⟩, (h.2.2.1 _ _).trans d, (h.2.2.2.1 _ _).trans e, f⟩
  · obtain ⟨a, b, c⟩ := hV.2 t ht
    exact ⟨(h.1 _ _ (by omega)).trans a, b, fun i hi => by rw [h.2.1 _ _ (h1 t ht).1 (h1 t ht).2]; exact c i hi⟩
theorem kL_kT {M' : CM} (h : kL hr rs rp M M') : kT T M M' := ⟨fun f a _ q => h.1 f a (by omega), fun f a _ => h.2.2.2.2.1 f a, h.2.2.2.2.2.1, fun a i _ => h.2.2.2.2.2.2 a i⟩
theorem s_load (hS : SA G T M) (hV : VA G M I J D W) (hE : RE G T M hr rs rp) {Q : CM → Prop} (k : ∀ M', kL hr rs rp M M' → RD0 T M' hr rs rp (W 144) → cI M' 66 hr = -1 → Q M') : fc_X6_load T hr (some (G 1 144)) M Q := by
  obtain ⟨⟨a1, a2, a3, a4, a5, a6, a7⟩, a8⟩ := hE
  have g2 : ∀ t, t < 145 → G 2 t ≠ rs ∧ G 2 t ≠ rp := fun t ht => ⟨fun z => a8 t ht z.symm, fun z => by have := (hS.1 t ht).2.2.1; rw [z, a6] at this; exact absurd this (by decide)⟩
  have hrp : rs ≠ rp := fun z => by rw [z, a6] at a3; exact absurd a3 (by decide)
  obtain ⟨w, hw⟩ : ∃ w, w = W 144 := ⟨_, rfl⟩
  have l100 : w.length ≤ 100 := by rw [hw]; exact (hV.2 144 (by decide)).2.1
  have cC : ∀ i, i < w.length → nC (w.getD i 0) := fun i hi => by rw [hw] at hi ⊢; exact ((hV.2 144 (by decide)).2.2 i hi).2
  rw [← hw] at k
  have lp : ∀ n i N, i + n = w.length → kL hr rs rp M N → cI N 62 hr = nI (psn w i).length → (∀ j, j < (psn w i).length → xI N rs j = w.getD ((psn w i).getD j 0) 0 ∧ xI N rp j = nI ((psn w i).getD j 0)) → fc_X6_load_l7 T hr Q (n + 1) (some (G 1 144)) (nI i) N := by
    intro n
    induction n with
    | zero =>
      intro i N hi kk e62 ha
      show fc_X6_load_c7 T hr Q _ _ _ N
      have VN := kL_VA kk g2 hV
      have e71 := (VN.2 144 (by decide)).1
      rw [← hw] at e71
      unfold fc_X6_load_c7
      have ei : i = w.length := by omega
      subst ei
      refine ⟨_, rfl, (hS.1 144 (by decide)).1, ?_⟩
      rw [e71]
      refine br_t (nI_le (by omega) (by omega)) ⟨a1, nm_e (nm_e ?_)⟩
      have k2 := kL_tr (kL_sI hr rs rp N (f := 63) (nI w.length) (by omega)) (kL_sI hr rs rp _ (f := 66) (-1) (by omega))
      refine k _ (kL_tr kk k2) ⟨⟨a1, (k2.2.2.2.2.1 _ _).trans ((kk.2.2.2.2.1 _ _).trans a2), a3, a4, (k2.2.2.2.2.1 _ _).trans ((kk.2.2.2.2.1 _ _).trans a5), a6, a7⟩, l100, ?_, ?_, fun j hj => ?_⟩ (by rw [cI_sI, if_pos ⟨rfl, rfl⟩])
      · rw [cI_sI, if_neg (fun z => by omega), cI_sI, if_neg (fun z => by omega)]; exact e62
      · rw [cI_sI, if_neg (fun z => by omega), cI_sI, if_pos ⟨rfl, rfl⟩]
      · have e0 : (psn w w.length).getD j 0 = zst w j := by
          unfold zst zps
          have hj' : j < (psn w w.length).length := hj
          rw [List.getD_eq_getElem?_getD, List.getD_eq_getElem?_getD, List.getElem?_eq_getElem hj']; rfl
        have h2 := ha j hj
        rw [e0] at h2
        unfold zsg
        rw [if_pos hj]
        exact ⟨h2.1, cC _ (zst_lt hj).1, h2.2⟩
    | succ n ih =>
      intro i N hi kk e62 ha
      show fc_X6_load_c7 T hr Q (fc_X6_load_l7 T hr Q (n + 1)) _ _ N
      have VN := kL_VA kk g2 hV
      have SN := kL_SA kk hS
      have e71 := (VN.2 144 (by decide)).1
      rw [← hw] at e71
      have pl := psn_len w i
      unfold fc_X6_load_c7 fc_X6_load_b88
      refine ⟨_, rfl, (hS.1 144 (by decide)).1, ?_⟩
      rw [e71]
      refine br_f (nI_ge (by omega) (by omega)) (s_X7_at SN VN (by decide) (nI i) ?_)
      rw [lat_nI _ (by omega), ← hw, e62]
      refine ⟨fun c => nm_e ?_, fun c => ⟨a1, br_f (nI_pos (by omega)) ⟨rs, (kk.2.2.2.2.1 _ _).trans a2, a3, ?_⟩⟩⟩
      · rw [nI_1]
        refine ih (i + 1) N (by omega) kk ?_ ?_
        · rw [e62]; show _ = nI (if _ then _ else _ : List Nat).length; rw [if_pos c]
        · have ep : psn w (i + 1) = psn w i := if_pos c
          rw [ep]; exact ha
      · rw [a4]
        refine br_f (nI_ge (by omega) (by omega)) ⟨rp, (kk.2.2.2.2.1 _ _).trans a5, a6, ?_⟩
        rw [a7]
        refine br_f (nI_ge (by omega) (by omega)) ⟨vp_in_nI (by omega) (by omega), nm_e ⟨rp, (kk.2.2.2.2.1 _ _).trans a5, a6, ?_⟩⟩
        rw [nI_clamp (by omega), nC_nar (cC i (by omega))]
        have e62' : cI (yI N rs (psn w i).length (w.getD i 0)) 62 hr = nI (psn w i).length := e62
        rw [e62', nI_clamp (by omega)]
        refine ⟨vp_in_nI (by omega) (by omega), nm_e (nm_e (nm_e ?_))⟩
        have e62'' : cI (yI (yI N rs (psn w i).length (w.getD i 0)) rp (psn w i).length (nI i)) 62 hr = nI (psn w i).length := e62
        rw [e62'', nI_1, nI_1]
        have ep : psn w (i + 1) = psn w i ++ [i] := if_neg c
        refine ih (i + 1) _ (by omega) (kL_tr kk (kL_tr (kL_tr (kL_yI hr rs rp N _ _ (Or.inl rfl)) (kL_yI hr rs rp _ _ _ (Or.inr rfl))) (kL_sI hr rs rp _ _ (by omega)))) ?_ (fun j hj => ?_)
        · rw [ep, cI_sI, if_pos ⟨rfl, rfl⟩, List.length_append]; rfl
        · rw [ep, List.length_append, List.length_singleton] at hj
          rw [ep]
          show xI (yI (yI N rs (psn w i).length (w.getD i 0)) rp (psn w i).length (nI i)) rs j = _ ∧ xI (yI (yI N rs (psn w i).length (w.getD i 0)) rp (psn w i).length (nI i)) rp j = _
          rw [xI_yI, if_neg (fun z => hrp z.1), xI_yI, xI_yI, xI_yI]
          by_cases y : j = (psn w i).length
          · rw [if_pos ⟨rfl, y⟩, if_pos ⟨rfl, y⟩, y, getD_r]; exact ⟨rfl, rfl⟩
          · rw [if_neg (fun z => y z.2), if_neg (fun z => y z.2), if_neg (fun z => y z.2), getD_l (by omega)]; exact ha j (by omega)
  unfold fc_X6_load
  refine ⟨a1, nm_e ⟨w.length + 1, lp w.length 0 _ (by omega) (kL_sI hr rs rp M 0 (by omega)) (by rw [cI_sI, if_pos ⟨rfl, rfl⟩]; rfl) (fun j hj => absurd hj (Nat.not_lt_zero j))⟩⟩
variable {w : List Int32}
theorem RD0_cg {M' : CM} (k : kR hr M M') (h : RD0 T M hr rs rp w) {b : Nat} (e : cI M' 64 hr = nI b) (hb : b ≤ zcn w) : RD T M' hr rs rp w b := by
  obtain ⟨⟨a1, a2, a3, a4, a5, a6, a7⟩, a8, a9, a10, a12⟩ := h
  refine ⟨⟨a1, ?_, a3, a4, ?_, a6, a7⟩, a8, ?_, ?_, ⟨e, hb⟩, fun j hj => ?_⟩
  · rw [kR_cR k]; exact a2
  · rw [kR_cR k]; exact a5
  · rw [k.1 _ _ (fun z => by omega)]; exact a9
  · rw [k.1 _ _ (fun z => by omega)]; exact a10
  · rw [kR_xI k, kR_xI k]; exact a12 j hj
theorem xT_RD0 {T' : LY} {M' : CM} (k : xT hr T M T' M') (h : RD0 T M hr rs rp w) : RD0 T' M' hr rs rp w := by
  obtain ⟨⟨a1, a2, a3, a4, a5, a6, a7⟩, a8, a9, a10, a12⟩ := h
  have n1 : tg T hr ≠ 0 := by rw [a1]; decide
  have n2 : tg T rs ≠ 0 := by rw [a3]; decide
  have n3 : tg T rp ≠ 0 := by rw [a6]; decide
  refine ⟨⟨(k.1 _ n1).1.trans a1, (k.2.2.2.2.1 _ _ n1).trans a2, (k.1 _ n2).1.trans a3, (k.1 _ n2).2.trans a4, (k.2.2.2.2.1 _ _ n1).trans a5, (k.1 _ n3).1.trans a6, (k.1 _ n3).2.trans a7⟩, a8, (k.2.1 _ _ n1 (by omega)).trans a9, (k.2.1 _ _ n1 (by omega)).trans a10, fun j hj => ?_⟩
  rw [k.2.2.2.2.2.1 _ _ n2, k.2.2.2.2.2.1 _ _ n3]; exact a12 j hj
theorem s_signAt0 (h : RD0 T M hr rs rp w) {Q : Int32 → CM → Prop} (k : Q (zsg w 0) M) : fc_X6_signAt T hr 0 M Q := by
  obtain ⟨⟨a1, a2, a3, a4, a5, a6, a7⟩, a8, a9, a10, a12⟩ := h
  have := zcn_le w
  unfold fc_X6_signAt fc_X6_signAt_b30 fc_X6_signAt_b31
  rw [a9]
  refine br_f (by decide) ⟨a1, pk_le (zcn w) 0 (fun c => ?_) (fun c => ⟨rs, a2, a3, ?_⟩)⟩
  · unfold zsg at k; rw [if_neg (by omega)] at k; exact ⟨nC_0, k⟩
  · rw [a4]
    refine br_f (by decide) ⟨vp_in_nI (n := 0) (by omega) (by omega), ?_⟩
    rw [show (0 : Int32).toNatClampNeg = 0 from rfl, (a12 0 c).1]
    exact ⟨(a12 0 c).2.1, k⟩
theorem s_fail0 (h : RD0 T M hr rs rp w) {Q : Int32 → CM → Prop} (k : ∀ M', kR hr M M' → cI M' 66 hr = nI (zst w 0) → Q 0 M') : fc_X6_failAt T hr 0 M Q := by
  obtain ⟨⟨a1, a2, a3, a4, a5, a6, a7⟩, a8, a9, a10, a12⟩ := h
  have := zcn_le w
  unfold fc_X6_failAt fc_X6_stoodAt fc_X6_stoodAt_b30 fc_X6_stoodAt_b34
  rw [a9, a10]
  have k' := fun (e : Int32) (he : e = nI (zst w 0)) => k _ (kR_sI hr M e (f := 66) (by omega)) (by rw [cI_sI, if_pos ⟨rfl, rfl⟩]; exact he)
  refine ⟨a1, br_f (by decide) ⟨a1, pk_le (zcn w) 0 (fun c => ⟨a1, nm_e ?_⟩) (fun c => ⟨rp, a5, a6, ?_⟩)⟩⟩
  · exact k' _ (by rw [zst_end c])
  · rw [a7]
    refine br_f (by decide) ⟨vp_in_nI (n := 0) (by omega) (by omega), nm_e ?_⟩
    exact k' _ (a12 0 c).2.2
end RDR
