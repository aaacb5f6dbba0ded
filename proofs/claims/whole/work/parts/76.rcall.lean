section RCL
variable {N : RM} {I : Nat → Nat → Int32} {J : Nat → Int64} {D : Nat → UInt64} {W : Nat → List Int32} {o m f i : Nat} {l : List (Nat × List Ag)} {nn : Nat → Nat} {φ : List Ag}
theorem r_isIn {a b : Nat} {x : Int32} {Q : Int32 → RM → Prop} (hb : b < 1000) (q1 : ∀ k, k ≤ b → x = nI k → Q 1 N) (q0 : (x < 0 ∨ nI b < x) → Q 0 N) : fm_isIn x 0 (nI b) N Q := by
  unfold fm_isIn fm_isIn_b14 fm_isIn_b15
  refine ⟨fun c => ⟨nZ_0, q0 (Or.inl c)⟩, fun c => ⟨fun d => ⟨nZ_0, q0 (Or.inr d)⟩, fun d => ⟨nZ_1, ?_⟩⟩⟩
  obtain ⟨k, hk, e⟩ := nI_of c
  rw [e] at d
  exact q1 k (by rw [nI_ltI (by omega) hk] at d; omega) e
theorem r_refused {x : Int32} {Q : Int32 → RM → Prop} (q : Q (if x ≤ 0 then 0 else 1) (wI N 0 x)) : fm_refused x N Q := by
  unfold fm_refused fm_refused_b14
  refine nm_e ⟨fun c => ⟨nZ_0, ?_⟩, fun c => ⟨nZ_1, ?_⟩⟩
  · rw [if_pos c] at q; exact q
  · rw [if_neg c] at q; exact q
def N1c (N : RM) : RM := wI (wI N 0 0) 3 (-1)
theorem kV_N1 (N : RM) : kV N (N1c N) := ⟨fun _ _ _ _ => rfl, fun _ _ => rfl⟩
def usR (l : List (Nat × List Ag)) (m : Nat) : Nat := if l = [] then m else usd l m
theorem gth_us (l : List (Nat × List Ag)) (m : Nat) : gth (usR l m) l = gth (usd l m) l := by
  unfold usR
  by_cases h : l = []
  · rw [if_pos h, h]; rfl
  · rw [if_neg h]
theorem r_callTo (ho : o < 6) (hO : rOp N o (l.map Prod.snd)) (hm : m ≤ 8) {Q : Int32 → RM → Prop} (q : fm_call_b59 Q (nI o) (nI m) (nI (usR l m)) (N1c N)) : fm_call (nI o) (nI m) N Q := by
  obtain ⟨l6, e4, hF⟩ := rOp_fm hO
  have b25 : fm_call_b25 Q (nI o) (nI m) 0 N := by
    unfold fm_call_b25 fm_call_b58
    refine r_refused ⟨fun _ => nm_e (r_boundM ho (kV_rOp (kV_N1 N) hO) ?_), fun z => absurd rfl z⟩
    have q' : fm_call_b59 Q (nI o) (nI m) (nI (usR l m)) (wI (wI N 0 0) 3 (-1)) := q
    unfold usR at q'
    by_cases h : l = []
    · rw [if_pos h] at q'
      have e : mostO l = -1 := by rw [h]; rfl
      rw [e]
      exact ⟨fun _ => q', fun _ => ⟨fun _ => q', fun z => absurd (by decide) z⟩⟩
    · rw [if_neg h] at q'
      obtain ⟨t8, et⟩ := mostO_c (fs := l) (fun i hi => (hF i hi).1) h
      unfold usd at q'
      rw [et]
      refine pk_le m (mostO l).toNatClampNeg (fun c => ?_) (fun c => ⟨fun z => absurd z (nI_pos (by omega)), fun _ => ?_⟩)
      · rw [if_neg (by omega)] at q'; exact q'
      · rw [if_pos c] at q'; exact q'
  unfold fm_call fm_call_b24
  refine r_isIn (a := 0) (b := 5) (by decide) (fun k hk e => ⟨fun z => absurd z (by decide), fun _ => r_isIn (a := 0) (b := 8) (by decide) (fun k2 hk2 e2 => ⟨fun z => absurd z (by decide), fun _ => b25⟩) (fun e2 => ?_)⟩) (fun e => ?_)
  · rcases e2 with z | z
    · exact absurd z (nI_pos (by omega))
    · rw [nI_ltI (by omega) (by omega)] at z; omega
  · rcases e with z | z
    · exact absurd z (nI_pos (by omega))
    · rw [nI_ltI (by omega) (by omega)] at z; omega
theorem gs_takes {n : Nat} {j : Nat} (h : j < (gth n l).length) : takes ((gth n l).getD j (0, [])).2 n := by
  have h1 : (gth n l).getD j (0, []) ∈ gth n l := by
    rw [List.getD_eq_getElem?_getD, List.getElem?_eq_getElem h]; exact List.getElem_mem h
  exact tkB_iff.mp (List.mem_filter.mp h1).2
theorem us_8 (l5 : ∀ i, i < l.length → (pF l i).length ≤ 5) (hm : m ≤ 8) : usR l m ≤ 8 := by
  unfold usR
  split
  · exact hm
  · rename_i h
    have := (mostO_c (fs := l) l5 h).1
    unfold usd; split <;> omega
theorem kd_of (hv : vA N I J D W nn) {d : Nat} (hd : d < 8) : kdR (I 80 d) (rA N 13 d) := val_kd ((hv.1 d hd).imp (fun z => z.1) (fun z => ⟨_, z⟩))
/-- from the choice on -/
theorem r_chosen (ho : o < 6) (hO : rOp N o (l.map Prod.snd)) (hv : vA N I J D W nn) {u d : Nat} (hu : u ≤ 8) (hd : d < u) {Q : Int32 → RM → Prop}
    (q1 : ∀ j i, chz (gth u l) d (I 80 d) = some j → i < l.length → (gth u l).getD j (0, []) = l.getD i (0, []) → fm_call_b206 Q (nI o) (nI u) (nI i) (nI d) N)
    (q0 : chz (gth u l) d (I 80 d) = none → Q (-5) (wI N 3 (nI d))) : fm_choose (nI o) (nI u) (nI d) N (fun (r16 : Int32) (M15 : RM) => ((0 ≤ r16 → fm_call_b206 Q (nI o) (nI u) r16 (nI d) M15) ∧ (¬ 0 ≤ r16 → fm_fail (nI d) M15 (fun (r19 : Int32) (M18 : RM) => Q r19 M18)))) := by
  obtain ⟨l6, -, -⟩ := rOp_fm hO
  have sf := chz_sF l u d (I 80 d)
  unfold sF at sf
  refine r_choose ho hO hu hd (kd_of hv (by omega)) ?_
  cases ec : chz (gth u l) d (I 80 d) with
  | none =>
    rw [ec] at sf
    cases er : chzR l u d (I 80 d) with
    | none => exact ⟨fun z => absurd z (by decide), fun _ => nm_e (q0 ec)⟩
    | some i => rw [er] at sf; cases sf
  | some j =>
    rw [ec] at sf
    cases er : chzR l u d (I 80 d) with
    | none => rw [er] at sf; cases sf
    | some i =>
      rw [er] at sf
      have hi : i < l.length := by
        unfold chzR at er
        refine orE_c er (fun x e => ?_) (fun x e => orE_c e (fun x e => ?_) (fun x e => orE_c e (fun x e => fwP_lt e) (fun x e => orE_c e (fun x e => fwP_lt e) (fun x e => orE_c e (fun x e => fwP_lt e) (fun x e => fwP_lt e)))))
        · split at e
          · exact fwP_lt e
          · cases e
        · split at e
          · exact fwP_lt e
          · cases e
      exact ⟨fun _ => q1 j i ec hi (Option.some.inj sf), fun z => absurd (nI_pos' (by omega)) z⟩
theorem dec_two {u : Nat} (h : decN (gth u l) u ≠ -1) : 2 ≤ (gth u l).length := by
  refine Nat.le_of_not_lt (fun z => h ?_)
  unfold decN
  rw [if_neg (by omega)]
theorem dcN_e {gs : List (Nat × List Ag)} {u : Nat} (hu : u ≤ 8) (h : decN gs u ≠ -1) : decN gs u = nI (dcN gs u) ∧ dcN gs u < u := by
  rcases decN_c gs u with e | ⟨j, hj, e⟩
  · exact absurd e h
  · have : dcN gs u = j := by unfold dcN; rw [e]; exact nI_clamp (by omega)
    rw [this]; exact ⟨e, hj⟩
theorem dcN_0 {gs : List (Nat × List Ag)} {u : Nat} (h : decN gs u = -1) : dcN gs u = 0 := by unfold dcN; rw [h]; rfl
theorem pck_c {gs : List (Nat × List Ag)} {u j : Nat} (h : pck gs u I j) : (decN gs u = -1 ∧ j = 0) ∨ (decN gs u ≠ -1 ∧ chz gs (dcN gs u) (I 80 (dcN gs u)) = some j) := h
/-- the way of a call in the reference, up to the form that is taken -/
theorem r_way (ho : o < 6) (hO : rOp N o (l.map Prod.snd)) (hv : vA N I J D W nn) (hm : m ≤ 8) (ht : ∀ n, n ≤ 8 → told l n) {u : Nat} {gs : List (Nat × List Ag)} (hu : u = usR l m) (hgs : gs = gth u l) {Q : Int32 → RM → Prop}
    (q0 : gs = [] → Q (-5) (wI (N1c N) 3 (nI m)))
    (q1 : gs ≠ [] → decN gs u = -1 → ∀ i, i < l.length → gs.getD 0 (0, []) = l.getD i (0, []) → fm_call_b206 Q (nI o) (nI u) (nI i) (nI 0) (N1c N))
    (q2 : gs ≠ [] → decN gs u ≠ -1 → dcN gs u < u → ∀ i, i < l.length → gs.getD 0 (0, []) = l.getD i (0, []) → takes (pF l i) u → ∃ nn, fm_call_l141 Q nn (nI o) (nI u) (nI i) 0 (nI (dcN gs u)) (N1c N)) : fm_call (nI o) (nI m) N Q := by
  obtain ⟨l6, e4, hF⟩ := rOp_fm hO
  have u8 := us_8 (fun i hi => (hF i hi).1) hm
  have hO1 := kV_rOp (kV_N1 N) hO
  refine r_callTo ho hO hm ?_
  rw [← hu] at u8 ⊢
  refine r_takers ho hO1 u8 (nI m) (fun c => nm_e (q0 (hgs.trans c))) (fun j hj c1 egj t => ?_) (fun j hj c2 egj t => ?_)
  · rw [← hgs] at c1 egj
    have ne : gs ≠ [] := fun z => by rw [z] at c1; exact absurd c1 (by decide)
    have e : decN gs u = -1 := by unfold decN; rw [if_neg (by omega)]
    exact q1 ne e j hj egj
  · refine r_dec0 ho hO1 u8 (ht u u8) ?_
    rw [← hgs] at c2 egj ⊢
    have ne : gs ≠ [] := fun z => by rw [z] at c2; exact absurd c2 (by decide)
    have e : decN gs u ≠ -1 := by have := ht u u8; rw [told, ← hgs] at this; exact this c2
    obtain ⟨e1, e2⟩ := dcN_e u8 e
    rw [e1]
    exact q2 ne e e2 j hj egj t
/-- the reference refuses what the class refuses -/
theorem r_call_no (ho : o < 6) (hO : rOp N o (l.map Prod.snd)) (hv : vA N I J D W nn) (hm : m ≤ 8) (ht : ∀ n, n ≤ 8 → told l n) {v : Nat} (h : rfs (gth (usd l m) l) (usd l m) m I J D W nn v) {Q : Int32 → RM → Prop} (q : ∀ N', kQ (N1c N) N' → Q (-5) (wI N' 3 (nI v))) : fm_call (nI o) (nI m) N Q := by
  obtain ⟨l6, e4, hF⟩ := rOp_fm hO
  have hO1 := kV_rOp (kV_N1 N) hO
  have hF1 := (rOp_fm hO1).2.2
  have hv1 := kV_vA (kV_N1 N) hv
  have u8 := us_8 (fun i hi => (hF i hi).1) hm
  obtain ⟨u, hu⟩ : ∃ u, u = usR l m := ⟨_, rfl⟩
  obtain ⟨gs, hgs⟩ : ∃ gs, gs = gth u l := ⟨_, rfl⟩
  have h' : rfs gs u m I J D W nn v := by
    by_cases hl : l = []
    · have e0 : gs = [] := by rw [hgs, hl]; rfl
      have hvm : v = m := by
        rcases h with ⟨-, z⟩ | ⟨z, -⟩ | ⟨z, -⟩ | ⟨z, -⟩
        · exact z
        all_goals exact absurd (by rw [hl]; rfl) z
      exact Or.inl ⟨e0, hvm⟩
    · have uu : usd l m = u := by rw [hu]; unfold usR; rw [if_neg hl]
      rw [uu, ← hgs] at h; exact h
  rw [← hu] at u8
  have gm : gs ≠ [] → 0 < gs.length := fun z => List.length_pos_iff.mpr z
  have tk : ∀ j, j < gs.length → takes (gs.getD j (0, [])).2 u := fun j hj => by rw [hgs] at hj ⊢; exact gs_takes hj
  refine r_way ho hO hv hm ht hu hgs (fun c => ?_) (fun ne e i hi egi => ?_) (fun ne e d8 i hi egi t => ?_)
  · have hvm : v = m := by
      rcases h' with ⟨-, z⟩ | ⟨z, -⟩ | ⟨z, -⟩ | ⟨z, -⟩
      · exact z
      all_goals exact absurd c z
    rw [← hvm]; exact q _ (kQ_rf _)
  · have d0 := dcN_0 e
    rcases h' with ⟨z, -⟩ | ⟨-, z, -⟩ | ⟨-, z, -⟩ | ⟨-, -, j, hj, hp, h1, h2, h3, h4⟩
    · exact absurd z ne
    · rw [d0] at z; exact absurd z (Nat.not_lt_zero v)
    · exact absurd e z
    · have j0 : j = 0 := (pck_c hp).elim (fun z => z.2) (fun z => absurd e z.1)
      subst j0
      rw [d0] at h3
      have e2 : (gs.getD 0 (0, [])).2 = pF l i := by rw [egi]
      have t := tk 0 (gm ne)
      unfold fmA at h3 h4
      rw [e2] at h3 h4 t
      unfold fm_call_b206
      rw [m6, nI_add]
      exact nm_e (loop2_no hv1 (hF1 i hi) (by omega) t u8 (Nat.zero_le _) h2 (fun x h5 h6 => okA_ok (h3 x h5 h6)) h4 q)
  · have e2 : (gs.getD 0 (0, [])).2 = pF l i := by rw [egi]
    have ok0 : ∀ x, okA (fmA gs 0 x) I J D W (nn x) x → okP (aOf (pF l i) x) I J D W (nn x) x := fun x z => by
      unfold fmA at z; rw [e2] at z; exact okA_ok z
    rcases h' with ⟨z, -⟩ | ⟨-, z, h3, h4⟩ | ⟨-, -, h3, hz, hvd⟩ | ⟨-, h0, j, hj, hp, h1, h2, h3, h4⟩
    · exact absurd z ne
    · unfold fmA at h4
      rw [e2] at h4
      exact loop1_no hv1 (hF1 i hi) (by omega) t u8 (by omega) z (fun x hx => ok0 x (h3 x hx)) h4 q
    · refine loop1_ok hv1 (hF1 i hi) (by omega) t u8 (by omega) (fun x hx => ok0 x (h3 x hx)) (fun N2 k2 _ => r_chosen ho (kV_rOp k2.2.1 hO1) (kV_vA k2.2.1 hv1) u8 d8 (fun j i2 ec _ _ => ?_) (fun _ => ?_))
      · rw [← hgs, hz] at ec; cases ec
      · rw [← hvd]; exact q N2 k2
    · have hc : chz gs (dcN gs u) (I 80 (dcN gs u)) = some j := (pck_c hp).elim (fun z => absurd z.1 e) (fun z => z.2)
      refine loop1_ok hv1 (hF1 i hi) (by omega) t u8 (by omega) (fun x hx => ok0 x (h0 x hx)) (fun N2 k2 _ => r_chosen ho (kV_rOp k2.2.1 hO1) (kV_vA k2.2.1 hv1) u8 d8 (fun j2 i2 ec hi2 eg2 => ?_) (fun ec => ?_))
      · rw [← hgs, hc] at ec
        have ej : j = j2 := Option.some.inj ec
        subst ej
        rw [← hgs] at eg2
        have e3 : (gs.getD j (0, [])).2 = pF l i2 := by rw [eg2]
        have t2 := tk j hj
        unfold fmA at h3 h4
        rw [e3] at h3 h4 t2
        unfold fm_call_b206
        rw [m6, nI_add]
        exact nm_e (loop2_no (kV_vA k2.2.1 hv1) (kV_rFm k2.2.1 (hF1 i2 hi2)) (by omega) t2 u8 h1 h2 (fun x h5 h6 => okA_ok (h3 x h5 h6)) h4 (fun N3 k3 => q N3 (kQ_tr k2 k3)))
      · rw [← hgs, hc] at ec; cases ec
/-- and takes what the class takes -/
theorem r_call_ok (ho : o < 6) (hO : rOp N o (l.map Prod.snd)) (hv : vA N I J D W nn) (hm : m ≤ 8) (ht : ∀ n, n ≤ 8 → told l n) {u j : Nat} {gs : List (Nat × List Ag)} (hu : u = usd l m) (hgs : gs = gth u l) (hj : j < gs.length) (hp : pck gs u I j) (hφ : φ = (gs.getD j (0, [])).2)
    (ok0 : ∀ i, i < dcN gs u → okA (fmA gs 0 i) I J D W (nn i) i) (ok1 : ∀ i, dcN gs u ≤ i → i < u → okA (fmA gs j i) I J D W (nn i) i) {Q : Int32 → RM → Prop}
    (q : ∀ i N', i < l.length → gs.getD j (0, []) = l.getD i (0, []) → (∀ f, f ≠ 18 → f ≠ 24 → f ≠ 25 → rI N' f = rI (N1c N) f) → rI N' 18 = nI (if u ≤ φ.length then φ.length else u) → kV N N' → (∀ x, x < dcN gs u → mCb 0 N' (fmA gs 0 x) I J D W (nn x) x) → (∀ x, dcN gs u ≤ x → x < u → mCb 0 N' (fmA gs j x) I J D W (nn x) x) → (∀ x, u ≤ x → x < φ.length → mR N' x 0 0 FP.dconst0 [] 0) → Q (nI i) N') : fm_call (nI o) (nI m) N Q := by
  obtain ⟨l6, e4, hF⟩ := rOp_fm hO
  have hO1 := kV_rOp (kV_N1 N) hO
  have hF1 := (rOp_fm hO1).2.2
  have hv1 := kV_vA (kV_N1 N) hv
  have ne : gs ≠ [] := fun z => by rw [z] at hj; exact absurd hj (Nat.not_lt_zero j)
  have hl : l ≠ [] := fun z => ne (by rw [hgs, z]; rfl)
  have hu' : u = usR l m := by rw [hu]; unfold usR; rw [if_neg hl]
  have u8 : u ≤ 8 := by rw [hu']; exact us_8 (fun i hi => (hF i hi).1) hm
  have tk : ∀ j, j < gs.length → takes (gs.getD j (0, [])).2 u := fun j hj => by rw [hgs] at hj ⊢; exact gs_takes hj
  -- the last part
  have last : ∀ i N2, i < l.length → gs.getD j (0, []) = l.getD i (0, []) → kQ (N1c N) N2 → (∀ x, x < dcN gs u → mCb 48 N2 (fmA gs 0 x) I J D W (nn x) x) → dcN gs u ≤ u → fm_call_b206 Q (nI o) (nI u) (nI i) (nI (dcN gs u)) N2 := by
    intro i N2 hi egi k2 h2 hdu
    have e3 : φ = pF l i := by rw [hφ, egi]
    have t2 := tk j hj
    rw [← hφ, e3] at t2
    have ok1' : ∀ x, dcN gs u ≤ x → x < u → okP (aOf (pF l i) x) I J D W (nn x) x := fun x a b => by
      have := ok1 x a b
      unfold fmA at this
      rw [← hφ, e3] at this
      exact okA_ok this
    have lφ : (pF l i).length ≤ 5 := (hF i hi).1
    unfold fm_call_b206
    rw [m6, nI_add]
    refine nm_e (loop2_ok (j := i) (kV_vA k2.2.1 hv1) (kV_rFm k2.2.1 (hF1 i hi)) (by omega) t2 u8 hdu ok1' (fun N3 k3 h3 h4 => r_finish u8 (by omega) (fun N4 b1 b2 b3 b4 b5 => ?_)))
    have mv : ∀ g x, x < u → mCb 48 N3 g I J D W (nn x) x → mCb 0 N4 g I J D W (nn x) x := fun g x hx mx => by
      have n5 := nn5 hv (show x < 8 by omega)
      refine mCb_mv mx (fun a b c d e mm => ?_) (fun y hy a b c d e mm => ?_)
      · rw [Nat.zero_add]; exact b4 x (by omega) (Or.inl hx) _ _ _ _ _ mm
      · have := itm_v (v := x) (j := y) (by omega)
        rw [Nat.zero_add]; exact b4 _ (by omega) (Or.inr (by omega)) _ _ _ _ _ mm
    refine q i N4 hi egi (fun f h1 h2 h5 => (b1 f h1 h2 h5).trans ((k3.1 f h2 h5).trans (k2.1 f h2 h5))) ?_ (kV_tr (kV_N1 N) (kV_tr k2.2.1 (kV_tr k3.2.1 b3))) (fun x hx => mv _ x (by omega) (h4 _ x hx (h2 x hx))) (fun x h1 hx => ?_) (fun x h1 hx => b5 x h1 (by rw [← e3]; exact hx))
    · rw [e3]; exact b2
    · have := h3 x h1 hx
      unfold fmA
      rw [← hφ, e3]
      exact mv _ x hx this
  refine r_way ho hO hv hm ht hu' hgs (fun c => absurd c ne) (fun _ e i hi egi => ?_) (fun _ e d8 i hi egi t => ?_)
  · have d0 := dcN_0 e
    have j0 : j = 0 := (pck_c hp).elim (fun z => z.2) (fun z => absurd e z.1)
    rw [j0] at last
    have := last i _ hi egi (kQ_rf _) (fun x hx => by rw [d0] at hx; exact absurd hx (Nat.not_lt_zero x)) (by omega)
    rw [d0] at this; exact this
  · have e2 : (gs.getD 0 (0, [])).2 = pF l i := by rw [egi]
    have hc : chz gs (dcN gs u) (I 80 (dcN gs u)) = some j := (pck_c hp).elim (fun z => absurd z.1 e) (fun z => z.2)
    refine loop1_ok hv1 (hF1 i hi) (by omega) t u8 (by omega) (fun x hx => ?_) (fun N2 k2 h2 => r_chosen ho (kV_rOp k2.2.1 hO1) (kV_vA k2.2.1 hv1) u8 d8 (fun j2 i2 ec hi2 eg2 => ?_) (fun ec => ?_))
    · have := ok0 x hx
      unfold fmA at this
      rw [e2] at this
      exact okA_ok this
    · rw [← hgs, hc] at ec
      have ej : j = j2 := Option.some.inj ec
      subst ej
      rw [← hgs] at eg2
      refine last i2 N2 hi2 eg2 k2 (fun x hx => ?_) (by omega)
      have := h2 x hx
      unfold fmA; rw [e2]; exact this
    · rw [← hgs, hc] at ec; cases ec
end RCL
