section NTX
variable {N : RM} {L : List Int32}
theorem hexL_b (w : Nat → Int32) : ∀ m i (v : Int64), hexL w (m + 1) i v = if 0 ≤ dgt (w i) then hexL w m (i + 1) (v * 16 + (dgt (w i)).toInt64) else none := fun _ _ _ => rfl
theorem r_hex (h : SD N L) {a b : Nat} (hab : a < b) (hb : b ≤ L.length) {Q : UInt64 → RM → Prop} {X : Option UInt64} (hX : X = hexR (fun i => L.getD i 0) a b) (q : ∀ N', kN N N' → rI N' 25 = bI X.isSome → Q (X.getD FP.dconst0) N') : fm_hexadecimal (nI a) (nI b) N Q := by
  obtain ⟨s24, l100, s23⟩ := h
  obtain ⟨w, hw⟩ : ∃ w : Nat → Int32, w = fun i => L.getD i 0 := ⟨_, rfl⟩
  rw [← hw] at hX
  have said : ∀ i, i < b → rA N 23 i = w i := fun i hi => by rw [hw]; exact (s23 i (by omega)).1
  have down : ∀ N' (v : Int64), X = none → kN N N' → rI N' 25 = 0 → fm_hexadecimal_b83 Q v N' := by
    intro N' v e k h0
    unfold fm_hexadecimal_b83 fm_hexadecimal_b96
    rw [h0]
    refine ⟨fun _ => ?_, fun z => absurd rfl z⟩
    have := q N' k (by rw [e, h0]; rfl)
    rw [e] at this; exact this
  have c0 : ∀ N' (v : Int64) (i : Nat) kk, X = none → kN N N' → rI N' 25 = 0 → fm_hexadecimal_c22 Q kk (nI b) v (nI i) N' := by
    intro N' v i kk e k h0
    unfold fm_hexadecimal_c22
    exact ⟨fun _ => down N' v e k h0, fun _ => ⟨fun _ => down N' v e k h0, fun z => absurd h0 z⟩⟩
  unfold fm_hexadecimal fm_hexadecimal_b16
  rw [pk_sub (Nat.le_of_lt hab)]
  refine pk_lt 8 (b - a) (fun c => ⟨nZ_0, nm_e ⟨1, ?_⟩⟩) (fun c => ⟨nZ_1, nm_e ⟨b - a + 1, ?_⟩⟩)
  · show fm_hexadecimal_c22 Q _ _ _ _ _
    refine c0 _ 0 a _ ?_ (kN_25 N 0) (by rw [rI_wI, if_pos rfl])
    rw [hX]; unfold hexR
    rw [if_pos (Or.inr c)]
  · have hr : X = (hexL w (b - a) a 0).map FP.l2d := by
      rw [hX]; unfold hexR
      rw [if_neg (fun z => by omega)]
    have lp : ∀ m i (v : Int64) N', i + m = b → a ≤ i → kN N N' → rI N' 25 = 1 → rA N' 23 = rA N 23 → hexL w m i v = hexL w (b - a) a 0 → fm_hexadecimal_l22 Q (m + 1) (nI b) v (nI i) N' := by
      intro m
      induction m with
      | zero =>
        intro i v N' hi hai k h1 hs e
        show fm_hexadecimal_c22 Q _ _ _ _ N'
        unfold fm_hexadecimal_c22
        refine br_t (nI_le (by omega) (by omega)) ?_
        unfold fm_hexadecimal_b83 fm_hexadecimal_b96
        rw [h1]
        refine ⟨fun z => absurd z (by decide), fun _ => ?_⟩
        rw [← e] at hr
        have eX : X = some (FP.l2d v) := hr
        have := q N' k (by rw [eX, h1]; rfl)
        rw [eX] at this; exact this
      | succ m ih =>
        intro i v N' hi hai k h1 hs e
        show fm_hexadecimal_c22 Q (fm_hexadecimal_l22 Q (m + 1)) _ _ _ N'
        rw [hexL_b] at e
        have hsi : rA N' 23 i = w i := by rw [hs]; exact said i (by omega)
        unfold fm_hexadecimal_c22 fm_hexadecimal_b56
        refine br_f (nI_ge (by omega) (by omega)) ⟨fun z => by rw [h1] at z; exact absurd z (by decide), fun _ => ⟨vp_in_nI (by omega) (by omega), ?_⟩⟩
        rw [nI_clamp (by omega), hsi]
        refine r_digitOf _ ?_
        rcases dgt_c (w i) with ⟨t, t16, et, t10⟩ | ⟨et, nd⟩
        · have er : dgR (w i) = nI t := by unfold dgR; rw [et, if_pos (nI_pos' (by omega))]
          rw [er]
          refine ⟨fun z => absurd z (nI_ge (b := 16) (a := t) t16 (by decide)), fun _ => ⟨nZ_1, nm_e ⟨vp_in_nI (by omega) (by omega), ?_⟩⟩⟩
          rw [rA_wI, hsi]
          refine r_digitOf _ (nm_e (nm_e ?_))
          rw [er, nI_1]
          rw [et, if_pos (nI_pos' (by omega))] at e
          refine ih (i + 1) _ _ (by omega) (by omega) (kN_tr k (kN_25 N' 1)) (by rw [rI_wI, if_pos rfl]) (by rw [rA_wI]; exact hs) ?_
          rw [← e]
          congr 1
          rw [Int64.mul_comm]
        · have er : dgR (w i) = 99 := by unfold dgR; rw [et]; rfl
          rw [er]
          have eX : X = none := by
            rw [et, if_neg (by decide)] at e
            rw [hr, ← e]; rfl
          refine ⟨fun _ => ⟨nZ_0, nm_e ⟨vp_in_nI (by omega) (by omega), r_digitOf _ (nm_e (nm_e ?_))⟩⟩, fun z => absurd (by decide) z⟩
          rw [nI_1]
          show fm_hexadecimal_c22 Q (fm_hexadecimal_l22 Q m) _ _ _ _
          exact c0 _ _ _ _ eX (kN_tr k (kN_25 N' 0)) (by rw [rI_wI, if_pos rfl])
    exact lp (b - a) a 0 _ (by omega) (Nat.le_refl _) (kN_25 N 1) (by rw [rI_wI, if_pos rfl]) rfl rfl
theorem bck_sp (w : Nat → Int32) (a : Nat) : ∀ b j, bck w a b ≤ j → j < b → w j = 32
  | 0, j, _, h => absurd h (Nat.not_lt_zero j)
  | b + 1, j, h1, h2 => by
    rw [bck_s] at h1
    split at h1
    · rename_i c
      by_cases y : j = b
      · rw [y]; exact c.2
      · exact bck_sp w a b j h1 (by omega)
    · omega
theorem skp_sp (w : Nat → Int32) : ∀ m a j, a ≤ j → j < skp w m a → w j = 32
  | 0, a, j, h1, h2 => by unfold skp at h2; omega
  | m + 1, a, j, h1, h2 => by
    rw [skp_s] at h2
    split at h2
    · rename_i c
      by_cases y : j = a
      · rw [y]; exact c
      · exact skp_sp w m (a + 1) j (by omega) h2
    · omega
theorem r_numSaid (h : SD N L) (hL : L.length ≤ 15 ∨ 44 ∈ L) {Q : UInt64 → RM → Prop} (q : ∀ N', kN N N' → rI N' 25 = bI (numT L).isSome → Q ((numT L).getD FP.dconst0) N') : fm_numberOfSaid N Q := by
  have h' := h
  obtain ⟨s24, l100, s23⟩ := h'
  obtain ⟨w, hw⟩ : ∃ w : Nat → Int32, w = fun i => L.getD i 0 := ⟨_, rfl⟩
  have said : ∀ i, i < L.length → rA N 23 i = w i := fun i hi => by rw [hw]; exact (s23 i hi).1
  have beyond : ∀ i, L.length ≤ i → w i = 0 := fun i hi => by rw [hw]; show L.getD i 0 = 0; rw [List.getD_eq_getElem?_getD, List.getElem?_eq_none hi]; rfl
  obtain ⟨a, ha⟩ : ∃ a, a = skp w L.length 0 := ⟨_, rfl⟩
  obtain ⟨b, hb⟩ : ∃ b, b = bck w a L.length := ⟨_, rfl⟩
  have aL : a ≤ L.length := by have := (skp_le w L.length 0).2; omega
  have bL := bck_le w a L.length
  rw [← hb] at bL
  have ab : a ≤ b := bL.2 aL
  have bl := bL.1
  have comma : b ≤ a + 15 ∨ ∃ c, a ≤ c ∧ c < b ∧ w c = 44 := by
    rcases hL with z | z
    · exact Or.inl (by omega)
    · right
      obtain ⟨c, hc, e⟩ := List.mem_iff_getElem.mp z
      have e' : w c = 44 := by rw [hw]; show L.getD c 0 = 44; rw [List.getD_eq_getElem?_getD, List.getElem?_eq_getElem hc]; exact e
      refine ⟨c, Nat.le_of_not_lt (fun y => ?_), Nat.lt_of_not_le (fun y => ?_), e'⟩
      · have := skp_sp w L.length 0 c (Nat.zero_le _) (by rw [← ha]; exact y)
        rw [this] at e'; exact absurd e' (by decide)
      · have := bck_sp w a L.length c (by rw [← hb]; exact y) hc
        rw [this] at e'; exact absurd e' (by decide)
  have eT : numT L = (if a = b then some FP.dconst0 else if w a = 48 ∧ w (a + 1) = 120 then hexR w (a + 2) b else if w a = 45 then (decR w (a + 1) b).map (fun v => FP.dsub FP.dconst0 v) else if w a = 43 then decR w (a + 1) b else decR w a b) := by
    unfold numT numR
    rw [← hw, ← ha, ← hb]
  rw [eT] at q
  -- from the trimmed text on
  have main : fm_numberOfSaid_b53 Q (nI a) (nI b) N := by
    unfold fm_numberOfSaid_b53
    refine ⟨nZ_1, nm_e ?_⟩
    obtain ⟨N1, hN1⟩ : ∃ N1, N1 = wI N 25 1 := ⟨_, rfl⟩
    rw [← hN1]
    have k1 : kN N N1 := by rw [hN1]; exact kN_25 N 1
    have s1 : SD N1 L := by rw [hN1]; exact ⟨by rw [rI_wI, if_neg (by decide)]; exact s24, l100, s23⟩
    have h25 : rI N1 25 = 1 := by rw [hN1, rI_wI, if_pos rfl]
    have said1 : ∀ i, i < L.length → rA N1 23 i = w i := fun i hi => by rw [hN1]; exact said i hi
    refine pk_eq a b (fun e => ?_) (fun e => ?_) |>.symm
    · rw [if_pos e] at q
      exact q N1 k1 h25
    rw [if_neg e] at q
    have alt : a < b := by omega
    have mapid : ∀ x : Option UInt64, x.map (fun v => if false = true then FP.dsub FP.dconst0 v else v) = x := fun x => by cases x <;> rfl
    have mapneg : ∀ x : Option UInt64, x.map (fun v => if true = true then FP.dsub FP.dconst0 v else v) = x.map (fun v => FP.dsub FP.dconst0 v) := fun x => by cases x <;> rfl
    have b105 : ∀ X, (X = if w a = 45 then (decR w (a + 1) b).map (fun v => FP.dsub FP.dconst0 v) else if w a = 43 then decR w (a + 1) b else decR w a b) → (∀ N', kN N N' → rI N' 25 = bI X.isSome → Q (X.getD FP.dconst0) N') → fm_numberOfSaid_b105 Q (nI a) (nI b) N1 := by
      intro X eX q
      unfold fm_numberOfSaid_b105 fm_numberOfSaid_b121 fm_numberOfSaid_b137
      have ia := vp_in_nI (n := a) (N := 100) (by omega) (by omega)
      rw [nI_clamp (by omega), said1 a (by omega), nI_1]
      have q1 : ∀ N', kN N1 N' → rI N' 25 = bI X.isSome → Q (X.getD FP.dconst0) N' := fun N' k => q N' (kN_tr k1 k)
      have c1 : b ≤ (a + 1) + 15 ∨ ∃ c, a + 1 ≤ c ∧ c < b ∧ L.getD c 0 = 44 ∨ w a = 44 := by
        rcases comma with z | ⟨c, x, y, z⟩
        · exact Or.inl (by omega)
        · by_cases e : c = a
          · exact Or.inr ⟨c, Or.inr (by rw [← e]; exact z)⟩
          · exact Or.inr ⟨c, Or.inl ⟨by omega, y, by rw [hw] at z; exact z⟩⟩
      have c1' : w a ≠ 44 → (b ≤ (a + 1) + 15 ∨ ∃ c, a + 1 ≤ c ∧ c < b ∧ L.getD c 0 = 44) := fun n => c1.elim Or.inl (fun ⟨c, z⟩ => z.elim (fun z => Or.inr ⟨c, z⟩) (fun z => absurd z n))
      refine ⟨ia, fun d => ⟨fun z => absurd rfl z, fun _ => ⟨ia, fun f => ?_, fun f => ?_⟩⟩, fun d => ⟨fun _ => ?_, fun z => absurd z (by decide)⟩⟩
      · rw [if_neg d, if_neg f] at eX
        exact r_dec s1 h25 ab bl (by rcases comma with z | ⟨c, x, y, z⟩; exact Or.inl z; exact Or.inr ⟨c, x, y, by rw [hw] at z; exact z⟩) false (by rw [mapid, ← hw]; exact eX) q1
      · rw [if_neg d, if_pos f] at eX
        exact r_dec s1 h25 (a := a + 1) alt bl (c1' (by rw [f]; decide)) false (by rw [mapid, ← hw]; exact eX) q1
      · rw [if_pos d] at eX
        exact r_dec s1 h25 (a := a + 1) alt bl (c1' (by rw [d]; decide)) true (by rw [mapneg, ← hw]; exact eX) q1
    have dec : ¬ (w a = 48 ∧ w (a + 1) = 120) → fm_numberOfSaid_b105 Q (nI a) (nI b) N1 := fun c => b105 _ rfl (by rw [if_neg c] at q; exact q)
    rw [pk_sub ab]
    refine pk_le (b - a) 2 (fun c => ?_) (fun c => ?_)
    · by_cases x : w a = 48 ∧ w (a + 1) = 120
      · rw [if_pos x] at q
        have b2 : b = a + 2 := by
          by_cases y : b = a + 1
          · exfalso
            by_cases z : a + 1 < L.length
            · have := bck_sp w a L.length (a + 1) (by rw [← hb, y]; exact Nat.le_refl _) z
              rw [this] at x; exact absurd x.2 (by decide)
            · have := beyond (a + 1) (by omega)
              rw [this] at x; exact absurd x.2 (by decide)
          · omega
        have hn : hexR w (a + 2) b = none := by unfold hexR; rw [if_pos (Or.inl (by omega))]
        rw [hn] at q
        refine b105 none ?_ q
        rw [if_neg (by rw [x.1]; decide), if_neg (by rw [x.1]; decide)]
        unfold decR
        rw [if_pos (Or.inr (Or.inr (by rw [show b - 1 = a + 1 by omega, x.2]; decide)))]
      · exact dec x
    · refine ⟨vp_in_nI (by omega) (by omega), ?_⟩
      rw [nI_clamp (by omega), said1 a (by omega)]
      refine ⟨fun d => dec (fun z => d z.1), fun d => ?_⟩
      rw [nI_1]
      refine ⟨vp_in_nI (by omega) (by omega), ?_⟩
      rw [nI_clamp (by omega), said1 (a + 1) (by omega)]
      refine ⟨fun f => dec (fun z => f z.2), fun f => ?_⟩
      rw [if_pos ⟨d, f⟩] at q
      rw [show (2 : Int32) = nI 2 from rfl, nI_add]
      exact r_hex s1 (a := a + 2) (by omega) bl (by rw [hw]) (fun N' k => q N' (kN_tr k1 k))
  have back : ∀ m c, c = m → a ≤ c → c ≤ L.length → bck w a c = b → fm_numberOfSaid_l29 Q (m + 1) (nI a) (nI c) N := by
    intro m
    induction m with
    | zero =>
      intro c hc hac hcl e
      show fm_numberOfSaid_c29 Q _ _ _ N
      unfold fm_numberOfSaid_c29
      subst hc
      have : b = 0 := e.symm
      rw [this] at main
      exact br_t (nI_le (by omega) (by omega)) main
    | succ m ih =>
      intro c hc hac hcl e
      show fm_numberOfSaid_c29 Q (fm_numberOfSaid_l29 Q (m + 1)) _ _ N
      subst hc
      rw [bck_s] at e
      unfold fm_numberOfSaid_c29
      refine pk_le (m + 1) a (fun z => ?_) (fun z => ?_)
      · rw [if_neg (fun y => by omega)] at e
        rw [e]; exact main
      · rw [show nI (m + 1) - 1 = nI m from nI_pred m]
        refine ⟨vp_in_nI (by omega) (by omega), ?_⟩
        rw [nI_clamp (by omega), said m (by omega)]
        refine ⟨fun y => ?_, fun y => nm_r (pk_m1 m) ?_⟩
        · rw [if_neg (fun x => y x.2)] at e
          rw [e]; exact main
        · rw [if_pos ⟨z, y⟩] at e
          exact ih m rfl (by omega) (by omega) e
  have fore : ∀ m c, c + m = L.length → skp w m c = a → fm_numberOfSaid_l7 Q (m + 1) (nI c) (nI L.length) N := by
    intro m
    induction m with
    | zero =>
      intro c hc e
      show fm_numberOfSaid_c7 Q _ _ _ N
      unfold fm_numberOfSaid_c7
      have ec : c = a := e
      rw [ec]
      exact br_t (nI_le (by omega) (by omega)) ⟨_, back L.length L.length rfl aL (Nat.le_refl _) hb.symm⟩
    | succ m ih =>
      intro c hc e
      show fm_numberOfSaid_c7 Q (fm_numberOfSaid_l7 Q (m + 1)) _ _ N
      rw [skp_s] at e
      unfold fm_numberOfSaid_c7
      refine br_f (nI_ge (by omega) (by omega)) ⟨vp_in_nI (by omega) (by omega), ?_⟩
      rw [nI_clamp (by omega), said c (by omega)]
      refine ⟨fun y => ?_, fun y => nm_r (nI_1 c) ?_⟩
      · rw [if_neg y] at e
        rw [e]
        exact ⟨_, back L.length L.length rfl aL (Nat.le_refl _) hb.symm⟩
      · rw [if_pos y] at e
        exact ih (c + 1) (by omega) e
  unfold fm_numberOfSaid
  exact nm_r s24 ⟨L.length + 1, fore L.length 0 (by omega) ha.symm⟩
end NTX
