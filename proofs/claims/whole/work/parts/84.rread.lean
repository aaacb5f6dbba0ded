/-! the reference's reader: a form -/
theorem nC_k {c : Int32} (h : nC c) : ∃ k, k < 65536 ∧ c = nI k := by
  have e : (c.toUInt32 % 65536).toInt32 = c := by
    have h1 := h.1
    injection h1
  have l : (c.toUInt32 % 65536).toNat < 65536 := by
    rw [UInt32.toNat_mod]
    exact Nat.mod_lt _ (by decide)
  refine ⟨(c.toUInt32 % 65536).toNat, l, ?_⟩
  apply Int32.toInt_inj.mp
  rw [nI_toInt (by omega)]
  have e2 : c.toInt = (c.toUInt32 % 65536).toInt32.toInt := by rw [e]
  rw [e2]
  show (c.toUInt32 % 65536).toBitVec.toInt = _
  rw [BitVec.toInt_eq_toNat_cond]
  have e3 : (c.toUInt32 % 65536).toBitVec.toNat = (c.toUInt32 % 65536).toNat := rfl
  rw [e3, if_pos (by omega)]
theorem ltr_c {c : Int32} (h : nC c) : (c < 97 → c - 97 < 0) ∧ (¬ c < 97 → (c ≤ 102 → ¬ (c - 97 < 0) ∧ c - 97 < 6) ∧ (¬ c ≤ 102 → ¬ c - 97 < 6)) := by
  obtain ⟨k, hk, rfl⟩ := nC_k h
  have e97 : (97 : Int32) = nI 97 := rfl
  have e102 : (102 : Int32) = nI 102 := rfl
  have e6 : (6 : Int32) = nI 6 := rfl
  rw [e97, e102, e6, nI_ltI (by omega) (by omega), nI_leI (by omega) (by omega)]
  refine ⟨fun z => ?_, fun z => ?_⟩
  · have hz : ∀ k, k < 97 → nI k - nI 97 < 0 := by decide
    exact hz k z
  · rw [pk_sub (by omega), nI_ltI (by omega) (by omega)]
    exact ⟨fun y => ⟨nI_pos (by omega), by omega⟩, fun y => by omega⟩
def zcF : Nat → Nat → Prop := fun f i => (f = 5 ∧ i = 36) ∨ ∃ j, j < 5 ∧ cA (180 + j) f i
theorem cA_F {j : Nat} (hj : j < 5) : ∀ f i, cA (180 + j) f i → zcF f i := fun f i z => Or.inr ⟨j, hj, z⟩
theorem zK_rAg {S : Nat → Nat → Prop} {N N' : RM} {s : Nat} {g : Ag} (k : zK S N N') (hS : ∀ f i, cA s f i → ¬ S f i) (h : rAg N s g) : rAg N' s g := by
  obtain ⟨a, b, c, d⟩ := h
  refine ⟨(k.2.1 6 s (hS 6 s (Or.inl ⟨Or.inl rfl, rfl⟩))).trans a, (k.2.1 7 s (hS 7 s (Or.inl ⟨Or.inr rfl, rfl⟩))).trans b, zK_rTy k (fun f u v => hS f _ (Or.inr (Or.inl ⟨⟨u, v⟩, Or.inl rfl⟩))) (fun i u v => hS 12 i (Or.inr (Or.inr ⟨rfl, by omega, by omega⟩))) c, d.imp id (fun ⟨σ, x, y, z, t⟩ => ⟨σ, x, y, z, zK_rTy k (fun f u v => hS f _ (Or.inr (Or.inl ⟨⟨u, v⟩, Or.inr rfl⟩))) (fun i u v => hS 12 i (Or.inr (Or.inr ⟨rfl, by omega, by omega⟩))) t⟩)⟩
theorem cA_ne {s t f i : Nat} (h : s ≠ t) (a : cA s f i) (b : cA t f i) : False := by
  rcases a with a | a | a <;> rcases b with b | b | b <;> omega
theorem snocG (φ : List Ag) (g : Ag) (j : Nat) : (φ ++ [g]).getD j dA = if j = φ.length then g else φ.getD j dA := by
  by_cases h : j = φ.length
  · rw [if_pos h, h]; simp
  · rw [if_neg h]
    rcases Nat.lt_or_ge j φ.length with c | c
    · rw [List.getD_eq_getElem?_getD, List.getD_eq_getElem?_getD, List.getElem?_append_left c]
    · rw [List.getD_eq_getElem?_getD, List.getD_eq_getElem?_getD, List.getElem?_eq_none (by rw [List.length_append, List.length_singleton]; omega), List.getElem?_eq_none c]
section RDF
variable {N : RM} {w : List Int32} {a : Nat}
theorem r_read (hw : gL w) (h : RZ N w 0) {Q : Int32 → RM → Prop}
    (q1 : ∀ o φ, zFm w = .inr (o, φ) → ∀ N', zK zcF N N' → rI N' 27 = 0 → rFm N' 36 φ → Q o N')
    (q0 : ∀ f, zFm w = .inl f → ∀ N' v, zK zcF N N' → FZ N' f → Q v N') : fm_read N Q := by
  have i36 : vp_in (36 : Int32) 37 := vp_in_nI (n := 36) (N := 37) (by omega) (by omega)
  have c36 : (36 : Int32).toNatClampNeg = 36 := nI_clamp (n := 36) (by omega)
  unfold fm_read
  refine r_next hw h (fun N1 k1 x1 => ?_)
  have lc := ltr_c (c := zsg w 0) (by unfold zsg; split; exact hw.2.1 _; exact nC_0)
  have bad : (zsg w 0 - 97 < 0 ∨ ¬ zsg w 0 - 97 < 6) → fm_read_b17 Q N1 := by
    intro c
    unfold fm_read_b17
    rw [x1.2.2.2]
    exact r_wrong x1 (fun N2 k2 f2 => q0 _ (by unfold zFm; rw [if_pos c]) N2 0 (zK_o (zK_tr k1 k2)) f2)
  refine ⟨fun c => bad (Or.inl (lc.1 c)), fun c => ⟨fun d => nm_e ?_, fun d => bad (Or.inr ((lc.2 c).2 d))⟩⟩
  have l6 := (lc.2 c).1 d
  have n6 : ¬ (zsg w 0 - 97 < 0 ∨ ¬ zsg w 0 - 97 < 6) := fun z => z.elim l6.1 (fun y => y l6.2)
  have hl : 0 < zcn w := Nat.lt_of_not_le (fun z => by
    have e0 : zsg w 0 = 0 := by unfold zsg; rw [if_neg (by omega)]
    rw [e0] at c; exact c (by decide))
  have ez : zFm w = if zsg w 1 = 40 then (match zFin w (zArgs w) with
    | .inl f => .inl f
    | .inr φ => .inr (zsg w 0 - 97, φ)) else .inl (zst w 1) := by unfold zFm; rw [if_neg n6]; rfl
  obtain ⟨v1, hv1⟩ : ∃ v1, v1 = zsg w 0 := ⟨_, rfl⟩
  rw [← hv1] at ez
  rw [x1.2.2.2, nI_1, ← hv1]
  have z2 := RX_step x1 hl
  obtain ⟨N2, hN2⟩ : ∃ N2, N2 = wI N1 26 (nI (zst w 0 + 1)) := ⟨_, rfl⟩
  rw [← hN2] at z2 ⊢
  have k2 : zK cO N N2 := by rw [hN2]; exact zK_tr k1 (zK_I _ _ (Or.inl rfl))
  -- the end, with a fault
  have endF : ∀ (k : Int32 → Int32 → RM → Prop) N' f, zFm w = .inl f → zK zcF N N' → FZ N' f → fm_read_c73 Q k v1 0 N' := by
    intro k N' f ef kk ff
    unfold fm_read_c73 fm_read_b249
    refine ⟨fun _ => r_wantF ff 41 (fun N3 k3 f3 => ?_), fun z => absurd rfl z⟩
    rw [f3.1]
    exact ⟨fun _ => q0 f ef N3 _ (zK_tr kk (zK_o k3)) f3, fun z => absurd z (by decide)⟩
  have end1 : ∀ (k : Int32 → Int32 → RM → Prop) N' b φ, zsg w 1 = 40 → (zArgs w = if zsg w b = 41 then .inr (φ, b + 1) else .inl (zst w b)) → zK zcF N N' → RZ N' w b → rFm N' 36 φ → fm_read_c73 Q k v1 0 N' := by
    intro k N' b φ e40 ea kk zz rf
    rw [if_pos e40] at ez
    unfold fm_read_c73 fm_read_b249
    refine ⟨fun _ => r_want hw zz 41 (by decide) (fun e N3 k3 z3 => ?_) (fun e N3 k3 f3 => ?_), fun z => absurd rfl z⟩
    · rw [if_pos e] at ea
      rw [ea] at ez
      rw [z3.1]
      refine ⟨fun z => absurd rfl z, fun _ => r_next hw z3 (fun N4 k4 x4 => ?_)⟩
      have k34 := zK_tr k3 k4
      have rf4 : rFm N4 36 φ := ⟨rf.1, (k34.2.1 5 36 (fun z => z)).trans rf.2.1, fun i hi => zK_rAg k34 (fun _ _ _ z => z) (rf.2.2 i hi)⟩
      have sg0 : zsg w (b + 1) = 0 ↔ b + 1 = zcn w := by
        have hb := z3.2.2.1
        unfold zsg
        by_cases y : b + 1 < zcn w
        · rw [if_pos y]
          exact ⟨fun z => absurd z (hw.2.2 _ (zst_lt y).1), fun z => absurd z (by omega)⟩
        · rw [if_neg y]
          exact ⟨fun _ => by omega, fun _ => rfl⟩
      refine ⟨fun y => ?_, fun y => ?_⟩
      · have ey : zFin w (.inr (φ, b + 1)) = .inr φ := by unfold zFin; exact if_pos (sg0.mp y)
        rw [ey] at ez
        exact hv1 ▸ q1 (v1 - 97) φ ez N4 (zK_tr kk (zK_o k34)) x4.1 rf4
      · have ey : zFin w (.inr (φ, b + 1)) = .inl (zst w (b + 1)) := by unfold zFin; exact if_neg (fun z => y (sg0.mpr z))
        rw [ey] at ez
        rw [x4.2.2.2]
        exact r_wrong x4 (fun N5 k5 f5 => q0 _ ez N5 _ (zK_tr kk (zK_o (zK_tr k34 k5))) f5)
    · rw [if_neg e] at ea
      rw [ea] at ez
      rw [f3.1]
      exact ⟨fun _ => q0 _ ez N3 _ (zK_tr kk (zK_o k3)) f3, fun z => absurd z (by decide)⟩
  -- the arguments
  have step : ∀ (k : Int32 → Int32 → RM → Prop) (kk0 : Int32 → Int32 → RM → Prop) N' b (φ : List Ag) (fl : Bool) (Z : Ag × Nat → Nat ⊕ (List Ag × Nat)), zsg w 1 = 40 → φ.length < 5 → zK zcF N N' → RZ N' w b → rFm N' 36 φ → (fl = true ↔ 0 < φ.length ∧ (φ.getD (φ.length - 1) dA).1 = true) → (zArgs w = match zAr w fl b with
      | .inl f => .inl f
      | .inr p => if p.1.2.1 = true ∨ φ.length = 4 ∨ zsg w p.2 ≠ 44 then (if zsg w p.2 = 41 then .inr (φ ++ [p.1], p.2 + 1) else .inl (zst w p.2)) else Z p) → (∀ M, fm_read_c73 Q kk0 v1 0 M → k v1 0 M) → (∀ g e, zArgs w = Z (g, e) → g.2.1 = false → φ.length < 4 → ∀ N3, zK zcF N N3 → RZ N3 w (e + 1) → rFm N3 36 (φ ++ [g]) → k v1 1 N3) → fm_read_c73 Q k v1 1 N' := by
    intro k kk0 N' b φ fl Z e40 l5 kk zz rf hfl ea hk0 hk1
    have e5 : rA N' 5 36 = nI φ.length := rf.2.1
    have is : vp_in (nI (180 + φ.length)) 185 := vp_in_nI (by omega) (by omega)
    have cs : (nI (180 + φ.length)).toNatClampNeg = 180 + φ.length := nI_clamp (by omega)
    have b165F : ∀ N2 f, zFm w = .inl f → zK zcF N N2 → FZ N2 f → fm_read_b165 Q k v1 (nI (180 + φ.length)) N2 := by
      intro N2 f ef k2 f2
      unfold fm_read_b165 fm_read_b216 fm_read_b217
      rw [c36]
      refine ⟨i36, i36, nm_e ?_⟩
      have f3 := FZ_A (f := 5) (i := 36) (rA N2 5 36 + 1) f2
      rw [f3.1]
      exact ⟨fun _ => hk0 _ (endF _ _ f ef (zK_tr k2 (zK_A _ _ (Or.inl ⟨rfl, rfl⟩))) f3), fun z => absurd z (by decide)⟩
    have ezf : ∀ f, zArgs w = .inl f → zFm w = .inl f := fun f e => by
      rw [ez, if_pos e40, e]; rfl
    have go : fm_read_b115 Q k v1 (nI (180 + φ.length)) (bI fl) N' := by
      unfold fm_read_b115
      refine r_readArgument hw zz (by omega) (fun g e eg N2 k2 z2 g2 => ?_) (fun f ef N2 k2 f2 => ?_)
      · have er := zAr_r (b := fl) eg
        have kF2 := zK_tr kk (zK_mo (cA_F l5) k2)
        have g6 : rA N2 6 (180 + φ.length) = bI g.1 := g2.1
        have g7 : rA N2 7 (180 + φ.length) = bI g.2.1 := g2.2.1
        have okk : ¬ (fl = true ∧ g.1 = false ∧ g.2.1 = false) → fm_read_b165 Q k v1 (nI (180 + φ.length)) N2 := by
          intro c
          rw [if_neg c] at er
          rw [er] at ea
          dsimp only at ea
          have e52 : rA N2 5 36 = nI φ.length := (k2.2.1 5 36 (fun z => by rcases z with z | z | z <;> omega)).trans e5
          unfold fm_read_b165 fm_read_b216 fm_read_b217
          rw [c36, cs, e52, nI_1]
          refine ⟨i36, i36, nm_e ?_⟩
          obtain ⟨N3, hN3⟩ : ∃ N3, N3 = wA N2 5 36 (nI (φ.length + 1)) := ⟨_, rfl⟩
          rw [← hN3]
          have y3 : zK (fun f i => f = 5 ∧ i = 36) N2 N3 := by rw [hN3]; exact zK_A _ _ ⟨rfl, rfl⟩
          have k3 := zK_tr kF2 (zK_mo (S' := zcF) (fun f i z => Or.inl z) y3)
          have z3 : RZ N3 w e := by rw [hN3]; exact RZ_A _ (by decide) z2
          have e53 : rA N3 5 36 = nI (φ.length + 1) := by rw [hN3, rA_wA, if_pos ⟨rfl, rfl⟩]
          have e73 : rA N3 7 (180 + φ.length) = bI g.2.1 := (y3.2.1 7 _ (fun z => absurd z.1 (by decide))).trans g7
          have n5 : ∀ {s f i}, cA s f i → ¬ (f = 5 ∧ i = 36) := fun z y => by rcases z with z | z | z <;> omega
          have rf3 : rFm N3 36 (φ ++ [g]) := by
            refine ⟨by simp; omega, by rw [e53]; simp, fun i hi => ?_⟩
            show rAg N3 (180 + i) _
            rw [snocG]
            by_cases y : i = φ.length
            · rw [if_pos y, y]; exact zK_rAg y3 (fun f j z => n5 z) g2
            · rw [if_neg y]
              have hi2 : i < φ.length := by simp at hi; omega
              exact zK_rAg y3 (fun f j z => n5 z) (zK_rAg k2 (fun f j z y => cA_ne (by omega) z y) (rf.2.2 i hi2))
          have stop : ∀ N4, zK cO N3 N4 → RZ N4 w e → (g.2.1 = true ∨ φ.length = 4 ∨ zsg w e ≠ 44) → k v1 0 N4 := by
            intro N4 k4 z4 c
            rw [if_pos c] at ea
            exact hk0 _ (end1 _ N4 e (φ ++ [g]) e40 ea (zK_tr k3 (zK_o k4)) z4 ⟨rf3.1, (k4.2.1 5 36 (fun z => z)).trans rf3.2.1, fun i hi => zK_rAg k4 (fun _ _ _ z => z) (rf3.2.2 i hi)⟩)
          rw [z3.1, e53, e73]
          refine ⟨fun z => absurd rfl z, fun _ => ⟨i36, pk_le 5 (φ.length + 1) (fun y => stop N3 (zK_rf _ _) z3 (Or.inr (Or.inl (by omega)))) (fun y => ⟨is, fun d => stop N3 (zK_rf _ _) z3 (Or.inl ?_), fun d => ?_⟩)⟩⟩
          · cases hg : g.2.1 with
            | true => rfl
            | false => rw [hg] at d; exact absurd rfl d
          · have gr : g.2.1 = false := bI_0.mp d
            refine r_takesZ hw z3 44 (by decide) (fun e44 N4 k4 z4 => ⟨fun z => absurd z (by decide), fun _ => ?_⟩) (fun e44 N4 k4 x4 => ⟨fun _ => stop N4 k4 (RX_Z x4) (Or.inr (Or.inr e44)), fun z => absurd rfl z⟩)
            rw [if_neg (fun z => by rcases z with z | z | z; rw [gr] at z; cases z; omega; exact z e44)] at ea
            exact hk1 g e ea gr (by omega) N4 (zK_tr k3 (zK_o k4)) z4 ⟨rf3.1, (k4.2.1 5 36 (fun z => z)).trans rf3.2.1, fun i hi => zK_rAg k4 (fun _ _ _ z => z) (rf3.2.2 i hi)⟩
        rw [z2.1, cs, g6, g7]
        refine ⟨fun z => absurd rfl z, fun _ => ⟨fun d => okk (fun y => by rw [y.1] at d; exact absurd d (by decide)), fun d => ⟨is, fun d2 => okk (fun y => d2 (by rw [y.2.1]; rfl)), fun d2 => ⟨is, fun d3 => okk (fun y => d3 (by rw [y.2.2]; rfl)), fun d3 => r_next hw z2 (fun N3 k3 x3 => ?_)⟩⟩⟩⟩
        rw [x3.2.2.2]
        refine r_wrong x3 (fun N4 k4 f4 => b165F N4 _ (ezf _ ?_) (zK_tr kF2 (zK_o (zK_tr k3 k4))) f4)
        have c1 : fl = true := by cases fl with
          | true => rfl
          | false => exact absurd rfl d
        rw [ea, er, if_pos ⟨c1, bI_0.mp d2, bI_0.mp d3⟩]
      · rw [f2.1]
        have er := zAr_f (b := fl) ef
        rw [er] at ea
        exact ⟨fun _ => b165F N2 f (ezf f ea) (zK_tr kk (zK_mo (cA_F l5) k2)) f2, fun z => absurd z (by decide)⟩
    unfold fm_read_c73 fm_read_b114
    rw [c36, e5, show (180 : Int32) = nI 180 from rfl, nI_add]
    refine ⟨fun z => absurd z (by decide), fun _ => ⟨i36, nm_e ⟨i36, pk_le φ.length 0 (fun y => ?_) (fun y => ?_)⟩⟩⟩
    · have e : fl = false := by
        cases hf : fl with
        | false => rfl
        | true => have := (hfl.mp hf).1; omega
      rw [e] at go; exact go
    · have r := (rf.2.2 (φ.length - 1) (by omega)).1
      have r' : rA N' 6 (180 + φ.length - 1) = bI (φ.getD (φ.length - 1) dA).1 := by
        rw [← r]; congr 1; omega
      rw [show nI (180 + φ.length) - 1 = nI (180 + φ.length - 1) from pk_sub (b := 1) (by omega)]
      refine ⟨vp_in_nI (by omega) (by omega), ?_⟩
      rw [nI_clamp (by omega), r']
      refine ⟨fun d => ?_, fun d => ?_⟩
      · have e : fl = false := by
          cases hf : fl with
          | false => rfl
          | true => rw [(hfl.mp hf).2] at d; exact absurd d (by decide)
        rw [e] at go; exact go
      · have e : fl = true := hfl.mpr ⟨by omega, by
          cases hg : (φ.getD (φ.length - 1) dA).1 with
          | true => rfl
          | false => rw [hg] at d; exact absurd rfl d⟩
        rw [e] at go; exact go
  have lp : ∀ n N' b (φ : List Ag) (fl : Bool), zsg w 1 = 40 → n + 1 + φ.length = 5 → zK zcF N N' → RZ N' w b → rFm N' 36 φ → (fl = true ↔ 0 < φ.length ∧ (φ.getD (φ.length - 1) dA).1 = true) → zAs w (n + 1) b φ fl = zArgs w → fm_read_l73 Q (n + 2) v1 1 N' := by
    intro n
    induction n with
    | zero =>
      intro N' b φ fl e40 hn kk zz rf hfl ea
      refine step _ (fm_read_l73 Q 0) N' b φ fl (fun _ => .inl 0) e40 (by omega) kk zz rf hfl ?_ (fun M hM => hM) (fun g e eg gr l4 => absurd l4 (by omega))
      rw [← ea, zAs]
      have l4 : φ.length = 4 := by omega
      cases zAr w fl b with
      | inl f => rfl
      | inr p => dsimp only; rw [if_pos (Or.inr (Or.inl rfl)), if_pos (Or.inr (Or.inl l4))]
    | succ n ih =>
      intro N' b φ fl e40 hn kk zz rf hfl ea
      refine step _ (fm_read_l73 Q (n + 1)) N' b φ fl (fun p => zAs w (n + 1) (p.2 + 1) (φ ++ [p.1]) (miss p.1)) e40 (by omega) kk zz rf hfl ?_ (fun M hM => hM) (fun g e eg gr l4 N3 k3 z3 rf3 => ih N3 (e + 1) (φ ++ [g]) (miss g) e40 (by simp; omega) k3 z3 rf3 ?_ eg.symm)
      · rw [← ea]
        rw [zAs.eq_2]
        cases zAr w fl b with
        | inl f => rfl
        | inr p =>
          dsimp only
          by_cases c : p.1.2.1 = true ∨ zsg w p.2 ≠ 44
          · rw [if_pos (c.elim Or.inl (fun z => Or.inr (Or.inr z))), if_pos (c.elim Or.inl (fun z => Or.inr (Or.inr z)))]
          · rw [if_neg (fun z => by rcases z with z | z | z; exact c (Or.inl z); omega; exact c (Or.inr z)), if_neg (fun z => by rcases z with z | z | z; exact c (Or.inl z); omega; exact c (Or.inr z))]
      · rw [List.length_append, List.length_singleton, Nat.add_sub_cancel, snocG, if_pos rfl]
        unfold miss
        rw [gr, Bool.or_false]
        exact ⟨fun z => ⟨by omega, z⟩, fun z => z.2⟩
  refine r_want hw z2 40 (by decide) (fun e40 N3 k3 z3 => ?_) (fun e40 N3 k3 f3 => ?_)
  · have hz3 := z3
    obtain ⟨N4, hN4⟩ : ∃ N4, N4 = wA N3 5 (36 : Int32).toNatClampNeg 0 := ⟨_, rfl⟩
    have k4 : zK zcF N N4 := by rw [hN4, c36]; exact zK_tr (zK_o (zK_tr k2 k3)) (zK_A _ _ (Or.inl ⟨rfl, rfl⟩))
    have z4 : RZ N4 w 2 := by rw [hN4]; exact RZ_A _ (by decide) z3
    have rf0 : ∀ N5, zK cO N4 N5 → rFm N5 36 [] := fun N5 k5 => ⟨by decide, by rw [k5.2.1 5 36 (fun z => z), hN4, c36, rA_wA, if_pos ⟨rfl, rfl⟩]; rfl, fun i hi => absurd hi (Nat.not_lt_zero i)⟩
    refine ⟨i36, nm_e ?_⟩
    rw [← hN4, z4.1]
    unfold fm_read_b71 fm_read_b72
    refine ⟨fun z => absurd rfl z, fun _ => r_next hw z4 (fun N5 k5 x5 => ⟨fun e41 => ⟨1, ?_⟩, fun e41 => ⟨6, ?_⟩⟩)⟩
    · exact end1 _ N5 2 [] e40 (by unfold zArgs; rw [if_pos e41, if_pos e41]) (zK_tr k4 (zK_o k5)) (RX_Z x5) (rf0 N5 k5)
    · exact lp 4 N5 2 [] false e40 rfl (zK_tr k4 (zK_o k5)) (RX_Z x5) (rf0 N5 k5) ⟨fun z => absurd z (by decide), fun z => absurd z.1 (Nat.lt_irrefl 0)⟩ (by unfold zArgs; rw [if_neg e41])
  · rw [if_neg e40] at ez
    refine ⟨i36, nm_e ?_⟩
    have f4 := FZ_A (f := 5) (i := (36 : Int32).toNatClampNeg) 0 f3
    rw [f4.1]
    unfold fm_read_b71 fm_read_b72
    refine ⟨fun _ => ⟨1, endF _ _ _ ez ?_ f4⟩, fun z => absurd z (by decide)⟩
    rw [c36]; exact zK_tr (zK_o (zK_tr k2 k3)) (zK_A _ _ (Or.inl ⟨rfl, rfl⟩))
end RDF
