/-! the reference's reader: a form -/
theorem nC_k {c : Int32} (h : nC c) : ∃ k, k < 65536 ∧ c = nI k := by
  have e : (c.toUInt32 % 65536).toInt32 = c := by
    have h1 := h.1
    injection h1
  have l : (c.toUInt32 % 65536).toNat < 65536 := by
    rw [UInt32.toNat_mod]
    exact Nat.mod_lt _ (by decide)
  refine ⟨(c.toUInt32 % 65536).toNat, l, ?_⟩
  apply Int32.toInt_inj.mp
  rw [nI_toInt (by omega)]
  have e2 : c.toInt = (c.toUInt32 % 65536).toInt32.toInt := by rw [e]
  rw [e2]
  show (c.toUInt32 % 65536).toBitVec.toInt = _
  rw [BitVec.toInt_eq_toNat_cond]
  have e3 : (c.toUInt32 % 65536).toBitVec.toNat = (c.toUInt32 % 65536).toNat := rfl
  rw [e3, if_pos (by omega)]
theorem ltr_c {c : Int32} (h : nC c) : (c < 97 → c - 97 < 0) ∧ (¬ c < 97 → (c ≤ 102 → ¬ (c - 97 < 0) ∧ c - 97 < 6) ∧ (¬ c ≤ 102 → ¬ c - 97 < 6)) := by
  obtain ⟨k, hk, rfl⟩ := nC_k h
  have e97 : (97 : Int32) = nI 97 := rfl
  have e102 : (102 : Int32) = nI 102 := rfl
  have e6 : (6 : Int32) = nI 6 := rfl
  rw [e97, e102, e6, nI_ltI (by omega) (by omega), nI_leI (by omega) (by omega)]
  refine ⟨fun z => ?_, fun z => ?_⟩
  · have hz : ∀ k, k < 97 → nI k - nI 97 < 0 := by decide
    exact hz k z
  · rw [pk_sub (by omega), nI_ltI (by omega) (by omega)]
    exact ⟨fun y => ⟨nI_pos (by omega), by omega⟩, fun y => by omega⟩
def cF : Nat → Nat → Prop := fun f i => (f = 5 ∧ i = 36) ∨ ∃ j, j < 5 ∧ cA (180 + j) f i
theorem cA_F {j : Nat} (hj : j < 5) : ∀ f i, cA (180 + j) f i → cF f i := fun f i z => Or.inr ⟨j, hj, z⟩
theorem zK_rAg {S : Nat → Nat → Prop} {N N' : RM} {s : Nat} {g : Ag} (k : zK S N N') (hS : ∀ f i, cA s f i → ¬ S f i) (h : rAg N s g) : rAg N' s g := by
  obtain ⟨a, b, c, d⟩ := h
  refine ⟨(k.2.1 6 s (hS 6 s (Or.inl ⟨Or.inl rfl, rfl⟩))).trans a, (k.2.1 7 s (hS 7 s (Or.inl ⟨Or.inr rfl, rfl⟩))).trans b, zK_rTy k (fun f u v => hS f _ (Or.inr (Or.inl ⟨⟨u, v⟩, Or.inl rfl⟩))) (fun i u v => hS 12 i (Or.inr (Or.inr ⟨rfl, by omega, by omega⟩))) c, d.imp id (fun ⟨σ, x, y, z, t⟩ => ⟨σ, x, y, z, zK_rTy k (fun f u v => hS f _ (Or.inr (Or.inl ⟨⟨u, v⟩, Or.inr rfl⟩))) (fun i u v => hS 12 i (Or.inr (Or.inr ⟨rfl, by omega, by omega⟩))) t⟩)⟩
theorem cA_ne {s t f i : Nat} (h : s ≠ t) (a : cA s f i) (b : cA t f i) : False := by
  rcases a with a | a | a <;> rcases b with b | b | b <;> omega
theorem snocA (φ : List Ag) (g : Ag) (j : Nat) : (φ ++ [g]).getD j dA = if j = φ.length then g else φ.getD j dA := by
  by_cases h : j = φ.length
  · rw [if_pos h, h]; simp
  · rw [if_neg h]
    rcases Nat.lt_or_ge j φ.length with c | c
    · rw [List.getD_eq_getElem?_getD, List.getD_eq_getElem?_getD, List.getElem?_append_left c]
    · rw [List.getD_eq_getElem?_getD, List.getD_eq_getElem?_getD, List.getElem?_eq_none (by rw [List.length_append, List.length_singleton]; omega), List.getElem?_eq_none c]
section RDF
variable {N : RM} {w : List Int32} {a : Nat}
theorem r_read (hw : gL w) (h : RZ N w 0) {Q : Int32 → RM → Prop}
    (q1 : ∀ o φ, zFm w = .inr (o, φ) → ∀ N', zK cF N N' → rI N' 27 = 0 → rFm N' 36 φ → Q o N')
    (q0 : ∀ f, zFm w = .inl f → ∀ N' v, zK cF N N' → FZ N' f → Q v N') : fm_read N Q := by
  have i36 : vp_in (36 : Int32) 37 := vp_in_nI (n := 36) (N := 37) (by omega) (by omega)
  have c36 : (36 : Int32).toNatClampNeg = 36 := nI_clamp (n := 36) (by omega)
  unfold fm_read
  refine r_next hw h (fun N1 k1 x1 => ?_)
  have lc := ltr_c (c := zsg w 0) (by unfold zsg; split; exact hw.2.1 _; exact nC_0)
  have bad : (zsg w 0 - 97 < 0 ∨ ¬ zsg w 0 - 97 < 6) → fm_read_b17 Q N1 := by
    intro c
    unfold fm_read_b17
    rw [x1.2.2.2]
    exact r_wrong x1 (fun N2 k2 f2 => q0 _ (by unfold zFm; rw [if_pos c]) N2 0 (zK_o (zK_tr k1 k2)) f2)
  refine ⟨fun c => bad (Or.inl (lc.1 c)), fun c => ⟨fun d => nm_e ?_, fun d => bad (Or.inr ((lc.2 c).2 d))⟩⟩
  have l6 := (lc.2 c).1 d
  have n6 : ¬ (zsg w 0 - 97 < 0 ∨ ¬ zsg w 0 - 97 < 6) := fun z => z.elim l6.1 (fun y => y l6.2)
  have hl : 0 < zcn w := Nat.lt_of_not_le (fun z => by
    have e0 : zsg w 0 = 0 := by unfold zsg; rw [if_neg (by omega)]
    rw [e0] at c; exact c (by decide))
  have ez : zFm w = if zsg w 1 = 40 then (match zFin w (zArgs w) with
    | .inl f => .inl f
    | .inr φ => .inr (zsg w 0 - 97, φ)) else .inl (zst w 1) := by unfold zFm; rw [if_neg n6]
  obtain ⟨v1, hv1⟩ : ∃ v1, v1 = zsg w 0 := ⟨_, rfl⟩
  rw [← hv1] at ez
  rw [x1.2.2.2, nI_1, ← hv1]
  have z2 := RX_step x1 hl
  obtain ⟨N2, hN2⟩ : ∃ N2, N2 = wI N1 26 (nI (zst w 0 + 1)) := ⟨_, rfl⟩
  rw [← hN2] at z2 ⊢
  have k2 : zK cO N N2 := by rw [hN2]; exact zK_tr k1 (zK_I _ _ (Or.inl rfl))
  -- the end, with a fault
  have endF : ∀ (k : Int32 → Int32 → RM → Prop) N' f, zFm w = .inl f → zK cF N N' → FZ N' f → fm_read_c73 Q k v1 0 N' := by
    intro k N' f ef kk ff
    unfold fm_read_c73 fm_read_b249
    refine ⟨fun _ => r_wantF ff 41 (fun N3 k3 f3 => ?_), fun z => absurd rfl z⟩
    rw [f3.1]
    exact ⟨fun _ => q0 f ef N3 _ (zK_tr kk (zK_o k3)) f3, fun z => absurd z (by decide)⟩
  have end1 : ∀ (k : Int32 → Int32 → RM → Prop) N' b φ, zsg w 1 = 40 → (zArgs w = if zsg w b = 41 then .inr (φ, b + 1) else .inl (zst w b)) → zK cF N N' → RZ N' w b → rFm N' 36 φ → fm_read_c73 Q k v1 0 N' := by
    intro k N' b φ e40 ea kk zz rf
    rw [if_pos e40] at ez
    unfold fm_read_c73 fm_read_b249
    refine ⟨fun _ => r_want hw zz 41 (by decide) (fun e N3 k3 z3 => ?_) (fun e N3 k3 f3 => ?_), fun z => absurd rfl z⟩
    · rw [if_pos e] at ea
      rw [ea] at ez
      rw [z3.1]
      refine ⟨fun z => absurd rfl z, fun _ => r_next hw z3 (fun N4 k4 x4 => ?_)⟩
      have k34 := zK_tr k3 k4
      have rf4 : rFm N4 36 φ := ⟨rf.1, (k34.2.1 5 36 (fun z => z)).trans rf.2.1, fun i hi => zK_rAg k34 (fun _ _ _ z => z) (rf.2.2 i hi)⟩
      have sg0 : zsg w (b + 1) = 0 ↔ b + 1 = zcn w := by
        have hb := z3.2.2.1
        unfold zsg
        by_cases y : b + 1 < zcn w
        · rw [if_pos y]
          exact ⟨fun z => absurd z (hw.2.2 _ (zst_lt y).1), fun z => absurd z (by omega)⟩
        · rw [if_neg y]
          exact ⟨fun _ => by omega, fun _ => rfl⟩
      refine ⟨fun y => ?_, fun y => ?_⟩
      · have ey : zFin w (.inr (φ, b + 1)) = .inr φ := by unfold zFin; exact if_pos (sg0.mp y)
        rw [ey] at ez
        exact hv1 ▸ q1 (v1 - 97) φ ez N4 (zK_tr kk (zK_o k34)) x4.1 rf4
      · have ey : zFin w (.inr (φ, b + 1)) = .inl (zst w (b + 1)) := by unfold zFin; exact if_neg (fun z => y (sg0.mpr z))
        rw [ey] at ez
        rw [x4.2.2.2]
        exact r_wrong x4 (fun N5 k5 f5 => q0 _ ez N5 _ (zK_tr kk (zK_o (zK_tr k34 k5))) f5)
    · rw [if_neg e] at ea
      rw [ea] at ez
      rw [f3.1]
      exact ⟨fun _ => q0 _ ez N3 _ (zK_tr kk (zK_o k3)) f3, fun z => absurd z (by decide)⟩
  -- the arguments
  have lp : ∀ n N' b (φ : List Ag) (fl : Bool), zsg w 1 = 40 → n + 1 + φ.length = 5 → zK cF N N' → RZ N' w b → rFm N' 36 φ → (fl = true ↔ 0 < φ.length ∧ (φ.getD (φ.length - 1) dA).1 = true) → zAs w (n + 1) b φ fl = zArgs w → fm_read_l73 Q (n + 2) v1 1 N' := by
    intro n
    induction n with
    | zero =>
      intro N' b φ fl e40 hn kk zz rf hfl ea
      sorry
    | succ n ih =>
      intro N' b φ fl e40 hn kk zz rf hfl ea
      sorry
  refine r_want hw z2 40 (by decide) (fun e40 N3 k3 z3 => ?_) (fun e40 N3 k3 f3 => ?_)
  · have hz3 := z3
    obtain ⟨N4, hN4⟩ : ∃ N4, N4 = wA N3 5 (36 : Int32).toNatClampNeg 0 := ⟨_, rfl⟩
    have k4 : zK cF N N4 := by rw [hN4, c36]; exact zK_tr (zK_o (zK_tr k2 k3)) (zK_A _ _ (Or.inl ⟨rfl, rfl⟩))
    have z4 : RZ N4 w 2 := by rw [hN4]; exact RZ_A _ (by decide) z3
    have rf0 : ∀ N5, zK cO N4 N5 → rFm N5 36 [] := fun N5 k5 => ⟨by decide, by rw [k5.2.1 5 36 (fun z => z), hN4, c36, rA_wA, if_pos ⟨rfl, rfl⟩]; rfl, fun i hi => absurd hi (Nat.not_lt_zero i)⟩
    refine ⟨i36, nm_e ?_⟩
    rw [← hN4, z4.1]
    unfold fm_read_b71 fm_read_b72
    refine ⟨fun z => absurd rfl z, fun _ => r_next hw z4 (fun N5 k5 x5 => ⟨fun e41 => ⟨1, ?_⟩, fun e41 => ⟨6, ?_⟩⟩)⟩
    · exact end1 _ N5 2 [] e40 (by unfold zArgs; rw [if_pos e41, if_pos e41]) (zK_tr k4 (zK_o k5)) (RX_Z x5) (rf0 N5 k5)
    · exact lp 4 N5 2 [] false e40 rfl (zK_tr k4 (zK_o k5)) (RX_Z x5) (rf0 N5 k5) ⟨fun z => by cases z, fun z => absurd z.1 (by decide)⟩ (by unfold zArgs; rw [if_neg e41])
  · rw [if_neg e40] at ez
    refine ⟨i36, nm_e ?_⟩
    have f4 := FZ_A (f := 5) (i := (36 : Int32).toNatClampNeg) 0 f3
    rw [f4.1]
    unfold fm_read_b71 fm_read_b72
    refine ⟨fun _ => ⟨1, endF _ _ _ ez ?_ f4⟩, fun z => absurd z (by decide)⟩
    rw [c36]; exact zK_tr (zK_o (zK_tr k2 k3)) (zK_A _ _ (Or.inl ⟨rfl, rfl⟩))
end RDF
