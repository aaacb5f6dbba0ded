/-! a slot for an argument -/
/-- what the conversion of slot s leaves in the made rows, up from 48 -/
def mC (N : RM) (g : Ag) (I : Nat → Nat → Int32) (J : Nat → Int64) (D : Nat → UInt64) (W : Nat → List Int32) (n s : Nat) : Prop :=
  (missC g (I 80 s) → mR N (48 + s) 0 0 FP.dconst0 [] 0) ∧
  (¬ missC g (I 80 s) → plainC g (I 80 s) → ∃ r, cvP g.2.2.1 (I 80 s) (hasB (I 83 s)) (J s) (D s) (W s) = some r ∧ mR N (48 + s) r.1 r.2.1 r.2.2.1 r.2.2.2 (if isAny g.2.2.1 (I 80 s) = true then nI n else 0) ∧ (isAny g.2.2.1 (I 80 s) = true → ∀ j, j < n → mR N (48 + itm s j) (I 80 (itm s j)) (J (itm s j)) (D (itm s j)) (W (itm s j)) 0)) ∧
  (¬ missC g (I 80 s) → ¬ plainC g (I 80 s) → ∀ σ, g.2.2.2 = some σ → I 80 s = 6 ∧ mR N (48 + s) 6 0 FP.dconst0 [] (nI n) ∧ ∀ j, j < n → ∃ r, cvP σ (I 80 (itm s j)) (hasB (I 83 (itm s j))) (J (itm s j)) (D (itm s j)) (W (itm s j)) = some r ∧ mR N (48 + itm s j) r.1 r.2.1 r.2.2.1 r.2.2.2 0)
/-- nothing but what slot s makes is other -/
def kC (s : Nat) (N N' : RM) : Prop := (∀ f, f ≠ 24 → f ≠ 25 → rI N' f = rI N f) ∧ kV N N' ∧ (∀ f, f ≠ 20 → rJ N' f = rJ N f) ∧ ∀ p, p ≠ 48 + s → (∀ j, j < 5 → p ≠ 48 + itm s j) → ∀ k j d w z, mR N p k j d w z → mR N' p k j d w z
theorem kC_rf (s : Nat) (N : RM) : kC s N N := ⟨fun _ _ _ => rfl, kV_rf N, fun _ _ => rfl, fun _ _ _ _ _ _ _ _ h => h⟩
theorem kC_tr {s : Nat} {N N1 N2 : RM} (h : kC s N N1) (k : kC s N1 N2) : kC s N N2 := ⟨fun f a b => (k.1 f a b).trans (h.1 f a b), kV_tr h.2.1 k.2.1, fun f a => (k.2.2.1 f a).trans (h.2.2.1 f a), fun p a b x y z w u m => k.2.2.2 p a b x y z w u (h.2.2.2 p a b x y z w u m)⟩
theorem kM_kC {s p : Nat} {N N' : RM} (hp : p = 48 + s ∨ ∃ j, j < 5 ∧ p = 48 + itm s j) (h : kM p N N') : kC s N N' := ⟨h.1, kM_kV h, h.2.2.1, fun p' a b k j d w z m => mR_kM (fun e => hp.elim (fun x => a (e.trans x)) (fun ⟨j, hj, x⟩ => b j hj (e.trans x))) h m⟩
section CNO
variable {N : RM} {I : Nat → Nat → Int32} {J : Nat → Int64} {D : Nat → UInt64} {W : Nat → List Int32} {s n a : Nat} {g : Ag}
theorem kC_vT {v : Nat} {N' : RM} (k : kC s N N') (h : vT N I J D W v) : vT N' I J D W v := kV_vT k.2.1 h
theorem miss_b {g : Ag} : miss g = true ↔ (g.1 = true ∨ g.2.1 = true) := by unfold miss; rw [Bool.or_eq_true]
theorem r_convert (hs : s < 8) (hval : (vT N I J D W s ∧ n = 0) ∨ vL N I J D W s n) (ha : rAg N a g) (ha3 : a < 185) (hg : ∀ v, v < 48 → gd (dV I D v)) {Q : Int32 → RM → Prop}
    (q1 : ∀ N', kC s N N' → mC N' g I J D W n s → Q 1 N') (q0 : cvNo g I J D W n s → ∀ N', kC s N N' → Q 0 N') : fm_convert (nI s) (nI a) N Q := by
  have is := vp_in_nI (n := s) (N := 48) (by omega) (by omega)
  have ia := vp_in_nI (n := a) (N := 185) ha3 (by omega)
  have i2 := vp_in_nI (n := 2 * a) (N := 370) (by omega) (by omega)
  have hval' : vT N I J D W s ∨ ∃ n, vL N I J D W s n := hval.imp (fun z => z.1) (fun z => ⟨n, z⟩)
  obtain ⟨g6, g7, gt, ge⟩ := id ha
  obtain ⟨t0, t8, t9, t10, -⟩ := id gt
  have kd := val_kd hval'
  -- no list, or a type that takes the whole
  have b81 : ¬ missC g (I 80 s) → (I 80 s = 6 → g.2.2.1.1 ≠ 7 ∧ g.2.2.1.1 ≠ 9) → fm_convert_b81 Q (nI s) (nI (48 + s)) (nI (2 * a)) N := by
    intro hm h6
    unfold fm_convert_b81
    rcases ge with ⟨en, n9⟩ | ⟨σ, en, e9, -, -⟩
    · refine r_convertOne (by omega) (by omega) hval' gt (by omega) n9 (fun e7 z => (h6 z).1 e7) (hg s (by omega)) (fun r e N' k m => ⟨nZ_1, q1 N' (kM_kC (Or.inl rfl) k) ⟨fun z => absurd z hm, fun _ _ => ⟨r, e, ?_, fun z => ?_⟩, fun _ z => absurd (Or.inl en) z⟩⟩) (fun e N' k => ⟨nZ_0, q0 ⟨hm, Or.inl ⟨Or.inl en, e⟩⟩ N' (kM_kC (Or.inl rfl) k)⟩)
      · by_cases c : isAny g.2.2.1 (I 80 s) = true
        · rw [if_pos c]
          have c7 := (of_decide_eq_true c).1
          have n0 : n = 0 := hval.elim (fun z => z.2) (fun z => absurd c7 (h6 z.2.1).1)
          rw [n0]; exact m
        · rw [if_neg c]; exact m
      · have c7 := (of_decide_eq_true z).1
        have n0 : n = 0 := hval.elim (fun z => z.2) (fun z => absurd c7 (h6 z.2.1).1)
        intro j hj; omega
    · have n6 : I 80 s ≠ 6 := fun z => (h6 z).2 e9
      refine r_convertOne9 (by omega) (by omega) hval' gt (by omega) e9 (fun c N' k m => ⟨nZ_1, q1 N' (kM_kC (Or.inl rfl) k) ⟨fun z => absurd z hm, fun _ _ => ⟨(1, 0, FP.dconst0, []), ?_, ?_, fun z => ?_⟩, fun _ z => absurd (Or.inr c) z⟩⟩) (fun c => ⟨nZ_0, q0 ⟨hm, Or.inr ⟨fun z => ?_, Or.inl n6⟩⟩ N (kC_rf s N)⟩)
      · unfold cvP; rw [if_pos c]
      · rw [if_neg (fun z => by
          have := (of_decide_eq_true z).1
          omega)]; exact m
      · have := (of_decide_eq_true z).1
        omega
      · rcases z with z | z
        · rw [en] at z; cases z
        · exact c z
  -- a list, item by item
  have b90 : ¬ missC g (I 80 s) → vL N I J D W s n → (g.2.2.1.1 = 9 ∨ g.2.2.1.1 = 7) → fm_convert_b90 Q (nI s) (nI (48 + s)) (nI (2 * a)) N := by
    intro hm hL h97
    have hL' := hL
    obtain ⟨-, i80, r13, n5, i85, r16, -, -, -, hit⟩ := hL'
    have nn : ¬ (g.2.2.1.2.2.1 = true ∧ (I 80 s = 7 ∨ I 80 s = 8)) := fun z => by rw [i80] at z; exact z.2.elim (fun y => absurd y (by decide)) (fun y => absurd y (by decide))
    -- what one item asks for
    have item : ∀ j, j < n → ∀ N1, kC s N N1 → (g.2.2.1.1 = 7 → ∀ {Q2 : RM → Prop}, (∀ N', kM (48 + itm s j) N1 N' → mR N' (48 + itm s j) (I 80 (itm s j)) (J (itm s j)) (D (itm s j)) (W (itm s j)) 0 → Q2 N') → fm_makeAsItIs (nI (48 + itm s j)) (nI (itm s j)) N1 Q2) := by
      intro j hj N1 k1 _ Q2 q2
      have ei := itm_v (j := j) hs
      exact r_asItIs (by omega) (by omega) (kC_vT k1 (hit j hj).1) q2
    have fin : ∀ N2, kC s N N2 → mR N2 (48 + s) 6 0 FP.dconst0 [] (nI n) → (∀ j, j < n → (g.2.2.1.1 = 7 → mR N2 (48 + itm s j) (I 80 (itm s j)) (J (itm s j)) (D (itm s j)) (W (itm s j)) 0) ∧ (∀ σ, g.2.2.2 = some σ → ∃ r, cvP σ (I 80 (itm s j)) (hasB (I 83 (itm s j))) (J (itm s j)) (D (itm s j)) (W (itm s j)) = some r ∧ mR N2 (48 + itm s j) r.1 r.2.1 r.2.2.1 r.2.2.2 0)) → Q 1 N2 := by
      intro N2 k2 m2 h2
      refine q1 N2 k2 ⟨fun z => absurd z hm, fun _ pc => ?_, fun _ npc σ eσ => ⟨i80, m2, fun j hj => (h2 j hj).2 σ eσ⟩⟩
      have e7 : g.2.2.1.1 = 7 := by
        rcases h97 with e9 | e7
        · exfalso
          rcases ge with ⟨en, n9⟩ | ⟨σ, en, -⟩
          · exact n9 e9
          · rcases pc with z | z
            · rw [en] at z; cases z
            · exact nn z
        · exact e7
      have ca : isAny g.2.2.1 (I 80 s) = true := decide_eq_true ⟨e7, nn⟩
      refine ⟨(I 80 s, J s, D s, W s), by unfold cvP; rw [if_neg nn, if_pos e7], ?_, fun _ j hj => (h2 j hj).1 e7⟩
      rw [if_pos ca]
      obtain ⟨x, y, z, w⟩ := m2
      refine ⟨by rw [x, i80], ?_, ?_, fun z => by rw [i80] at z; exact absurd (show (6 : Int32) = 5 from z) (by decide)⟩
      · rw [y]; show _ = whl (I 80 s) (J s) (W s) (nI n); rw [i80]; rfl
      · rw [z]; show _ = if I 80 s = 4 then D s else FP.dconst0; rw [i80]; rfl
    unfold fm_convert_b90
    rw [nI_clamp (by omega), r16]
    refine ⟨is, r_mk0 (by omega) 6 (by decide) _ FP.dconst0 0 FP.dconst0 [] (nI n) rfl rfl (fun N1 k1 m1 _ => ⟨n + 1, ?_⟩)⟩
    have lp : ∀ m i N2, i + m = n → kC s N N2 → mR N2 (48 + s) 6 0 FP.dconst0 [] (nI n) → (∀ j, j < i → (g.2.2.1.1 = 7 → mR N2 (48 + itm s j) (I 80 (itm s j)) (J (itm s j)) (D (itm s j)) (W (itm s j)) 0) ∧ (∀ σ, g.2.2.2 = some σ → ∃ r, cvP σ (I 80 (itm s j)) (hasB (I 83 (itm s j))) (J (itm s j)) (D (itm s j)) (W (itm s j)) = some r ∧ mR N2 (48 + itm s j) r.1 r.2.1 r.2.2.1 r.2.2.2 0)) → fm_convert_l108 Q (m + 1) (nI s) (nI (2 * a)) (nI i) N2 := by
      intro m
      induction m with
      | zero =>
        intro i N2 hi k2 m2 h2
        show fm_convert_c108 Q _ _ _ _ N2
        unfold fm_convert_c108
        rw [nI_clamp (by omega), k2.2.1.1 16 (by decide) (by decide) (by decide), r16]
        exact ⟨is, br_t (nI_le (by omega) (by omega)) (fin N2 k2 m2 (fun j hj => h2 j (by omega)))⟩
      | succ m ih =>
        intro i N2 hi k2 m2 h2
        show fm_convert_c108 Q (fm_convert_l108 Q (m + 1)) _ _ _ N2
        have ei := itm_v (j := i) hs
        have gt2 := kV_rTy k2.2.1 gt
        have nxt : ∀ N3, kM (48 + itm s i) N2 N3 → (g.2.2.1.1 = 7 → mR N3 (48 + itm s i) (I 80 (itm s i)) (J (itm s i)) (D (itm s i)) (W (itm s i)) 0) → (∀ σ, g.2.2.2 = some σ → ∃ r, cvP σ (I 80 (itm s i)) (hasB (I 83 (itm s i))) (J (itm s i)) (D (itm s i)) (W (itm s i)) = some r ∧ mR N3 (48 + itm s i) r.1 r.2.1 r.2.2.1 r.2.2.2 0) → fm_convert_b178 Q (fm_convert_l108 Q (m + 1)) (nI s) (nI (2 * a)) (nI i) N3 := by
          intro N3 k3 c7 c9
          unfold fm_convert_b178
          refine nm_r (nI_1 i) (ih (i + 1) N3 (by omega) (kC_tr k2 (kM_kC (Or.inr ⟨i, by omega, rfl⟩) k3)) (mR_kM (by omega) k3 m2) (fun j hj => ?_))
          by_cases y : j = i
          · rw [y]; exact ⟨c7, c9⟩
          · have ej := itm_v (j := j) hs
            have old := h2 j (by omega)
            exact ⟨fun z => mR_kM (by omega) k3 (old.1 z), fun σ e => by
              obtain ⟨r, r1, r2⟩ := old.2 σ e
              exact ⟨r, r1, mR_kM (by omega) k3 r2⟩⟩
        unfold fm_convert_c108 fm_itemOf
        rw [nI_clamp (by omega), k2.2.1.1 16 (by decide) (by decide) (by decide), r16, m5, show (8 : Int32) = nI 8 from rfl, nI_add, nI_add, ← ei]
        refine ⟨is, br_f (nI_ge (by omega) (by omega)) (nm_r (e' := nI (48 + itm s i)) (nI_add 48 _) ⟨i2, ?_⟩)⟩
        rw [nI_clamp (by omega), gt2.2.1]
        refine ⟨fun c => ?_, fun c => ?_⟩
        · have n7 : g.2.2.1.1 ≠ 7 := fun z => c (by rw [z]; rfl)
          have e9 := h97.elim id (fun z => absurd z n7)
          rcases ge with ⟨-, n9⟩ | ⟨σ, en, -, σ9, hσ⟩
          · exact absurd e9 n9
          have hσ2 := kV_rTy k2.2.1 hσ
          rw [nI_1]
          have hi6 := (vT_kd (hit i (by omega)).1).2
          refine r_convertOne (by omega) (by omega) (Or.inl (kC_vT k2 (hit i (by omega)).1)) hσ2 (by omega) σ9 (fun _ => hi6) (hg _ (by omega)) (fun r e N3 k3 m3 => ⟨fun _ => nxt N3 k3 (fun z => absurd z n7) (fun σ' e' => ?_), fun z => absurd z (by decide)⟩) (fun e N3 k3 => ⟨fun z => absurd rfl z, fun _ => q0 ⟨hm, Or.inr ⟨fun z => ?_, Or.inr ⟨σ, i, en, by omega, e⟩⟩⟩ N3 (kC_tr k2 (kM_kC (Or.inr ⟨i, by omega, rfl⟩) k3))⟩)
          · rw [en] at e'
            cases e'
            exact ⟨r, e, m3⟩
          · rcases z with z | z
            · rw [en] at z; cases z
            · exact nn z
        · have e7 : g.2.2.1.1 = 7 := (nI_eq (b := 7) (by omega) (by decide)).mp c
          refine item i (by omega) N2 k2 e7 (fun N3 k3 m3 => nxt N3 k3 (fun _ => m3) (fun σ e => ?_))
          rcases ge with ⟨en, -⟩ | ⟨σ', -, e9, -⟩
          · rw [en] at e; cases e
          · omega
    exact lp n 0 N1 (by omega) (kM_kC (Or.inl rfl) k1) m1 (fun j hj => absurd hj (Nat.not_lt_zero j))
  have b51 : ¬ missC g (I 80 s) → fm_convert_b51 Q (nI s) (nI (48 + s)) (nI (2 * a)) (rA N 13 s) N := by
    intro hm
    unfold fm_convert_b51
    rw [nI_clamp (by omega), t8]
    refine ⟨fun c => b81 hm (fun z => ?_), fun c => ⟨i2, fun c9 => b90 hm ?_ (Or.inl ((nI_eq (b := 9) (by omega) (by decide)).mp c9)), fun c9 => ⟨i2, fun c7 => b90 hm ?_ (Or.inr ((nI_eq (b := 7) (by omega) (by decide)).mp c7)), fun c7 => b81 hm (fun _ => ⟨fun z => c7 (by rw [z]; rfl), fun z => c9 (by rw [z]; rfl)⟩)⟩⟩⟩
    · exfalso
      rcases kd with ⟨e, x⟩ | ⟨e, x⟩ | ⟨e, x⟩ | ⟨e, x⟩ | ⟨e, x⟩ | ⟨e, x⟩
      · rw [e] at z; exact absurd z (by decide)
      · rw [e] at z; exact absurd z (by decide)
      · rw [e] at z; exact absurd z (by decide)
      · rw [e] at z; exact absurd z (by decide)
      · rw [e] at z; exact absurd z (by decide)
      · exact c x
    all_goals
      refine hval.elim (fun z => ?_) id
      exfalso
      rcases (vT_kd z.1).1 with ⟨e, x⟩ | ⟨e, x⟩ | ⟨e, x⟩ | ⟨e, x⟩ | ⟨e, x⟩ | ⟨e, x⟩
      · rw [x] at c; exact absurd c (by decide)
      · rw [x] at c; exact absurd c (by decide)
      · rw [x] at c; exact absurd c (by decide)
      · rw [x] at c; exact absurd c (by decide)
      · rw [x] at c; exact absurd c (by decide)
      · exact (vT_kd z.1).2 e
  have k0 : rA N 13 s = 0 ↔ I 80 s = 7 := by
    rcases kd with ⟨e, x⟩ | ⟨e, x⟩ | ⟨e, x⟩ | ⟨e, x⟩ | ⟨e, x⟩ | ⟨e, x⟩ <;> rw [e, x] <;> decide
  unfold fm_convert fm_convert_b41
  rw [m2, show (48 : Int32) = nI 48 from rfl, nI_add]
  refine nm_e (nm_e ⟨is, nm_e ?_⟩)
  rw [nI_clamp (by omega), nI_clamp (by omega), g6, g7]
  have gone : missC g (I 80 s) → fm_make (nI (48 + s)) 0 0 FP.dconst0 N (fun (M28 : RM) => Q 1 M28) := fun hm => r_mk0 (by omega) 0 (by decide) 0 FP.dconst0 0 FP.dconst0 [] 0 rfl rfl (fun N' k m _ => q1 N' (kM_kC (Or.inl rfl) k) ⟨fun _ => m, fun z => absurd hm z, fun z => absurd hm z⟩)
  refine ⟨fun c => b51 (fun z => c (k0.mpr z.1)), fun c => ⟨ia, fun c1 => gone ⟨k0.mp c, miss_b.mpr (Or.inl ?_)⟩, fun c1 => ⟨ia, fun c2 => b51 (fun z => ?_), fun c2 => gone ⟨k0.mp c, miss_b.mpr (Or.inr ?_)⟩⟩⟩⟩
  · cases y : g.1 with
    | true => rfl
    | false => rw [y] at c1; exact absurd rfl c1
  · rcases miss_b.mp z.2 with y | y
    · rw [bI_0.mp c1] at y; cases y
    · rw [bI_0.mp c2] at y; cases y
  · cases y : g.2.1 with
    | true => rfl
    | false => rw [y] at c2; exact absurd rfl c2
end CNO
