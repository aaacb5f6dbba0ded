theorem bnds : ∀ i, 1 ≤ i ∧ i ≤ 4 → ∃ k, k < 62 ∧ nMost i - nLeast i = lN (2 ^ k - 1) ∧ nMost i - nLeast i + 1 = lN (2 ^ k) ∧ nLeast i ≤ nMost i ∧ (nLeast i).toInt + (2 ^ k : Nat) = (nMost i).toInt + 1 ∧ (nLeast i).toInt ≤ 0 ∧ -2147483648 ≤ (nLeast i).toInt := by
  intro i hi
  have : i = 1 ∨ i = 2 ∨ i = 3 ∨ i = 4 := by omega
  rcases this with h | h | h | h
  · subst h; exact ⟨8, by decide, by decide +kernel, by decide +kernel, by decide +kernel, by decide +kernel, by decide +kernel, by decide +kernel⟩
  · subst h; exact ⟨8, by decide, by decide +kernel, by decide +kernel, by decide +kernel, by decide +kernel, by decide +kernel, by decide +kernel⟩
  · subst h; exact ⟨16, by decide, by decide +kernel, by decide +kernel, by decide +kernel, by decide +kernel, by decide +kernel, by decide +kernel⟩
  · subst h; exact ⟨32, by decide, by decide +kernel, by decide +kernel, by decide +kernel, by decide +kernel, by decide +kernel, by decide +kernel⟩
theorem wrp_in {i : Nat} (hi : 1 ≤ i ∧ i ≤ 4) {w : Int64} (h1 : ¬ w < nLeast i) (h2 : ¬ nMost i < w) : wrpC w (nLeast i) (nMost i) = w := by
  obtain ⟨k, k62, e1, e2, e3, e4, e5, e6⟩ := bnds i hi
  have p2 : 2 ^ k < 2 ^ 62 := Nat.pow_lt_pow_right (by decide) k62
  rw [Int64.lt_iff_toInt_lt] at h1 h2
  unfold wrpC
  have es : (w - nLeast i).toInt = w.toInt - (nLeast i).toInt := by
    rw [Int64.toInt_sub]; exact Int.bmod_eq_of_le (by omega) (by omega)
  have em : w - nLeast i = lN (w.toInt - (nLeast i).toInt).toNat := by
    apply Int64.toInt_inj.mp
    rw [es, pk_lT (by omega)]; omega
  rw [e1, em, lN_and (by omega) k (by show (lN (2 ^ k - 1)).toBitVec.toNat = _; exact Nat.mod_eq_of_lt (by omega)), Nat.mod_eq_of_lt (by omega), ← em]
  exact Int64.sub_add_cancel _ _
section CNO
variable {N : RM} {I : Nat → Nat → Int32} {J : Nat → Int64} {D : Nat → UInt64} {W : Nat → List Int32} {v n p t : Nat} {L : List Int32} {τ : Ty}
theorem has_0 {c : Int32} : hasB c = false ↔ c = 0 := by
  unfold hasB
  by_cases h : c = 0
  · rw [decide_eq_true h]; exact ⟨fun _ => h, fun _ => rfl⟩
  · rw [decide_eq_false h]; exact ⟨fun z => (by cases z), fun z => absurd z h⟩
theorem r_makeWhole (hp : p < 96) (hv : v < 48) (hval : vT N I J D W v ∨ ∃ n, vL N I J D W v n) (ht : rTy N t τ) (ht3 : t < 370) (hi : 1 ≤ τ.1 ∧ τ.1 ≤ 4) (hg : gd (dV I D v)) {Q : Int32 → RM → Prop}
    (q1 : ∀ r, cvN τ.1 τ.2.1 (hasB (I 83 v)) (D v) = some r → ∀ N', kM p N N' → mR N' p r.1 r.2.1 r.2.2.1 r.2.2.2 0 → Q 1 N')
    (q0 : cvN τ.1 τ.2.1 (hasB (I 83 v)) (D v) = none → ∀ N', kM p N N' → Q 0 N') : fm_makeWhole (nI p) (nI v) (nI t) N Q := by
  have it := vp_in_nI (n := t) (N := 370) ht3 (by omega)
  obtain ⟨k, k62, e1, e2, e3, e4, e5, e6⟩ := bnds τ.1 hi
  have n5 : ¬ τ.1 = 5 := by omega
  unfold cvN at q1 q0
  rw [if_neg n5, show (if hasB (I 83 v) = true then D v else FP.dconst0) = dV I D v from rfl] at q1 q0
  unfold fm_makeWhole
  refine r_numberOf hv hval (fun N1 k1 h25 => ?_)
  have m1 := kN_kM p k1
  obtain ⟨t0, t8, t9, t10, -⟩ := kV_rTy (kN_kV k1) ht
  obtain ⟨d, hd⟩ : ∃ d, d = dV I D v := ⟨_, rfl⟩
  rw [← hd] at q1 q0 hg ⊢
  have b183 : ∀ w : Int64, (∀ N', kM p N N' → mR N' p 3 w FP.dconst0 [] 0 → Q 1 N') → fm_makeWhole_b183 Q (nI p) w N1 := by
    intro w q
    unfold fm_makeWhole_b183
    exact r_mk0 hp 3 (by decide) w FP.dconst0 w FP.dconst0 [] 0 rfl rfl (fun N2 k2 r2 _ => q N2 (kM_tr m1 k2) r2)
  have b69 : ¬ (hasB (I 83 v) = false ∧ τ.2.1 = 2) → ∀ s, s = (if τ.2.1 = 1 then rndC d else FP.d2l d) → fm_makeWhole_b69 Q (nI p) (nI t) (nLeast τ.1) (nMost τ.1) s N1 := by
    intro c s es
    rw [if_neg (fun z => c ⟨z.1, z.2.elim (fun z => absurd z n5) id⟩)] at q1 q0
    unfold fm_makeWhole_b69 fm_makeWhole_b109 fm_makeWhole_b140 fm_makeWhole_b178
    rw [nI_clamp (by omega), t9]
    refine ⟨it, fun c1 => ⟨it, fun c2 => ?_, fun c2 => ?_⟩, fun c1 => ?_⟩
    · rw [if_neg c1] at es
      rw [if_neg (fun z => c2 z.1), if_neg c1] at q1
      rw [e2]
      have hm := rem_mask (s - nLeast τ.1) k62
      have qq : ∀ N', kM p N N' → mR N' p 3 (wrpC s (nLeast τ.1) (nMost τ.1)) FP.dconst0 [] 0 → Q 1 N' := fun N' a b => q1 _ rfl N' a (by rw [← es]; exact b)
      have ew : wrpC s (nLeast τ.1) (nMost τ.1) = ((s - nLeast τ.1) &&& lN (2 ^ k - 1)) + nLeast τ.1 := by unfold wrpC; rw [e1]
      rw [ew] at qq
      refine nm_e ⟨fun z => ?_, nm_e ⟨fun z => nm_r ?_ (b183 _ qq), fun z => nm_r ?_ (b183 _ qq)⟩⟩
      · have p0 := Nat.two_pow_pos k
        have p2 : 2 ^ k < 2 ^ 62 := Nat.pow_lt_pow_right (by decide) k62
        exact lN_ne0 (by omega) (by omega) z
      · rw [if_pos z] at hm; rw [hm]
      · rw [if_neg z] at hm; rw [hm]
    · rw [if_neg c1] at es
      rw [if_neg c1] at q1
      refine ⟨fun z => ?_, fun z => ⟨fun z2 => ?_, fun z2 => ?_⟩⟩
      · rw [lg_cmp_lt] at z
        rw [if_pos ⟨c2, Or.inl (by rw [← es]; exact z)⟩] at q0
        exact q0 rfl N1 m1
      · rw [lg_cmp_lt] at z
        rw [lg_cmp_le] at z2
        have z3 : ¬ nMost τ.1 < s := fun y => by rw [Int64.lt_iff_toInt_lt] at y; rw [Int64.le_iff_toInt_le] at z2; omega
        rw [← es, if_neg (fun y => y.2.elim z z3), wrp_in hi z z3] at q1
        exact b183 s (fun N' a b => q1 _ rfl N' a b)
      · rw [lg_cmp_lt] at z
        rw [lg_cmp_le] at z2
        have z3 : nMost τ.1 < s := by rw [Int64.lt_iff_toInt_lt]; rw [Int64.le_iff_toInt_le] at z2; omega
        rw [if_pos ⟨c2, Or.inr (by rw [← es]; exact z3)⟩] at q0
        exact q0 rfl N1 m1
    · rw [if_pos c1] at es
      rw [if_neg (fun z => by rw [c1] at z; exact absurd z.1 (by decide)), if_pos c1, ← es] at q1
      have qq : ∀ N', kM p N N' → mR N' p 3 (clmC s (nLeast τ.1) (nMost τ.1)) FP.dconst0 [] 0 → Q 1 N' := fun N' a b => q1 _ rfl N' a b
      have e3' := Int64.le_iff_toInt_le.mp e3
      have clm : ∀ w, w.toInt = (if s.toInt < (nLeast τ.1).toInt then (nLeast τ.1).toInt else if (nMost τ.1).toInt < s.toInt then (nMost τ.1).toInt else s.toInt) → w = clmC s (nLeast τ.1) (nMost τ.1) := by
        intro w hw
        apply Int64.toInt_inj.mp
        rw [hw]
        unfold clmC
        by_cases a : s < nMost τ.1
        · rw [if_pos a]
          rw [Int64.lt_iff_toInt_lt] at a
          by_cases b : s < nLeast τ.1
          · rw [if_pos b, if_pos (Int64.lt_iff_toInt_lt.mp b)]
          · rw [if_neg b, if_neg (fun z => b (Int64.lt_iff_toInt_lt.mpr z)), if_neg (by omega)]
        · rw [if_neg a]
          have a' : ¬ s.toInt < (nMost τ.1).toInt := fun z => a (Int64.lt_iff_toInt_lt.mpr z)
          rw [if_neg (fun z : nMost τ.1 < nLeast τ.1 => by rw [Int64.lt_iff_toInt_lt] at z; omega), if_neg (by omega)]
          split <;> omega
      refine ⟨fun z => ?_, fun z => ?_⟩
      · have z1 := Int64.le_iff_toInt_le.mp ((lg_cmp_ge _ _).mp z)
        refine ⟨fun z2 => ?_, fun z2 => ?_⟩
        · have z3 := Int64.le_iff_toInt_le.mp ((lg_cmp_le _ _).mp z2)
          rw [clm s (by rw [if_neg (by omega), if_neg (by omega)])]; exact b183 _ qq
        · have z3 : ¬ s.toInt ≤ (nMost τ.1).toInt := fun y => z2 ((lg_cmp_le _ _).mpr (Int64.le_iff_toInt_le.mpr y))
          rw [clm (nMost τ.1) (by rw [if_neg (by omega), if_pos (by omega)])]; exact b183 _ qq
      · have z1 : ¬ (nLeast τ.1).toInt ≤ s.toInt := fun y => z ((lg_cmp_ge _ _).mpr (Int64.le_iff_toInt_le.mpr y))
        have eL : nLeast τ.1 = clmC s (nLeast τ.1) (nMost τ.1) := clm (nLeast τ.1) (by rw [if_pos (by omega)])
        have := b183 _ qq
        rw [← eL] at this
        exact this
  have b26 : ¬ (hasB (I 83 v) = false ∧ τ.2.1 = 2) → fm_makeWhole_b26 Q (nI p) (nI t) d N1 := by
    intro c
    unfold fm_makeWhole_b26
    rw [nI_clamp (by omega), t8]
    refine ⟨it, r_lowest hi ⟨it, ?_⟩⟩
    rw [t8]
    refine r_highest hi ⟨it, ?_⟩
    rw [t9]
    refine ⟨fun c1 => b69 c _ (by rw [if_neg c1]), fun c1 => r_rounded d hg.1 ?_⟩
    rw [hg.2]
    exact b69 c _ (by rw [if_pos c1])
  rw [h25, nI_clamp (by omega), t9]
  refine ⟨fun c => b26 (fun z => c (has_0.mp z.1)), fun c => ⟨it, fun c2 => b26 (fun z => c2 z.2), fun c2 => ?_⟩⟩
  rw [if_pos ⟨has_0.mpr c, Or.inr c2⟩] at q0
  exact q0 rfl N1 m1
theorem r_asItIs (hp : p < 96) (hv : v < 48) (h : vT N I J D W v) {Q : RM → Prop} (q : ∀ N', kM p N N' → mR N' p (I 80 v) (J v) (D v) (W v) 0 → Q N') : fm_makeAsItIs (nI p) (nI v) N Q := by
  have iv := vp_in_nI (n := v) (N := 48) hv (by omega)
  have hvz := val_nz (Or.inl h)
  unfold fm_makeAsItIs
  rw [nI_clamp (by omega)]
  refine ⟨iv, nm_e ?_⟩
  have mk : ∀ (k : Int32) (j : Int64) (d : UInt64), k ≠ 5 → k = I 80 v → j = whl k (J v) (W v) 0 → d = (if k = 4 then D v else FP.dconst0) → fm_make (nI p) k j d N (fun (M1 : RM) => fm_makeAsItIs_b122 Q M1) := by
    intro k j d h5 hk hj hd
    subst hk
    exact r_mk0 hp _ h5 j d _ _ _ 0 hj hd (fun N' m r _ => q N' m r)
  have h' := h
  rcases h' with ⟨a, k, -⟩ | ⟨a, k, -⟩ | ⟨b, a, k, k2, eJ, -⟩ | ⟨m, a, k, k2, eD, -⟩ | ⟨a, k, -⟩
  · rw [k]
    refine ⟨fun _ => ⟨fun z => absurd rfl z, fun _ => ?_⟩, fun z => absurd z (by decide)⟩
    unfold fm_makeAsItIs_b66 fm_makeAsItIs_b104 fm_makeAsItIs_b119
    exact ⟨fun _ => ⟨fun _ => ⟨fun _ => mk 7 _ _ (by decide) a.symm rfl rfl, fun z => absurd z (by decide)⟩, fun z => absurd z (by decide)⟩, fun z => absurd z (by decide)⟩
  · rw [k]
    refine ⟨fun _ => ⟨fun _ => ⟨fun z => absurd rfl z, fun _ => ?_⟩, fun z => absurd z (by decide)⟩, fun z => absurd z (by decide)⟩
    unfold fm_makeAsItIs_b66 fm_makeAsItIs_b104 fm_makeAsItIs_b119
    exact ⟨fun _ => ⟨fun _ => ⟨fun _ => mk 8 _ _ (by decide) a.symm rfl rfl, fun z => absurd z (by decide)⟩, fun z => absurd z (by decide)⟩, fun z => absurd z (by decide)⟩
  · rw [k]
    refine ⟨fun _ => ⟨fun _ => ⟨fun _ => ⟨fun z => absurd rfl z, fun _ => ?_⟩, fun z => absurd z (by decide)⟩, fun z => absurd z (by decide)⟩, fun z => absurd z (by decide)⟩
    unfold fm_makeAsItIs_b66 fm_makeAsItIs_b104 fm_makeAsItIs_b119
    rw [nI_clamp (by omega), k2]
    refine ⟨fun z => absurd rfl z, fun _ => ⟨iv, fun c => ⟨fun _ => mk 2 _ _ (by decide) a.symm ?_ rfl, fun z => absurd z (by decide)⟩, fun c => ⟨fun _ => mk 2 _ _ (by decide) a.symm ?_ rfl, fun z => absurd z (by decide)⟩⟩⟩
    · rw [eJ, bI_0.mp c]; rfl
    · rw [eJ]
      cases b with
      | true => rfl
      | false => exact absurd rfl c
  · rw [k]
    refine ⟨fun _ => ⟨fun _ => ⟨fun _ => ⟨fun _ => ⟨fun z => absurd rfl z, fun _ => ?_⟩, fun z => absurd z (by decide)⟩, fun z => absurd z (by decide)⟩, fun z => absurd z (by decide)⟩, fun z => absurd z (by decide)⟩
    unfold fm_makeAsItIs_b66 fm_makeAsItIs_b104 fm_makeAsItIs_b119
    rw [nI_clamp (by omega), k2]
    exact ⟨fun _ => ⟨fun _ => ⟨fun z => absurd rfl z, fun _ => ⟨iv, mk 4 _ _ (by decide) a.symm rfl (by rw [eD]; rfl)⟩⟩, fun z => absurd z (by decide)⟩, fun z => absurd z (by decide)⟩
  · rw [k]
    refine ⟨fun z => absurd rfl z, fun _ => r_sayAll hv (Or.inl h) (fun N1 k1 s1 => r_makeText hp s1 hvz.2 (fun N2 k2 s2 r2 => q N2 (kM_tr (kN_kM p (kS_kN k1)) k2) ?_))⟩
    rw [a]; exact r2 _ _
end CNO
