section CNO
variable {N : RM} {I : Nat → Nat → Int32} {J : Nat → Int64} {D : Nat → UInt64} {W : Nat → List Int32} {v n p t : Nat} {L : List Int32} {τ : Ty}
theorem val_kd (h : vT N I J D W v ∨ ∃ n, vL N I J D W v n) : kdR (I 80 v) (rA N 13 v) := h.elim (fun z => (vT_kd z).1) (fun ⟨_, z⟩ => Or.inr (Or.inr (Or.inr (Or.inr (Or.inr ⟨z.2.1, z.2.2.1⟩)))))
theorem kd_un (h : vT N I J D W v ∨ ∃ n, vL N I J D W v n) : ¬ 1 < rA N 13 v ↔ (I 80 v = 7 ∨ I 80 v = 8) := by
  rcases val_kd h with ⟨a, b⟩ | ⟨a, b⟩ | ⟨a, b⟩ | ⟨a, b⟩ | ⟨a, b⟩ | ⟨a, b⟩ <;> rw [a, b] <;> decide
theorem r_truth (hv : v < 48) (h : vT N I J D W v ∨ ∃ n, vL N I J D W v n) {A B C : Prop} {iv : vp_in (nI v) 48} (f1 : trueC (I 80 v) (D v) (W v) ≠ 0 → A) (f0 : trueC (I 80 v) (D v) (W v) = 0 → B) (fc : ∀ b : Bool, bI b = trueC (I 80 v) (D v) (W v) → I 80 v = 2 → rA N 14 v = bI b → C) :
    ((¬ rA N 13 v = 2 → ((¬ rA N 13 v = 3 → ((¬ rA N 13 v = 4 → ((¬ rA N 13 v = 5 → B) ∧ (rA N 13 v = 5 → A))) ∧ (rA N 13 v = 4 → (vp_in (nI v) 48 ∧ (((rA N 16 v) ≤ 0 → B) ∧ (¬ (rA N 16 v) ≤ 0 → A)))))) ∧ (rA N 13 v = 3 → (vp_in (nI v) 48 ∧ (((Op.cmpValue (FP.dcmp (rD N 15 v) FP.dconst0) .l) = 0 → B) ∧ (¬ (Op.cmpValue (FP.dcmp (rD N 15 v) FP.dconst0) .l) = 0 → A)))))) ∧ (rA N 13 v = 2 → (vp_in (nI v) 48 ∧ C))) := by
  unfold trueC at f1 f0 fc
  rcases h with h | ⟨n, h⟩
  · rcases h with ⟨a, k, -⟩ | ⟨a, k, -⟩ | ⟨b, a, k, k2, -, -, -, eD⟩ | ⟨m, a, k, k2, eD, -⟩ | ⟨a, k, ⟨k2, k3, -⟩, -⟩
    · rw [k]
      exact ⟨fun _ => ⟨fun _ => ⟨fun _ => ⟨fun _ => f0 (by rw [a, if_neg (by decide), if_neg (fun z => z.elim (fun z => absurd z (by decide)) (fun z => absurd z.1 (by decide)))]), fun z => absurd z (by decide)⟩, fun z => absurd z (by decide)⟩, fun z => absurd z (by decide)⟩, fun z => absurd z (by decide)⟩
    · rw [k]
      exact ⟨fun _ => ⟨fun _ => ⟨fun _ => ⟨fun _ => f0 (by rw [a, if_neg (by decide), if_neg (fun z => z.elim (fun z => absurd z (by decide)) (fun z => absurd z.1 (by decide)))]), fun z => absurd z (by decide)⟩, fun z => absurd z (by decide)⟩, fun z => absurd z (by decide)⟩, fun z => absurd z (by decide)⟩
    · rw [k]
      refine ⟨fun z => absurd rfl z, fun _ => ⟨iv, fc b ?_ a k2⟩⟩
      rw [a, eD, if_pos (Or.inl rfl)]
      cases b <;> decide +kernel
    · rw [k]
      rw [a, if_pos (Or.inr rfl), eD] at f1 f0
      rw [k2]
      refine ⟨fun _ => ⟨fun z => absurd rfl z, fun _ => ⟨iv, fun c => f0 (by rw [if_pos c]), fun c => f1 (by rw [if_neg c]; decide)⟩⟩, fun z => absurd z (by decide)⟩
    · rw [k]
      rw [a, if_neg (by decide)] at f1 f0
      rw [k2]
      refine ⟨fun _ => ⟨fun _ => ⟨fun z => absurd rfl z, fun _ => ⟨iv, pk_le (W v).length 0 (fun c => f0 ?_) (fun c => f1 ?_)⟩⟩, fun z => absurd z (by decide)⟩, fun z => absurd z (by decide)⟩
      · rw [if_neg (fun z => z.elim (fun z => absurd z (by decide)) (fun z => by omega))]
      · rw [if_pos (Or.inr ⟨rfl, c⟩)]; decide
  · obtain ⟨-, a, k, -⟩ := h
    rw [k]
    rw [a, if_neg (by decide), if_pos (Or.inl rfl)] at f1
    exact ⟨fun _ => ⟨fun _ => ⟨fun _ => ⟨fun z => absurd rfl z, fun _ => f1 (by decide)⟩, fun z => absurd z (by decide)⟩, fun z => absurd z (by decide)⟩, fun z => absurd z (by decide)⟩
theorem r_convertOne (hp : p < 96) (hv : v < 48) (hval : vT N I J D W v ∨ ∃ n, vL N I J D W v n) (ht : rTy N t τ) (ht3 : t < 370) (h9 : τ.1 ≠ 9) (h7 : τ.1 = 7 → I 80 v ≠ 6) (hg : gd (dV I D v)) {Q : Int32 → RM → Prop}
    (q1 : ∀ r, cvP τ (I 80 v) (hasB (I 83 v)) (J v) (D v) (W v) = some r → ∀ N', kM p N N' → mR N' p r.1 r.2.1 r.2.2.1 r.2.2.2 0 → Q 1 N')
    (q0 : cvP τ (I 80 v) (hasB (I 83 v)) (J v) (D v) (W v) = none → ∀ N', kM p N N' → Q 0 N') : fm_convertOne (nI p) (nI v) (nI t) N Q := by
  have it := vp_in_nI (n := t) (N := 370) ht3 (by omega)
  have iv := vp_in_nI (n := v) (N := 48) hv (by omega)
  have hvz := val_nz hval
  have un := kd_un hval
  obtain ⟨t0, t8, t9, t10, -⟩ := id ht
  unfold cvP at q1 q0
  have b33 : ¬ (τ.2.2.1 = true ∧ (I 80 v = 7 ∨ I 80 v = 8)) → fm_convertOne_b33 Q (nI p) (nI v) (nI t) (rA N 13 v) N := by
    intro hn
    rw [if_neg hn] at q1 q0
    unfold fm_convertOne_b33 fm_convertOne_b174 fm_convertOne_b189
    rw [nI_clamp (by omega), nI_clamp (by omega), t8]
    have ne : ∀ {a b : Nat}, a < 20 → b < 20 → a ≠ b → ¬ nI a = nI b := fun ha hb h z => h ((nI_eq (by omega) (by omega)).mp z)
    have w253 : 1 ≤ τ.1 ∧ τ.1 ≤ 4 → fm_convertOne_b253 Q (nI p) (nI v) (nI t) N := by
      intro h14
      have n2 : nSort τ.1 = 2 := by
        have : τ.1 = 1 ∨ τ.1 = 2 ∨ τ.1 = 3 ∨ τ.1 = 4 := by omega
        rcases this with e | e | e | e <;> rw [e] <;> rfl
      rw [if_neg (show ¬ τ.1 = 7 by omega), if_neg (show ¬ τ.1 = 0 by omega), if_pos n2] at q1 q0
      unfold fm_convertOne_b253
      exact r_makeWhole hp hv hval ht ht3 h14 hg (fun r e N' k m => ⟨nZ_1, q1 r e N' k m⟩) (fun e N' k => ⟨nZ_0, q0 e N' k⟩)
    have w195 : τ.1 = 6 ∨ τ.1 = 8 → fm_convertOne_b195 Q (nI p) (nI v) (nI t) N := by
      intro h68
      have n2 : ¬ nSort τ.1 = 2 := by rcases h68 with e | e <;> rw [e] <;> decide
      rw [if_neg (show ¬ τ.1 = 7 by omega), if_neg (show ¬ τ.1 = 0 by omega), if_neg n2] at q1 q0
      unfold fm_convertOne_b195 fm_convertOne_b224 fm_convertOne_b229
      refine r_sayAll hv hval (fun N1 k1 s1 => r_makeText hp s1 hvz.2 (fun N2 k2 s2 r2 => ⟨it, ?_⟩))
      have m2 := kM_tr (kN_kM p (kS_kN k1)) k2
      have ht2 := kV_rTy (kM_kV m2) ht
      rw [nI_clamp (by omega), ht2.2.1]
      refine ⟨fun c => ⟨nZ_1, ?_⟩, fun c => ?_⟩
      · have e6 : τ.1 = 6 := (nI_eq (b := 6) (by omega) (by decide)).mp c
        rw [if_neg (fun z => by omega)] at q1
        exact q1 _ rfl N2 m2 (r2 0 FP.dconst0)
      · have e8 : τ.1 = 8 := h68.elim (fun z => absurd (by rw [z]; rfl) c) id
        refine r_isWordOf ht2 e8 ht3 s2 hvz.1 (fun w => ⟨fun z => absurd z (by decide), fun _ => ⟨nZ_1, ?_⟩⟩) (fun w => ⟨fun _ => ⟨nZ_0, ?_⟩, fun z => absurd rfl z⟩)
        · rw [if_neg (fun z => z.2 w)] at q1
          exact q1 _ rfl N2 m2 (r2 0 FP.dconst0)
        · rw [if_pos ⟨e8, w⟩] at q0
          exact q0 rfl N2 m2
    refine ⟨it, fun c => ?_, fun c => w253 ?_, fun c => w253 ?_, fun c => w253 ?_, fun c => w253 ?_, fun c => ?_, fun c => w195 ?_, fun c => ?_, fun c => w195 ?_, fun c => absurd ((nI_eq (b := 9) (by omega) (by decide)).mp c) h9, fun c => ?_⟩
    · have e0 : τ.1 = 0 := (nI_eq (b := 0) (by omega) (by decide)).mp c
      rw [if_neg (show ¬ τ.1 = 7 by omega), if_pos e0] at q1
      have mk : ∀ (j : Int64), (j = if trueC (I 80 v) (D v) (W v) = 0 then 0 else 1) → fm_make (nI p) 2 j FP.dconst0 N (fun (M12 : RM) => Q 1 M12) := fun j hj => r_mk0 hp 2 (by decide) j FP.dconst0 (if trueC (I 80 v) (D v) (W v) = 0 then 0 else 1) FP.dconst0 [] 0 hj rfl (fun N' m r _ => q1 _ rfl N' m r)
      have st1 : trueC (I 80 v) (D v) (W v) ≠ 0 → ((1 : Int32) = 0 → fm_make (nI p) 2 0 FP.dconst0 N (fun (M12 : RM) => Q 1 M12)) ∧ (¬ (1 : Int32) = 0 → fm_make (nI p) 2 1 FP.dconst0 N (fun (M12 : RM) => Q 1 M12)) := fun z => ⟨fun y => absurd y (by decide), fun _ => mk 1 (by rw [if_neg z])⟩
      have st0 : trueC (I 80 v) (D v) (W v) = 0 → ((0 : Int32) = 0 → fm_make (nI p) 2 0 FP.dconst0 N (fun (M12 : RM) => Q 1 M12)) ∧ (¬ (0 : Int32) = 0 → fm_make (nI p) 2 1 FP.dconst0 N (fun (M12 : RM) => Q 1 M12)) := fun z => ⟨fun _ => mk 0 (by rw [if_pos z]), fun y => absurd rfl y⟩
      exact r_truth hv hval (iv := iv) st1 st0 (fun b eb _ e14 => by
        rw [e14, eb]
        exact ⟨fun z => mk 0 (by rw [if_pos z]), fun z => mk 1 (by rw [if_neg z])⟩)
    · have := (nI_eq (b := 1) (by omega) (by decide)).mp c; omega
    · have := (nI_eq (b := 2) (by omega) (by decide)).mp c; omega
    · have := (nI_eq (b := 3) (by omega) (by decide)).mp c; omega
    · have := (nI_eq (b := 4) (by omega) (by decide)).mp c; omega
    · have e5 : τ.1 = 5 := (nI_eq (b := 5) (by omega) (by decide)).mp c
      rw [if_neg (show ¬ τ.1 = 7 by omega), if_neg (show ¬ τ.1 = 0 by omega), if_pos (by rw [e5]; rfl)] at q1 q0
      unfold cvN at q1 q0
      refine r_numberOf hv hval (fun N1 k1 h25 => r_mk0 hp 4 (by decide) 0 (dV I D v) 0 (dV I D v) [] 0 rfl rfl (fun N2 k2 r2 e25 => ?_))
      have m2 := kM_tr (kN_kM p k1) k2
      rw [e25, h25]
      cases hb : hasB (I 83 v) with
      | false =>
        rw [hb, if_pos ⟨rfl, Or.inl e5⟩] at q0
        rw [has_0.mp hb]
        exact ⟨nZ_0, q0 rfl N2 m2⟩
      | true =>
        rw [hb, if_neg (fun z => absurd z.1 (by decide)), if_pos e5] at q1
        have e1 : I 83 v = 1 := by
          rcases hval with h | ⟨n, h⟩
          · rcases h with ⟨-, -, -, e⟩ | ⟨-, -, -, e, -⟩ | ⟨b, -, -, -, -, -, e, -⟩ | ⟨m, -, -, -, -, -, e⟩ | ⟨-, -, -, e, -⟩
            · rw [e] at hb; exact absurd hb (by decide)
            · exact e
            · exact e
            · exact e
            · rw [e, hasB_b] at hb; rw [e, hb]; rfl
          · have e := h.2.2.2.2.2.2.2.1
            rw [e, hasB_b] at hb; rw [e, hb]; rfl
        rw [e1]
        refine ⟨nZ_1, q1 _ rfl N2 m2 ?_⟩
        have : dV I D v = D v := by unfold dV; rw [hb]; rfl
        rw [this] at r2; exact r2
    · have := (nI_eq (b := 6) (by omega) (by decide)).mp c; exact Or.inl this
    · have e7 : τ.1 = 7 := (nI_eq (b := 7) (by omega) (by decide)).mp c
      rw [if_pos e7] at q1
      have hpl : vT N I J D W v := hval.elim id (fun ⟨_, z⟩ => absurd z.2.1 (h7 e7))
      exact r_asItIs hp hv hpl (fun N' k m => q1 _ rfl N' k m)
    · have := (nI_eq (b := 8) (by omega) (by decide)).mp c; exact Or.inr this
    · exfalso
      have : τ.1 = 0 ∨ τ.1 = 1 ∨ τ.1 = 2 ∨ τ.1 = 3 ∨ τ.1 = 4 ∨ τ.1 = 5 ∨ τ.1 = 6 ∨ τ.1 = 7 ∨ τ.1 = 8 := by omega
      obtain ⟨c0, c1, c2, c3, c4, c5, c6, c7, c8, -⟩ := c
      rcases this with e | e | e | e | e | e | e | e | e
      · exact c0 (by rw [e]; rfl)
      · exact c1 (by rw [e]; rfl)
      · exact c2 (by rw [e]; rfl)
      · exact c3 (by rw [e]; rfl)
      · exact c4 (by rw [e]; rfl)
      · exact c5 (by rw [e]; rfl)
      · exact c6 (by rw [e]; rfl)
      · exact c7 (by rw [e]; rfl)
      · exact c8 (by rw [e]; rfl)
  unfold fm_convertOne
  rw [nI_clamp (by omega), nI_clamp (by omega), t10]
  refine ⟨iv, nm_e ⟨fun c => b33 (fun z => (un.mpr z.2) c), fun c => ⟨it, fun c2 => b33 (fun z => ?_), fun c2 => ?_⟩⟩⟩
  · rw [bI_0.mp c2] at z; exact absurd z.1 (by decide)
  · have nt : τ.2.2.1 = true := by
      cases y : τ.2.2.1 with
      | true => rfl
      | false => rw [y] at c2; exact absurd rfl c2
    rw [if_pos ⟨nt, un.mp c⟩] at q1
    exact r_mk0 hp 1 (by decide) 0 FP.dconst0 0 FP.dconst0 [] 0 rfl rfl (fun N' m r _ => q1 _ rfl N' m r)
/-- a list's type, and a value that is no list or goes as it is -/
theorem r_convertOne9 (hp : p < 96) (hv : v < 48) (hval : vT N I J D W v ∨ ∃ n, vL N I J D W v n) (ht : rTy N t τ) (ht3 : t < 370) (h9 : τ.1 = 9) {Q : Int32 → RM → Prop}
    (q1 : (τ.2.2.1 = true ∧ (I 80 v = 7 ∨ I 80 v = 8)) → ∀ N', kM p N N' → mR N' p 1 0 FP.dconst0 [] 0 → Q 1 N')
    (q0 : ¬ (τ.2.2.1 = true ∧ (I 80 v = 7 ∨ I 80 v = 8)) → Q 0 N) : fm_convertOne (nI p) (nI v) (nI t) N Q := by
  have it := vp_in_nI (n := t) (N := 370) ht3 (by omega)
  have iv := vp_in_nI (n := v) (N := 48) hv (by omega)
  have un := kd_un hval
  obtain ⟨t0, t8, t9, t10, -⟩ := id ht
  have b33 : ¬ (τ.2.2.1 = true ∧ (I 80 v = 7 ∨ I 80 v = 8)) → fm_convertOne_b33 Q (nI p) (nI v) (nI t) (rA N 13 v) N := by
    intro hn
    unfold fm_convertOne_b33
    rw [nI_clamp (by omega), t8, h9]
    exact ⟨it, fun z => absurd z (by decide), fun z => absurd z (by decide), fun z => absurd z (by decide), fun z => absurd z (by decide), fun z => absurd z (by decide), fun z => absurd z (by decide), fun z => absurd z (by decide), fun z => absurd z (by decide), fun z => absurd z (by decide), fun _ => q0 hn, fun z => absurd rfl z.2.2.2.2.2.2.2.2.2⟩
  unfold fm_convertOne
  rw [nI_clamp (by omega), nI_clamp (by omega), t10]
  refine ⟨iv, nm_e ⟨fun c => b33 (fun z => (un.mpr z.2) c), fun c => ⟨it, fun c2 => b33 (fun z => ?_), fun c2 => ?_⟩⟩⟩
  · rw [bI_0.mp c2] at z; exact absurd z.1 (by decide)
  · have nt : τ.2.2.1 = true := by
      cases y : τ.2.2.1 with
      | true => rfl
      | false => rw [y] at c2; exact absurd rfl c2
    exact r_mk0 hp 1 (by decide) 0 FP.dconst0 0 FP.dconst0 [] 0 rfl rfl (fun N' m r _ => q1 ⟨nt, un.mp c⟩ N' m r)
end CNO
