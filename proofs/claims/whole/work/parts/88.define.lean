/-! X10.define -/
def CI (nm : Nat → Nat) (G : Nat → Nat → Nat) (T : LY) (M : CM) (I : Nat → Nat → Int32) (J : Nat → Int64) (D : Nat → UInt64) (W : Nat → List Int32) (px hN : Nat) (RW : Nat → Nat) (cv : Nat) (OA : Nat → Nat → Nat) (F H : Nat → List (Nat × List Ag)) (hr rs rp po P : Nat) : Prop := CS G T M px hN RW cv OA hr rs rp po ∧ VA G M I J D W ∧ CF nm T M OA F H ∧ cI M 107 px = nI P
section OBJ
variable {nm : Nat → Nat} {G : Nat → Nat → Nat} {T : LY} {M : CM} {I : Nat → Nat → Int32} {J : Nat → Int64} {D : Nat → UInt64} {W : Nat → List Int32} {px hN cv hr rs rp po P : Nat} {RW : Nat → Nat} {OA : Nat → Nat → Nat} {F H : Nat → List (Nat × List Ag)}
theorem CI_108 {a : Nat} (v : Int32) (C : CI nm G T M I J D W px hN RW cv OA F H hr rs rp po P) : CI nm G T (sI M 108 a v) I J D W px hN RW cv OA F H hr rs rp po P := ⟨CS_Y (kY_sI T M a v (by decide)) C.1, VA_Y (kY_sI T M a v (by decide)) C.2.1, CF_s108 v (Or.inr rfl) C.2.2.1, by rw [cI_sI, if_neg (fun z => by omega)]; exact C.2.2.2⟩
theorem CI_yJ {i : Nat} (v : Int64) (C : CI nm G T M I J D W px hN RW cv OA F H hr rs rp po P) : CI nm G T (yJ M po i v) I J D W px hN RW cv OA F H hr rs rp po P := by
  have l1 := C.1.2.2.2.2.2.2.1.2
  exact ⟨CS_Y (kY_yJ M i v l1) C.1, VA_Y (kY_yJ M i v l1) C.2.1, CF_yJ v l1 C.2.2.1, C.2.2.2⟩
theorem s_define (hnm : ∀ i j, i < 10 → j < 10 → nm i = nm j → i = j) (C : CI nm G T M I J D W px hN RW cv OA F H hr rs rp po P) (ht : ∀ o, o < 6 → ∀ n, n ≤ 8 → told (F o) n) {Q : Int32 → LY → CM → Prop}
    (qf : ∀ c, zFm (W 144) = .inl c → ∀ T' M', CI nm G T' M' I J D W px hN RW cv OA F H hr rs rp po P → cI M' 108 px = nI c → Q (-2) T' M')
    (qs : ∀ o φ x n, zFm (W 144) = .inr (nI o, φ) → o < 6 → n ≤ 8 → ¬ told (F o ++ [(x, φ)]) n → (∀ j, j < n → told (F o ++ [(x, φ)]) j) → ∀ T' M' H', CI nm G T' M' I J D W px hN RW cv OA F H' hr rs rp po P → cI M' 108 px = nI n → Q (-3) T' M')
    (ql : ∀ o φ x, zFm (W 144) = .inr (nI o, φ) → o < 6 → (∀ j, j ≤ 8 → told (F o ++ [(x, φ)]) j) → (F o).length = 6 → ∀ T' M' H', CI nm G T' M' I J D W px hN RW cv OA F H' hr rs rp po P → cI M' 108 px = -1 → Q (-4) T' M')
    (qo : ∀ o φ x, zFm (W 144) = .inr (nI o, φ) → o < 6 → (∀ j, j ≤ 8 → told (F o ++ [(x, φ)]) j) → (F o).length < 6 → ∀ T' M' H', CI nm G T' M' I J D W px hN RW cv OA (uF F o (F o ++ [(x, φ)])) H' hr rs rp po P → cI M' 108 px = -1 → Q (nI (F o).length) T' M') : fc_X10_define nm 22 105 px T M Q := by
  obtain ⟨S, V, X, e107⟩ := C
  have hX := S.1
  have hE := S.2.2.2.2.1
  have h7 := hE.1.1
  have t11 := hX.1
  have c100 := hX.2.1
  have c101 := S.2.2.2.2.2.1
  unfold fc_X10_define
  refine ⟨t11, hr, c101, h7, 22, 105, by decide, by decide, ?_⟩
  rw [c100]
  have g2 : ∀ t, t < 145 → G 2 t ≠ rs ∧ G 2 t ≠ rp := fun t ht => ⟨fun z => hE.2 t ht z.symm, fun z => by have := (S.2.1.1 t ht).2.2.1; rw [z, hE.1.2.2.2.2.2.1] at this; exact absurd this (by decide)⟩
  -- the object after the reading
  have up : ∀ M1 T' M', kL hr rs rp M M1 → xT hr T M1 T' M' → CI nm G T' M' I J D W px hN RW cv OA F H hr rs rp po P := by
    intro M1 T' M' k1 k2
    have S1 : CS G T M1 px hN RW cv OA hr rs rp po := CS_fr k1.2.2.2.2.1 (fun a i _ => k1.2.2.2.2.2.2 a i) S
    have V1 := kL_VA k1 g2 V
    have X1 := CF_L k1 h7 X
    refine ⟨CS_xT k2 S1, xT_VA k2 h7 S1.2.1 V1, CF_xT k2 S1 X1, ?_⟩
    rw [k2.2.1 _ _ (by rw [t11]; decide) (fun z => by omega), k1.1 _ _ (fun z => by omega)]
    exact e107
  refine s_readForm hnm S.2.1 V hE (fun o' φ ez M1 T' M' f k1 k2 f0 hf e20 => ⟨fun _ => ?_, fun z => by cases z⟩) (fun c ec M1 T' M' k1 k2 e66 => ⟨fun z => absurd rfl z, fun _ => ?_⟩)
  · obtain ⟨o, ho, eo⟩ := zFm_o ez
    subst eo
    have C1 := up M1 T' M' k1 k2
    obtain ⟨S1, V1, X1, p1⟩ := C1
    have u11 := S1.1.1
    refine ⟨f, rfl, hf.1, u11, by decide, by decide, s_operationAt S1.2.2.1 _ (fun o' ho' eo' => ?_) (fun z => ?_)⟩
    rotate_left
    · rw [e20] at z
      rcases z with z | z
      · exact absurd z (nI_pos (by omega))
      · rw [show (6 : Int32) = nI 6 from rfl, nI_leI (by omega) (by omega)] at z; omega
    rw [e20] at eo'
    have : o' = o := ((nI_eq (by omega) (by omega)).mp eo').symm
    subst this
    have hSO := S1.2.2.2.1 o' ho
    have hVO := X1.1 o' ho
    have tld := ht o' ho
    have nf : ∀ o2, o2 < 6 → ∀ i, i < (F o2).length → ((F o2).getD i (0, [])).1 ≠ f := fun o2 h2 i hi z => by
      have t3 := ((X.1 o2 h2).2.2.1 i hi).2.1
      rw [z, f0] at t3; exact absurd t3 (by decide)
    unfold fc_X10_define_b28
    refine ⟨fun _ => ⟨_, rfl, hSO.1, by decide, by decide, s_X5_clash (p := (f, φ)) hnm hSO hVO hf (fun M4 gs' k4 v4 => ⟨u11, nm_e ?_⟩)⟩, fun z => by cases z⟩
    have t26 := hSO.2.2.2.2.2.1
    have ky4 := kG_kY t26 k4
    have C4 : CI nm G T' M4 I J D W px hN RW cv OA F (uF H o' gs') hr rs rp po P := ⟨CS_Y ky4 S1, VA_Y ky4 V1, CF_G ho S1 k4 v4 X1, (k4.1 _ _ (fun z => by omega)).trans p1⟩
    have C5 : ∀ v, CI nm G T' (sI M4 108 px v) I J D W px hN RW cv OA F (uF H o' gs') hr rs rp po P := fun v => CI_108 v C4
    have e108 : ∀ v, cI (sI M4 108 px v) 108 px = v := fun v => by rw [cI_sI, if_pos ⟨rfl, rfl⟩]
    rcases clsF_s (l := F o') (p := (f, φ)) tld 9 0 rfl with ⟨n, _, n8, en, nt, lt⟩ | ⟨en, al⟩
    · rw [en, e108]
      refine ⟨fun z => ?_, fun _ => ⟨by decide, by decide, qs o' φ f n ez ho n8 nt (fun j hj => lt j (Nat.zero_le _) hj) _ _ _ (C5 _) (e108 _)⟩⟩
      exfalso
      have := congrArg Int32.toInt z
      rw [nI_toInt (by omega)] at this
      have e2 : (-1 : Int32).toInt = -1 := rfl
      omega
    · rw [en, e108]
      refine ⟨fun _ => ⟨by decide, by decide, ?_⟩, fun z => absurd rfl z⟩
      have C6 := C5 (-1)
      have v6 := C6.2.2.1.1 o' ho
      have f6 : fmc nm T' (sI M4 108 px (-1)) f φ := kY_fmc (kY_tr ky4 (kY_sI T' M4 px (-1) (by decide))) hf
      have all : ∀ j, j ≤ 8 → told (F o' ++ [(f, φ)]) j := fun j hj => al j (Nat.zero_le _) hj
      refine s_X5_append (p := (f, φ)) (C6.1.2.2.2.1 o' ho) v6 f6 (fun c => ⟨by decide, by decide, ?_⟩) (fun c M7 e7 v7 _ e21 => ⟨by decide, by decide, ?_⟩)
      · have l6 := v6.1
        exact ql o' φ f ez ho all (by omega) _ _ _ C6 (e108 _)
      · obtain ⟨ky7, X7⟩ := CF_append ho C6.1 (p := (f, φ)) nf e7 v7 e21 C6.2.2.1
        have x7 : ∀ g, g = 107 ∨ g = 108 → cI M7 g px = cI (sI M4 108 px (-1)) g px := fun g hg => by
          rw [e7, cI_sI, if_neg (fun z => by omega)]
          show cI (sI (sI M4 108 px (-1)) 21 f (nI (F o').length)) g px = _
          rw [cI_sI, if_neg (fun z => by omega)]
        exact qo o' φ f ez ho all c _ _ _ ⟨CS_Y ky7 C6.1, VA_Y ky7 C6.2.1, X7, (x7 107 (Or.inl rfl)).trans C6.2.2.2⟩ ((x7 108 (Or.inr rfl)).trans (e108 _))
  · have C1 := up M1 T' M' k1 k2
    unfold fc_X10_define_b28
    refine ⟨fun z => absurd rfl z, fun _ => ⟨C1.1.1.1, hr, C1.1.2.2.2.2.2.1, C1.1.2.2.2.2.1.1.1, nm_e ⟨by decide, by decide, ?_⟩⟩⟩
    rw [e66]
    exact qf c ec _ _ (CI_108 _ C1) (by rw [cI_sI, if_pos ⟨rfl, rfl⟩])
end OBJ
