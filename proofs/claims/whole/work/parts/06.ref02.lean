def fm_readWords_b66 (Q : RM → Prop) (k26 : Int32 → Int32 → RM → Prop) (v1 : Int32) (s0 : Int32) (M : RM) : Prop := k26 v1 s0 M
def fm_readWords_b65 (Q : RM → Prop) (k26 : Int32 → Int32 → RM → Prop) (v1 : Int32) (M : RM) : Prop := fm_readWords_b66 Q k26 v1 0 M
def fm_readWords_c26 (Q : RM → Prop) (k26 : Int32 → Int32 → RM → Prop) (v1 : Int32) (v2 : Int32) (M : RM) : Prop := ((v2 = 0 → fm_want 41 M (fun (M2 : RM) => Q M2)) ∧ (¬ v2 = 0 → fm_readWord v1 M (fun (M4 : RM) => ((¬ (rI M4 27) = 0 → fm_readWords_b65 Q k26 v1 M4) ∧ ((rI M4 27) = 0 → (vp_in v1 370 ∧ ((5 ≤ (rA M4 11 v1.toNatClampNeg) → fm_readWords_b65 Q k26 v1 M4) ∧ (¬ 5 ≤ (rA M4 11 v1.toNatClampNeg) → fm_takes 44 M4 (fun (r10 : Int32) (M9 : RM) => ((r10 = 0 → fm_readWords_b65 Q k26 v1 M9) ∧ (¬ r10 = 0 → fm_readWords_b66 Q k26 v1 1 M9)))))))))))
def fm_readWords_l26 (Q : RM → Prop) : Nat → Int32 → Int32 → RM → Prop := lit (τ := Int32 → Int32 → RM → Prop) (fun _ _ _ => False) (fun k => fm_readWords_c26 Q  k)
def fm_readWords_b25 (Q : RM → Prop) (v1 : Int32) (s0 : Int32) (M : RM) : Prop := (∃ nn : Nat, fm_readWords_l26 Q  nn v1 s0 M)
def fm_readWords (a1 : Int32) (M : RM) (Q : RM → Prop) : Prop := (vp_in a1 370 ∧ (∀ M13 : RM, M13 = wA M 11 a1.toNatClampNeg 0 → fm_want 40 M13 (fun (M14 : RM) => ((¬ (rI M14 27) = 0 → fm_readWords_b25 Q  a1 0 M14) ∧ ((rI M14 27) = 0 → fm_readWords_b25 Q  a1 1 M14)))))
abbrev rmX11_readWords : Room := { frames := 3, cells := 0, slots := 0, locals := 66 }
set_option maxHeartbeats 4000000 in
set_option maxRecDepth 100000 in
theorem tm_readWords (l : Launch) (D : va_G) (kA : Nat → ClassId) (h : Nat) (ad : Nat → Nat) (sz : Nat) (M : RM) (a1 : Int32) (Q : RM → Prop) (hw : fm_readWords a1 M Q) : Met l yX11_readWords wsX11_readWords rmX11_readWords (va_Pc [.ref h, .int a1] (rPc D kA h ad M sz)) (va_Qv Q (rB D kA h ad (rF kA h ad M sz)) (rF kA h ad M sz)) 0 0 (rF kA h ad M sz) := by
  refine Met.ofW (cc := cX11_readWords) (maxL := 3) (ret := none) (by decide) rfl ?_
  intro p e s m args below meth c s₁ B hml hv
  obtain ⟨rfl, hsz, hP, hK, hD0⟩ := hv
  have hx := B.exec
  have hb := B.bytes
  have hr := B.returns
  have hts := atoms_spec (ws := wsX11_readWords) B.pre
  have hown : s.vm.findClass RX11 = some m.cls := findClass_of_methodNamed B.named
  have hlocks : meth.locks = false := B.notSynchronized
  subst hsz
  have hH : rH D kA h ad (rF kA h ad M s.heap.size) s.heap M s.heap [] := ⟨hP, hD0.self, va_S.rf⟩
  have hA : ∀ q : Nat, s.heap.size ≤ q → rF kA h ad M s.heap.size q := fun q z => Or.inr z
  generalize rF kA h ad M s.heap.size = A at hH hA ⊢
  have hl := lv_entry ([.ref h, .int a1]) (n := 3) (Nat.le_of_ble_eq_true rfl)
  rw [lg_entry_eq]
  generalize (lg_sl ([.ref h, .int a1]) ++ List.replicate (3 - (lg_sl ([.ref h, .int a1])).length) Slot.unset).toArray = ls at hl ⊢
  generalize ([.ref h, .int a1] : List Value).toArray = args at hts ⊢
  have hl : lv_has ls 3 [(0, .ref h), (1, .int a1)] := hl
  have hin : ∀ w ∈ wsX110, w ∈ wsX11_readWords := by decide +kernel
  have b66 : ∀ (k26 : Int32 → Int32 → RM → Prop) (hk26 : ∀ (v1 : Int32) (v2 : Int32) (M : RM) (H : Heap) (locs : List Loc) (ls : Array Slot), rH D kA h ad A s.heap M H locs → lv_has ls 3 [(0, .ref h), (1, .int v1), (2, .int v2)] → k26 v1 v2 M → W p l e (headSpec wsX11_readWords rmX11_readWords).room s m args below meth c H locs 0 0 (MQ below (va_Qv Q (rB D kA h ad A) A) args s 0 0 A) (F0 m 26 ls [])) (v1 : Int32) (s0 : Int32) (M : RM) (H : Heap) (locs : List Loc) (ls : Array Slot), rH D kA h ad A s.heap M H locs → lv_has ls 3 [(0, .ref h), (1, .int v1)] → fm_readWords_b66 Q k26 v1 s0 M → W p l e (headSpec wsX11_readWords rmX11_readWords).room s m args below meth c H locs 0 0 (MQ below (va_Qv Q (rB D kA h ad A) A) args s 0 0 A) (F0 m 66 ls [.int s0]) := by
    intro k26 hk26 v1 s0 M H locs ls hH hl hw
    unfold fm_readWords_b66 at hw
    refine lv_istore_n (lv' := [(2, .int s0), (0, .ref h), (1, .int v1)]) hx hb dX11_readWords_66 rfl hl (by decide) rfl (fun ls hl => ?_)
    refine lv_goto (tgt := 26) hx hb dX11_readWords_67 (by decide) ?_
    exact hk26 v1 s0 M H locs ls hH (lv_sub hl [1, 2, 0] rfl) hw
  have b65 : ∀ (k26 : Int32 → Int32 → RM → Prop) (hk26 : ∀ (v1 : Int32) (v2 : Int32) (M : RM) (H : Heap) (locs : List Loc) (ls : Array Slot), rH D kA h ad A s.heap M H locs → lv_has ls 3 [(0, .ref h), (1, .int v1), (2, .int v2)] → k26 v1 v2 M → W p l e (headSpec wsX11_readWords rmX11_readWords).room s m args below meth c H locs 0 0 (MQ below (va_Qv Q (rB D kA h ad A) A) args s 0 0 A) (F0 m 26 ls [])) (v1 : Int32) (M : RM) (H : Heap) (locs : List Loc) (ls : Array Slot), rH D kA h ad A s.heap M H locs → lv_has ls 3 [(0, .ref h), (1, .int v1)] → fm_readWords_b65 Q k26 v1 M → W p l e (headSpec wsX11_readWords rmX11_readWords).room s m args below meth c H locs 0 0 (MQ below (va_Qv Q (rB D kA h ad A) A) args s 0 0 A) (F0 m 65 ls []) := by
    intro k26 hk26 v1 M H locs ls hH hl hw
    unfold fm_readWords_b65 at hw
    refine lv_iconst (v := 0) hx hb dX11_readWords_65 (by decide) ?_
    exact b66 _ hk26 v1 0 M H locs ls hH (lv_sub hl [0, 1] rfl) hw
  have l26 : ∀ (nn : Nat) (v1 : Int32) (v2 : Int32) (M : RM) (H : Heap) (locs : List Loc) (ls : Array Slot), rH D kA h ad A s.heap M H locs → lv_has ls 3 [(0, .ref h), (1, .int v1), (2, .int v2)] → fm_readWords_l26 Q  nn v1 v2 M → W p l e (headSpec wsX11_readWords rmX11_readWords).room s m args below meth c H locs 0 0 (MQ below (va_Qv Q (rB D kA h ad A) A) args s 0 0 A) (F0 m 26 ls []) := by
    intro   nn
    induction nn with
    | zero => intro v1 v2 M H locs ls hH hl hw; exact False.elim hw
    | succ nn hk26 =>
      intro v1 v2 M H locs ls hH hl hw
      replace hw : fm_readWords_c26 Q  (fm_readWords_l26 Q  nn) v1 v2 M := hw
      unfold fm_readWords_c26 at hw
      refine lv_iload_n hx hb dX11_readWords_26 rfl (lv_at hl 2 rfl) ?_
      refine lv_if_eq (tgt := 70) hx hb dX11_readWords_27 (by decide) (fun c1 => ?_) (fun c1 => ?_)
      · replace hw := hw.1 c1
        refine lv_aload_n hx hb dX11_readWords_70 rfl (lv_at hl 0 rfl) ?_
        refine lv_bipush (v := 41) hx hb dX11_readWords_71 (by decide) ?_
        refine r_callv (va_runV (As := [.int 41]) (rest := []) ⟨hx, hb, hml, hown, hts⟩ (tm_want l D kA h ad H.size M 41 _ hw) (cwV 1 hts gX11_readWords_X11_want rfl rfl rfl (by decide +kernel) ⟨Nat.le_of_ble_eq_true rfl, Nat.le_of_ble_eq_true rfl⟩) (r_preV hK hH) rfl rfl hl.1 rfl (lv_room (Nat.le_of_ble_eq_true rfl)) dX11_readWords_73 ⟨Nat.le_of_ble_eq_true rfl, Nat.le_of_ble_eq_true rfl⟩) hH hA (fun M2 H locs hw hH => ?_)
        exact r_retv hx hb hr hlocks hK hH hw dX11_readWords_76
      · replace hw := hw.2 c1
        refine lv_aload_n hx hb dX11_readWords_30 rfl (lv_at hl 0 rfl) ?_
        refine lv_iload_n hx hb dX11_readWords_31 rfl (lv_at hl 1 rfl) ?_
        refine r_callv (va_runV (As := [.int v1]) (rest := []) ⟨hx, hb, hml, hown, hts⟩ (tm_readWord l D kA h ad H.size M v1 _ hw) (cwV 1 hts gX11_readWords_X11_readWord rfl rfl rfl (by decide +kernel) ⟨Nat.le_of_ble_eq_true rfl, Nat.le_of_ble_eq_true rfl⟩) (r_preV hK hH) rfl rfl hl.1 rfl (lv_room (Nat.le_of_ble_eq_true rfl)) dX11_readWords_32 ⟨Nat.le_of_ble_eq_true rfl, Nat.le_of_ble_eq_true rfl⟩) hH hA (fun M4 H locs hw hH => ?_)
        refine lv_aload_n hx hb dX11_readWords_35 rfl (lv_at hl 0 rfl) ?_
        refine rg_27 hx hb hts hin hown hK hH (hts (.fieldLink RX11 95 "IdlCallerModel" "isWrong" "Z") (by decide +kernel)) dX11_readWords_36 ?_
        refine lv_if_ne (tgt := 65) hx hb dX11_readWords_39 (by decide) (fun c6 => ?_) (fun c6 => ?_)
        · replace hw := hw.1 c6
          exact b65 _ hk26 v1 M4 H locs ls hH (lv_sub hl [0, 1] rfl) hw
        · replace hw := hw.2 c6
          refine lv_aload_n hx hb dX11_readWords_42 rfl (lv_at hl 0 rfl) ?_
          refine rg_11 hx hb hts hin hown hK hH (hts (.fieldLink RX11 40 "IdlCallerModel" "wordMany" "[I") (by decide +kernel)) dX11_readWords_43 ?_
          refine lv_iload_n hx hb dX11_readWords_46 rfl (lv_at hl 1 rfl) ?_
          obtain ⟨h7, hw⟩ := hw
          refine rl_11 hx hb hK hH h7 dX11_readWords_47 ?_
          refine lv_iconst (v := 5) hx hb dX11_readWords_48 (by decide) ?_
          refine lv_icmp_ge (tgt := 65) hx hb dX11_readWords_49 (by decide) (fun c8 => ?_) (fun c8 => ?_)
          · replace hw := hw.1 c8
            exact b65 _ hk26 v1 M4 H locs ls hH (lv_sub hl [0, 1] rfl) hw
          · replace hw := hw.2 c8
            refine lv_aload_n hx hb dX11_readWords_52 rfl (lv_at hl 0 rfl) ?_
            refine lv_bipush (v := 44) hx hb dX11_readWords_53 (by decide) ?_
            refine r_calli (va_runV (As := [.int 44]) (rest := []) ⟨hx, hb, hml, hown, hts⟩ (tm_takes l D kA h ad H.size M4 44 _ hw) (cwV 1 hts gX11_readWords_X11_takes rfl rfl rfl (by decide +kernel) ⟨Nat.le_of_ble_eq_true rfl, Nat.le_of_ble_eq_true rfl⟩) (r_preV hK hH) rfl rfl hl.1 rfl (lv_room (Nat.le_of_ble_eq_true rfl)) dX11_readWords_55 ⟨Nat.le_of_ble_eq_true rfl, Nat.le_of_ble_eq_true rfl⟩) hH hA (fun r10 M9 H locs hw hH => ?_)
            refine lv_if_eq (tgt := 65) hx hb dX11_readWords_58 (by decide) (fun c11 => ?_) (fun c11 => ?_)
            · replace hw := hw.1 c11
              exact b65 _ hk26 v1 M9 H locs ls hH (lv_sub hl [0, 1] rfl) hw
            · replace hw := hw.2 c11
              refine lv_iconst (v := 1) hx hb dX11_readWords_61 (by decide) ?_
              refine lv_goto (tgt := 66) hx hb dX11_readWords_62 (by decide) ?_
              exact b66 _ hk26 v1 1 M9 H locs ls hH (lv_sub hl [0, 1] rfl) hw
  have b25 : ∀ (v1 : Int32) (s0 : Int32) (M : RM) (H : Heap) (locs : List Loc) (ls : Array Slot), rH D kA h ad A s.heap M H locs → lv_has ls 3 [(0, .ref h), (1, .int v1)] → fm_readWords_b25 Q  v1 s0 M → W p l e (headSpec wsX11_readWords rmX11_readWords).room s m args below meth c H locs 0 0 (MQ below (va_Qv Q (rB D kA h ad A) A) args s 0 0 A) (F0 m 25 ls [.int s0]) := by
    intro   v1 s0 M H locs ls hH hl hw
    unfold fm_readWords_b25 at hw
    refine lv_istore_n (lv' := [(2, .int s0), (0, .ref h), (1, .int v1)]) hx hb dX11_readWords_25 rfl hl (by decide) rfl (fun ls hl => ?_)
    obtain ⟨nn, hw⟩ := hw
    exact l26   nn v1 s0 M H locs ls hH (lv_sub hl [1, 2, 0] rfl) hw
  clear hP hD0
  unfold fm_readWords at hw
  have hst : ∀ (M : RM) (H : Heap) (locs : List Loc) (ls : Array Slot), rH D kA h ad A s.heap M H locs → lv_has ls 3 [(0, .ref h), (1, .int a1)] → (vp_in a1 370 ∧ (∀ M13 : RM, M13 = wA M 11 a1.toNatClampNeg 0 → fm_want 40 M13 (fun (M14 : RM) => ((¬ (rI M14 27) = 0 → fm_readWords_b25 Q  a1 0 M14) ∧ ((rI M14 27) = 0 → fm_readWords_b25 Q  a1 1 M14))))) → W p l e (headSpec wsX11_readWords rmX11_readWords).room s m args below meth c H locs 0 0 (MQ below (va_Qv Q (rB D kA h ad A) A) args s 0 0 A) (F0 m 0 ls []) := by
    intro M H locs ls hH hl hw
    refine lv_aload_n hx hb dX11_readWords_0 rfl (lv_at hl 0 rfl) ?_
    refine rg_11 hx hb hts hin hown hK hH (hts (.fieldLink RX11 40 "IdlCallerModel" "wordMany" "[I") (by decide +kernel)) dX11_readWords_1 ?_
    refine lv_iload_n hx hb dX11_readWords_4 rfl (lv_at hl 1 rfl) ?_
    refine lv_iconst (v := 0) hx hb dX11_readWords_5 (by decide) ?_
    obtain ⟨h12, hw⟩ := hw
    refine rs_11 hx hb hK hH h12 dX11_readWords_6 (fun M13 H locs eM13 hH => ?_)
    replace hw := hw M13 eM13
    refine lv_aload_n hx hb dX11_readWords_7 rfl (lv_at hl 0 rfl) ?_
    refine lv_bipush (v := 40) hx hb dX11_readWords_8 (by decide) ?_
    refine r_callv (va_runV (As := [.int 40]) (rest := []) ⟨hx, hb, hml, hown, hts⟩ (tm_want l D kA h ad H.size M13 40 _ hw) (cwV 1 hts gX11_readWords_X11_want rfl rfl rfl (by decide +kernel) ⟨Nat.le_of_ble_eq_true rfl, Nat.le_of_ble_eq_true rfl⟩) (r_preV hK hH) rfl rfl hl.1 rfl (lv_room (Nat.le_of_ble_eq_true rfl)) dX11_readWords_10 ⟨Nat.le_of_ble_eq_true rfl, Nat.le_of_ble_eq_true rfl⟩) hH hA (fun M14 H locs hw hH => ?_)
    refine lv_aload_n hx hb dX11_readWords_13 rfl (lv_at hl 0 rfl) ?_
    refine rg_27 hx hb hts hin hown hK hH (hts (.fieldLink RX11 95 "IdlCallerModel" "isWrong" "Z") (by decide +kernel)) dX11_readWords_14 ?_
    refine lv_if_ne (tgt := 24) hx hb dX11_readWords_17 (by decide) (fun c16 => ?_) (fun c16 => ?_)
    · replace hw := hw.1 c16
      refine lv_iconst (v := 0) hx hb dX11_readWords_24 (by decide) ?_
      exact b25   a1 0 M14 H locs ls hH (lv_sub hl [0, 1] rfl) hw
    · replace hw := hw.2 c16
      refine lv_iconst (v := 1) hx hb dX11_readWords_20 (by decide) ?_
      refine lv_goto (tgt := 25) hx hb dX11_readWords_21 (by decide) ?_
      exact b25   a1 1 M14 H locs ls hH (lv_sub hl [0, 1] rfl) hw
  exact hst M s.heap [] ls hH hl hw
def fm_readName_b177 (Q : RM → Prop) (M : RM) : Prop := Q M
def fm_readName_b153 (Q : RM → Prop) (v1 : Int32) (M : RM) : Prop := fm_wordEnd  M (fun (r2 : Int32) (M1 : RM) => (∀ M3 : RM, M3 = wI M1 26 r2 → (vp_in v1 370 ∧ ((¬ (rA M3 8 v1.toNatClampNeg) = 8 → fm_readName_b177 Q   M3) ∧ ((rA M3 8 v1.toNatClampNeg) = 8 → fm_readWords v1 M3 (fun (M6 : RM) => fm_readName_b177 Q   M6))))))
def fm_readName_b144 (Q : RM → Prop) (M : RM) : Prop := fm_wrong (rI M 26) M (fun (M8 : RM) => Q M8)
def fm_readName_b121 (Q : RM → Prop) (v1 : Int32) (M : RM) : Prop := (vp_in v1 370 ∧ (((rA M 9 v1.toNatClampNeg) ≤ 0 → fm_readName_b153 Q  v1 M) ∧ (¬ (rA M 9 v1.toNatClampNeg) ≤ 0 → (vp_in v1 370 ∧ fm_isIn (rA M 8 v1.toNatClampNeg) 1 4 M (fun (r14 : Int32) (M13 : RM) => ((¬ r14 = 0 → fm_readName_b153 Q  v1 M13) ∧ (r14 = 0 → fm_readName_b144 Q   M13)))))))
def fm_readName_b72 (Q : RM → Prop) (v1 : Int32) (v2 : Int32) (M : RM) : Prop := (((rI M 27) = 0 → fm_typeHere  M (fun (r18 : Int32) (M17 : RM) => (vp_in v1 370 ∧ (∀ M20 : RM, M20 = wA M17 8 v1.toNatClampNeg r18 → (vp_in v1 370 ∧ (∀ M22 : RM, M22 = wA M20 11 v1.toNatClampNeg 0 → (vp_in v1 370 ∧ (((rA M22 8 v1.toNatClampNeg) < 0 → fm_readName_b144 Q   M22) ∧ (¬ (rA M22 8 v1.toNatClampNeg) < 0 → (vp_in v1 370 ∧ ((¬ (rA M22 8 v1.toNatClampNeg) = 9 → fm_readName_b121 Q  v1 M22) ∧ ((rA M22 8 v1.toNatClampNeg) = 9 → ((v2 = 0 → fm_readName_b144 Q   M22) ∧ (¬ v2 = 0 → fm_readName_b121 Q  v1 M22)))))))))))))) ∧ (¬ (rI M 27) = 0 → Q M))
def fm_readName_b66 (Q : RM → Prop) (v1 : Int32) (v2 : Int32) (M : RM) : Prop := fm_want 93 M (fun (M28 : RM) => fm_readName_b72 Q  v1 v2 M28)
def fm_readName_b48 (Q : RM → Prop) (v1 : Int32) (v2 : Int32) (s0 : Int32) (s1 : Int32) (M : RM) : Prop := (vp_in s1 370 ∧ (∀ M31 : RM, M31 = wA M 9 s1.toNatClampNeg s0 → (vp_in v1 370 ∧ ((¬ (rA M31 9 v1.toNatClampNeg) = 0 → fm_readName_b66 Q  v1 v2 M31) ∧ ((rA M31 9 v1.toNatClampNeg) = 0 → fm_wrong (rI M31 26) M31 (fun (M34 : RM) => fm_readName_b66 Q  v1 v2 M34))))))
def fm_readName (a1 : Int32) (a2 : Int32) (M : RM) (Q : RM → Prop) : Prop := (vp_in a1 370 ∧ (∀ M37 : RM, M37 = wA M 9 a1.toNatClampNeg 0 → fm_takes 91 M37 (fun (r39 : Int32) (M38 : RM) => ((r39 = 0 → fm_readName_b72 Q  a1 a2 M38) ∧ (¬ r39 = 0 → fm_takes 67 M38 (fun (r42 : Int32) (M41 : RM) => ((r42 = 0 → fm_takes 69 M41 (fun (r45 : Int32) (M44 : RM) => ((r45 = 0 → fm_readName_b48 Q  a1 a2 0 a1 M44) ∧ (¬ r45 = 0 → fm_readName_b48 Q  a1 a2 2 a1 M44)))) ∧ (¬ r42 = 0 → fm_readName_b48 Q  a1 a2 1 a1 M41))))))))
abbrev rmX11_readName : Room := { frames := 4, cells := 0, slots := 0, locals := 88 }
set_option maxHeartbeats 4000000 in
set_option maxRecDepth 100000 in
theorem tm_readName (l : Launch) (D : va_G) (kA : Nat → ClassId) (h : Nat) (ad : Nat → Nat) (sz : Nat) (M : RM) (a1 : Int32) (a2 : Int32) (Q : RM → Prop) (hw : fm_readName a1 a2 M Q) : Met l yX11_readName wsX11_readName rmX11_readName (va_Pc [.ref h, .int a1, .int a2] (rPc D kA h ad M sz)) (va_Qv Q (rB D kA h ad (rF kA h ad M sz)) (rF kA h ad M sz)) 0 0 (rF kA h ad M sz) := by
  refine Met.ofW (cc := cX11_readName) (maxL := 3) (ret := none) (by decide) rfl ?_
  intro p e s m args below meth c s₁ B hml hv
  obtain ⟨rfl, hsz, hP, hK, hD0⟩ := hv
  have hx := B.exec
  have hb := B.bytes
  have hr := B.returns
  have hts := atoms_spec (ws := wsX11_readName) B.pre
  have hown : s.vm.findClass RX11 = some m.cls := findClass_of_methodNamed B.named
  have hlocks : meth.locks = false := B.notSynchronized
  subst hsz
  have hH : rH D kA h ad (rF kA h ad M s.heap.size) s.heap M s.heap [] := ⟨hP, hD0.self, va_S.rf⟩
  have hA : ∀ q : Nat, s.heap.size ≤ q → rF kA h ad M s.heap.size q := fun q z => Or.inr z
  generalize rF kA h ad M s.heap.size = A at hH hA ⊢
  have hl := lv_entry ([.ref h, .int a1, .int a2]) (n := 3) (Nat.le_of_ble_eq_true rfl)
  rw [lg_entry_eq]
  generalize (lg_sl ([.ref h, .int a1, .int a2]) ++ List.replicate (3 - (lg_sl ([.ref h, .int a1, .int a2])).length) Slot.unset).toArray = ls at hl ⊢
  generalize ([.ref h, .int a1, .int a2] : List Value).toArray = args at hts ⊢
  have hl : lv_has ls 3 [(0, .ref h), (1, .int a1), (2, .int a2)] := hl
  have hin : ∀ w ∈ wsX110, w ∈ wsX11_readName := by decide +kernel
  have b177 : ∀ (M : RM) (H : Heap) (locs : List Loc) (ls : Array Slot), rH D kA h ad A s.heap M H locs → lv_has ls 3 [] → fm_readName_b177 Q   M → W p l e (headSpec wsX11_readName rmX11_readName).room s m args below meth c H locs 0 0 (MQ below (va_Qv Q (rB D kA h ad A) A) args s 0 0 A) (F0 m 177 ls []) := by
    intro    M H locs ls hH hl hw
    unfold fm_readName_b177 at hw
    exact r_retv hx hb hr hlocks hK hH hw dX11_readName_177
  have b153 : ∀ (v1 : Int32) (M : RM) (H : Heap) (locs : List Loc) (ls : Array Slot), rH D kA h ad A s.heap M H locs → lv_has ls 3 [(0, .ref h), (1, .int v1)] → fm_readName_b153 Q  v1 M → W p l e (headSpec wsX11_readName rmX11_readName).room s m args below meth c H locs 0 0 (MQ below (va_Qv Q (rB D kA h ad A) A) args s 0 0 A) (F0 m 153 ls []) := by
    intro   v1 M H locs ls hH hl hw
    unfold fm_readName_b153 at hw
    refine lv_aload_n hx hb dX11_readName_153 rfl (lv_at hl 0 rfl) ?_
    refine lv_aload_n hx hb dX11_readName_154 rfl (lv_at hl 0 rfl) ?_
    refine r_calli (va_runV (As := []) (rest := [.ref h]) ⟨hx, hb, hml, hown, hts⟩ (tm_wordEnd l D kA h ad H.size M  _ hw) (cwV 0 hts gX11_readName_X11_wordEnd rfl rfl rfl (by decide +kernel) ⟨Nat.le_of_ble_eq_true rfl, Nat.le_of_ble_eq_true rfl⟩) (r_preV hK hH) rfl rfl hl.1 rfl (lv_room (Nat.le_of_ble_eq_true rfl)) dX11_readName_155 ⟨Nat.le_of_ble_eq_true rfl, Nat.le_of_ble_eq_true rfl⟩) hH hA (fun r2 M1 H locs hw hH => ?_)
    refine rp_26 hx hb hts hin hown hK hH (hts (.fieldLink RX11 92 "IdlCallerModel" "at" "I") (by decide +kernel)) dX11_readName_158 (fun M3 H locs eM3 hH => ?_)
    replace hw := hw M3 eM3
    refine lv_aload_n hx hb dX11_readName_161 rfl (lv_at hl 0 rfl) ?_
    refine rg_8 hx hb hts hin hown hK hH (hts (.fieldLink RX11 31 "IdlCallerModel" "sort" "[I") (by decide +kernel)) dX11_readName_162 ?_
    refine lv_iload_n hx hb dX11_readName_165 rfl (lv_at hl 1 rfl) ?_
    obtain ⟨h4, hw⟩ := hw
    refine rl_8 hx hb hK hH h4 dX11_readName_166 ?_
    refine lv_bipush (v := 8) hx hb dX11_readName_167 (by decide) ?_
    refine lv_icmp_ne (tgt := 177) hx hb dX11_readName_169 (by decide) (fun c5 => ?_) (fun c5 => ?_)
    · replace hw := hw.1 c5
      exact b177    M3 H locs ls hH (lv_sub hl [] rfl) hw
    · replace hw := hw.2 c5
      refine lv_aload_n hx hb dX11_readName_172 rfl (lv_at hl 0 rfl) ?_
      refine lv_iload_n hx hb dX11_readName_173 rfl (lv_at hl 1 rfl) ?_
      refine r_callv (va_runV (As := [.int v1]) (rest := []) ⟨hx, hb, hml, hown, hts⟩ (tm_readWords l D kA h ad H.size M3 v1 _ hw) (cwV 1 hts gX11_readName_X11_readWords rfl rfl rfl (by decide +kernel) ⟨Nat.le_of_ble_eq_true rfl, Nat.le_of_ble_eq_true rfl⟩) (r_preV hK hH) rfl rfl hl.1 rfl (lv_room (Nat.le_of_ble_eq_true rfl)) dX11_readName_174 ⟨Nat.le_of_ble_eq_true rfl, Nat.le_of_ble_eq_true rfl⟩) hH hA (fun M6 H locs hw hH => ?_)
      exact b177    M6 H locs ls hH (lv_sub hl [] rfl) hw
  have b144 : ∀ (M : RM) (H : Heap) (locs : List Loc) (ls : Array Slot), rH D kA h ad A s.heap M H locs → lv_has ls 3 [(0, .ref h)] → fm_readName_b144 Q   M → W p l e (headSpec wsX11_readName rmX11_readName).room s m args below meth c H locs 0 0 (MQ below (va_Qv Q (rB D kA h ad A) A) args s 0 0 A) (F0 m 144 ls []) := by
    intro    M H locs ls hH hl hw
    unfold fm_readName_b144 at hw
    refine lv_aload_n hx hb dX11_readName_144 rfl (lv_at hl 0 rfl) ?_
    refine lv_aload_n hx hb dX11_readName_145 rfl (lv_at hl 0 rfl) ?_
    refine rg_26 hx hb hts hin hown hK hH (hts (.fieldLink RX11 92 "IdlCallerModel" "at" "I") (by decide +kernel)) dX11_readName_146 ?_
    refine r_callv (va_runV (As := [.int (rI M 26)]) (rest := []) ⟨hx, hb, hml, hown, hts⟩ (tm_wrong l D kA h ad H.size M (rI M 26) _ hw) (cwV 1 hts gX11_readName_X11_wrong rfl rfl rfl (by decide +kernel) ⟨Nat.le_of_ble_eq_true rfl, Nat.le_of_ble_eq_true rfl⟩) (r_preV hK hH) rfl rfl hl.1 rfl (lv_room (Nat.le_of_ble_eq_true rfl)) dX11_readName_149 ⟨Nat.le_of_ble_eq_true rfl, Nat.le_of_ble_eq_true rfl⟩) hH hA (fun M8 H locs hw hH => ?_)
    exact r_retv hx hb hr hlocks hK hH hw dX11_readName_152
  have b121 : ∀ (v1 : Int32) (M : RM) (H : Heap) (locs : List Loc) (ls : Array Slot), rH D kA h ad A s.heap M H locs → lv_has ls 3 [(0, .ref h), (1, .int v1)] → fm_readName_b121 Q  v1 M → W p l e (headSpec wsX11_readName rmX11_readName).room s m args below meth c H locs 0 0 (MQ below (va_Qv Q (rB D kA h ad A) A) args s 0 0 A) (F0 m 121 ls []) := by
    intro   v1 M H locs ls hH hl hw
    unfold fm_readName_b121 at hw
    refine lv_aload_n hx hb dX11_readName_121 rfl (lv_at hl 0 rfl) ?_
    refine rg_9 hx hb hts hin hown hK hH (hts (.fieldLink RX11 34 "IdlCallerModel" "mode" "[I") (by decide +kernel)) dX11_readName_122 ?_
    refine lv_iload_n hx hb dX11_readName_125 rfl (lv_at hl 1 rfl) ?_
    obtain ⟨h10, hw⟩ := hw
    refine rl_9 hx hb hK hH h10 dX11_readName_126 ?_
    refine lv_if_le (tgt := 153) hx hb dX11_readName_127 (by decide) (fun c11 => ?_) (fun c11 => ?_)
    · replace hw := hw.1 c11
      exact b153   v1 M H locs ls hH (lv_sub hl [0, 1] rfl) hw
    · replace hw := hw.2 c11
      refine lv_aload_n hx hb dX11_readName_130 rfl (lv_at hl 0 rfl) ?_
      refine rg_8 hx hb hts hin hown hK hH (hts (.fieldLink RX11 31 "IdlCallerModel" "sort" "[I") (by decide +kernel)) dX11_readName_131 ?_
      refine lv_iload_n hx hb dX11_readName_134 rfl (lv_at hl 1 rfl) ?_
      obtain ⟨h12, hw⟩ := hw
      refine rl_8 hx hb hK hH h12 dX11_readName_135 ?_
      refine lv_iconst (v := 1) hx hb dX11_readName_136 (by decide) ?_
      refine lv_iconst (v := 4) hx hb dX11_readName_137 (by decide) ?_
      refine r_calli (va_runS (As := [.int (rA M 8 v1.toNatClampNeg), .int 1, .int 4]) (rest := []) ⟨hx, hb, hml, hown, hts⟩ (tm_isIn l D kA h ad H.size M (rA M 8 v1.toNatClampNeg) 1 4 _ hw) (va_cwS 3 hts gX11_readName_X11_isIn rfl rfl rfl (by decide +kernel) ⟨Nat.le_of_ble_eq_true rfl, Nat.le_of_ble_eq_true rfl⟩) (r_preS hK hH) rfl rfl hl.1 rfl (lv_room (Nat.le_of_ble_eq_true rfl)) dX11_readName_138 ⟨Nat.le_of_ble_eq_true rfl, Nat.le_of_ble_eq_true rfl⟩) hH hA (fun r14 M13 H locs hw hH => ?_)
      refine lv_if_ne (tgt := 153) hx hb dX11_readName_141 (by decide) (fun c15 => ?_) (fun c15 => ?_)
      · replace hw := hw.1 c15
        exact b153   v1 M13 H locs ls hH (lv_sub hl [0, 1] rfl) hw
      · replace hw := hw.2 c15
        exact b144    M13 H locs ls hH (lv_sub hl [0] rfl) hw
  have b72 : ∀ (v1 : Int32) (v2 : Int32) (M : RM) (H : Heap) (locs : List Loc) (ls : Array Slot), rH D kA h ad A s.heap M H locs → lv_has ls 3 [(0, .ref h), (1, .int v1), (2, .int v2)] → fm_readName_b72 Q  v1 v2 M → W p l e (headSpec wsX11_readName rmX11_readName).room s m args below meth c H locs 0 0 (MQ below (va_Qv Q (rB D kA h ad A) A) args s 0 0 A) (F0 m 72 ls []) := by
    intro   v1 v2 M H locs ls hH hl hw
    unfold fm_readName_b72 at hw
    refine lv_aload_n hx hb dX11_readName_72 rfl (lv_at hl 0 rfl) ?_
    refine rg_27 hx hb hts hin hown hK hH (hts (.fieldLink RX11 95 "IdlCallerModel" "isWrong" "Z") (by decide +kernel)) dX11_readName_73 ?_
    refine lv_if_eq (tgt := 80) hx hb dX11_readName_76 (by decide) (fun c16 => ?_) (fun c16 => ?_)
    · replace hw := hw.1 c16
      refine lv_aload_n hx hb dX11_readName_80 rfl (lv_at hl 0 rfl) ?_
      refine rg_8 hx hb hts hin hown hK hH (hts (.fieldLink RX11 31 "IdlCallerModel" "sort" "[I") (by decide +kernel)) dX11_readName_81 ?_
      refine lv_iload_n hx hb dX11_readName_84 rfl (lv_at hl 1 rfl) ?_
      refine lv_aload_n hx hb dX11_readName_85 rfl (lv_at hl 0 rfl) ?_
      refine r_calli (va_runV (As := []) (rest := [.int v1, .ref (ad 8)]) ⟨hx, hb, hml, hown, hts⟩ (tm_typeHere l D kA h ad H.size M  _ hw) (cwV 0 hts gX11_readName_X11_typeHere rfl rfl rfl (by decide +kernel) ⟨Nat.le_of_ble_eq_true rfl, Nat.le_of_ble_eq_true rfl⟩) (r_preV hK hH) rfl rfl hl.1 rfl (lv_room (Nat.le_of_ble_eq_true rfl)) dX11_readName_86 ⟨Nat.le_of_ble_eq_true rfl, Nat.le_of_ble_eq_true rfl⟩) hH hA (fun r18 M17 H locs hw hH => ?_)
      obtain ⟨h19, hw⟩ := hw
      refine rs_8 hx hb hK hH h19 dX11_readName_89 (fun M20 H locs eM20 hH => ?_)
      replace hw := hw M20 eM20
      refine lv_aload_n hx hb dX11_readName_90 rfl (lv_at hl 0 rfl) ?_
      refine rg_11 hx hb hts hin hown hK hH (hts (.fieldLink RX11 40 "IdlCallerModel" "wordMany" "[I") (by decide +kernel)) dX11_readName_91 ?_
      refine lv_iload_n hx hb dX11_readName_94 rfl (lv_at hl 1 rfl) ?_
      refine lv_iconst (v := 0) hx hb dX11_readName_95 (by decide) ?_
      obtain ⟨h21, hw⟩ := hw
      refine rs_11 hx hb hK hH h21 dX11_readName_96 (fun M22 H locs eM22 hH => ?_)
      replace hw := hw M22 eM22
      refine lv_aload_n hx hb dX11_readName_97 rfl (lv_at hl 0 rfl) ?_
      refine rg_8 hx hb hts hin hown hK hH (hts (.fieldLink RX11 31 "IdlCallerModel" "sort" "[I") (by decide +kernel)) dX11_readName_98 ?_
      refine lv_iload_n hx hb dX11_readName_101 rfl (lv_at hl 1 rfl) ?_
      obtain ⟨h23, hw⟩ := hw
      refine rl_8 hx hb hK hH h23 dX11_readName_102 ?_
      refine lv_if_lt (tgt := 144) hx hb dX11_readName_103 (by decide) (fun c24 => ?_) (fun c24 => ?_)
      · replace hw := hw.1 c24
        exact b144    M22 H locs ls hH (lv_sub hl [0] rfl) hw
      · replace hw := hw.2 c24
        refine lv_aload_n hx hb dX11_readName_106 rfl (lv_at hl 0 rfl) ?_
        refine rg_8 hx hb hts hin hown hK hH (hts (.fieldLink RX11 31 "IdlCallerModel" "sort" "[I") (by decide +kernel)) dX11_readName_107 ?_
        refine lv_iload_n hx hb dX11_readName_110 rfl (lv_at hl 1 rfl) ?_
        obtain ⟨h25, hw⟩ := hw
        refine rl_8 hx hb hK hH h25 dX11_readName_111 ?_
        refine lv_bipush (v := 9) hx hb dX11_readName_112 (by decide) ?_
        refine lv_icmp_ne (tgt := 121) hx hb dX11_readName_114 (by decide) (fun c26 => ?_) (fun c26 => ?_)
        · replace hw := hw.1 c26
          exact b121   v1 M22 H locs ls hH (lv_sub hl [0, 1] rfl) hw
        · replace hw := hw.2 c26
          refine lv_iload_n hx hb dX11_readName_117 rfl (lv_at hl 2 rfl) ?_
          refine lv_if_eq (tgt := 144) hx hb dX11_readName_118 (by decide) (fun c27 => ?_) (fun c27 => ?_)
          · replace hw := hw.1 c27
            exact b144    M22 H locs ls hH (lv_sub hl [0] rfl) hw
          · replace hw := hw.2 c27
            exact b121   v1 M22 H locs ls hH (lv_sub hl [0, 1] rfl) hw
    · replace hw := hw.2 c16
      exact r_retv hx hb hr hlocks hK hH hw dX11_readName_79
  have b66 : ∀ (v1 : Int32) (v2 : Int32) (M : RM) (H : Heap) (locs : List Loc) (ls : Array Slot), rH D kA h ad A s.heap M H locs → lv_has ls 3 [(0, .ref h), (1, .int v1), (2, .int v2)] → fm_readName_b66 Q  v1 v2 M → W p l e (headSpec wsX11_readName rmX11_readName).room s m args below meth c H locs 0 0 (MQ below (va_Qv Q (rB D kA h ad A) A) args s 0 0 A) (F0 m 66 ls []) := by
    intro   v1 v2 M H locs ls hH hl hw
    unfold fm_readName_b66 at hw
    refine lv_aload_n hx hb dX11_readName_66 rfl (lv_at hl 0 rfl) ?_
    refine lv_bipush (v := 93) hx hb dX11_readName_67 (by decide) ?_
    refine r_callv (va_runV (As := [.int 93]) (rest := []) ⟨hx, hb, hml, hown, hts⟩ (tm_want l D kA h ad H.size M 93 _ hw) (cwV 1 hts gX11_readName_X11_want rfl rfl rfl (by decide +kernel) ⟨Nat.le_of_ble_eq_true rfl, Nat.le_of_ble_eq_true rfl⟩) (r_preV hK hH) rfl rfl hl.1 rfl (lv_room (Nat.le_of_ble_eq_true rfl)) dX11_readName_69 ⟨Nat.le_of_ble_eq_true rfl, Nat.le_of_ble_eq_true rfl⟩) hH hA (fun M28 H locs hw hH => ?_)
    exact b72   v1 v2 M28 H locs ls hH (lv_sub hl [0, 1, 2] rfl) hw
  have b48 : ∀ (v1 : Int32) (v2 : Int32) (s0 : Int32) (s1 : Int32) (M : RM) (H : Heap) (locs : List Loc) (ls : Array Slot), rH D kA h ad A s.heap M H locs → lv_has ls 3 [(0, .ref h), (1, .int v1), (2, .int v2)] → fm_readName_b48 Q  v1 v2 s0 s1 M → W p l e (headSpec wsX11_readName rmX11_readName).room s m args below meth c H locs 0 0 (MQ below (va_Qv Q (rB D kA h ad A) A) args s 0 0 A) (F0 m 48 ls [.int s0, .int s1, .ref (ad 9)]) := by
    intro   v1 v2 s0 s1 M H locs ls hH hl hw
    unfold fm_readName_b48 at hw
    obtain ⟨h30, hw⟩ := hw
    refine rs_9 hx hb hK hH h30 dX11_readName_48 (fun M31 H locs eM31 hH => ?_)
    replace hw := hw M31 eM31
    refine lv_aload_n hx hb dX11_readName_49 rfl (lv_at hl 0 rfl) ?_
    refine rg_9 hx hb hts hin hown hK hH (hts (.fieldLink RX11 34 "IdlCallerModel" "mode" "[I") (by decide +kernel)) dX11_readName_50 ?_
    refine lv_iload_n hx hb dX11_readName_53 rfl (lv_at hl 1 rfl) ?_
    obtain ⟨h32, hw⟩ := hw
    refine rl_9 hx hb hK hH h32 dX11_readName_54 ?_
    refine lv_if_ne (tgt := 66) hx hb dX11_readName_55 (by decide) (fun c33 => ?_) (fun c33 => ?_)
    · replace hw := hw.1 c33
      exact b66   v1 v2 M31 H locs ls hH (lv_sub hl [0, 1, 2] rfl) hw
    · replace hw := hw.2 c33
      refine lv_aload_n hx hb dX11_readName_58 rfl (lv_at hl 0 rfl) ?_
      refine lv_aload_n hx hb dX11_readName_59 rfl (lv_at hl 0 rfl) ?_
      refine rg_26 hx hb hts hin hown hK hH (hts (.fieldLink RX11 92 "IdlCallerModel" "at" "I") (by decide +kernel)) dX11_readName_60 ?_
      refine r_callv (va_runV (As := [.int (rI M31 26)]) (rest := []) ⟨hx, hb, hml, hown, hts⟩ (tm_wrong l D kA h ad H.size M31 (rI M31 26) _ hw) (cwV 1 hts gX11_readName_X11_wrong rfl rfl rfl (by decide +kernel) ⟨Nat.le_of_ble_eq_true rfl, Nat.le_of_ble_eq_true rfl⟩) (r_preV hK hH) rfl rfl hl.1 rfl (lv_room (Nat.le_of_ble_eq_true rfl)) dX11_readName_63 ⟨Nat.le_of_ble_eq_true rfl, Nat.le_of_ble_eq_true rfl⟩) hH hA (fun M34 H locs hw hH => ?_)
      exact b66   v1 v2 M34 H locs ls hH (lv_sub hl [0, 1, 2] rfl) hw
  clear hP hD0
  unfold fm_readName at hw
  have hst : ∀ (M : RM) (H : Heap) (locs : List Loc) (ls : Array Slot), rH D kA h ad A s.heap M H locs → lv_has ls 3 [(0, .ref h), (1, .int a1), (2, .int a2)] → (vp_in a1 370 ∧ (∀ M37 : RM, M37 = wA M 9 a1.toNatClampNeg 0 → fm_takes 91 M37 (fun (r39 : Int32) (M38 : RM) => ((r39 = 0 → fm_readName_b72 Q  a1 a2 M38) ∧ (¬ r39 = 0 → fm_takes 67 M38 (fun (r42 : Int32) (M41 : RM) => ((r42 = 0 → fm_takes 69 M41 (fun (r45 : Int32) (M44 : RM) => ((r45 = 0 → fm_readName_b48 Q  a1 a2 0 a1 M44) ∧ (¬ r45 = 0 → fm_readName_b48 Q  a1 a2 2 a1 M44)))) ∧ (¬ r42 = 0 → fm_readName_b48 Q  a1 a2 1 a1 M41)))))))) → W p l e (headSpec wsX11_readName rmX11_readName).room s m args below meth c H locs 0 0 (MQ below (va_Qv Q (rB D kA h ad A) A) args s 0 0 A) (F0 m 0 ls []) := by
    intro M H locs ls hH hl hw
    refine lv_aload_n hx hb dX11_readName_0 rfl (lv_at hl 0 rfl) ?_
    refine rg_9 hx hb hts hin hown hK hH (hts (.fieldLink RX11 34 "IdlCallerModel" "mode" "[I") (by decide +kernel)) dX11_readName_1 ?_
    refine lv_iload_n hx hb dX11_readName_4 rfl (lv_at hl 1 rfl) ?_
    refine lv_iconst (v := 0) hx hb dX11_readName_5 (by decide) ?_
    obtain ⟨h36, hw⟩ := hw
    refine rs_9 hx hb hK hH h36 dX11_readName_6 (fun M37 H locs eM37 hH => ?_)
    replace hw := hw M37 eM37
    refine lv_aload_n hx hb dX11_readName_7 rfl (lv_at hl 0 rfl) ?_
    refine lv_bipush (v := 91) hx hb dX11_readName_8 (by decide) ?_
    refine r_calli (va_runV (As := [.int 91]) (rest := []) ⟨hx, hb, hml, hown, hts⟩ (tm_takes l D kA h ad H.size M37 91 _ hw) (cwV 1 hts gX11_readName_X11_takes rfl rfl rfl (by decide +kernel) ⟨Nat.le_of_ble_eq_true rfl, Nat.le_of_ble_eq_true rfl⟩) (r_preV hK hH) rfl rfl hl.1 rfl (lv_room (Nat.le_of_ble_eq_true rfl)) dX11_readName_10 ⟨Nat.le_of_ble_eq_true rfl, Nat.le_of_ble_eq_true rfl⟩) hH hA (fun r39 M38 H locs hw hH => ?_)
    refine lv_if_eq (tgt := 72) hx hb dX11_readName_13 (by decide) (fun c40 => ?_) (fun c40 => ?_)
    · replace hw := hw.1 c40
      exact b72   a1 a2 M38 H locs ls hH (lv_sub hl [0, 1, 2] rfl) hw
    · replace hw := hw.2 c40
      refine lv_aload_n hx hb dX11_readName_16 rfl (lv_at hl 0 rfl) ?_
      refine rg_9 hx hb hts hin hown hK hH (hts (.fieldLink RX11 34 "IdlCallerModel" "mode" "[I") (by decide +kernel)) dX11_readName_17 ?_
      refine lv_iload_n hx hb dX11_readName_20 rfl (lv_at hl 1 rfl) ?_
      refine lv_aload_n hx hb dX11_readName_21 rfl (lv_at hl 0 rfl) ?_
      refine lv_bipush (v := 67) hx hb dX11_readName_22 (by decide) ?_
      refine r_calli (va_runV (As := [.int 67]) (rest := [.int a1, .ref (ad 9)]) ⟨hx, hb, hml, hown, hts⟩ (tm_takes l D kA h ad H.size M38 67 _ hw) (cwV 1 hts gX11_readName_X11_takes rfl rfl rfl (by decide +kernel) ⟨Nat.le_of_ble_eq_true rfl, Nat.le_of_ble_eq_true rfl⟩) (r_preV hK hH) rfl rfl hl.1 rfl (lv_room (Nat.le_of_ble_eq_true rfl)) dX11_readName_24 ⟨Nat.le_of_ble_eq_true rfl, Nat.le_of_ble_eq_true rfl⟩) hH hA (fun r42 M41 H locs hw hH => ?_)
      refine lv_if_eq (tgt := 34) hx hb dX11_readName_27 (by decide) (fun c43 => ?_) (fun c43 => ?_)
      · replace hw := hw.1 c43
        refine lv_aload_n hx hb dX11_readName_34 rfl (lv_at hl 0 rfl) ?_
        refine lv_bipush (v := 69) hx hb dX11_readName_35 (by decide) ?_
        refine r_calli (va_runV (As := [.int 69]) (rest := [.int a1, .ref (ad 9)]) ⟨hx, hb, hml, hown, hts⟩ (tm_takes l D kA h ad H.size M41 69 _ hw) (cwV 1 hts gX11_readName_X11_takes rfl rfl rfl (by decide +kernel) ⟨Nat.le_of_ble_eq_true rfl, Nat.le_of_ble_eq_true rfl⟩) (r_preV hK hH) rfl rfl hl.1 rfl (lv_room (Nat.le_of_ble_eq_true rfl)) dX11_readName_37 ⟨Nat.le_of_ble_eq_true rfl, Nat.le_of_ble_eq_true rfl⟩) hH hA (fun r45 M44 H locs hw hH => ?_)
        refine lv_if_eq (tgt := 47) hx hb dX11_readName_40 (by decide) (fun c46 => ?_) (fun c46 => ?_)
        · replace hw := hw.1 c46
          refine lv_iconst (v := 0) hx hb dX11_readName_47 (by decide) ?_
          exact b48   a1 a2 0 a1 M44 H locs ls hH (lv_sub hl [0, 1, 2] rfl) hw
        · replace hw := hw.2 c46
          refine lv_iconst (v := 2) hx hb dX11_readName_43 (by decide) ?_
          refine lv_goto (tgt := 48) hx hb dX11_readName_44 (by decide) ?_
          exact b48   a1 a2 2 a1 M44 H locs ls hH (lv_sub hl [0, 1, 2] rfl) hw
      · replace hw := hw.2 c43
        refine lv_iconst (v := 1) hx hb dX11_readName_30 (by decide) ?_
        refine lv_goto (tgt := 48) hx hb dX11_readName_31 (by decide) ?_
        exact b48   a1 a2 1 a1 M41 H locs ls hH (lv_sub hl [0, 1, 2] rfl) hw
  exact hst M s.heap [] ls hH hl hw
def fm_readMark_b37 (Q : RM → Prop) (s0 : Int32) (s1 : Int32) (M : RM) : Prop := (vp_in s1 370 ∧ (∀ M2 : RM, M2 = wA M 10 s1.toNatClampNeg (vp_nar .boolean s0) → Q M2))
def fm_readMark_b36 (Q : RM → Prop) (s0 : Int32) (M : RM) : Prop := fm_readMark_b37 Q  0 s0 M
def fm_readMark (a1 : Int32) (M : RM) (Q : RM → Prop) : Prop := ((¬ (rI M 27) = 0 → fm_readMark_b36 Q  a1 M) ∧ ((rI M 27) = 0 → (vp_in a1 370 ∧ (((rA M 8 a1.toNatClampNeg) = 7 → fm_readMark_b36 Q  a1 M) ∧ (¬ (rA M 8 a1.toNatClampNeg) = 7 → fm_takes 63 M (fun (r7 : Int32) (M6 : RM) => ((r7 = 0 → fm_readMark_b36 Q  a1 M6) ∧ (¬ r7 = 0 → fm_readMark_b37 Q  1 a1 M6))))))))
abbrev rmX11_readMark : Room := { frames := 2, cells := 0, slots := 0, locals := 41 }
set_option maxHeartbeats 4000000 in
set_option maxRecDepth 100000 in
theorem tm_readMark (l : Launch) (D : va_G) (kA : Nat → ClassId) (h : Nat) (ad : Nat → Nat) (sz : Nat) (M : RM) (a1 : Int32) (Q : RM → Prop) (hw : fm_readMark a1 M Q) : Met l yX11_readMark wsX11_readMark rmX11_readMark (va_Pc [.ref h, .int a1] (rPc D kA h ad M sz)) (va_Qv Q (rB D kA h ad (rF kA h ad M sz)) (rF kA h ad M sz)) 0 0 (rF kA h ad M sz) := by
  refine Met.ofW (cc := cX11_readMark) (maxL := 2) (ret := none) (by decide) rfl ?_
  intro p e s m args below meth c s₁ B hml hv
  obtain ⟨rfl, hsz, hP, hK, hD0⟩ := hv
  have hx := B.exec
  have hb := B.bytes
  have hr := B.returns
  have hts := atoms_spec (ws := wsX11_readMark) B.pre
  have hown : s.vm.findClass RX11 = some m.cls := findClass_of_methodNamed B.named
  have hlocks : meth.locks = false := B.notSynchronized
  subst hsz
  have hH : rH D kA h ad (rF kA h ad M s.heap.size) s.heap M s.heap [] := ⟨hP, hD0.self, va_S.rf⟩
  have hA : ∀ q : Nat, s.heap.size ≤ q → rF kA h ad M s.heap.size q := fun q z => Or.inr z
  generalize rF kA h ad M s.heap.size = A at hH hA ⊢
  have hl := lv_entry ([.ref h, .int a1]) (n := 2) (Nat.le_of_ble_eq_true rfl)
  rw [lg_entry_eq]
  generalize (lg_sl ([.ref h, .int a1]) ++ List.replicate (2 - (lg_sl ([.ref h, .int a1])).length) Slot.unset).toArray = ls at hl ⊢
  generalize ([.ref h, .int a1] : List Value).toArray = args at hts ⊢
  have hl : lv_has ls 2 [(0, .ref h), (1, .int a1)] := hl
  have hin : ∀ w ∈ wsX110, w ∈ wsX11_readMark := by decide +kernel
  have b37 : ∀ (s0 : Int32) (s1 : Int32) (M : RM) (H : Heap) (locs : List Loc) (ls : Array Slot), rH D kA h ad A s.heap M H locs → lv_has ls 2 [] → fm_readMark_b37 Q  s0 s1 M → W p l e (headSpec wsX11_readMark rmX11_readMark).room s m args below meth c H locs 0 0 (MQ below (va_Qv Q (rB D kA h ad A) A) args s 0 0 A) (F0 m 37 ls [.int s0, .int s1, .ref (ad 10)]) := by
    intro   s0 s1 M H locs ls hH hl hw
    unfold fm_readMark_b37 at hw
    obtain ⟨h1, hw⟩ := hw
    refine rs_10 hx hb hK hH h1 dX11_readMark_37 (fun M2 H locs eM2 hH => ?_)
    replace hw := hw M2 eM2
    exact r_retv hx hb hr hlocks hK hH hw dX11_readMark_38
  have b36 : ∀ (s0 : Int32) (M : RM) (H : Heap) (locs : List Loc) (ls : Array Slot), rH D kA h ad A s.heap M H locs → lv_has ls 2 [] → fm_readMark_b36 Q  s0 M → W p l e (headSpec wsX11_readMark rmX11_readMark).room s m args below meth c H locs 0 0 (MQ below (va_Qv Q (rB D kA h ad A) A) args s 0 0 A) (F0 m 36 ls [.int s0, .ref (ad 10)]) := by
    intro   s0 M H locs ls hH hl hw
    unfold fm_readMark_b36 at hw
    refine lv_iconst (v := 0) hx hb dX11_readMark_36 (by decide) ?_
    exact b37   0 s0 M H locs ls hH (lv_sub hl [] rfl) hw
  clear hP hD0
  unfold fm_readMark at hw
  have hst : ∀ (M : RM) (H : Heap) (locs : List Loc) (ls : Array Slot), rH D kA h ad A s.heap M H locs → lv_has ls 2 [(0, .ref h), (1, .int a1)] → ((¬ (rI M 27) = 0 → fm_readMark_b36 Q  a1 M) ∧ ((rI M 27) = 0 → (vp_in a1 370 ∧ (((rA M 8 a1.toNatClampNeg) = 7 → fm_readMark_b36 Q  a1 M) ∧ (¬ (rA M 8 a1.toNatClampNeg) = 7 → fm_takes 63 M (fun (r7 : Int32) (M6 : RM) => ((r7 = 0 → fm_readMark_b36 Q  a1 M6) ∧ (¬ r7 = 0 → fm_readMark_b37 Q  1 a1 M6)))))))) → W p l e (headSpec wsX11_readMark rmX11_readMark).room s m args below meth c H locs 0 0 (MQ below (va_Qv Q (rB D kA h ad A) A) args s 0 0 A) (F0 m 0 ls []) := by
    intro M H locs ls hH hl hw
    refine lv_aload_n hx hb dX11_readMark_0 rfl (lv_at hl 0 rfl) ?_
    refine rg_10 hx hb hts hin hown hK hH (hts (.fieldLink RX11 37 "IdlCallerModel" "isNullable" "[Z") (by decide +kernel)) dX11_readMark_1 ?_
    refine lv_iload_n hx hb dX11_readMark_4 rfl (lv_at hl 1 rfl) ?_
    refine lv_aload_n hx hb dX11_readMark_5 rfl (lv_at hl 0 rfl) ?_
    refine rg_27 hx hb hts hin hown hK hH (hts (.fieldLink RX11 95 "IdlCallerModel" "isWrong" "Z") (by decide +kernel)) dX11_readMark_6 ?_
    refine lv_if_ne (tgt := 36) hx hb dX11_readMark_9 (by decide) (fun c3 => ?_) (fun c3 => ?_)
    · replace hw := hw.1 c3
      exact b36   a1 M H locs ls hH (lv_sub hl [] rfl) hw
    · replace hw := hw.2 c3
      refine lv_aload_n hx hb dX11_readMark_12 rfl (lv_at hl 0 rfl) ?_
      refine rg_8 hx hb hts hin hown hK hH (hts (.fieldLink RX11 31 "IdlCallerModel" "sort" "[I") (by decide +kernel)) dX11_readMark_13 ?_
      refine lv_iload_n hx hb dX11_readMark_16 rfl (lv_at hl 1 rfl) ?_
      obtain ⟨h4, hw⟩ := hw
      refine rl_8 hx hb hK hH h4 dX11_readMark_17 ?_
      refine lv_bipush (v := 7) hx hb dX11_readMark_18 (by decide) ?_
      refine lv_icmp_eq (tgt := 36) hx hb dX11_readMark_20 (by decide) (fun c5 => ?_) (fun c5 => ?_)
      · replace hw := hw.1 c5
        exact b36   a1 M H locs ls hH (lv_sub hl [] rfl) hw
      · replace hw := hw.2 c5
        refine lv_aload_n hx hb dX11_readMark_23 rfl (lv_at hl 0 rfl) ?_
        refine lv_bipush (v := 63) hx hb dX11_readMark_24 (by decide) ?_
        refine r_calli (va_runV (As := [.int 63]) (rest := [.int a1, .ref (ad 10)]) ⟨hx, hb, hml, hown, hts⟩ (tm_takes l D kA h ad H.size M 63 _ hw) (cwV 1 hts gX11_readMark_X11_takes rfl rfl rfl (by decide +kernel) ⟨Nat.le_of_ble_eq_true rfl, Nat.le_of_ble_eq_true rfl⟩) (r_preV hK hH) rfl rfl hl.1 rfl (lv_room (Nat.le_of_ble_eq_true rfl)) dX11_readMark_26 ⟨Nat.le_of_ble_eq_true rfl, Nat.le_of_ble_eq_true rfl⟩) hH hA (fun r7 M6 H locs hw hH => ?_)
        refine lv_if_eq (tgt := 36) hx hb dX11_readMark_29 (by decide) (fun c8 => ?_) (fun c8 => ?_)
        · replace hw := hw.1 c8
          exact b36   a1 M6 H locs ls hH (lv_sub hl [] rfl) hw
        · replace hw := hw.2 c8
          refine lv_iconst (v := 1) hx hb dX11_readMark_32 (by decide) ?_
          refine lv_goto (tgt := 37) hx hb dX11_readMark_33 (by decide) ?_
          exact b37   1 a1 M6 H locs ls hH (lv_sub hl [] rfl) hw
  exact hst M s.heap [] ls hH hl hw
def fm_readArgument_b143 (Q : RM → Prop) (M : RM) : Prop := Q M
def fm_readArgument_b94 (Q : RM → Prop) (v1 : Int32) (v2 : Int32) (M : RM) : Prop := fm_readMark v2 M (fun (M1 : RM) => ((¬ (rI M1 27) = 0 → fm_readArgument_b143 Q   M1) ∧ ((rI M1 27) = 0 → (vp_in v1 185 ∧ ((¬ (rA M1 6 v1.toNatClampNeg) = 0 → fm_readArgument_b143 Q   M1) ∧ ((rA M1 6 v1.toNatClampNeg) = 0 → fm_takes 46 M1 (fun (r7 : Int32) (M6 : RM) => ((r7 = 0 → fm_readArgument_b143 Q   M6) ∧ (¬ r7 = 0 → fm_want 46 M6 (fun (M9 : RM) => fm_want 46 M9 (fun (M11 : RM) => (vp_in v1 185 ∧ (∀ M14 : RM, M14 = wA M11 7 v1.toNatClampNeg (vp_nar .boolean 1) → fm_readArgument_b143 Q   M14)))))))))))))
def fm_readArgument_b39 (Q : RM → Prop) (v1 : Int32) (M : RM) : Prop := (∀ x15 : Int32, x15 = 2 * v1 → fm_readName x15 1 M (fun (M16 : RM) => ((¬ (rI M16 27) = 0 → fm_readArgument_b94 Q  v1 x15 M16) ∧ ((rI M16 27) = 0 → (vp_in x15 370 ∧ ((¬ (rA M16 8 x15.toNatClampNeg) = 9 → fm_readArgument_b94 Q  v1 x15 M16) ∧ ((rA M16 8 x15.toNatClampNeg) = 9 → fm_want 60 M16 (fun (M21 : RM) => fm_readName (x15 + 1) 0 M21 (fun (M23 : RM) => fm_readMark (x15 + 1) M23 (fun (M25 : RM) => fm_want 62 M25 (fun (M27 : RM) => fm_readArgument_b94 Q  v1 x15 M27)))))))))))
def fm_readArgument (a1 : Int32) (M : RM) (Q : RM → Prop) : Prop := (vp_in a1 185 ∧ (∀ M30 : RM, M30 = wA M 6 a1.toNatClampNeg (vp_nar .boolean 0) → (vp_in a1 185 ∧ (∀ M32 : RM, M32 = wA M30 7 a1.toNatClampNeg (vp_nar .boolean 0) → fm_isWord 8030046131791487340 M32 (fun (r34 : Int32) (M33 : RM) => ((r34 = 0 → fm_readArgument_b39 Q  a1 M33) ∧ (¬ r34 = 0 → (vp_in a1 185 ∧ (∀ M37 : RM, M37 = wA M33 6 a1.toNatClampNeg (vp_nar .boolean 1) → fm_wordEnd  M37 (fun (r39 : Int32) (M38 : RM) => (∀ M40 : RM, M40 = wI M38 26 r39 → fm_readArgument_b39 Q  a1 M40)))))))))))
abbrev rmX11_readArgument : Room := { frames := 5, cells := 0, slots := 0, locals := 110 }
set_option maxHeartbeats 4000000 in
set_option maxRecDepth 100000 in
theorem tm_readArgument (l : Launch) (D : va_G) (kA : Nat → ClassId) (h : Nat) (ad : Nat → Nat) (sz : Nat) (M : RM) (a1 : Int32) (Q : RM → Prop) (hw : fm_readArgument a1 M Q) : Met l yX11_readArgument wsX11_readArgument rmX11_readArgument (va_Pc [.ref h, .int a1] (rPc D kA h ad M sz)) (va_Qv Q (rB D kA h ad (rF kA h ad M sz)) (rF kA h ad M sz)) 0 0 (rF kA h ad M sz) := by
  refine Met.ofW (cc := cX11_readArgument) (maxL := 3) (ret := none) (by decide) rfl ?_
  intro p e s m args below meth c s₁ B hml hv
  obtain ⟨rfl, hsz, hP, hK, hD0⟩ := hv
  have hx := B.exec
  have hb := B.bytes
  have hr := B.returns
  have hts := atoms_spec (ws := wsX11_readArgument) B.pre
  have hown : s.vm.findClass RX11 = some m.cls := findClass_of_methodNamed B.named
  have hlocks : meth.locks = false := B.notSynchronized
  subst hsz
  have hH : rH D kA h ad (rF kA h ad M s.heap.size) s.heap M s.heap [] := ⟨hP, hD0.self, va_S.rf⟩
  have hA : ∀ q : Nat, s.heap.size ≤ q → rF kA h ad M s.heap.size q := fun q z => Or.inr z
  generalize rF kA h ad M s.heap.size = A at hH hA ⊢
  have hl := lv_entry ([.ref h, .int a1]) (n := 3) (Nat.le_of_ble_eq_true rfl)
  rw [lg_entry_eq]
  generalize (lg_sl ([.ref h, .int a1]) ++ List.replicate (3 - (lg_sl ([.ref h, .int a1])).length) Slot.unset).toArray = ls at hl ⊢
  generalize ([.ref h, .int a1] : List Value).toArray = args at hts ⊢
  have hl : lv_has ls 3 [(0, .ref h), (1, .int a1)] := hl
  have hin : ∀ w ∈ wsX110, w ∈ wsX11_readArgument := by decide +kernel
  have b143 : ∀ (M : RM) (H : Heap) (locs : List Loc) (ls : Array Slot), rH D kA h ad A s.heap M H locs → lv_has ls 3 [] → fm_readArgument_b143 Q   M → W p l e (headSpec wsX11_readArgument rmX11_readArgument).room s m args below meth c H locs 0 0 (MQ below (va_Qv Q (rB D kA h ad A) A) args s 0 0 A) (F0 m 143 ls []) := by
    intro    M H locs ls hH hl hw
    unfold fm_readArgument_b143 at hw
    exact r_retv hx hb hr hlocks hK hH hw dX11_readArgument_143
  have b94 : ∀ (v1 : Int32) (v2 : Int32) (M : RM) (H : Heap) (locs : List Loc) (ls : Array Slot), rH D kA h ad A s.heap M H locs → lv_has ls 3 [(0, .ref h), (1, .int v1), (2, .int v2)] → fm_readArgument_b94 Q  v1 v2 M → W p l e (headSpec wsX11_readArgument rmX11_readArgument).room s m args below meth c H locs 0 0 (MQ below (va_Qv Q (rB D kA h ad A) A) args s 0 0 A) (F0 m 94 ls []) := by
    intro   v1 v2 M H locs ls hH hl hw
    unfold fm_readArgument_b94 at hw
    refine lv_aload_n hx hb dX11_readArgument_94 rfl (lv_at hl 0 rfl) ?_
    refine lv_iload_n hx hb dX11_readArgument_95 rfl (lv_at hl 2 rfl) ?_
    refine r_callv (va_runV (As := [.int v2]) (rest := []) ⟨hx, hb, hml, hown, hts⟩ (tm_readMark l D kA h ad H.size M v2 _ hw) (cwV 1 hts gX11_readArgument_X11_readMark rfl rfl rfl (by decide +kernel) ⟨Nat.le_of_ble_eq_true rfl, Nat.le_of_ble_eq_true rfl⟩) (r_preV hK hH) rfl rfl hl.1 rfl (lv_room (Nat.le_of_ble_eq_true rfl)) dX11_readArgument_96 ⟨Nat.le_of_ble_eq_true rfl, Nat.le_of_ble_eq_true rfl⟩) hH hA (fun M1 H locs hw hH => ?_)
    refine lv_aload_n hx hb dX11_readArgument_99 rfl (lv_at hl 0 rfl) ?_
    refine rg_27 hx hb hts hin hown hK hH (hts (.fieldLink RX11 95 "IdlCallerModel" "isWrong" "Z") (by decide +kernel)) dX11_readArgument_100 ?_
    refine lv_if_ne (tgt := 143) hx hb dX11_readArgument_103 (by decide) (fun c3 => ?_) (fun c3 => ?_)
    · replace hw := hw.1 c3
      exact b143    M1 H locs ls hH (lv_sub hl [] rfl) hw
    · replace hw := hw.2 c3
      refine lv_aload_n hx hb dX11_readArgument_106 rfl (lv_at hl 0 rfl) ?_
      refine rg_6 hx hb hts hin hown hK hH (hts (.fieldLink RX11 24 "IdlCallerModel" "isOptional" "[Z") (by decide +kernel)) dX11_readArgument_107 ?_
      refine lv_iload_n hx hb dX11_readArgument_110 rfl (lv_at hl 1 rfl) ?_
      obtain ⟨h4, hw⟩ := hw
      refine rl_6 hx hb hK hH h4 dX11_readArgument_111 ?_
      refine lv_if_ne (tgt := 143) hx hb dX11_readArgument_112 (by decide) (fun c5 => ?_) (fun c5 => ?_)
      · replace hw := hw.1 c5
        exact b143    M1 H locs ls hH (lv_sub hl [] rfl) hw
      · replace hw := hw.2 c5
        refine lv_aload_n hx hb dX11_readArgument_115 rfl (lv_at hl 0 rfl) ?_
        refine lv_bipush (v := 46) hx hb dX11_readArgument_116 (by decide) ?_
        refine r_calli (va_runV (As := [.int 46]) (rest := []) ⟨hx, hb, hml, hown, hts⟩ (tm_takes l D kA h ad H.size M1 46 _ hw) (cwV 1 hts gX11_readArgument_X11_takes rfl rfl rfl (by decide +kernel) ⟨Nat.le_of_ble_eq_true rfl, Nat.le_of_ble_eq_true rfl⟩) (r_preV hK hH) rfl rfl hl.1 rfl (lv_room (Nat.le_of_ble_eq_true rfl)) dX11_readArgument_118 ⟨Nat.le_of_ble_eq_true rfl, Nat.le_of_ble_eq_true rfl⟩) hH hA (fun r7 M6 H locs hw hH => ?_)
        refine lv_if_eq (tgt := 143) hx hb dX11_readArgument_121 (by decide) (fun c8 => ?_) (fun c8 => ?_)
        · replace hw := hw.1 c8
          exact b143    M6 H locs ls hH (lv_sub hl [] rfl) hw
        · replace hw := hw.2 c8
          refine lv_aload_n hx hb dX11_readArgument_124 rfl (lv_at hl 0 rfl) ?_
          refine lv_bipush (v := 46) hx hb dX11_readArgument_125 (by decide) ?_
          refine r_callv (va_runV (As := [.int 46]) (rest := []) ⟨hx, hb, hml, hown, hts⟩ (tm_want l D kA h ad H.size M6 46 _ hw) (cwV 1 hts gX11_readArgument_X11_want rfl rfl rfl (by decide +kernel) ⟨Nat.le_of_ble_eq_true rfl, Nat.le_of_ble_eq_true rfl⟩) (r_preV hK hH) rfl rfl hl.1 rfl (lv_room (Nat.le_of_ble_eq_true rfl)) dX11_readArgument_127 ⟨Nat.le_of_ble_eq_true rfl, Nat.le_of_ble_eq_true rfl⟩) hH hA (fun M9 H locs hw hH => ?_)
          refine lv_aload_n hx hb dX11_readArgument_130 rfl (lv_at hl 0 rfl) ?_
          refine lv_bipush (v := 46) hx hb dX11_readArgument_131 (by decide) ?_
          refine r_callv (va_runV (As := [.int 46]) (rest := []) ⟨hx, hb, hml, hown, hts⟩ (tm_want l D kA h ad H.size M9 46 _ hw) (cwV 1 hts gX11_readArgument_X11_want rfl rfl rfl (by decide +kernel) ⟨Nat.le_of_ble_eq_true rfl, Nat.le_of_ble_eq_true rfl⟩) (r_preV hK hH) rfl rfl hl.1 rfl (lv_room (Nat.le_of_ble_eq_true rfl)) dX11_readArgument_133 ⟨Nat.le_of_ble_eq_true rfl, Nat.le_of_ble_eq_true rfl⟩) hH hA (fun M11 H locs hw hH => ?_)
          refine lv_aload_n hx hb dX11_readArgument_136 rfl (lv_at hl 0 rfl) ?_
          refine rg_7 hx hb hts hin hown hK hH (hts (.fieldLink RX11 28 "IdlCallerModel" "isVariadic" "[Z") (by decide +kernel)) dX11_readArgument_137 ?_
          refine lv_iload_n hx hb dX11_readArgument_140 rfl (lv_at hl 1 rfl) ?_
          refine lv_iconst (v := 1) hx hb dX11_readArgument_141 (by decide) ?_
          obtain ⟨h13, hw⟩ := hw
          refine rs_7 hx hb hK hH h13 dX11_readArgument_142 (fun M14 H locs eM14 hH => ?_)
          replace hw := hw M14 eM14
          exact b143    M14 H locs ls hH (lv_sub hl [] rfl) hw
  have b39 : ∀ (v1 : Int32) (M : RM) (H : Heap) (locs : List Loc) (ls : Array Slot), rH D kA h ad A s.heap M H locs → lv_has ls 3 [(0, .ref h), (1, .int v1)] → fm_readArgument_b39 Q  v1 M → W p l e (headSpec wsX11_readArgument rmX11_readArgument).room s m args below meth c H locs 0 0 (MQ below (va_Qv Q (rB D kA h ad A) A) args s 0 0 A) (F0 m 39 ls []) := by
    intro   v1 M H locs ls hH hl hw
    unfold fm_readArgument_b39 at hw
    refine lv_iconst (v := 2) hx hb dX11_readArgument_39 (by decide) ?_
    refine lv_iload_n hx hb dX11_readArgument_40 rfl (lv_at hl 1 rfl) ?_
    refine lv_imul hx hb dX11_readArgument_41 ?_
    refine lv_topi (fun x15 ex15 => ?_)
    replace hw := hw x15 ex15
    refine lv_istore_n (lv' := [(2, .int x15), (0, .ref h), (1, .int v1)]) hx hb dX11_readArgument_42 rfl hl (by decide) rfl (fun ls hl => ?_)
    refine lv_aload_n hx hb dX11_readArgument_43 rfl (lv_at hl 1 rfl) ?_
    refine lv_iload_n hx hb dX11_readArgument_44 rfl (lv_at hl 0 rfl) ?_
    refine lv_iconst (v := 1) hx hb dX11_readArgument_45 (by decide) ?_
    refine r_callv (va_runV (As := [.int x15, .int 1]) (rest := []) ⟨hx, hb, hml, hown, hts⟩ (tm_readName l D kA h ad H.size M x15 1 _ hw) (cwV 2 hts gX11_readArgument_X11_readName rfl rfl rfl (by decide +kernel) ⟨Nat.le_of_ble_eq_true rfl, Nat.le_of_ble_eq_true rfl⟩) (r_preV hK hH) rfl rfl hl.1 rfl (lv_room (Nat.le_of_ble_eq_true rfl)) dX11_readArgument_46 ⟨Nat.le_of_ble_eq_true rfl, Nat.le_of_ble_eq_true rfl⟩) hH hA (fun M16 H locs hw hH => ?_)
    refine lv_aload_n hx hb dX11_readArgument_49 rfl (lv_at hl 1 rfl) ?_
    refine rg_27 hx hb hts hin hown hK hH (hts (.fieldLink RX11 95 "IdlCallerModel" "isWrong" "Z") (by decide +kernel)) dX11_readArgument_50 ?_
    refine lv_if_ne (tgt := 94) hx hb dX11_readArgument_53 (by decide) (fun c18 => ?_) (fun c18 => ?_)
    · replace hw := hw.1 c18
      exact b94   v1 x15 M16 H locs ls hH (lv_sub hl [1, 2, 0] rfl) hw
    · replace hw := hw.2 c18
      refine lv_aload_n hx hb dX11_readArgument_56 rfl (lv_at hl 1 rfl) ?_
      refine rg_8 hx hb hts hin hown hK hH (hts (.fieldLink RX11 31 "IdlCallerModel" "sort" "[I") (by decide +kernel)) dX11_readArgument_57 ?_
      refine lv_iload_n hx hb dX11_readArgument_60 rfl (lv_at hl 0 rfl) ?_
      obtain ⟨h19, hw⟩ := hw
      refine rl_8 hx hb hK hH h19 dX11_readArgument_61 ?_
      refine lv_bipush (v := 9) hx hb dX11_readArgument_62 (by decide) ?_
      refine lv_icmp_ne (tgt := 94) hx hb dX11_readArgument_64 (by decide) (fun c20 => ?_) (fun c20 => ?_)
      · replace hw := hw.1 c20
        exact b94   v1 x15 M16 H locs ls hH (lv_sub hl [1, 2, 0] rfl) hw
      · replace hw := hw.2 c20
        refine lv_aload_n hx hb dX11_readArgument_67 rfl (lv_at hl 1 rfl) ?_
        refine lv_bipush (v := 60) hx hb dX11_readArgument_68 (by decide) ?_
        refine r_callv (va_runV (As := [.int 60]) (rest := []) ⟨hx, hb, hml, hown, hts⟩ (tm_want l D kA h ad H.size M16 60 _ hw) (cwV 1 hts gX11_readArgument_X11_want rfl rfl rfl (by decide +kernel) ⟨Nat.le_of_ble_eq_true rfl, Nat.le_of_ble_eq_true rfl⟩) (r_preV hK hH) rfl rfl hl.1 rfl (lv_room (Nat.le_of_ble_eq_true rfl)) dX11_readArgument_70 ⟨Nat.le_of_ble_eq_true rfl, Nat.le_of_ble_eq_true rfl⟩) hH hA (fun M21 H locs hw hH => ?_)
        refine lv_aload_n hx hb dX11_readArgument_73 rfl (lv_at hl 1 rfl) ?_
        refine lv_iload_n hx hb dX11_readArgument_74 rfl (lv_at hl 0 rfl) ?_
        refine lv_iconst (v := 1) hx hb dX11_readArgument_75 (by decide) ?_
        refine lv_iadd hx hb dX11_readArgument_76 ?_
        refine lv_iconst (v := 0) hx hb dX11_readArgument_77 (by decide) ?_
        refine r_callv (va_runV (As := [.int (x15 + 1), .int 0]) (rest := []) ⟨hx, hb, hml, hown, hts⟩ (tm_readName l D kA h ad H.size M21 (x15 + 1) 0 _ hw) (cwV 2 hts gX11_readArgument_X11_readName rfl rfl rfl (by decide +kernel) ⟨Nat.le_of_ble_eq_true rfl, Nat.le_of_ble_eq_true rfl⟩) (r_preV hK hH) rfl rfl hl.1 rfl (lv_room (Nat.le_of_ble_eq_true rfl)) dX11_readArgument_78 ⟨Nat.le_of_ble_eq_true rfl, Nat.le_of_ble_eq_true rfl⟩) hH hA (fun M23 H locs hw hH => ?_)
        refine lv_aload_n hx hb dX11_readArgument_81 rfl (lv_at hl 1 rfl) ?_
        refine lv_iload_n hx hb dX11_readArgument_82 rfl (lv_at hl 0 rfl) ?_
        refine lv_iconst (v := 1) hx hb dX11_readArgument_83 (by decide) ?_
        refine lv_iadd hx hb dX11_readArgument_84 ?_
        refine r_callv (va_runV (As := [.int (x15 + 1)]) (rest := []) ⟨hx, hb, hml, hown, hts⟩ (tm_readMark l D kA h ad H.size M23 (x15 + 1) _ hw) (cwV 1 hts gX11_readArgument_X11_readMark rfl rfl rfl (by decide +kernel) ⟨Nat.le_of_ble_eq_true rfl, Nat.le_of_ble_eq_true rfl⟩) (r_preV hK hH) rfl rfl hl.1 rfl (lv_room (Nat.le_of_ble_eq_true rfl)) dX11_readArgument_85 ⟨Nat.le_of_ble_eq_true rfl, Nat.le_of_ble_eq_true rfl⟩) hH hA (fun M25 H locs hw hH => ?_)
        refine lv_aload_n hx hb dX11_readArgument_88 rfl (lv_at hl 1 rfl) ?_
        refine lv_bipush (v := 62) hx hb dX11_readArgument_89 (by decide) ?_
        refine r_callv (va_runV (As := [.int 62]) (rest := []) ⟨hx, hb, hml, hown, hts⟩ (tm_want l D kA h ad H.size M25 62 _ hw) (cwV 1 hts gX11_readArgument_X11_want rfl rfl rfl (by decide +kernel) ⟨Nat.le_of_ble_eq_true rfl, Nat.le_of_ble_eq_true rfl⟩) (r_preV hK hH) rfl rfl hl.1 rfl (lv_room (Nat.le_of_ble_eq_true rfl)) dX11_readArgument_91 ⟨Nat.le_of_ble_eq_true rfl, Nat.le_of_ble_eq_true rfl⟩) hH hA (fun M27 H locs hw hH => ?_)
        exact b94   v1 x15 M27 H locs ls hH (lv_sub hl [1, 2, 0] rfl) hw
  clear hP hD0
  unfold fm_readArgument at hw
  have hst : ∀ (M : RM) (H : Heap) (locs : List Loc) (ls : Array Slot), rH D kA h ad A s.heap M H locs → lv_has ls 3 [(0, .ref h), (1, .int a1)] → (vp_in a1 185 ∧ (∀ M30 : RM, M30 = wA M 6 a1.toNatClampNeg (vp_nar .boolean 0) → (vp_in a1 185 ∧ (∀ M32 : RM, M32 = wA M30 7 a1.toNatClampNeg (vp_nar .boolean 0) → fm_isWord 8030046131791487340 M32 (fun (r34 : Int32) (M33 : RM) => ((r34 = 0 → fm_readArgument_b39 Q  a1 M33) ∧ (¬ r34 = 0 → (vp_in a1 185 ∧ (∀ M37 : RM, M37 = wA M33 6 a1.toNatClampNeg (vp_nar .boolean 1) → fm_wordEnd  M37 (fun (r39 : Int32) (M38 : RM) => (∀ M40 : RM, M40 = wI M38 26 r39 → fm_readArgument_b39 Q  a1 M40))))))))))) → W p l e (headSpec wsX11_readArgument rmX11_readArgument).room s m args below meth c H locs 0 0 (MQ below (va_Qv Q (rB D kA h ad A) A) args s 0 0 A) (F0 m 0 ls []) := by
    intro M H locs ls hH hl hw
    refine lv_aload_n hx hb dX11_readArgument_0 rfl (lv_at hl 0 rfl) ?_
    refine rg_6 hx hb hts hin hown hK hH (hts (.fieldLink RX11 24 "IdlCallerModel" "isOptional" "[Z") (by decide +kernel)) dX11_readArgument_1 ?_
    refine lv_iload_n hx hb dX11_readArgument_4 rfl (lv_at hl 1 rfl) ?_
    refine lv_iconst (v := 0) hx hb dX11_readArgument_5 (by decide) ?_
    obtain ⟨h29, hw⟩ := hw
    refine rs_6 hx hb hK hH h29 dX11_readArgument_6 (fun M30 H locs eM30 hH => ?_)
    replace hw := hw M30 eM30
    refine lv_aload_n hx hb dX11_readArgument_7 rfl (lv_at hl 0 rfl) ?_
    refine rg_7 hx hb hts hin hown hK hH (hts (.fieldLink RX11 28 "IdlCallerModel" "isVariadic" "[Z") (by decide +kernel)) dX11_readArgument_8 ?_
    refine lv_iload_n hx hb dX11_readArgument_11 rfl (lv_at hl 1 rfl) ?_
    refine lv_iconst (v := 0) hx hb dX11_readArgument_12 (by decide) ?_
    obtain ⟨h31, hw⟩ := hw
    refine rs_7 hx hb hK hH h31 dX11_readArgument_13 (fun M32 H locs eM32 hH => ?_)
    replace hw := hw M32 eM32
    refine lv_aload_n hx hb dX11_readArgument_14 rfl (lv_at hl 0 rfl) ?_
    refine lv_ldc2 (v := 8030046131791487340) hx hb hown (hts (.constantLong RX11 165 8030046131791487340) (by decide +kernel)) dX11_readArgument_15 ?_
    refine r_calli (va_runV (As := [.long 8030046131791487340]) (rest := []) ⟨hx, hb, hml, hown, hts⟩ (tm_isWord l D kA h ad H.size M32 8030046131791487340 _ hw) (cwV 1 hts gX11_readArgument_X11_isWord rfl rfl rfl (by decide +kernel) ⟨Nat.le_of_ble_eq_true rfl, Nat.le_of_ble_eq_true rfl⟩) (r_preV hK hH) rfl rfl hl.1 rfl (lv_room (Nat.le_of_ble_eq_true rfl)) dX11_readArgument_18 ⟨Nat.le_of_ble_eq_true rfl, Nat.le_of_ble_eq_true rfl⟩) hH hA (fun r34 M33 H locs hw hH => ?_)
    refine lv_if_eq (tgt := 39) hx hb dX11_readArgument_21 (by decide) (fun c35 => ?_) (fun c35 => ?_)
    · replace hw := hw.1 c35
      exact b39   a1 M33 H locs ls hH (lv_sub hl [0, 1] rfl) hw
    · replace hw := hw.2 c35
      refine lv_aload_n hx hb dX11_readArgument_24 rfl (lv_at hl 0 rfl) ?_
      refine rg_6 hx hb hts hin hown hK hH (hts (.fieldLink RX11 24 "IdlCallerModel" "isOptional" "[Z") (by decide +kernel)) dX11_readArgument_25 ?_
      refine lv_iload_n hx hb dX11_readArgument_28 rfl (lv_at hl 1 rfl) ?_
      refine lv_iconst (v := 1) hx hb dX11_readArgument_29 (by decide) ?_
      obtain ⟨h36, hw⟩ := hw
      refine rs_6 hx hb hK hH h36 dX11_readArgument_30 (fun M37 H locs eM37 hH => ?_)
      replace hw := hw M37 eM37
      refine lv_aload_n hx hb dX11_readArgument_31 rfl (lv_at hl 0 rfl) ?_
      refine lv_aload_n hx hb dX11_readArgument_32 rfl (lv_at hl 0 rfl) ?_
      refine r_calli (va_runV (As := []) (rest := [.ref h]) ⟨hx, hb, hml, hown, hts⟩ (tm_wordEnd l D kA h ad H.size M37  _ hw) (cwV 0 hts gX11_readArgument_X11_wordEnd rfl rfl rfl (by decide +kernel) ⟨Nat.le_of_ble_eq_true rfl, Nat.le_of_ble_eq_true rfl⟩) (r_preV hK hH) rfl rfl hl.1 rfl (lv_room (Nat.le_of_ble_eq_true rfl)) dX11_readArgument_33 ⟨Nat.le_of_ble_eq_true rfl, Nat.le_of_ble_eq_true rfl⟩) hH hA (fun r39 M38 H locs hw hH => ?_)
      refine rp_26 hx hb hts hin hown hK hH (hts (.fieldLink RX11 92 "IdlCallerModel" "at" "I") (by decide +kernel)) dX11_readArgument_36 (fun M40 H locs eM40 hH => ?_)
      replace hw := hw M40 eM40
      exact b39   a1 M40 H locs ls hH (lv_sub hl [0, 1] rfl) hw
  exact hst M s.heap [] ls hH hl hw
def fm_read_b249 (Q : Int32 → RM → Prop) (v1 : Int32) (M : RM) : Prop := Q (v1 - 97) M
def fm_read_b217 (Q : Int32 → RM → Prop) (k73 : Int32 → Int32 → RM → Prop) (v1 : Int32) (s0 : Int32) (M : RM) : Prop := k73 v1 s0 M
def fm_read_b216 (Q : Int32 → RM → Prop) (k73 : Int32 → Int32 → RM → Prop) (v1 : Int32) (M : RM) : Prop := fm_read_b217 Q k73 v1 0 M
def fm_read_b165 (Q : Int32 → RM → Prop) (k73 : Int32 → Int32 → RM → Prop) (v1 : Int32) (v3 : Int32) (M : RM) : Prop := (vp_in (36 : Int32) 37 ∧ (vp_in (36 : Int32) 37 ∧ (∀ M3 : RM, M3 = wA M 5 (36 : Int32).toNatClampNeg ((rA M 5 (36 : Int32).toNatClampNeg) + 1) → ((¬ (rI M3 27) = 0 → fm_read_b216 Q k73 v1 M3) ∧ ((rI M3 27) = 0 → (vp_in (36 : Int32) 37 ∧ ((5 ≤ (rA M3 5 (36 : Int32).toNatClampNeg) → fm_read_b216 Q k73 v1 M3) ∧ (¬ 5 ≤ (rA M3 5 (36 : Int32).toNatClampNeg) → (vp_in v3 185 ∧ ((¬ (rA M3 7 v3.toNatClampNeg) = 0 → fm_read_b216 Q k73 v1 M3) ∧ ((rA M3 7 v3.toNatClampNeg) = 0 → fm_takes 44 M3 (fun (r10 : Int32) (M9 : RM) => ((r10 = 0 → fm_read_b216 Q k73 v1 M9) ∧ (¬ r10 = 0 → fm_read_b217 Q k73 v1 1 M9))))))))))))))
def fm_read_b115 (Q : Int32 → RM → Prop) (k73 : Int32 → Int32 → RM → Prop) (v1 : Int32) (v3 : Int32) (s0 : Int32) (M : RM) : Prop := fm_readArgument v3 M (fun (M12 : RM) => ((¬ (rI M12 27) = 0 → fm_read_b165 Q k73 v1 v3 M12) ∧ ((rI M12 27) = 0 → ((s0 = 0 → fm_read_b165 Q k73 v1 v3 M12) ∧ (¬ s0 = 0 → (vp_in v3 185 ∧ ((¬ (rA M12 6 v3.toNatClampNeg) = 0 → fm_read_b165 Q k73 v1 v3 M12) ∧ ((rA M12 6 v3.toNatClampNeg) = 0 → (vp_in v3 185 ∧ ((¬ (rA M12 7 v3.toNatClampNeg) = 0 → fm_read_b165 Q k73 v1 v3 M12) ∧ ((rA M12 7 v3.toNatClampNeg) = 0 → fm_next  M12 (fun (r21 : Int32) (M20 : RM) => fm_wrong (rI M20 26) M20 (fun (M22 : RM) => fm_read_b165 Q k73 v1 v3 M22)))))))))))))
def fm_read_b114 (Q : Int32 → RM → Prop) (k73 : Int32 → Int32 → RM → Prop) (v1 : Int32) (v3 : Int32) (M : RM) : Prop := fm_read_b115 Q k73 v1 v3 0 M
def fm_read_c73 (Q : Int32 → RM → Prop) (k73 : Int32 → Int32 → RM → Prop) (v1 : Int32) (v2 : Int32) (M : RM) : Prop := ((v2 = 0 → fm_want 41 M (fun (M25 : RM) => ((¬ (rI M25 27) = 0 → fm_read_b249 Q  v1 M25) ∧ ((rI M25 27) = 0 → fm_next  M25 (fun (r29 : Int32) (M28 : RM) => ((r29 = 0 → fm_read_b249 Q  v1 M28) ∧ (¬ r29 = 0 → fm_wrong (rI M28 26) M28 (fun (M31 : RM) => fm_read_b249 Q  v1 M31)))))))) ∧ (¬ v2 = 0 → (vp_in (36 : Int32) 37 ∧ (∀ x34 : Int32, x34 = 180 + (rA M 5 (36 : Int32).toNatClampNeg) → (vp_in (36 : Int32) 37 ∧ (((rA M 5 (36 : Int32).toNatClampNeg) ≤ 0 → fm_read_b114 Q k73 v1 x34 M) ∧ (¬ (rA M 5 (36 : Int32).toNatClampNeg) ≤ 0 → (vp_in (x34 - 1) 185 ∧ (((rA M 6 (x34 - 1).toNatClampNeg) = 0 → fm_read_b114 Q k73 v1 x34 M) ∧ (¬ (rA M 6 (x34 - 1).toNatClampNeg) = 0 → fm_read_b115 Q k73 v1 x34 1 M))))))))))
def fm_read_l73 (Q : Int32 → RM → Prop) : Nat → Int32 → Int32 → RM → Prop := lit (τ := Int32 → Int32 → RM → Prop) (fun _ _ _ => False) (fun k => fm_read_c73 Q  k)
def fm_read_b72 (Q : Int32 → RM → Prop) (v1 : Int32) (s0 : Int32) (M : RM) : Prop := (∃ nn : Nat, fm_read_l73 Q  nn v1 s0 M)
def fm_read_b71 (Q : Int32 → RM → Prop) (v1 : Int32) (M : RM) : Prop := fm_read_b72 Q  v1 0 M
def fm_read_b17 (Q : Int32 → RM → Prop) (M : RM) : Prop := fm_wrong (rI M 26) M (fun (M39 : RM) => Q 0 M39)
def fm_read (M : RM) (Q : Int32 → RM → Prop) : Prop := fm_next  M (fun (r42 : Int32) (M41 : RM) => ((r42 < 97 → fm_read_b17 Q   M41) ∧ (¬ r42 < 97 → ((r42 ≤ 102 → (∀ M45 : RM, M45 = wI M41 26 ((rI M41 26) + 1) → fm_want 40 M45 (fun (M46 : RM) => (vp_in (36 : Int32) 37 ∧ (∀ M49 : RM, M49 = wA M46 5 (36 : Int32).toNatClampNeg 0 → ((¬ (rI M49 27) = 0 → fm_read_b71 Q  r42 M49) ∧ ((rI M49 27) = 0 → fm_next  M49 (fun (r52 : Int32) (M51 : RM) => ((r52 = 41 → fm_read_b71 Q  r42 M51) ∧ (¬ r52 = 41 → fm_read_b72 Q  r42 1 M51)))))))))) ∧ (¬ r42 ≤ 102 → fm_read_b17 Q   M41)))))
abbrev rmX11_read : Room := { frames := 6, cells := 0, slots := 0, locals := 132 }
set_option maxHeartbeats 4000000 in
set_option maxRecDepth 100000 in
theorem tm_read (l : Launch) (D : va_G) (kA : Nat → ClassId) (h : Nat) (ad : Nat → Nat) (sz : Nat) (M : RM) (Q : Int32 → RM → Prop) (hw : fm_read  M Q) : Met l yX11_read wsX11_read rmX11_read (va_Pc [.ref h] (rPc D kA h ad M sz)) (va_Qi Q (rB D kA h ad (rF kA h ad M sz)) (rF kA h ad M sz)) 0 0 (rF kA h ad M sz) := by
  refine Met.ofW (cc := cX11_read) (maxL := 5) (ret := (some .int)) (by decide) rfl ?_
  intro p e s m args below meth c s₁ B hml hv
  obtain ⟨rfl, hsz, hP, hK, hD0⟩ := hv
  have hx := B.exec
  have hb := B.bytes
  have hr := B.returns
  have hts := atoms_spec (ws := wsX11_read) B.pre
  have hown : s.vm.findClass RX11 = some m.cls := findClass_of_methodNamed B.named
  have hlocks : meth.locks = false := B.notSynchronized
  subst hsz
  have hH : rH D kA h ad (rF kA h ad M s.heap.size) s.heap M s.heap [] := ⟨hP, hD0.self, va_S.rf⟩
  have hA : ∀ q : Nat, s.heap.size ≤ q → rF kA h ad M s.heap.size q := fun q z => Or.inr z
  generalize rF kA h ad M s.heap.size = A at hH hA ⊢
  have hl := lv_entry ([.ref h]) (n := 5) (Nat.le_of_ble_eq_true rfl)
  rw [lg_entry_eq]
  generalize (lg_sl ([.ref h]) ++ List.replicate (5 - (lg_sl ([.ref h])).length) Slot.unset).toArray = ls at hl ⊢
  generalize ([.ref h] : List Value).toArray = args at hts ⊢
  have hl : lv_has ls 5 [(0, .ref h)] := hl
  have hin : ∀ w ∈ wsX110, w ∈ wsX11_read := by decide +kernel
  have b249 : ∀ (v1 : Int32) (M : RM) (H : Heap) (locs : List Loc) (ls : Array Slot), rH D kA h ad A s.heap M H locs → lv_has ls 5 [(1, .int v1)] → fm_read_b249 Q  v1 M → W p l e (headSpec wsX11_read rmX11_read).room s m args below meth c H locs 0 0 (MQ below (va_Qi Q (rB D kA h ad A) A) args s 0 0 A) (F0 m 249 ls []) := by
    intro   v1 M H locs ls hH hl hw
    unfold fm_read_b249 at hw
    refine lv_iload_n hx hb dX11_read_249 rfl (lv_at hl 0 rfl) ?_
    refine lv_bipush (v := 97) hx hb dX11_read_250 (by decide) ?_
    refine lv_isub hx hb dX11_read_252 ?_
    exact r_reti hx hb hr hlocks hK hH hw dX11_read_253
  have b217 : ∀ (k73 : Int32 → Int32 → RM → Prop) (hk73 : ∀ (v1 : Int32) (v2 : Int32) (M : RM) (H : Heap) (locs : List Loc) (ls : Array Slot), rH D kA h ad A s.heap M H locs → lv_has ls 5 [(0, .ref h), (1, .int v1), (2, .int v2)] → k73 v1 v2 M → W p l e (headSpec wsX11_read rmX11_read).room s m args below meth c H locs 0 0 (MQ below (va_Qi Q (rB D kA h ad A) A) args s 0 0 A) (F0 m 73 ls [])) (v1 : Int32) (s0 : Int32) (M : RM) (H : Heap) (locs : List Loc) (ls : Array Slot), rH D kA h ad A s.heap M H locs → lv_has ls 5 [(0, .ref h), (1, .int v1)] → fm_read_b217 Q k73 v1 s0 M → W p l e (headSpec wsX11_read rmX11_read).room s m args below meth c H locs 0 0 (MQ below (va_Qi Q (rB D kA h ad A) A) args s 0 0 A) (F0 m 217 ls [.int s0]) := by
    intro k73 hk73 v1 s0 M H locs ls hH hl hw
    unfold fm_read_b217 at hw
    refine lv_istore_n (lv' := [(2, .int s0), (0, .ref h), (1, .int v1)]) hx hb dX11_read_217 rfl hl (by decide) rfl (fun ls hl => ?_)
    refine lv_goto (tgt := 73) hx hb dX11_read_218 (by decide) ?_
    exact hk73 v1 s0 M H locs ls hH (lv_sub hl [1, 2, 0] rfl) hw
  have b216 : ∀ (k73 : Int32 → Int32 → RM → Prop) (hk73 : ∀ (v1 : Int32) (v2 : Int32) (M : RM) (H : Heap) (locs : List Loc) (ls : Array Slot), rH D kA h ad A s.heap M H locs → lv_has ls 5 [(0, .ref h), (1, .int v1), (2, .int v2)] → k73 v1 v2 M → W p l e (headSpec wsX11_read rmX11_read).room s m args below meth c H locs 0 0 (MQ below (va_Qi Q (rB D kA h ad A) A) args s 0 0 A) (F0 m 73 ls [])) (v1 : Int32) (M : RM) (H : Heap) (locs : List Loc) (ls : Array Slot), rH D kA h ad A s.heap M H locs → lv_has ls 5 [(0, .ref h), (1, .int v1)] → fm_read_b216 Q k73 v1 M → W p l e (headSpec wsX11_read rmX11_read).room s m args below meth c H locs 0 0 (MQ below (va_Qi Q (rB D kA h ad A) A) args s 0 0 A) (F0 m 216 ls []) := by
    intro k73 hk73 v1 M H locs ls hH hl hw
    unfold fm_read_b216 at hw
    refine lv_iconst (v := 0) hx hb dX11_read_216 (by decide) ?_
    exact b217 _ hk73 v1 0 M H locs ls hH (lv_sub hl [0, 1] rfl) hw
  have b165 : ∀ (k73 : Int32 → Int32 → RM → Prop) (hk73 : ∀ (v1 : Int32) (v2 : Int32) (M : RM) (H : Heap) (locs : List Loc) (ls : Array Slot), rH D kA h ad A s.heap M H locs → lv_has ls 5 [(0, .ref h), (1, .int v1), (2, .int v2)] → k73 v1 v2 M → W p l e (headSpec wsX11_read rmX11_read).room s m args below meth c H locs 0 0 (MQ below (va_Qi Q (rB D kA h ad A) A) args s 0 0 A) (F0 m 73 ls [])) (v1 : Int32) (v3 : Int32) (M : RM) (H : Heap) (locs : List Loc) (ls : Array Slot), rH D kA h ad A s.heap M H locs → lv_has ls 5 [(0, .ref h), (1, .int v1), (3, .int v3)] → fm_read_b165 Q k73 v1 v3 M → W p l e (headSpec wsX11_read rmX11_read).room s m args below meth c H locs 0 0 (MQ below (va_Qi Q (rB D kA h ad A) A) args s 0 0 A) (F0 m 165 ls []) := by
    intro k73 hk73 v1 v3 M H locs ls hH hl hw
    unfold fm_read_b165 at hw
    refine lv_aload_n hx hb dX11_read_165 rfl (lv_at hl 0 rfl) ?_
    refine rg_5 hx hb hts hin hown hK hH (hts (.fieldLink RX11 21 "IdlCallerModel" "many" "[I") (by decide +kernel)) dX11_read_166 ?_
    refine lv_bipush (v := 36) hx hb dX11_read_169 (by decide) ?_
    refine lv_dup2_11 hx hb dX11_read_171 rfl rfl ?_
    obtain ⟨h1, hw⟩ := hw
    refine rl_5 hx hb hK hH h1 dX11_read_172 ?_
    refine lv_iconst (v := 1) hx hb dX11_read_173 (by decide) ?_
    refine lv_iadd hx hb dX11_read_174 ?_
    obtain ⟨h2, hw⟩ := hw
    refine rs_5 hx hb hK hH h2 dX11_read_175 (fun M3 H locs eM3 hH => ?_)
    replace hw := hw M3 eM3
    refine lv_aload_n hx hb dX11_read_176 rfl (lv_at hl 0 rfl) ?_
    refine rg_27 hx hb hts hin hown hK hH (hts (.fieldLink RX11 95 "IdlCallerModel" "isWrong" "Z") (by decide +kernel)) dX11_read_177 ?_
    refine lv_if_ne (tgt := 216) hx hb dX11_read_180 (by decide) (fun c4 => ?_) (fun c4 => ?_)
    · replace hw := hw.1 c4
      exact b216 _ hk73 v1 M3 H locs ls hH (lv_sub hl [0, 1] rfl) hw
    · replace hw := hw.2 c4
      refine lv_aload_n hx hb dX11_read_183 rfl (lv_at hl 0 rfl) ?_
      refine rg_5 hx hb hts hin hown hK hH (hts (.fieldLink RX11 21 "IdlCallerModel" "many" "[I") (by decide +kernel)) dX11_read_184 ?_
      refine lv_bipush (v := 36) hx hb dX11_read_187 (by decide) ?_
      obtain ⟨h5, hw⟩ := hw
      refine rl_5 hx hb hK hH h5 dX11_read_189 ?_
      refine lv_iconst (v := 5) hx hb dX11_read_190 (by decide) ?_
      refine lv_icmp_ge (tgt := 216) hx hb dX11_read_191 (by decide) (fun c6 => ?_) (fun c6 => ?_)
      · replace hw := hw.1 c6
        exact b216 _ hk73 v1 M3 H locs ls hH (lv_sub hl [0, 1] rfl) hw
      · replace hw := hw.2 c6
        refine lv_aload_n hx hb dX11_read_194 rfl (lv_at hl 0 rfl) ?_
        refine rg_7 hx hb hts hin hown hK hH (hts (.fieldLink RX11 28 "IdlCallerModel" "isVariadic" "[Z") (by decide +kernel)) dX11_read_195 ?_
        refine lv_iload_n hx hb dX11_read_198 rfl (lv_at hl 2 rfl) ?_
        obtain ⟨h7, hw⟩ := hw
        refine rl_7 hx hb hK hH h7 dX11_read_199 ?_
        refine lv_if_ne (tgt := 216) hx hb dX11_read_200 (by decide) (fun c8 => ?_) (fun c8 => ?_)
        · replace hw := hw.1 c8
          exact b216 _ hk73 v1 M3 H locs ls hH (lv_sub hl [0, 1] rfl) hw
        · replace hw := hw.2 c8
          refine lv_aload_n hx hb dX11_read_203 rfl (lv_at hl 0 rfl) ?_
          refine lv_bipush (v := 44) hx hb dX11_read_204 (by decide) ?_
          refine r_calli (va_runV (As := [.int 44]) (rest := []) ⟨hx, hb, hml, hown, hts⟩ (tm_takes l D kA h ad H.size M3 44 _ hw) (cwV 1 hts gX11_read_X11_takes rfl rfl rfl (by decide +kernel) ⟨Nat.le_of_ble_eq_true rfl, Nat.le_of_ble_eq_true rfl⟩) (r_preV hK hH) rfl rfl hl.1 rfl (lv_room (Nat.le_of_ble_eq_true rfl)) dX11_read_206 ⟨Nat.le_of_ble_eq_true rfl, Nat.le_of_ble_eq_true rfl⟩) hH hA (fun r10 M9 H locs hw hH => ?_)
          refine lv_if_eq (tgt := 216) hx hb dX11_read_209 (by decide) (fun c11 => ?_) (fun c11 => ?_)
          · replace hw := hw.1 c11
            exact b216 _ hk73 v1 M9 H locs ls hH (lv_sub hl [0, 1] rfl) hw
          · replace hw := hw.2 c11
            refine lv_iconst (v := 1) hx hb dX11_read_212 (by decide) ?_
            refine lv_goto (tgt := 217) hx hb dX11_read_213 (by decide) ?_
            exact b217 _ hk73 v1 1 M9 H locs ls hH (lv_sub hl [0, 1] rfl) hw
  have b115 : ∀ (k73 : Int32 → Int32 → RM → Prop) (hk73 : ∀ (v1 : Int32) (v2 : Int32) (M : RM) (H : Heap) (locs : List Loc) (ls : Array Slot), rH D kA h ad A s.heap M H locs → lv_has ls 5 [(0, .ref h), (1, .int v1), (2, .int v2)] → k73 v1 v2 M → W p l e (headSpec wsX11_read rmX11_read).room s m args below meth c H locs 0 0 (MQ below (va_Qi Q (rB D kA h ad A) A) args s 0 0 A) (F0 m 73 ls [])) (v1 : Int32) (v3 : Int32) (s0 : Int32) (M : RM) (H : Heap) (locs : List Loc) (ls : Array Slot), rH D kA h ad A s.heap M H locs → lv_has ls 5 [(0, .ref h), (1, .int v1), (3, .int v3)] → fm_read_b115 Q k73 v1 v3 s0 M → W p l e (headSpec wsX11_read rmX11_read).room s m args below meth c H locs 0 0 (MQ below (va_Qi Q (rB D kA h ad A) A) args s 0 0 A) (F0 m 115 ls [.int s0]) := by
    intro k73 hk73 v1 v3 s0 M H locs ls hH hl hw
    unfold fm_read_b115 at hw
    refine lv_istore (lv' := [(4, .int s0), (0, .ref h), (1, .int v1), (3, .int v3)]) hx hb dX11_read_115 hl (by decide) rfl (fun ls hl => ?_)
    refine lv_aload_n hx hb dX11_read_117 rfl (lv_at hl 1 rfl) ?_
    refine lv_iload_n hx hb dX11_read_118 rfl (lv_at hl 3 rfl) ?_
    refine r_callv (va_runV (As := [.int v3]) (rest := []) ⟨hx, hb, hml, hown, hts⟩ (tm_readArgument l D kA h ad H.size M v3 _ hw) (cwV 1 hts gX11_read_X11_readArgument rfl rfl rfl (by decide +kernel) ⟨Nat.le_of_ble_eq_true rfl, Nat.le_of_ble_eq_true rfl⟩) (r_preV hK hH) rfl rfl hl.1 rfl (lv_room (Nat.le_of_ble_eq_true rfl)) dX11_read_119 ⟨Nat.le_of_ble_eq_true rfl, Nat.le_of_ble_eq_true rfl⟩) hH hA (fun M12 H locs hw hH => ?_)
    refine lv_aload_n hx hb dX11_read_122 rfl (lv_at hl 1 rfl) ?_
    refine rg_27 hx hb hts hin hown hK hH (hts (.fieldLink RX11 95 "IdlCallerModel" "isWrong" "Z") (by decide +kernel)) dX11_read_123 ?_
    refine lv_if_ne (tgt := 165) hx hb dX11_read_126 (by decide) (fun c14 => ?_) (fun c14 => ?_)
    · replace hw := hw.1 c14
      exact b165 _ hk73 v1 v3 M12 H locs ls hH (lv_sub hl [1, 2, 3] rfl) hw
    · replace hw := hw.2 c14
      refine lv_iload hx hb dX11_read_129 (lv_at hl 0 rfl) ?_
      refine lv_if_eq (tgt := 165) hx hb dX11_read_131 (by decide) (fun c15 => ?_) (fun c15 => ?_)
      · replace hw := hw.1 c15
        exact b165 _ hk73 v1 v3 M12 H locs ls hH (lv_sub hl [1, 2, 3] rfl) hw
      · replace hw := hw.2 c15
        refine lv_aload_n hx hb dX11_read_134 rfl (lv_at hl 1 rfl) ?_
        refine rg_6 hx hb hts hin hown hK hH (hts (.fieldLink RX11 24 "IdlCallerModel" "isOptional" "[Z") (by decide +kernel)) dX11_read_135 ?_
        refine lv_iload_n hx hb dX11_read_138 rfl (lv_at hl 3 rfl) ?_
        obtain ⟨h16, hw⟩ := hw
        refine rl_6 hx hb hK hH h16 dX11_read_139 ?_
        refine lv_if_ne (tgt := 165) hx hb dX11_read_140 (by decide) (fun c17 => ?_) (fun c17 => ?_)
        · replace hw := hw.1 c17
          exact b165 _ hk73 v1 v3 M12 H locs ls hH (lv_sub hl [1, 2, 3] rfl) hw
        · replace hw := hw.2 c17
          refine lv_aload_n hx hb dX11_read_143 rfl (lv_at hl 1 rfl) ?_
          refine rg_7 hx hb hts hin hown hK hH (hts (.fieldLink RX11 28 "IdlCallerModel" "isVariadic" "[Z") (by decide +kernel)) dX11_read_144 ?_
          refine lv_iload_n hx hb dX11_read_147 rfl (lv_at hl 3 rfl) ?_
          obtain ⟨h18, hw⟩ := hw
          refine rl_7 hx hb hK hH h18 dX11_read_148 ?_
          refine lv_if_ne (tgt := 165) hx hb dX11_read_149 (by decide) (fun c19 => ?_) (fun c19 => ?_)
          · replace hw := hw.1 c19
            exact b165 _ hk73 v1 v3 M12 H locs ls hH (lv_sub hl [1, 2, 3] rfl) hw
          · replace hw := hw.2 c19
            refine lv_aload_n hx hb dX11_read_152 rfl (lv_at hl 1 rfl) ?_
            refine r_calli (va_runV (As := []) (rest := []) ⟨hx, hb, hml, hown, hts⟩ (tm_next l D kA h ad H.size M12  _ hw) (cwV 0 hts gX11_read_X11_next rfl rfl rfl (by decide +kernel) ⟨Nat.le_of_ble_eq_true rfl, Nat.le_of_ble_eq_true rfl⟩) (r_preV hK hH) rfl rfl hl.1 rfl (lv_room (Nat.le_of_ble_eq_true rfl)) dX11_read_153 ⟨Nat.le_of_ble_eq_true rfl, Nat.le_of_ble_eq_true rfl⟩) hH hA (fun r21 M20 H locs hw hH => ?_)
            refine lv_pop hx hb dX11_read_156 rfl ?_
            refine lv_aload_n hx hb dX11_read_157 rfl (lv_at hl 1 rfl) ?_
            refine lv_aload_n hx hb dX11_read_158 rfl (lv_at hl 1 rfl) ?_
            refine rg_26 hx hb hts hin hown hK hH (hts (.fieldLink RX11 92 "IdlCallerModel" "at" "I") (by decide +kernel)) dX11_read_159 ?_
            refine r_callv (va_runV (As := [.int (rI M20 26)]) (rest := []) ⟨hx, hb, hml, hown, hts⟩ (tm_wrong l D kA h ad H.size M20 (rI M20 26) _ hw) (cwV 1 hts gX11_read_X11_wrong rfl rfl rfl (by decide +kernel) ⟨Nat.le_of_ble_eq_true rfl, Nat.le_of_ble_eq_true rfl⟩) (r_preV hK hH) rfl rfl hl.1 rfl (lv_room (Nat.le_of_ble_eq_true rfl)) dX11_read_162 ⟨Nat.le_of_ble_eq_true rfl, Nat.le_of_ble_eq_true rfl⟩) hH hA (fun M22 H locs hw hH => ?_)
            exact b165 _ hk73 v1 v3 M22 H locs ls hH (lv_sub hl [1, 2, 3] rfl) hw
  have b114 : ∀ (k73 : Int32 → Int32 → RM → Prop) (hk73 : ∀ (v1 : Int32) (v2 : Int32) (M : RM) (H : Heap) (locs : List Loc) (ls : Array Slot), rH D kA h ad A s.heap M H locs → lv_has ls 5 [(0, .ref h), (1, .int v1), (2, .int v2)] → k73 v1 v2 M → W p l e (headSpec wsX11_read rmX11_read).room s m args below meth c H locs 0 0 (MQ below (va_Qi Q (rB D kA h ad A) A) args s 0 0 A) (F0 m 73 ls [])) (v1 : Int32) (v3 : Int32) (M : RM) (H : Heap) (locs : List Loc) (ls : Array Slot), rH D kA h ad A s.heap M H locs → lv_has ls 5 [(0, .ref h), (1, .int v1), (3, .int v3)] → fm_read_b114 Q k73 v1 v3 M → W p l e (headSpec wsX11_read rmX11_read).room s m args below meth c H locs 0 0 (MQ below (va_Qi Q (rB D kA h ad A) A) args s 0 0 A) (F0 m 114 ls []) := by
    intro k73 hk73 v1 v3 M H locs ls hH hl hw
    unfold fm_read_b114 at hw
    refine lv_iconst (v := 0) hx hb dX11_read_114 (by decide) ?_
    exact b115 _ hk73 v1 v3 0 M H locs ls hH (lv_sub hl [0, 1, 2] rfl) hw
  have l73 : ∀ (nn : Nat) (v1 : Int32) (v2 : Int32) (M : RM) (H : Heap) (locs : List Loc) (ls : Array Slot), rH D kA h ad A s.heap M H locs → lv_has ls 5 [(0, .ref h), (1, .int v1), (2, .int v2)] → fm_read_l73 Q  nn v1 v2 M → W p l e (headSpec wsX11_read rmX11_read).room s m args below meth c H locs 0 0 (MQ below (va_Qi Q (rB D kA h ad A) A) args s 0 0 A) (F0 m 73 ls []) := by
    intro   nn
    induction nn with
    | zero => intro v1 v2 M H locs ls hH hl hw; exact False.elim hw
    | succ nn hk73 =>
      intro v1 v2 M H locs ls hH hl hw
      replace hw : fm_read_c73 Q  (fm_read_l73 Q  nn) v1 v2 M := hw
      unfold fm_read_c73 at hw
      refine lv_iload_n hx hb dX11_read_73 rfl (lv_at hl 2 rfl) ?_
      refine lv_if_eq (tgt := 221) hx hb dX11_read_74 (by decide) (fun c24 => ?_) (fun c24 => ?_)
      · replace hw := hw.1 c24
        refine lv_aload_n hx hb dX11_read_221 rfl (lv_at hl 0 rfl) ?_
        refine lv_bipush (v := 41) hx hb dX11_read_222 (by decide) ?_
        refine r_callv (va_runV (As := [.int 41]) (rest := []) ⟨hx, hb, hml, hown, hts⟩ (tm_want l D kA h ad H.size M 41 _ hw) (cwV 1 hts gX11_read_X11_want rfl rfl rfl (by decide +kernel) ⟨Nat.le_of_ble_eq_true rfl, Nat.le_of_ble_eq_true rfl⟩) (r_preV hK hH) rfl rfl hl.1 rfl (lv_room (Nat.le_of_ble_eq_true rfl)) dX11_read_224 ⟨Nat.le_of_ble_eq_true rfl, Nat.le_of_ble_eq_true rfl⟩) hH hA (fun M25 H locs hw hH => ?_)
        refine lv_aload_n hx hb dX11_read_227 rfl (lv_at hl 0 rfl) ?_
        refine rg_27 hx hb hts hin hown hK hH (hts (.fieldLink RX11 95 "IdlCallerModel" "isWrong" "Z") (by decide +kernel)) dX11_read_228 ?_
        refine lv_if_ne (tgt := 249) hx hb dX11_read_231 (by decide) (fun c27 => ?_) (fun c27 => ?_)
        · replace hw := hw.1 c27
          exact b249   v1 M25 H locs ls hH (lv_sub hl [1] rfl) hw
        · replace hw := hw.2 c27
          refine lv_aload_n hx hb dX11_read_234 rfl (lv_at hl 0 rfl) ?_
          refine r_calli (va_runV (As := []) (rest := []) ⟨hx, hb, hml, hown, hts⟩ (tm_next l D kA h ad H.size M25  _ hw) (cwV 0 hts gX11_read_X11_next rfl rfl rfl (by decide +kernel) ⟨Nat.le_of_ble_eq_true rfl, Nat.le_of_ble_eq_true rfl⟩) (r_preV hK hH) rfl rfl hl.1 rfl (lv_room (Nat.le_of_ble_eq_true rfl)) dX11_read_235 ⟨Nat.le_of_ble_eq_true rfl, Nat.le_of_ble_eq_true rfl⟩) hH hA (fun r29 M28 H locs hw hH => ?_)
          refine lv_if_eq (tgt := 249) hx hb dX11_read_238 (by decide) (fun c30 => ?_) (fun c30 => ?_)
          · replace hw := hw.1 c30
            exact b249   v1 M28 H locs ls hH (lv_sub hl [1] rfl) hw
          · replace hw := hw.2 c30
            refine lv_aload_n hx hb dX11_read_241 rfl (lv_at hl 0 rfl) ?_
            refine lv_aload_n hx hb dX11_read_242 rfl (lv_at hl 0 rfl) ?_
            refine rg_26 hx hb hts hin hown hK hH (hts (.fieldLink RX11 92 "IdlCallerModel" "at" "I") (by decide +kernel)) dX11_read_243 ?_
            refine r_callv (va_runV (As := [.int (rI M28 26)]) (rest := []) ⟨hx, hb, hml, hown, hts⟩ (tm_wrong l D kA h ad H.size M28 (rI M28 26) _ hw) (cwV 1 hts gX11_read_X11_wrong rfl rfl rfl (by decide +kernel) ⟨Nat.le_of_ble_eq_true rfl, Nat.le_of_ble_eq_true rfl⟩) (r_preV hK hH) rfl rfl hl.1 rfl (lv_room (Nat.le_of_ble_eq_true rfl)) dX11_read_246 ⟨Nat.le_of_ble_eq_true rfl, Nat.le_of_ble_eq_true rfl⟩) hH hA (fun M31 H locs hw hH => ?_)
            exact b249   v1 M31 H locs ls hH (lv_sub hl [1] rfl) hw
      · replace hw := hw.2 c24
        refine lv_sipush (v := 180) hx hb dX11_read_77 (by decide) ?_
        refine lv_aload_n hx hb dX11_read_80 rfl (lv_at hl 0 rfl) ?_
        refine rg_5 hx hb hts hin hown hK hH (hts (.fieldLink RX11 21 "IdlCallerModel" "many" "[I") (by decide +kernel)) dX11_read_81 ?_
        refine lv_bipush (v := 36) hx hb dX11_read_84 (by decide) ?_
        obtain ⟨h33, hw⟩ := hw
        refine rl_5 hx hb hK hH h33 dX11_read_86 ?_
        refine lv_iadd hx hb dX11_read_87 ?_
        refine lv_topi (fun x34 ex34 => ?_)
        replace hw := hw x34 ex34
        refine lv_istore_n (lv' := [(3, .int x34), (0, .ref h), (1, .int v1), (2, .int v2)]) hx hb dX11_read_88 rfl hl (by decide) rfl (fun ls hl => ?_)
        refine lv_aload_n hx hb dX11_read_89 rfl (lv_at hl 1 rfl) ?_
        refine rg_5 hx hb hts hin hown hK hH (hts (.fieldLink RX11 21 "IdlCallerModel" "many" "[I") (by decide +kernel)) dX11_read_90 ?_
        refine lv_bipush (v := 36) hx hb dX11_read_93 (by decide) ?_
        obtain ⟨h35, hw⟩ := hw
        refine rl_5 hx hb hK hH h35 dX11_read_95 ?_
        refine lv_if_le (tgt := 114) hx hb dX11_read_96 (by decide) (fun c36 => ?_) (fun c36 => ?_)
        · replace hw := hw.1 c36
          exact b114 _ hk73 v1 x34 M H locs ls hH (lv_sub hl [1, 2, 0] rfl) hw
        · replace hw := hw.2 c36
          refine lv_aload_n hx hb dX11_read_99 rfl (lv_at hl 1 rfl) ?_
          refine rg_6 hx hb hts hin hown hK hH (hts (.fieldLink RX11 24 "IdlCallerModel" "isOptional" "[Z") (by decide +kernel)) dX11_read_100 ?_
          refine lv_iload_n hx hb dX11_read_103 rfl (lv_at hl 0 rfl) ?_
          refine lv_iconst (v := 1) hx hb dX11_read_104 (by decide) ?_
          refine lv_isub hx hb dX11_read_105 ?_
          obtain ⟨h37, hw⟩ := hw
          refine rl_6 hx hb hK hH h37 dX11_read_106 ?_
          refine lv_if_eq (tgt := 114) hx hb dX11_read_107 (by decide) (fun c38 => ?_) (fun c38 => ?_)
          · replace hw := hw.1 c38
            exact b114 _ hk73 v1 x34 M H locs ls hH (lv_sub hl [1, 2, 0] rfl) hw
          · replace hw := hw.2 c38
            refine lv_iconst (v := 1) hx hb dX11_read_110 (by decide) ?_
            refine lv_goto (tgt := 115) hx hb dX11_read_111 (by decide) ?_
            exact b115 _ hk73 v1 x34 1 M H locs ls hH (lv_sub hl [1, 2, 0] rfl) hw
  have b72 : ∀ (v1 : Int32) (s0 : Int32) (M : RM) (H : Heap) (locs : List Loc) (ls : Array Slot), rH D kA h ad A s.heap M H locs → lv_has ls 5 [(0, .ref h), (1, .int v1)] → fm_read_b72 Q  v1 s0 M → W p l e (headSpec wsX11_read rmX11_read).room s m args below meth c H locs 0 0 (MQ below (va_Qi Q (rB D kA h ad A) A) args s 0 0 A) (F0 m 72 ls [.int s0]) := by
    intro   v1 s0 M H locs ls hH hl hw
    unfold fm_read_b72 at hw
    refine lv_istore_n (lv' := [(2, .int s0), (0, .ref h), (1, .int v1)]) hx hb dX11_read_72 rfl hl (by decide) rfl (fun ls hl => ?_)
    obtain ⟨nn, hw⟩ := hw
    exact l73   nn v1 s0 M H locs ls hH (lv_sub hl [1, 2, 0] rfl) hw
  have b71 : ∀ (v1 : Int32) (M : RM) (H : Heap) (locs : List Loc) (ls : Array Slot), rH D kA h ad A s.heap M H locs → lv_has ls 5 [(0, .ref h), (1, .int v1)] → fm_read_b71 Q  v1 M → W p l e (headSpec wsX11_read rmX11_read).room s m args below meth c H locs 0 0 (MQ below (va_Qi Q (rB D kA h ad A) A) args s 0 0 A) (F0 m 71 ls []) := by
    intro   v1 M H locs ls hH hl hw
    unfold fm_read_b71 at hw
    refine lv_iconst (v := 0) hx hb dX11_read_71 (by decide) ?_
    exact b72   v1 0 M H locs ls hH (lv_sub hl [0, 1] rfl) hw
  have b17 : ∀ (M : RM) (H : Heap) (locs : List Loc) (ls : Array Slot), rH D kA h ad A s.heap M H locs → lv_has ls 5 [(0, .ref h)] → fm_read_b17 Q   M → W p l e (headSpec wsX11_read rmX11_read).room s m args below meth c H locs 0 0 (MQ below (va_Qi Q (rB D kA h ad A) A) args s 0 0 A) (F0 m 17 ls []) := by
    intro    M H locs ls hH hl hw
    unfold fm_read_b17 at hw
    refine lv_aload_n hx hb dX11_read_17 rfl (lv_at hl 0 rfl) ?_
    refine lv_aload_n hx hb dX11_read_18 rfl (lv_at hl 0 rfl) ?_
    refine rg_26 hx hb hts hin hown hK hH (hts (.fieldLink RX11 92 "IdlCallerModel" "at" "I") (by decide +kernel)) dX11_read_19 ?_
    refine r_callv (va_runV (As := [.int (rI M 26)]) (rest := []) ⟨hx, hb, hml, hown, hts⟩ (tm_wrong l D kA h ad H.size M (rI M 26) _ hw) (cwV 1 hts gX11_read_X11_wrong rfl rfl rfl (by decide +kernel) ⟨Nat.le_of_ble_eq_true rfl, Nat.le_of_ble_eq_true rfl⟩) (r_preV hK hH) rfl rfl hl.1 rfl (lv_room (Nat.le_of_ble_eq_true rfl)) dX11_read_22 ⟨Nat.le_of_ble_eq_true rfl, Nat.le_of_ble_eq_true rfl⟩) hH hA (fun M39 H locs hw hH => ?_)
    refine lv_iconst (v := 0) hx hb dX11_read_25 (by decide) ?_
    exact r_reti hx hb hr hlocks hK hH hw dX11_read_26
  clear hP hD0
  unfold fm_read at hw
  have hst : ∀ (M : RM) (H : Heap) (locs : List Loc) (ls : Array Slot), rH D kA h ad A s.heap M H locs → lv_has ls 5 [(0, .ref h)] → fm_next  M (fun (r42 : Int32) (M41 : RM) => ((r42 < 97 → fm_read_b17 Q   M41) ∧ (¬ r42 < 97 → ((r42 ≤ 102 → (∀ M45 : RM, M45 = wI M41 26 ((rI M41 26) + 1) → fm_want 40 M45 (fun (M46 : RM) => (vp_in (36 : Int32) 37 ∧ (∀ M49 : RM, M49 = wA M46 5 (36 : Int32).toNatClampNeg 0 → ((¬ (rI M49 27) = 0 → fm_read_b71 Q  r42 M49) ∧ ((rI M49 27) = 0 → fm_next  M49 (fun (r52 : Int32) (M51 : RM) => ((r52 = 41 → fm_read_b71 Q  r42 M51) ∧ (¬ r52 = 41 → fm_read_b72 Q  r42 1 M51)))))))))) ∧ (¬ r42 ≤ 102 → fm_read_b17 Q   M41))))) → W p l e (headSpec wsX11_read rmX11_read).room s m args below meth c H locs 0 0 (MQ below (va_Qi Q (rB D kA h ad A) A) args s 0 0 A) (F0 m 0 ls []) := by
    intro M H locs ls hH hl hw
    refine lv_aload_n hx hb dX11_read_0 rfl (lv_at hl 0 rfl) ?_
    refine r_calli (va_runV (As := []) (rest := []) ⟨hx, hb, hml, hown, hts⟩ (tm_next l D kA h ad H.size M  _ hw) (cwV 0 hts gX11_read_X11_next rfl rfl rfl (by decide +kernel) ⟨Nat.le_of_ble_eq_true rfl, Nat.le_of_ble_eq_true rfl⟩) (r_preV hK hH) rfl rfl hl.1 rfl (lv_room (Nat.le_of_ble_eq_true rfl)) dX11_read_1 ⟨Nat.le_of_ble_eq_true rfl, Nat.le_of_ble_eq_true rfl⟩) hH hA (fun r42 M41 H locs hw hH => ?_)
    refine lv_istore_n (lv' := [(1, .int r42), (0, .ref h)]) hx hb dX11_read_4 rfl hl (by decide) rfl (fun ls hl => ?_)
    refine lv_iload_n hx hb dX11_read_5 rfl (lv_at hl 0 rfl) ?_
    refine lv_bipush (v := 97) hx hb dX11_read_6 (by decide) ?_
    refine lv_icmp_lt (tgt := 17) hx hb dX11_read_8 (by decide) (fun c43 => ?_) (fun c43 => ?_)
    · replace hw := hw.1 c43
      exact b17    M41 H locs ls hH (lv_sub hl [1] rfl) hw
    · replace hw := hw.2 c43
      refine lv_iload_n hx hb dX11_read_11 rfl (lv_at hl 0 rfl) ?_
      refine lv_bipush (v := 102) hx hb dX11_read_12 (by decide) ?_
      refine lv_icmp_le (tgt := 27) hx hb dX11_read_14 (by decide) (fun c44 => ?_) (fun c44 => ?_)
      · replace hw := hw.1 c44
        refine lv_aload_n hx hb dX11_read_27 rfl (lv_at hl 1 rfl) ?_
        refine lv_dup hx hb dX11_read_28 rfl ?_
        refine rg_26 hx hb hts hin hown hK hH (hts (.fieldLink RX11 92 "IdlCallerModel" "at" "I") (by decide +kernel)) dX11_read_29 ?_
        refine lv_iconst (v := 1) hx hb dX11_read_32 (by decide) ?_
        refine lv_iadd hx hb dX11_read_33 ?_
        refine rp_26 hx hb hts hin hown hK hH (hts (.fieldLink RX11 92 "IdlCallerModel" "at" "I") (by decide +kernel)) dX11_read_34 (fun M45 H locs eM45 hH => ?_)
        replace hw := hw M45 eM45
        refine lv_aload_n hx hb dX11_read_37 rfl (lv_at hl 1 rfl) ?_
        refine lv_bipush (v := 40) hx hb dX11_read_38 (by decide) ?_
        refine r_callv (va_runV (As := [.int 40]) (rest := []) ⟨hx, hb, hml, hown, hts⟩ (tm_want l D kA h ad H.size M45 40 _ hw) (cwV 1 hts gX11_read_X11_want rfl rfl rfl (by decide +kernel) ⟨Nat.le_of_ble_eq_true rfl, Nat.le_of_ble_eq_true rfl⟩) (r_preV hK hH) rfl rfl hl.1 rfl (lv_room (Nat.le_of_ble_eq_true rfl)) dX11_read_40 ⟨Nat.le_of_ble_eq_true rfl, Nat.le_of_ble_eq_true rfl⟩) hH hA (fun M46 H locs hw hH => ?_)
        refine lv_aload_n hx hb dX11_read_43 rfl (lv_at hl 1 rfl) ?_
        refine rg_5 hx hb hts hin hown hK hH (hts (.fieldLink RX11 21 "IdlCallerModel" "many" "[I") (by decide +kernel)) dX11_read_44 ?_
        refine lv_bipush (v := 36) hx hb dX11_read_47 (by decide) ?_
        refine lv_iconst (v := 0) hx hb dX11_read_49 (by decide) ?_
        obtain ⟨h48, hw⟩ := hw
        refine rs_5 hx hb hK hH h48 dX11_read_50 (fun M49 H locs eM49 hH => ?_)
        replace hw := hw M49 eM49
        refine lv_aload_n hx hb dX11_read_51 rfl (lv_at hl 1 rfl) ?_
        refine rg_27 hx hb hts hin hown hK hH (hts (.fieldLink RX11 95 "IdlCallerModel" "isWrong" "Z") (by decide +kernel)) dX11_read_52 ?_
        refine lv_if_ne (tgt := 71) hx hb dX11_read_55 (by decide) (fun c50 => ?_) (fun c50 => ?_)
        · replace hw := hw.1 c50
          exact b71   r42 M49 H locs ls hH (lv_sub hl [1, 0] rfl) hw
        · replace hw := hw.2 c50
          refine lv_aload_n hx hb dX11_read_58 rfl (lv_at hl 1 rfl) ?_
          refine r_calli (va_runV (As := []) (rest := []) ⟨hx, hb, hml, hown, hts⟩ (tm_next l D kA h ad H.size M49  _ hw) (cwV 0 hts gX11_read_X11_next rfl rfl rfl (by decide +kernel) ⟨Nat.le_of_ble_eq_true rfl, Nat.le_of_ble_eq_true rfl⟩) (r_preV hK hH) rfl rfl hl.1 rfl (lv_room (Nat.le_of_ble_eq_true rfl)) dX11_read_59 ⟨Nat.le_of_ble_eq_true rfl, Nat.le_of_ble_eq_true rfl⟩) hH hA (fun r52 M51 H locs hw hH => ?_)
          refine lv_bipush (v := 41) hx hb dX11_read_62 (by decide) ?_
          refine lv_icmp_eq (tgt := 71) hx hb dX11_read_64 (by decide) (fun c53 => ?_) (fun c53 => ?_)
          · replace hw := hw.1 c53
            exact b71   r42 M51 H locs ls hH (lv_sub hl [1, 0] rfl) hw
          · replace hw := hw.2 c53
            refine lv_iconst (v := 1) hx hb dX11_read_67 (by decide) ?_
            refine lv_goto (tgt := 72) hx hb dX11_read_68 (by decide) ?_
            exact b72   r42 1 M51 H locs ls hH (lv_sub hl [1, 0] rfl) hw
      · replace hw := hw.2 c44
        exact b17    M41 H locs ls hH (lv_sub hl [1] rfl) hw
  exact hst M s.heap [] ls hH hl hw
def fm_least_b47 (Q : Int32 → RM → Prop) (v2 : Int32) (M : RM) : Prop := Q v2 M
def fm_least_b41 (Q : Int32 → RM → Prop) (k7 : Int32 → Int32 → RM → Prop) (v1 : Int32) (v2 : Int32) (M : RM) : Prop := (∀ x1 : Int32, x1 = v2 + (-1) → k7 v1 x1 M)
def fm_least_c7 (Q : Int32 → RM → Prop) (k7 : Int32 → Int32 → RM → Prop) (v1 : Int32) (v2 : Int32) (M : RM) : Prop := ((v2 ≤ 0 → fm_least_b47 Q  v2 M) ∧ (¬ v2 ≤ 0 → (vp_in (((5 * v1) + v2) - 1) 185 ∧ ((¬ (rA M 6 (((5 * v1) + v2) - 1).toNatClampNeg) = 0 → fm_least_b41 Q k7 v1 v2 M) ∧ ((rA M 6 (((5 * v1) + v2) - 1).toNatClampNeg) = 0 → (vp_in (((5 * v1) + v2) - 1) 185 ∧ (((rA M 7 (((5 * v1) + v2) - 1).toNatClampNeg) = 0 → fm_least_b47 Q  v2 M) ∧ (¬ (rA M 7 (((5 * v1) + v2) - 1).toNatClampNeg) = 0 → fm_least_b41 Q k7 v1 v2 M))))))))
def fm_least_l7 (Q : Int32 → RM → Prop) : Nat → Int32 → Int32 → RM → Prop := lit (τ := Int32 → Int32 → RM → Prop) (fun _ _ _ => False) (fun k => fm_least_c7 Q  k)
def fm_least (a1 : Int32) (M : RM) (Q : Int32 → RM → Prop) : Prop := (vp_in a1 37 ∧ (∀ x8 : Int32, x8 = rA M 5 a1.toNatClampNeg → (∃ nn : Nat, fm_least_l7 Q  nn a1 x8 M)))
abbrev rmX11_least : Room := { frames := 0, cells := 0, slots := 0, locals := 0 }
set_option maxHeartbeats 4000000 in
set_option maxRecDepth 100000 in
theorem tm_least (l : Launch) (D : va_G) (kA : Nat → ClassId) (h : Nat) (ad : Nat → Nat) (sz : Nat) (M : RM) (a1 : Int32) (Q : Int32 → RM → Prop) (hw : fm_least a1 M Q) : Met l yX11_least wsX11_least rmX11_least (va_Pc [.ref h, .int a1] (rPc D kA h ad M sz)) (va_Qi Q (rB D kA h ad (rF kA h ad M sz)) (rF kA h ad M sz)) 0 0 (rF kA h ad M sz) := by
  refine Met.ofW (cc := cX11_least) (maxL := 3) (ret := (some .int)) (by decide) rfl ?_
  intro p e s m args below meth c s₁ B hml hv
  obtain ⟨rfl, hsz, hP, hK, hD0⟩ := hv
  have hx := B.exec
  have hb := B.bytes
  have hr := B.returns
  have hts := atoms_spec (ws := wsX11_least) B.pre
  have hown : s.vm.findClass RX11 = some m.cls := findClass_of_methodNamed B.named
  have hlocks : meth.locks = false := B.notSynchronized
  subst hsz
  have hH : rH D kA h ad (rF kA h ad M s.heap.size) s.heap M s.heap [] := ⟨hP, hD0.self, va_S.rf⟩
  have hA : ∀ q : Nat, s.heap.size ≤ q → rF kA h ad M s.heap.size q := fun q z => Or.inr z
  generalize rF kA h ad M s.heap.size = A at hH hA ⊢
  have hl := lv_entry ([.ref h, .int a1]) (n := 3) (Nat.le_of_ble_eq_true rfl)
  rw [lg_entry_eq]
  generalize (lg_sl ([.ref h, .int a1]) ++ List.replicate (3 - (lg_sl ([.ref h, .int a1])).length) Slot.unset).toArray = ls at hl ⊢
  generalize ([.ref h, .int a1] : List Value).toArray = args at hts ⊢
  have hl : lv_has ls 3 [(0, .ref h), (1, .int a1)] := hl
  have hin : ∀ w ∈ wsX110, w ∈ wsX11_least := by decide +kernel
  have b47 : ∀ (v2 : Int32) (M : RM) (H : Heap) (locs : List Loc) (ls : Array Slot), rH D kA h ad A s.heap M H locs → lv_has ls 3 [(2, .int v2)] → fm_least_b47 Q  v2 M → W p l e (headSpec wsX11_least rmX11_least).room s m args below meth c H locs 0 0 (MQ below (va_Qi Q (rB D kA h ad A) A) args s 0 0 A) (F0 m 47 ls []) := by
    intro   v2 M H locs ls hH hl hw
    unfold fm_least_b47 at hw
    refine lv_iload_n hx hb dX11_least_47 rfl (lv_at hl 0 rfl) ?_
    exact r_reti hx hb hr hlocks hK hH hw dX11_least_48
  have b41 : ∀ (k7 : Int32 → Int32 → RM → Prop) (hk7 : ∀ (v1 : Int32) (v2 : Int32) (M : RM) (H : Heap) (locs : List Loc) (ls : Array Slot), rH D kA h ad A s.heap M H locs → lv_has ls 3 [(0, .ref h), (1, .int v1), (2, .int v2)] → k7 v1 v2 M → W p l e (headSpec wsX11_least rmX11_least).room s m args below meth c H locs 0 0 (MQ below (va_Qi Q (rB D kA h ad A) A) args s 0 0 A) (F0 m 7 ls [])) (v1 : Int32) (v2 : Int32) (M : RM) (H : Heap) (locs : List Loc) (ls : Array Slot), rH D kA h ad A s.heap M H locs → lv_has ls 3 [(0, .ref h), (1, .int v1), (2, .int v2)] → fm_least_b41 Q k7 v1 v2 M → W p l e (headSpec wsX11_least rmX11_least).room s m args below meth c H locs 0 0 (MQ below (va_Qi Q (rB D kA h ad A) A) args s 0 0 A) (F0 m 41 ls []) := by
    intro k7 hk7 v1 v2 M H locs ls hH hl hw
    unfold fm_least_b41 at hw
    obtain ⟨x1, ex1⟩ : ∃ y : Int32, y = v2 + (-1) := ⟨_, rfl⟩
    replace hw := hw x1 ex1
    refine lv_iinc (v := x1) (lv' := [(2, .int x1), (0, .ref h), (1, .int v1)]) hx hb dX11_least_41 hl (k := 2) rfl (by rw [ex1]; rfl) (by decide) rfl (fun ls hl => ?_)
    refine lv_goto (tgt := 7) hx hb dX11_least_44 (by decide) ?_
    exact hk7 v1 x1 M H locs ls hH (lv_sub hl [1, 2, 0] rfl) hw
  have l7 : ∀ (nn : Nat) (v1 : Int32) (v2 : Int32) (M : RM) (H : Heap) (locs : List Loc) (ls : Array Slot), rH D kA h ad A s.heap M H locs → lv_has ls 3 [(0, .ref h), (1, .int v1), (2, .int v2)] → fm_least_l7 Q  nn v1 v2 M → W p l e (headSpec wsX11_least rmX11_least).room s m args below meth c H locs 0 0 (MQ below (va_Qi Q (rB D kA h ad A) A) args s 0 0 A) (F0 m 7 ls []) := by
    intro   nn
    induction nn with
    | zero => intro v1 v2 M H locs ls hH hl hw; exact False.elim hw
    | succ nn hk7 =>
      intro v1 v2 M H locs ls hH hl hw
      replace hw : fm_least_c7 Q  (fm_least_l7 Q  nn) v1 v2 M := hw
      unfold fm_least_c7 at hw
      refine lv_iload_n hx hb dX11_least_7 rfl (lv_at hl 2 rfl) ?_
      refine lv_if_le (tgt := 47) hx hb dX11_least_8 (by decide) (fun c2 => ?_) (fun c2 => ?_)
      · replace hw := hw.1 c2
        exact b47   v2 M H locs ls hH (lv_sub hl [2] rfl) hw
      · replace hw := hw.2 c2
        refine lv_aload_n hx hb dX11_least_11 rfl (lv_at hl 0 rfl) ?_
        refine rg_6 hx hb hts hin hown hK hH (hts (.fieldLink RX11 24 "IdlCallerModel" "isOptional" "[Z") (by decide +kernel)) dX11_least_12 ?_
        refine lv_iconst (v := 5) hx hb dX11_least_15 (by decide) ?_
        refine lv_iload_n hx hb dX11_least_16 rfl (lv_at hl 1 rfl) ?_
        refine lv_imul hx hb dX11_least_17 ?_
        refine lv_iload_n hx hb dX11_least_18 rfl (lv_at hl 2 rfl) ?_
        refine lv_iadd hx hb dX11_least_19 ?_
        refine lv_iconst (v := 1) hx hb dX11_least_20 (by decide) ?_
        refine lv_isub hx hb dX11_least_21 ?_
        obtain ⟨h3, hw⟩ := hw
        refine rl_6 hx hb hK hH h3 dX11_least_22 ?_
        refine lv_if_ne (tgt := 41) hx hb dX11_least_23 (by decide) (fun c4 => ?_) (fun c4 => ?_)
        · replace hw := hw.1 c4
          exact b41 _ hk7 v1 v2 M H locs ls hH (lv_sub hl [0, 1, 2] rfl) hw
        · replace hw := hw.2 c4
          refine lv_aload_n hx hb dX11_least_26 rfl (lv_at hl 0 rfl) ?_
          refine rg_7 hx hb hts hin hown hK hH (hts (.fieldLink RX11 28 "IdlCallerModel" "isVariadic" "[Z") (by decide +kernel)) dX11_least_27 ?_
          refine lv_iconst (v := 5) hx hb dX11_least_30 (by decide) ?_
          refine lv_iload_n hx hb dX11_least_31 rfl (lv_at hl 1 rfl) ?_
          refine lv_imul hx hb dX11_least_32 ?_
          refine lv_iload_n hx hb dX11_least_33 rfl (lv_at hl 2 rfl) ?_
          refine lv_iadd hx hb dX11_least_34 ?_
          refine lv_iconst (v := 1) hx hb dX11_least_35 (by decide) ?_
          refine lv_isub hx hb dX11_least_36 ?_
          obtain ⟨h5, hw⟩ := hw
          refine rl_7 hx hb hK hH h5 dX11_least_37 ?_
          refine lv_if_eq (tgt := 47) hx hb dX11_least_38 (by decide) (fun c6 => ?_) (fun c6 => ?_)
          · replace hw := hw.1 c6
            exact b47   v2 M H locs ls hH (lv_sub hl [2] rfl) hw
          · replace hw := hw.2 c6
            exact b41 _ hk7 v1 v2 M H locs ls hH (lv_sub hl [0, 1, 2] rfl) hw
  clear hP hD0
  unfold fm_least at hw
  have hst : ∀ (M : RM) (H : Heap) (locs : List Loc) (ls : Array Slot), rH D kA h ad A s.heap M H locs → lv_has ls 3 [(0, .ref h), (1, .int a1)] → (vp_in a1 37 ∧ (∀ x8 : Int32, x8 = rA M 5 a1.toNatClampNeg → (∃ nn : Nat, fm_least_l7 Q  nn a1 x8 M))) → W p l e (headSpec wsX11_least rmX11_least).room s m args below meth c H locs 0 0 (MQ below (va_Qi Q (rB D kA h ad A) A) args s 0 0 A) (F0 m 0 ls []) := by
    intro M H locs ls hH hl hw
    refine lv_aload_n hx hb dX11_least_0 rfl (lv_at hl 0 rfl) ?_
    refine rg_5 hx hb hts hin hown hK hH (hts (.fieldLink RX11 21 "IdlCallerModel" "many" "[I") (by decide +kernel)) dX11_least_1 ?_
    refine lv_iload_n hx hb dX11_least_4 rfl (lv_at hl 1 rfl) ?_
    obtain ⟨h7, hw⟩ := hw
    refine rl_5 hx hb hK hH h7 dX11_least_5 ?_
    refine lv_topi (fun x8 ex8 => ?_)
    replace hw := hw x8 ex8
    refine lv_istore_n (lv' := [(2, .int x8), (0, .ref h), (1, .int a1)]) hx hb dX11_least_6 rfl hl (by decide) rfl (fun ls hl => ?_)
    obtain ⟨nn, hw⟩ := hw
    exact l7   nn a1 x8 M H locs ls hH (lv_sub hl [1, 2, 0] rfl) hw
  exact hst M s.heap [] ls hH hl hw
def fm_most_b40 (Q : Int32 → RM → Prop) (s0 : Int32) (M : RM) : Prop := Q s0 M
def fm_most_b34 (Q : Int32 → RM → Prop) (v1 : Int32) (M : RM) : Prop := (vp_in v1 37 ∧ fm_most_b40 Q  (rA M 5 v1.toNatClampNeg) M)
def fm_most (a1 : Int32) (M : RM) (Q : Int32 → RM → Prop) : Prop := (vp_in a1 37 ∧ (((rA M 5 a1.toNatClampNeg) ≤ 0 → fm_most_b34 Q  a1 M) ∧ (¬ (rA M 5 a1.toNatClampNeg) ≤ 0 → (vp_in a1 37 ∧ (vp_in (((5 * a1) + (rA M 5 a1.toNatClampNeg)) - 1) 185 ∧ (((rA M 7 (((5 * a1) + (rA M 5 a1.toNatClampNeg)) - 1).toNatClampNeg) = 0 → fm_most_b34 Q  a1 M) ∧ (¬ (rA M 7 (((5 * a1) + (rA M 5 a1.toNatClampNeg)) - 1).toNatClampNeg) = 0 → fm_most_b40 Q  8 M)))))))
abbrev rmX11_most : Room := { frames := 0, cells := 0, slots := 0, locals := 0 }
set_option maxHeartbeats 4000000 in
set_option maxRecDepth 100000 in
theorem tm_most (l : Launch) (D : va_G) (kA : Nat → ClassId) (h : Nat) (ad : Nat → Nat) (sz : Nat) (M : RM) (a1 : Int32) (Q : Int32 → RM → Prop) (hw : fm_most a1 M Q) : Met l yX11_most wsX11_most rmX11_most (va_Pc [.ref h, .int a1] (rPc D kA h ad M sz)) (va_Qi Q (rB D kA h ad (rF kA h ad M sz)) (rF kA h ad M sz)) 0 0 (rF kA h ad M sz) := by
  refine Met.ofW (cc := cX11_most) (maxL := 2) (ret := (some .int)) (by decide) rfl ?_
  intro p e s m args below meth c s₁ B hml hv
  obtain ⟨rfl, hsz, hP, hK, hD0⟩ := hv
  have hx := B.exec
  have hb := B.bytes
  have hr := B.returns
  have hts := atoms_spec (ws := wsX11_most) B.pre
  have hown : s.vm.findClass RX11 = some m.cls := findClass_of_methodNamed B.named
  have hlocks : meth.locks = false := B.notSynchronized
  subst hsz
  have hH : rH D kA h ad (rF kA h ad M s.heap.size) s.heap M s.heap [] := ⟨hP, hD0.self, va_S.rf⟩
  have hA : ∀ q : Nat, s.heap.size ≤ q → rF kA h ad M s.heap.size q := fun q z => Or.inr z
  generalize rF kA h ad M s.heap.size = A at hH hA ⊢
  have hl := lv_entry ([.ref h, .int a1]) (n := 2) (Nat.le_of_ble_eq_true rfl)
  rw [lg_entry_eq]
  generalize (lg_sl ([.ref h, .int a1]) ++ List.replicate (2 - (lg_sl ([.ref h, .int a1])).length) Slot.unset).toArray = ls at hl ⊢
  generalize ([.ref h, .int a1] : List Value).toArray = args at hts ⊢
  have hl : lv_has ls 2 [(0, .ref h), (1, .int a1)] := hl
  have hin : ∀ w ∈ wsX110, w ∈ wsX11_most := by decide +kernel
  have b40 : ∀ (s0 : Int32) (M : RM) (H : Heap) (locs : List Loc) (ls : Array Slot), rH D kA h ad A s.heap M H locs → lv_has ls 2 [] → fm_most_b40 Q  s0 M → W p l e (headSpec wsX11_most rmX11_most).room s m args below meth c H locs 0 0 (MQ below (va_Qi Q (rB D kA h ad A) A) args s 0 0 A) (F0 m 40 ls [.int s0]) := by
    intro   s0 M H locs ls hH hl hw
    unfold fm_most_b40 at hw
    exact r_reti hx hb hr hlocks hK hH hw dX11_most_40
  have b34 : ∀ (v1 : Int32) (M : RM) (H : Heap) (locs : List Loc) (ls : Array Slot), rH D kA h ad A s.heap M H locs → lv_has ls 2 [(0, .ref h), (1, .int v1)] → fm_most_b34 Q  v1 M → W p l e (headSpec wsX11_most rmX11_most).room s m args below meth c H locs 0 0 (MQ below (va_Qi Q (rB D kA h ad A) A) args s 0 0 A) (F0 m 34 ls []) := by
    intro   v1 M H locs ls hH hl hw
    unfold fm_most_b34 at hw
    refine lv_aload_n hx hb dX11_most_34 rfl (lv_at hl 0 rfl) ?_
    refine rg_5 hx hb hts hin hown hK hH (hts (.fieldLink RX11 21 "IdlCallerModel" "many" "[I") (by decide +kernel)) dX11_most_35 ?_
    refine lv_iload_n hx hb dX11_most_38 rfl (lv_at hl 1 rfl) ?_
    obtain ⟨h1, hw⟩ := hw
    refine rl_5 hx hb hK hH h1 dX11_most_39 ?_
    exact b40   (rA M 5 v1.toNatClampNeg) M H locs ls hH (lv_sub hl [] rfl) hw
  clear hP hD0
  unfold fm_most at hw
  have hst : ∀ (M : RM) (H : Heap) (locs : List Loc) (ls : Array Slot), rH D kA h ad A s.heap M H locs → lv_has ls 2 [(0, .ref h), (1, .int a1)] → (vp_in a1 37 ∧ (((rA M 5 a1.toNatClampNeg) ≤ 0 → fm_most_b34 Q  a1 M) ∧ (¬ (rA M 5 a1.toNatClampNeg) ≤ 0 → (vp_in a1 37 ∧ (vp_in (((5 * a1) + (rA M 5 a1.toNatClampNeg)) - 1) 185 ∧ (((rA M 7 (((5 * a1) + (rA M 5 a1.toNatClampNeg)) - 1).toNatClampNeg) = 0 → fm_most_b34 Q  a1 M) ∧ (¬ (rA M 7 (((5 * a1) + (rA M 5 a1.toNatClampNeg)) - 1).toNatClampNeg) = 0 → fm_most_b40 Q  8 M))))))) → W p l e (headSpec wsX11_most rmX11_most).room s m args below meth c H locs 0 0 (MQ below (va_Qi Q (rB D kA h ad A) A) args s 0 0 A) (F0 m 0 ls []) := by
    intro M H locs ls hH hl hw
    refine lv_aload_n hx hb dX11_most_0 rfl (lv_at hl 0 rfl) ?_
    refine rg_5 hx hb hts hin hown hK hH (hts (.fieldLink RX11 21 "IdlCallerModel" "many" "[I") (by decide +kernel)) dX11_most_1 ?_
    refine lv_iload_n hx hb dX11_most_4 rfl (lv_at hl 1 rfl) ?_
    obtain ⟨h2, hw⟩ := hw
    refine rl_5 hx hb hK hH h2 dX11_most_5 ?_
    refine lv_if_le (tgt := 34) hx hb dX11_most_6 (by decide) (fun c3 => ?_) (fun c3 => ?_)
    · replace hw := hw.1 c3
      exact b34   a1 M H locs ls hH (lv_sub hl [0, 1] rfl) hw
    · replace hw := hw.2 c3
      refine lv_aload_n hx hb dX11_most_9 rfl (lv_at hl 0 rfl) ?_
      refine rg_7 hx hb hts hin hown hK hH (hts (.fieldLink RX11 28 "IdlCallerModel" "isVariadic" "[Z") (by decide +kernel)) dX11_most_10 ?_
      refine lv_iconst (v := 5) hx hb dX11_most_13 (by decide) ?_
      refine lv_iload_n hx hb dX11_most_14 rfl (lv_at hl 1 rfl) ?_
      refine lv_imul hx hb dX11_most_15 ?_
      refine lv_aload_n hx hb dX11_most_16 rfl (lv_at hl 0 rfl) ?_
      refine rg_5 hx hb hts hin hown hK hH (hts (.fieldLink RX11 21 "IdlCallerModel" "many" "[I") (by decide +kernel)) dX11_most_17 ?_
      refine lv_iload_n hx hb dX11_most_20 rfl (lv_at hl 1 rfl) ?_
      obtain ⟨h4, hw⟩ := hw
      refine rl_5 hx hb hK hH h4 dX11_most_21 ?_
      refine lv_iadd hx hb dX11_most_22 ?_
      refine lv_iconst (v := 1) hx hb dX11_most_23 (by decide) ?_
      refine lv_isub hx hb dX11_most_24 ?_
      obtain ⟨h5, hw⟩ := hw
      refine rl_7 hx hb hK hH h5 dX11_most_25 ?_
      refine lv_if_eq (tgt := 34) hx hb dX11_most_26 (by decide) (fun c6 => ?_) (fun c6 => ?_)
      · replace hw := hw.1 c6
        exact b34   a1 M H locs ls hH (lv_sub hl [0, 1] rfl) hw
      · replace hw := hw.2 c6
        refine lv_bipush (v := 8) hx hb dX11_most_29 (by decide) ?_
        refine lv_goto (tgt := 40) hx hb dX11_most_31 (by decide) ?_
        exact b40   8 M H locs ls hH (lv_sub hl [] rfl) hw
  exact hst M s.heap [] ls hH hl hw
