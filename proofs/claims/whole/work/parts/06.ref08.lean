def fm_operation_b61 (Q : Int32 → RM → Prop) (s0 : Int32) (s1 : Int32) (M : RM) : Prop := fm_bound s1 s0 M (fun (r2 : Int32) (M1 : RM) => Q r2 M1)
def fm_operation_b25 (Q : Int32 → RM → Prop) (v1 : Int32) (v2 : Int32) (s0 : Int32) (M : RM) : Prop := fm_refused s0 M (fun (r4 : Int32) (M3 : RM) => ((r4 = 0 → ((¬ v2 = 0 → ((3 ≤ v2 → fm_deciding v1 (v2 - 3) 0 M3 (fun (r9 : Int32) (M8 : RM) => Q r9 M8)) ∧ (¬ 3 ≤ v2 → ((¬ v2 = 1 → fm_operation_b61 Q  0 v1 M3) ∧ (v2 = 1 → fm_operation_b61 Q  1 v1 M3))))) ∧ (v2 = 0 → (vp_in v1 6 ∧ Q (rA M3 4 v1.toNatClampNeg) M3)))) ∧ (¬ r4 = 0 → Q 0 M3)))
def fm_operation_b24 (Q : Int32 → RM → Prop) (v1 : Int32) (v2 : Int32) (M : RM) : Prop := fm_operation_b25 Q  v1 v2 1 M
def fm_operation (a1 : Int32) (a2 : Int32) (M : RM) (Q : Int32 → RM → Prop) : Prop := fm_isIn a1 0 5 M (fun (r13 : Int32) (M12 : RM) => ((r13 = 0 → fm_operation_b24 Q  a1 a2 M12) ∧ (¬ r13 = 0 → fm_isIn a2 0 11 M12 (fun (r16 : Int32) (M15 : RM) => ((r16 = 0 → fm_operation_b24 Q  a1 a2 M15) ∧ (¬ r16 = 0 → fm_operation_b25 Q  a1 a2 0 M15))))))
abbrev rmX11_operation : Room := { frames := 5, cells := 0, slots := 0, locals := 125 }
set_option maxHeartbeats 4000000 in
set_option maxRecDepth 100000 in
theorem tm_operation (l : Launch) (D : va_G) (kA : Nat → ClassId) (h : Nat) (ad : Nat → Nat) (sz : Nat) (M : RM) (a1 : Int32) (a2 : Int32) (Q : Int32 → RM → Prop) (hw : fm_operation a1 a2 M Q) : Met l yX11_operation wsX11_operation rmX11_operation (va_Pc [.ref h, .int a1, .int a2] (rPc D kA h ad M sz)) (va_Qi Q (rB D kA h ad (rF kA h ad M sz)) (rF kA h ad M sz)) 0 0 (rF kA h ad M sz) := by
  refine Met.ofW (cc := cX11_operation) (maxL := 3) (ret := (some .int)) (by decide) rfl ?_
  intro p e s m args below meth c s₁ B hml hv
  obtain ⟨rfl, hsz, hP, hK, hD0⟩ := hv
  have hx := B.exec
  have hb := B.bytes
  have hr := B.returns
  have hts := atoms_spec (ws := wsX11_operation) B.pre
  have hown : s.vm.findClass RX11 = some m.cls := findClass_of_methodNamed B.named
  have hlocks : meth.locks = false := B.notSynchronized
  subst hsz
  have hH : rH D kA h ad (rF kA h ad M s.heap.size) s.heap M s.heap [] := ⟨hP, hD0.self, va_S.rf⟩
  have hA : ∀ q : Nat, s.heap.size ≤ q → rF kA h ad M s.heap.size q := fun q z => Or.inr z
  generalize rF kA h ad M s.heap.size = A at hH hA ⊢
  have hl := lv_entry ([.ref h, .int a1, .int a2]) (n := 3) (Nat.le_of_ble_eq_true rfl)
  rw [lg_entry_eq]
  generalize (lg_sl ([.ref h, .int a1, .int a2]) ++ List.replicate (3 - (lg_sl ([.ref h, .int a1, .int a2])).length) Slot.unset).toArray = ls at hl ⊢
  generalize ([.ref h, .int a1, .int a2] : List Value).toArray = args at hts ⊢
  have hl : lv_has ls 3 [(0, .ref h), (1, .int a1), (2, .int a2)] := hl
  have hin : ∀ w ∈ wsX110, w ∈ wsX11_operation := by decide +kernel
  have b61 : ∀ (s0 : Int32) (s1 : Int32) (M : RM) (H : Heap) (locs : List Loc) (ls : Array Slot), rH D kA h ad A s.heap M H locs → lv_has ls 3 [] → fm_operation_b61 Q  s0 s1 M → W p l e (headSpec wsX11_operation rmX11_operation).room s m args below meth c H locs 0 0 (MQ below (va_Qi Q (rB D kA h ad A) A) args s 0 0 A) (F0 m 61 ls [.int s0, .int s1, .ref h]) := by
    intro   s0 s1 M H locs ls hH hl hw
    unfold fm_operation_b61 at hw
    refine r_calli (va_runV (As := [.int s1, .int s0]) (rest := []) ⟨hx, hb, hml, hown, hts⟩ (tm_bound l D kA h ad H.size M s1 s0 _ hw) (cwV 2 hts gX11_operation_X11_bound rfl rfl rfl (by decide +kernel) ⟨Nat.le_of_ble_eq_true rfl, Nat.le_of_ble_eq_true rfl⟩) (r_preV hK hH) rfl rfl hl.1 rfl (lv_room (Nat.le_of_ble_eq_true rfl)) dX11_operation_61 ⟨Nat.le_of_ble_eq_true rfl, Nat.le_of_ble_eq_true rfl⟩) hH hA (fun r2 M1 H locs hw hH => ?_)
    exact r_reti hx hb hr hlocks hK hH hw dX11_operation_64
  have b25 : ∀ (v1 : Int32) (v2 : Int32) (s0 : Int32) (M : RM) (H : Heap) (locs : List Loc) (ls : Array Slot), rH D kA h ad A s.heap M H locs → lv_has ls 3 [(0, .ref h), (1, .int v1), (2, .int v2)] → fm_operation_b25 Q  v1 v2 s0 M → W p l e (headSpec wsX11_operation rmX11_operation).room s m args below meth c H locs 0 0 (MQ below (va_Qi Q (rB D kA h ad A) A) args s 0 0 A) (F0 m 25 ls [.int s0, .ref h]) := by
    intro   v1 v2 s0 M H locs ls hH hl hw
    unfold fm_operation_b25 at hw
    refine r_calli (va_runV (As := [.int s0]) (rest := []) ⟨hx, hb, hml, hown, hts⟩ (tm_refused l D kA h ad H.size M s0 _ hw) (cwV 1 hts gX11_operation_X11_refused rfl rfl rfl (by decide +kernel) ⟨Nat.le_of_ble_eq_true rfl, Nat.le_of_ble_eq_true rfl⟩) (r_preV hK hH) rfl rfl hl.1 rfl (lv_room (Nat.le_of_ble_eq_true rfl)) dX11_operation_25 ⟨Nat.le_of_ble_eq_true rfl, Nat.le_of_ble_eq_true rfl⟩) hH hA (fun r4 M3 H locs hw hH => ?_)
    refine lv_if_eq (tgt := 33) hx hb dX11_operation_28 (by decide) (fun c5 => ?_) (fun c5 => ?_)
    · replace hw := hw.1 c5
      refine lv_iload_n hx hb dX11_operation_33 rfl (lv_at hl 2 rfl) ?_
      refine lv_if_ne (tgt := 44) hx hb dX11_operation_34 (by decide) (fun c6 => ?_) (fun c6 => ?_)
      · replace hw := hw.1 c6
        refine lv_iload_n hx hb dX11_operation_44 rfl (lv_at hl 2 rfl) ?_
        refine lv_iconst (v := 3) hx hb dX11_operation_45 (by decide) ?_
        refine lv_icmp_ge (tgt := 65) hx hb dX11_operation_46 (by decide) (fun c7 => ?_) (fun c7 => ?_)
        · replace hw := hw.1 c7
          refine lv_aload_n hx hb dX11_operation_65 rfl (lv_at hl 0 rfl) ?_
          refine lv_iload_n hx hb dX11_operation_66 rfl (lv_at hl 1 rfl) ?_
          refine lv_iload_n hx hb dX11_operation_67 rfl (lv_at hl 2 rfl) ?_
          refine lv_iconst (v := 3) hx hb dX11_operation_68 (by decide) ?_
          refine lv_isub hx hb dX11_operation_69 ?_
          refine lv_iconst (v := 0) hx hb dX11_operation_70 (by decide) ?_
          refine r_calli (va_runV (As := [.int v1, .int (v2 - 3), .int 0]) (rest := []) ⟨hx, hb, hml, hown, hts⟩ (tm_deciding l D kA h ad H.size M3 v1 (v2 - 3) 0 _ hw) (cwV 3 hts gX11_operation_X11_deciding rfl rfl rfl (by decide +kernel) ⟨Nat.le_of_ble_eq_true rfl, Nat.le_of_ble_eq_true rfl⟩) (r_preV hK hH) rfl rfl hl.1 rfl (lv_room (Nat.le_of_ble_eq_true rfl)) dX11_operation_71 ⟨Nat.le_of_ble_eq_true rfl, Nat.le_of_ble_eq_true rfl⟩) hH hA (fun r9 M8 H locs hw hH => ?_)
          exact r_reti hx hb hr hlocks hK hH hw dX11_operation_74
        · replace hw := hw.2 c7
          refine lv_aload_n hx hb dX11_operation_49 rfl (lv_at hl 0 rfl) ?_
          refine lv_iload_n hx hb dX11_operation_50 rfl (lv_at hl 1 rfl) ?_
          refine lv_iload_n hx hb dX11_operation_51 rfl (lv_at hl 2 rfl) ?_
          refine lv_iconst (v := 1) hx hb dX11_operation_52 (by decide) ?_
          refine lv_icmp_ne (tgt := 60) hx hb dX11_operation_53 (by decide) (fun c10 => ?_) (fun c10 => ?_)
          · replace hw := hw.1 c10
            refine lv_iconst (v := 0) hx hb dX11_operation_60 (by decide) ?_
            exact b61   0 v1 M3 H locs ls hH (lv_sub hl [] rfl) hw
          · replace hw := hw.2 c10
            refine lv_iconst (v := 1) hx hb dX11_operation_56 (by decide) ?_
            refine lv_goto (tgt := 61) hx hb dX11_operation_57 (by decide) ?_
            exact b61   1 v1 M3 H locs ls hH (lv_sub hl [] rfl) hw
      · replace hw := hw.2 c6
        refine lv_aload_n hx hb dX11_operation_37 rfl (lv_at hl 0 rfl) ?_
        refine rg_4 hx hb hts hin hown hK hH (hts (.fieldLink RX11 17 "IdlCallerModel" "forms" "[I") (by decide +kernel)) dX11_operation_38 ?_
        refine lv_iload_n hx hb dX11_operation_41 rfl (lv_at hl 1 rfl) ?_
        obtain ⟨h11, hw⟩ := hw
        refine rl_4 hx hb hK hH h11 dX11_operation_42 ?_
        exact r_reti hx hb hr hlocks hK hH hw dX11_operation_43
    · replace hw := hw.2 c5
      refine lv_iconst (v := 0) hx hb dX11_operation_31 (by decide) ?_
      exact r_reti hx hb hr hlocks hK hH hw dX11_operation_32
  have b24 : ∀ (v1 : Int32) (v2 : Int32) (M : RM) (H : Heap) (locs : List Loc) (ls : Array Slot), rH D kA h ad A s.heap M H locs → lv_has ls 3 [(0, .ref h), (1, .int v1), (2, .int v2)] → fm_operation_b24 Q  v1 v2 M → W p l e (headSpec wsX11_operation rmX11_operation).room s m args below meth c H locs 0 0 (MQ below (va_Qi Q (rB D kA h ad A) A) args s 0 0 A) (F0 m 24 ls [.ref h]) := by
    intro   v1 v2 M H locs ls hH hl hw
    unfold fm_operation_b24 at hw
    refine lv_iconst (v := 1) hx hb dX11_operation_24 (by decide) ?_
    exact b25   v1 v2 1 M H locs ls hH (lv_sub hl [0, 1, 2] rfl) hw
  clear hP hD0
  unfold fm_operation at hw
  have hst : ∀ (M : RM) (H : Heap) (locs : List Loc) (ls : Array Slot), rH D kA h ad A s.heap M H locs → lv_has ls 3 [(0, .ref h), (1, .int a1), (2, .int a2)] → fm_isIn a1 0 5 M (fun (r13 : Int32) (M12 : RM) => ((r13 = 0 → fm_operation_b24 Q  a1 a2 M12) ∧ (¬ r13 = 0 → fm_isIn a2 0 11 M12 (fun (r16 : Int32) (M15 : RM) => ((r16 = 0 → fm_operation_b24 Q  a1 a2 M15) ∧ (¬ r16 = 0 → fm_operation_b25 Q  a1 a2 0 M15)))))) → W p l e (headSpec wsX11_operation rmX11_operation).room s m args below meth c H locs 0 0 (MQ below (va_Qi Q (rB D kA h ad A) A) args s 0 0 A) (F0 m 0 ls []) := by
    intro M H locs ls hH hl hw
    refine lv_aload_n hx hb dX11_operation_0 rfl (lv_at hl 0 rfl) ?_
    refine lv_iload_n hx hb dX11_operation_1 rfl (lv_at hl 1 rfl) ?_
    refine lv_iconst (v := 0) hx hb dX11_operation_2 (by decide) ?_
    refine lv_iconst (v := 5) hx hb dX11_operation_3 (by decide) ?_
    refine r_calli (va_runS (As := [.int a1, .int 0, .int 5]) (rest := [.ref h]) ⟨hx, hb, hml, hown, hts⟩ (tm_isIn l D kA h ad H.size M a1 0 5 _ hw) (va_cwS 3 hts gX11_operation_X11_isIn rfl rfl rfl (by decide +kernel) ⟨Nat.le_of_ble_eq_true rfl, Nat.le_of_ble_eq_true rfl⟩) (r_preS hK hH) rfl rfl hl.1 rfl (lv_room (Nat.le_of_ble_eq_true rfl)) dX11_operation_4 ⟨Nat.le_of_ble_eq_true rfl, Nat.le_of_ble_eq_true rfl⟩) hH hA (fun r13 M12 H locs hw hH => ?_)
    refine lv_if_eq (tgt := 24) hx hb dX11_operation_7 (by decide) (fun c14 => ?_) (fun c14 => ?_)
    · replace hw := hw.1 c14
      exact b24   a1 a2 M12 H locs ls hH (lv_sub hl [0, 1, 2] rfl) hw
    · replace hw := hw.2 c14
      refine lv_iload_n hx hb dX11_operation_10 rfl (lv_at hl 2 rfl) ?_
      refine lv_iconst (v := 0) hx hb dX11_operation_11 (by decide) ?_
      refine lv_bipush (v := 11) hx hb dX11_operation_12 (by decide) ?_
      refine r_calli (va_runS (As := [.int a2, .int 0, .int 11]) (rest := [.ref h]) ⟨hx, hb, hml, hown, hts⟩ (tm_isIn l D kA h ad H.size M12 a2 0 11 _ hw) (va_cwS 3 hts gX11_operation_X11_isIn rfl rfl rfl (by decide +kernel) ⟨Nat.le_of_ble_eq_true rfl, Nat.le_of_ble_eq_true rfl⟩) (r_preS hK hH) rfl rfl hl.1 rfl (lv_room (Nat.le_of_ble_eq_true rfl)) dX11_operation_14 ⟨Nat.le_of_ble_eq_true rfl, Nat.le_of_ble_eq_true rfl⟩) hH hA (fun r16 M15 H locs hw hH => ?_)
      refine lv_if_eq (tgt := 24) hx hb dX11_operation_17 (by decide) (fun c17 => ?_) (fun c17 => ?_)
      · replace hw := hw.1 c17
        exact b24   a1 a2 M15 H locs ls hH (lv_sub hl [0, 1, 2] rfl) hw
      · replace hw := hw.2 c17
        refine lv_iconst (v := 0) hx hb dX11_operation_20 (by decide) ?_
        refine lv_goto (tgt := 25) hx hb dX11_operation_21 (by decide) ?_
        exact b25   a1 a2 0 M15 H locs ls hH (lv_sub hl [0, 1, 2] rfl) hw
  exact hst M s.heap [] ls hH hl hw
def fm_rowOf_b59 (Q : Int32 → RM → Prop) (s0 : Int32) (M : RM) : Prop := Q s0 M
def fm_rowOf_b58 (Q : Int32 → RM → Prop) (M : RM) : Prop := fm_rowOf_b59 Q  (-1) M
def fm_rowOf (a1 : Int32) (a2 : Int32) (M : RM) (Q : Int32 → RM → Prop) : Prop := fm_isIn a1 0 ((rI M 18) - 1) M (fun (r2 : Int32) (M1 : RM) => ((¬ r2 = 0 → ((¬ a2 = (-1) → (vp_in a1 96 ∧ ((¬ (rA M1 19 a1.toNatClampNeg) = 6 → fm_rowOf_b58 Q   M1) ∧ ((rA M1 19 a1.toNatClampNeg) = 6 → ((a2 < 0 → fm_rowOf_b58 Q   M1) ∧ (¬ a2 < 0 → (vp_in a1 96 ∧ ((0 ≤ (lg_cmp a2.toInt64 (rJ M1 20 a1.toNatClampNeg)) → fm_rowOf_b58 Q   M1) ∧ (¬ 0 ≤ (lg_cmp a2.toInt64 (rJ M1 20 a1.toNatClampNeg)) → fm_itemOf a1 a2 M1 (fun (r11 : Int32) (M10 : RM) => fm_rowOf_b59 Q  r11 M10)))))))))) ∧ (a2 = (-1) → Q a1 M1))) ∧ (r2 = 0 → Q (-1) M1)))
abbrev rmX11_rowOf : Room := { frames := 1, cells := 0, slots := 0, locals := 22 }
set_option maxHeartbeats 4000000 in
set_option maxRecDepth 100000 in
theorem tm_rowOf (l : Launch) (D : va_G) (kA : Nat → ClassId) (h : Nat) (ad : Nat → Nat) (sz : Nat) (M : RM) (a1 : Int32) (a2 : Int32) (Q : Int32 → RM → Prop) (hw : fm_rowOf a1 a2 M Q) : Met l yX11_rowOf wsX11_rowOf rmX11_rowOf (va_Pc [.ref h, .int a1, .int a2] (rPc D kA h ad M sz)) (va_Qi Q (rB D kA h ad (rF kA h ad M sz)) (rF kA h ad M sz)) 0 0 (rF kA h ad M sz) := by
  refine Met.ofW (cc := cX11_rowOf) (maxL := 3) (ret := (some .int)) (by decide) rfl ?_
  intro p e s m args below meth c s₁ B hml hv
  obtain ⟨rfl, hsz, hP, hK, hD0⟩ := hv
  have hx := B.exec
  have hb := B.bytes
  have hr := B.returns
  have hts := atoms_spec (ws := wsX11_rowOf) B.pre
  have hown : s.vm.findClass RX11 = some m.cls := findClass_of_methodNamed B.named
  have hlocks : meth.locks = false := B.notSynchronized
  subst hsz
  have hH : rH D kA h ad (rF kA h ad M s.heap.size) s.heap M s.heap [] := ⟨hP, hD0.self, va_S.rf⟩
  have hA : ∀ q : Nat, s.heap.size ≤ q → rF kA h ad M s.heap.size q := fun q z => Or.inr z
  generalize rF kA h ad M s.heap.size = A at hH hA ⊢
  have hl := lv_entry ([.ref h, .int a1, .int a2]) (n := 3) (Nat.le_of_ble_eq_true rfl)
  rw [lg_entry_eq]
  generalize (lg_sl ([.ref h, .int a1, .int a2]) ++ List.replicate (3 - (lg_sl ([.ref h, .int a1, .int a2])).length) Slot.unset).toArray = ls at hl ⊢
  generalize ([.ref h, .int a1, .int a2] : List Value).toArray = args at hts ⊢
  have hl : lv_has ls 3 [(0, .ref h), (1, .int a1), (2, .int a2)] := hl
  have hin : ∀ w ∈ wsX110, w ∈ wsX11_rowOf := by decide +kernel
  have b59 : ∀ (s0 : Int32) (M : RM) (H : Heap) (locs : List Loc) (ls : Array Slot), rH D kA h ad A s.heap M H locs → lv_has ls 3 [] → fm_rowOf_b59 Q  s0 M → W p l e (headSpec wsX11_rowOf rmX11_rowOf).room s m args below meth c H locs 0 0 (MQ below (va_Qi Q (rB D kA h ad A) A) args s 0 0 A) (F0 m 59 ls [.int s0]) := by
    intro   s0 M H locs ls hH hl hw
    unfold fm_rowOf_b59 at hw
    exact r_reti hx hb hr hlocks hK hH hw dX11_rowOf_59
  have b58 : ∀ (M : RM) (H : Heap) (locs : List Loc) (ls : Array Slot), rH D kA h ad A s.heap M H locs → lv_has ls 3 [] → fm_rowOf_b58 Q   M → W p l e (headSpec wsX11_rowOf rmX11_rowOf).room s m args below meth c H locs 0 0 (MQ below (va_Qi Q (rB D kA h ad A) A) args s 0 0 A) (F0 m 58 ls []) := by
    intro    M H locs ls hH hl hw
    unfold fm_rowOf_b58 at hw
    refine lv_iconst (v := (-1)) hx hb dX11_rowOf_58 (by decide) ?_
    exact b59   (-1) M H locs ls hH (lv_sub hl [] rfl) hw
  clear hP hD0
  unfold fm_rowOf at hw
  have hst : ∀ (M : RM) (H : Heap) (locs : List Loc) (ls : Array Slot), rH D kA h ad A s.heap M H locs → lv_has ls 3 [(0, .ref h), (1, .int a1), (2, .int a2)] → fm_isIn a1 0 ((rI M 18) - 1) M (fun (r2 : Int32) (M1 : RM) => ((¬ r2 = 0 → ((¬ a2 = (-1) → (vp_in a1 96 ∧ ((¬ (rA M1 19 a1.toNatClampNeg) = 6 → fm_rowOf_b58 Q   M1) ∧ ((rA M1 19 a1.toNatClampNeg) = 6 → ((a2 < 0 → fm_rowOf_b58 Q   M1) ∧ (¬ a2 < 0 → (vp_in a1 96 ∧ ((0 ≤ (lg_cmp a2.toInt64 (rJ M1 20 a1.toNatClampNeg)) → fm_rowOf_b58 Q   M1) ∧ (¬ 0 ≤ (lg_cmp a2.toInt64 (rJ M1 20 a1.toNatClampNeg)) → fm_itemOf a1 a2 M1 (fun (r11 : Int32) (M10 : RM) => fm_rowOf_b59 Q  r11 M10)))))))))) ∧ (a2 = (-1) → Q a1 M1))) ∧ (r2 = 0 → Q (-1) M1))) → W p l e (headSpec wsX11_rowOf rmX11_rowOf).room s m args below meth c H locs 0 0 (MQ below (va_Qi Q (rB D kA h ad A) A) args s 0 0 A) (F0 m 0 ls []) := by
    intro M H locs ls hH hl hw
    refine lv_iload_n hx hb dX11_rowOf_0 rfl (lv_at hl 1 rfl) ?_
    refine lv_iconst (v := 0) hx hb dX11_rowOf_1 (by decide) ?_
    refine lv_aload_n hx hb dX11_rowOf_2 rfl (lv_at hl 0 rfl) ?_
    refine rg_18 hx hb hts hin hown hK hH (hts (.fieldLink RX11 354 "IdlCallerModel" "places" "I") (by decide +kernel)) dX11_rowOf_3 ?_
    refine lv_iconst (v := 1) hx hb dX11_rowOf_6 (by decide) ?_
    refine lv_isub hx hb dX11_rowOf_7 ?_
    refine r_calli (va_runS (As := [.int a1, .int 0, .int ((rI M 18) - 1)]) (rest := []) ⟨hx, hb, hml, hown, hts⟩ (tm_isIn l D kA h ad H.size M a1 0 ((rI M 18) - 1) _ hw) (va_cwS 3 hts gX11_rowOf_X11_isIn rfl rfl rfl (by decide +kernel) ⟨Nat.le_of_ble_eq_true rfl, Nat.le_of_ble_eq_true rfl⟩) (r_preS hK hH) rfl rfl hl.1 rfl (lv_room (Nat.le_of_ble_eq_true rfl)) dX11_rowOf_8 ⟨Nat.le_of_ble_eq_true rfl, Nat.le_of_ble_eq_true rfl⟩) hH hA (fun r2 M1 H locs hw hH => ?_)
    refine lv_if_ne (tgt := 16) hx hb dX11_rowOf_11 (by decide) (fun c3 => ?_) (fun c3 => ?_)
    · replace hw := hw.1 c3
      refine lv_iload_n hx hb dX11_rowOf_16 rfl (lv_at hl 2 rfl) ?_
      refine lv_iconst (v := (-1)) hx hb dX11_rowOf_17 (by decide) ?_
      refine lv_icmp_ne (tgt := 23) hx hb dX11_rowOf_18 (by decide) (fun c4 => ?_) (fun c4 => ?_)
      · replace hw := hw.1 c4
        refine lv_aload_n hx hb dX11_rowOf_23 rfl (lv_at hl 0 rfl) ?_
        refine rg_19 hx hb hts hin hown hK hH (hts (.fieldLink RX11 62 "IdlCallerModel" "madeKind" "[I") (by decide +kernel)) dX11_rowOf_24 ?_
        refine lv_iload_n hx hb dX11_rowOf_27 rfl (lv_at hl 1 rfl) ?_
        obtain ⟨h5, hw⟩ := hw
        refine rl_19 hx hb hK hH h5 dX11_rowOf_28 ?_
        refine lv_bipush (v := 6) hx hb dX11_rowOf_29 (by decide) ?_
        refine lv_icmp_ne (tgt := 58) hx hb dX11_rowOf_31 (by decide) (fun c6 => ?_) (fun c6 => ?_)
        · replace hw := hw.1 c6
          exact b58    M1 H locs ls hH (lv_sub hl [] rfl) hw
        · replace hw := hw.2 c6
          refine lv_iload_n hx hb dX11_rowOf_34 rfl (lv_at hl 2 rfl) ?_
          refine lv_if_lt (tgt := 58) hx hb dX11_rowOf_35 (by decide) (fun c7 => ?_) (fun c7 => ?_)
          · replace hw := hw.1 c7
            exact b58    M1 H locs ls hH (lv_sub hl [] rfl) hw
          · replace hw := hw.2 c7
            refine lv_iload_n hx hb dX11_rowOf_38 rfl (lv_at hl 2 rfl) ?_
            refine lv_i2l hx hb dX11_rowOf_39 rfl ?_
            refine lv_aload_n hx hb dX11_rowOf_40 rfl (lv_at hl 0 rfl) ?_
            refine rg_20 hx hb hts hin hown hK hH (hts (.fieldLink RX11 65 "IdlCallerModel" "madeWhole" "[J") (by decide +kernel)) dX11_rowOf_41 ?_
            refine lv_iload_n hx hb dX11_rowOf_44 rfl (lv_at hl 1 rfl) ?_
            obtain ⟨h8, hw⟩ := hw
            refine rl_20 hx hb hK hH h8 dX11_rowOf_45 ?_
            refine W.lcmp hx hb dX11_rowOf_46 ?_
            refine lv_if_ge (tgt := 58) hx hb dX11_rowOf_47 (by decide) (fun c9 => ?_) (fun c9 => ?_)
            · replace hw := hw.1 c9
              exact b58    M1 H locs ls hH (lv_sub hl [] rfl) hw
            · replace hw := hw.2 c9
              refine lv_iload_n hx hb dX11_rowOf_50 rfl (lv_at hl 1 rfl) ?_
              refine lv_iload_n hx hb dX11_rowOf_51 rfl (lv_at hl 2 rfl) ?_
              refine r_calli (va_runS (As := [.int a1, .int a2]) (rest := []) ⟨hx, hb, hml, hown, hts⟩ (tm_itemOf l D kA h ad H.size M1 a1 a2 _ hw) (va_cwS 2 hts gX11_rowOf_X11_itemOf rfl rfl rfl (by decide +kernel) ⟨Nat.le_of_ble_eq_true rfl, Nat.le_of_ble_eq_true rfl⟩) (r_preS hK hH) rfl rfl hl.1 rfl (lv_room (Nat.le_of_ble_eq_true rfl)) dX11_rowOf_52 ⟨Nat.le_of_ble_eq_true rfl, Nat.le_of_ble_eq_true rfl⟩) hH hA (fun r11 M10 H locs hw hH => ?_)
              refine lv_goto (tgt := 59) hx hb dX11_rowOf_55 (by decide) ?_
              exact b59   r11 M10 H locs ls hH (lv_sub hl [] rfl) hw
      · replace hw := hw.2 c4
        refine lv_iload_n hx hb dX11_rowOf_21 rfl (lv_at hl 1 rfl) ?_
        exact r_reti hx hb hr hlocks hK hH hw dX11_rowOf_22
    · replace hw := hw.2 c3
      refine lv_iconst (v := (-1)) hx hb dX11_rowOf_14 (by decide) ?_
      exact r_reti hx hb hr hlocks hK hH hw dX11_rowOf_15
  exact hst M s.heap [] ls hH hl hw
def fm_kind_b26 (Q : Int32 → RM → Prop) (s0 : Int32) (M : RM) : Prop := Q s0 M
def fm_kind (a1 : Int32) (M : RM) (Q : Int32 → RM → Prop) : Prop := (∀ M1 : RM, M1 = wI M 0 0 → fm_rowOf a1 (-1) M1 (fun (r3 : Int32) (M2 : RM) => ((0 ≤ r3 → (vp_in r3 96 ∧ fm_kind_b26 Q  (rA M2 19 r3.toNatClampNeg) M2)) ∧ (¬ 0 ≤ r3 → fm_kind_b26 Q  (-1) M2))))
abbrev rmX11_kind : Room := { frames := 2, cells := 0, slots := 0, locals := 44 }
set_option maxHeartbeats 4000000 in
set_option maxRecDepth 100000 in
theorem tm_kind (l : Launch) (D : va_G) (kA : Nat → ClassId) (h : Nat) (ad : Nat → Nat) (sz : Nat) (M : RM) (a1 : Int32) (Q : Int32 → RM → Prop) (hw : fm_kind a1 M Q) : Met l yX11_kind wsX11_kind rmX11_kind (va_Pc [.ref h, .int a1] (rPc D kA h ad M sz)) (va_Qi Q (rB D kA h ad (rF kA h ad M sz)) (rF kA h ad M sz)) 0 0 (rF kA h ad M sz) := by
  refine Met.ofW (cc := cX11_kind) (maxL := 3) (ret := (some .int)) (by decide) rfl ?_
  intro p e s m args below meth c s₁ B hml hv
  obtain ⟨rfl, hsz, hP, hK, hD0⟩ := hv
  have hx := B.exec
  have hb := B.bytes
  have hr := B.returns
  have hts := atoms_spec (ws := wsX11_kind) B.pre
  have hown : s.vm.findClass RX11 = some m.cls := findClass_of_methodNamed B.named
  have hlocks : meth.locks = false := B.notSynchronized
  subst hsz
  have hH : rH D kA h ad (rF kA h ad M s.heap.size) s.heap M s.heap [] := ⟨hP, hD0.self, va_S.rf⟩
  have hA : ∀ q : Nat, s.heap.size ≤ q → rF kA h ad M s.heap.size q := fun q z => Or.inr z
  generalize rF kA h ad M s.heap.size = A at hH hA ⊢
  have hl := lv_entry ([.ref h, .int a1]) (n := 3) (Nat.le_of_ble_eq_true rfl)
  rw [lg_entry_eq]
  generalize (lg_sl ([.ref h, .int a1]) ++ List.replicate (3 - (lg_sl ([.ref h, .int a1])).length) Slot.unset).toArray = ls at hl ⊢
  generalize ([.ref h, .int a1] : List Value).toArray = args at hts ⊢
  have hl : lv_has ls 3 [(0, .ref h), (1, .int a1)] := hl
  have hin : ∀ w ∈ wsX110, w ∈ wsX11_kind := by decide +kernel
  have b26 : ∀ (s0 : Int32) (M : RM) (H : Heap) (locs : List Loc) (ls : Array Slot), rH D kA h ad A s.heap M H locs → lv_has ls 3 [] → fm_kind_b26 Q  s0 M → W p l e (headSpec wsX11_kind rmX11_kind).room s m args below meth c H locs 0 0 (MQ below (va_Qi Q (rB D kA h ad A) A) args s 0 0 A) (F0 m 26 ls [.int s0]) := by
    intro   s0 M H locs ls hH hl hw
    unfold fm_kind_b26 at hw
    exact r_reti hx hb hr hlocks hK hH hw dX11_kind_26
  clear hP hD0
  unfold fm_kind at hw
  have hst : ∀ (M : RM) (H : Heap) (locs : List Loc) (ls : Array Slot), rH D kA h ad A s.heap M H locs → lv_has ls 3 [(0, .ref h), (1, .int a1)] → (∀ M1 : RM, M1 = wI M 0 0 → fm_rowOf a1 (-1) M1 (fun (r3 : Int32) (M2 : RM) => ((0 ≤ r3 → (vp_in r3 96 ∧ fm_kind_b26 Q  (rA M2 19 r3.toNatClampNeg) M2)) ∧ (¬ 0 ≤ r3 → fm_kind_b26 Q  (-1) M2)))) → W p l e (headSpec wsX11_kind rmX11_kind).room s m args below meth c H locs 0 0 (MQ below (va_Qi Q (rB D kA h ad A) A) args s 0 0 A) (F0 m 0 ls []) := by
    intro M H locs ls hH hl hw
    refine lv_aload_n hx hb dX11_kind_0 rfl (lv_at hl 0 rfl) ?_
    refine lv_iconst (v := 0) hx hb dX11_kind_1 (by decide) ?_
    refine rp_0 hx hb hts hin hown hK hH (hts (.fieldLink RX11 78 "IdlCallerModel" "refusal" "I") (by decide +kernel)) dX11_kind_2 (fun M1 H locs eM1 hH => ?_)
    replace hw := hw M1 eM1
    refine lv_aload_n hx hb dX11_kind_5 rfl (lv_at hl 0 rfl) ?_
    refine lv_iload_n hx hb dX11_kind_6 rfl (lv_at hl 1 rfl) ?_
    refine lv_iconst (v := (-1)) hx hb dX11_kind_7 (by decide) ?_
    refine r_calli (va_runV (As := [.int a1, .int (-1)]) (rest := []) ⟨hx, hb, hml, hown, hts⟩ (tm_rowOf l D kA h ad H.size M1 a1 (-1) _ hw) (cwV 2 hts gX11_kind_X11_rowOf rfl rfl rfl (by decide +kernel) ⟨Nat.le_of_ble_eq_true rfl, Nat.le_of_ble_eq_true rfl⟩) (r_preV hK hH) rfl rfl hl.1 rfl (lv_room (Nat.le_of_ble_eq_true rfl)) dX11_kind_8 ⟨Nat.le_of_ble_eq_true rfl, Nat.le_of_ble_eq_true rfl⟩) hH hA (fun r3 M2 H locs hw hH => ?_)
    refine lv_istore_n (lv' := [(2, .int r3), (0, .ref h), (1, .int a1)]) hx hb dX11_kind_11 rfl hl (by decide) rfl (fun ls hl => ?_)
    refine lv_iload_n hx hb dX11_kind_12 rfl (lv_at hl 0 rfl) ?_
    refine lv_if_ge (tgt := 20) hx hb dX11_kind_13 (by decide) (fun c4 => ?_) (fun c4 => ?_)
    · replace hw := hw.1 c4
      refine lv_aload_n hx hb dX11_kind_20 rfl (lv_at hl 1 rfl) ?_
      refine rg_19 hx hb hts hin hown hK hH (hts (.fieldLink RX11 62 "IdlCallerModel" "madeKind" "[I") (by decide +kernel)) dX11_kind_21 ?_
      refine lv_iload_n hx hb dX11_kind_24 rfl (lv_at hl 0 rfl) ?_
      obtain ⟨h5, hw⟩ := hw
      refine rl_19 hx hb hK hH h5 dX11_kind_25 ?_
      exact b26   (rA M2 19 r3.toNatClampNeg) M2 H locs ls hH (lv_sub hl [] rfl) hw
    · replace hw := hw.2 c4
      refine lv_iconst (v := (-1)) hx hb dX11_kind_16 (by decide) ?_
      refine lv_goto (tgt := 26) hx hb dX11_kind_17 (by decide) ?_
      exact b26   (-1) M2 H locs ls hH (lv_sub hl [] rfl) hw
  exact hst M s.heap [] ls hH hl hw
def fm_item_b34 (Q : Int32 → RM → Prop) (s0 : Int32) (M : RM) : Prop := Q s0 M
def fm_item_b19 (Q : Int32 → RM → Prop) (s0 : Int32) (M : RM) : Prop := ((0 ≤ s0 → (vp_in s0 96 ∧ fm_item_b34 Q  (rA M 19 s0.toNatClampNeg) M)) ∧ (¬ 0 ≤ s0 → fm_item_b34 Q  (-1) M))
def fm_item (a1 : Int32) (a2 : Int32) (M : RM) (Q : Int32 → RM → Prop) : Prop := (∀ M3 : RM, M3 = wI M 0 0 → ((0 ≤ a2 → fm_rowOf a1 a2 M3 (fun (r6 : Int32) (M5 : RM) => fm_item_b19 Q  r6 M5)) ∧ (¬ 0 ≤ a2 → fm_item_b19 Q  (-1) M3)))
abbrev rmX11_item : Room := { frames := 2, cells := 0, slots := 0, locals := 44 }
set_option maxHeartbeats 4000000 in
set_option maxRecDepth 100000 in
theorem tm_item (l : Launch) (D : va_G) (kA : Nat → ClassId) (h : Nat) (ad : Nat → Nat) (sz : Nat) (M : RM) (a1 : Int32) (a2 : Int32) (Q : Int32 → RM → Prop) (hw : fm_item a1 a2 M Q) : Met l yX11_item wsX11_item rmX11_item (va_Pc [.ref h, .int a1, .int a2] (rPc D kA h ad M sz)) (va_Qi Q (rB D kA h ad (rF kA h ad M sz)) (rF kA h ad M sz)) 0 0 (rF kA h ad M sz) := by
  refine Met.ofW (cc := cX11_item) (maxL := 4) (ret := (some .int)) (by decide) rfl ?_
  intro p e s m args below meth c s₁ B hml hv
  obtain ⟨rfl, hsz, hP, hK, hD0⟩ := hv
  have hx := B.exec
  have hb := B.bytes
  have hr := B.returns
  have hts := atoms_spec (ws := wsX11_item) B.pre
  have hown : s.vm.findClass RX11 = some m.cls := findClass_of_methodNamed B.named
  have hlocks : meth.locks = false := B.notSynchronized
  subst hsz
  have hH : rH D kA h ad (rF kA h ad M s.heap.size) s.heap M s.heap [] := ⟨hP, hD0.self, va_S.rf⟩
  have hA : ∀ q : Nat, s.heap.size ≤ q → rF kA h ad M s.heap.size q := fun q z => Or.inr z
  generalize rF kA h ad M s.heap.size = A at hH hA ⊢
  have hl := lv_entry ([.ref h, .int a1, .int a2]) (n := 4) (Nat.le_of_ble_eq_true rfl)
  rw [lg_entry_eq]
  generalize (lg_sl ([.ref h, .int a1, .int a2]) ++ List.replicate (4 - (lg_sl ([.ref h, .int a1, .int a2])).length) Slot.unset).toArray = ls at hl ⊢
  generalize ([.ref h, .int a1, .int a2] : List Value).toArray = args at hts ⊢
  have hl : lv_has ls 4 [(0, .ref h), (1, .int a1), (2, .int a2)] := hl
  have hin : ∀ w ∈ wsX110, w ∈ wsX11_item := by decide +kernel
  have b34 : ∀ (s0 : Int32) (M : RM) (H : Heap) (locs : List Loc) (ls : Array Slot), rH D kA h ad A s.heap M H locs → lv_has ls 4 [] → fm_item_b34 Q  s0 M → W p l e (headSpec wsX11_item rmX11_item).room s m args below meth c H locs 0 0 (MQ below (va_Qi Q (rB D kA h ad A) A) args s 0 0 A) (F0 m 34 ls [.int s0]) := by
    intro   s0 M H locs ls hH hl hw
    unfold fm_item_b34 at hw
    exact r_reti hx hb hr hlocks hK hH hw dX11_item_34
  have b19 : ∀ (s0 : Int32) (M : RM) (H : Heap) (locs : List Loc) (ls : Array Slot), rH D kA h ad A s.heap M H locs → lv_has ls 4 [(0, .ref h)] → fm_item_b19 Q  s0 M → W p l e (headSpec wsX11_item rmX11_item).room s m args below meth c H locs 0 0 (MQ below (va_Qi Q (rB D kA h ad A) A) args s 0 0 A) (F0 m 19 ls [.int s0]) := by
    intro   s0 M H locs ls hH hl hw
    unfold fm_item_b19 at hw
    refine lv_istore_n (lv' := [(3, .int s0), (0, .ref h)]) hx hb dX11_item_19 rfl hl (by decide) rfl (fun ls hl => ?_)
    refine lv_iload_n hx hb dX11_item_20 rfl (lv_at hl 0 rfl) ?_
    refine lv_if_ge (tgt := 28) hx hb dX11_item_21 (by decide) (fun c1 => ?_) (fun c1 => ?_)
    · replace hw := hw.1 c1
      refine lv_aload_n hx hb dX11_item_28 rfl (lv_at hl 1 rfl) ?_
      refine rg_19 hx hb hts hin hown hK hH (hts (.fieldLink RX11 62 "IdlCallerModel" "madeKind" "[I") (by decide +kernel)) dX11_item_29 ?_
      refine lv_iload_n hx hb dX11_item_32 rfl (lv_at hl 0 rfl) ?_
      obtain ⟨h2, hw⟩ := hw
      refine rl_19 hx hb hK hH h2 dX11_item_33 ?_
      exact b34   (rA M 19 s0.toNatClampNeg) M H locs ls hH (lv_sub hl [] rfl) hw
    · replace hw := hw.2 c1
      refine lv_iconst (v := (-1)) hx hb dX11_item_24 (by decide) ?_
      refine lv_goto (tgt := 34) hx hb dX11_item_25 (by decide) ?_
      exact b34   (-1) M H locs ls hH (lv_sub hl [] rfl) hw
  clear hP hD0
  unfold fm_item at hw
  have hst : ∀ (M : RM) (H : Heap) (locs : List Loc) (ls : Array Slot), rH D kA h ad A s.heap M H locs → lv_has ls 4 [(0, .ref h), (1, .int a1), (2, .int a2)] → (∀ M3 : RM, M3 = wI M 0 0 → ((0 ≤ a2 → fm_rowOf a1 a2 M3 (fun (r6 : Int32) (M5 : RM) => fm_item_b19 Q  r6 M5)) ∧ (¬ 0 ≤ a2 → fm_item_b19 Q  (-1) M3))) → W p l e (headSpec wsX11_item rmX11_item).room s m args below meth c H locs 0 0 (MQ below (va_Qi Q (rB D kA h ad A) A) args s 0 0 A) (F0 m 0 ls []) := by
    intro M H locs ls hH hl hw
    refine lv_aload_n hx hb dX11_item_0 rfl (lv_at hl 0 rfl) ?_
    refine lv_iconst (v := 0) hx hb dX11_item_1 (by decide) ?_
    refine rp_0 hx hb hts hin hown hK hH (hts (.fieldLink RX11 78 "IdlCallerModel" "refusal" "I") (by decide +kernel)) dX11_item_2 (fun M3 H locs eM3 hH => ?_)
    replace hw := hw M3 eM3
    refine lv_iload_n hx hb dX11_item_5 rfl (lv_at hl 2 rfl) ?_
    refine lv_if_ge (tgt := 13) hx hb dX11_item_6 (by decide) (fun c4 => ?_) (fun c4 => ?_)
    · replace hw := hw.1 c4
      refine lv_aload_n hx hb dX11_item_13 rfl (lv_at hl 0 rfl) ?_
      refine lv_iload_n hx hb dX11_item_14 rfl (lv_at hl 1 rfl) ?_
      refine lv_iload_n hx hb dX11_item_15 rfl (lv_at hl 2 rfl) ?_
      refine r_calli (va_runV (As := [.int a1, .int a2]) (rest := []) ⟨hx, hb, hml, hown, hts⟩ (tm_rowOf l D kA h ad H.size M3 a1 a2 _ hw) (cwV 2 hts gX11_item_X11_rowOf rfl rfl rfl (by decide +kernel) ⟨Nat.le_of_ble_eq_true rfl, Nat.le_of_ble_eq_true rfl⟩) (r_preV hK hH) rfl rfl hl.1 rfl (lv_room (Nat.le_of_ble_eq_true rfl)) dX11_item_16 ⟨Nat.le_of_ble_eq_true rfl, Nat.le_of_ble_eq_true rfl⟩) hH hA (fun r6 M5 H locs hw hH => ?_)
      exact b19   r6 M5 H locs ls hH (lv_sub hl [0] rfl) hw
    · replace hw := hw.2 c4
      refine lv_iconst (v := (-1)) hx hb dX11_item_9 (by decide) ?_
      refine lv_goto (tgt := 19) hx hb dX11_item_10 (by decide) ?_
      exact b19   (-1) M3 H locs ls hH (lv_sub hl [0] rfl) hw
  exact hst M s.heap [] ls hH hl hw
def fm_whole_b26 (Q : Int64 → RM → Prop) (s0 : Int64) (M : RM) : Prop := Q s0 M
def fm_whole (a1 : Int32) (a2 : Int32) (M : RM) (Q : Int64 → RM → Prop) : Prop := (∀ M1 : RM, M1 = wI M 0 0 → fm_rowOf a1 a2 M1 (fun (r3 : Int32) (M2 : RM) => ((0 ≤ r3 → (vp_in r3 96 ∧ fm_whole_b26 Q  (rJ M2 20 r3.toNatClampNeg) M2)) ∧ (¬ 0 ≤ r3 → fm_whole_b26 Q  0 M2))))
abbrev rmX11_whole : Room := { frames := 2, cells := 0, slots := 0, locals := 44 }
set_option maxHeartbeats 4000000 in
set_option maxRecDepth 100000 in
theorem tm_whole (l : Launch) (D : va_G) (kA : Nat → ClassId) (h : Nat) (ad : Nat → Nat) (sz : Nat) (M : RM) (a1 : Int32) (a2 : Int32) (Q : Int64 → RM → Prop) (hw : fm_whole a1 a2 M Q) : Met l yX11_whole wsX11_whole rmX11_whole (va_Pc [.ref h, .int a1, .int a2] (rPc D kA h ad M sz)) (va_Ql Q (rB D kA h ad (rF kA h ad M sz)) (rF kA h ad M sz)) 0 0 (rF kA h ad M sz) := by
  refine Met.ofW (cc := cX11_whole) (maxL := 4) (ret := (some .long)) (by decide) rfl ?_
  intro p e s m args below meth c s₁ B hml hv
  obtain ⟨rfl, hsz, hP, hK, hD0⟩ := hv
  have hx := B.exec
  have hb := B.bytes
  have hr := B.returns
  have hts := atoms_spec (ws := wsX11_whole) B.pre
  have hown : s.vm.findClass RX11 = some m.cls := findClass_of_methodNamed B.named
  have hlocks : meth.locks = false := B.notSynchronized
  subst hsz
  have hH : rH D kA h ad (rF kA h ad M s.heap.size) s.heap M s.heap [] := ⟨hP, hD0.self, va_S.rf⟩
  have hA : ∀ q : Nat, s.heap.size ≤ q → rF kA h ad M s.heap.size q := fun q z => Or.inr z
  generalize rF kA h ad M s.heap.size = A at hH hA ⊢
  have hl := lv_entry ([.ref h, .int a1, .int a2]) (n := 4) (Nat.le_of_ble_eq_true rfl)
  rw [lg_entry_eq]
  generalize (lg_sl ([.ref h, .int a1, .int a2]) ++ List.replicate (4 - (lg_sl ([.ref h, .int a1, .int a2])).length) Slot.unset).toArray = ls at hl ⊢
  generalize ([.ref h, .int a1, .int a2] : List Value).toArray = args at hts ⊢
  have hl : lv_has ls 4 [(0, .ref h), (1, .int a1), (2, .int a2)] := hl
  have hin : ∀ w ∈ wsX110, w ∈ wsX11_whole := by decide +kernel
  have b26 : ∀ (s0 : Int64) (M : RM) (H : Heap) (locs : List Loc) (ls : Array Slot), rH D kA h ad A s.heap M H locs → lv_has ls 4 [] → fm_whole_b26 Q  s0 M → W p l e (headSpec wsX11_whole rmX11_whole).room s m args below meth c H locs 0 0 (MQ below (va_Ql Q (rB D kA h ad A) A) args s 0 0 A) (F0 m 26 ls [.long s0]) := by
    intro   s0 M H locs ls hH hl hw
    unfold fm_whole_b26 at hw
    exact r_retl hx hb hr hlocks hK hH hw dX11_whole_26
  clear hP hD0
  unfold fm_whole at hw
  have hst : ∀ (M : RM) (H : Heap) (locs : List Loc) (ls : Array Slot), rH D kA h ad A s.heap M H locs → lv_has ls 4 [(0, .ref h), (1, .int a1), (2, .int a2)] → (∀ M1 : RM, M1 = wI M 0 0 → fm_rowOf a1 a2 M1 (fun (r3 : Int32) (M2 : RM) => ((0 ≤ r3 → (vp_in r3 96 ∧ fm_whole_b26 Q  (rJ M2 20 r3.toNatClampNeg) M2)) ∧ (¬ 0 ≤ r3 → fm_whole_b26 Q  0 M2)))) → W p l e (headSpec wsX11_whole rmX11_whole).room s m args below meth c H locs 0 0 (MQ below (va_Ql Q (rB D kA h ad A) A) args s 0 0 A) (F0 m 0 ls []) := by
    intro M H locs ls hH hl hw
    refine lv_aload_n hx hb dX11_whole_0 rfl (lv_at hl 0 rfl) ?_
    refine lv_iconst (v := 0) hx hb dX11_whole_1 (by decide) ?_
    refine rp_0 hx hb hts hin hown hK hH (hts (.fieldLink RX11 78 "IdlCallerModel" "refusal" "I") (by decide +kernel)) dX11_whole_2 (fun M1 H locs eM1 hH => ?_)
    replace hw := hw M1 eM1
    refine lv_aload_n hx hb dX11_whole_5 rfl (lv_at hl 0 rfl) ?_
    refine lv_iload_n hx hb dX11_whole_6 rfl (lv_at hl 1 rfl) ?_
    refine lv_iload_n hx hb dX11_whole_7 rfl (lv_at hl 2 rfl) ?_
    refine r_calli (va_runV (As := [.int a1, .int a2]) (rest := []) ⟨hx, hb, hml, hown, hts⟩ (tm_rowOf l D kA h ad H.size M1 a1 a2 _ hw) (cwV 2 hts gX11_whole_X11_rowOf rfl rfl rfl (by decide +kernel) ⟨Nat.le_of_ble_eq_true rfl, Nat.le_of_ble_eq_true rfl⟩) (r_preV hK hH) rfl rfl hl.1 rfl (lv_room (Nat.le_of_ble_eq_true rfl)) dX11_whole_8 ⟨Nat.le_of_ble_eq_true rfl, Nat.le_of_ble_eq_true rfl⟩) hH hA (fun r3 M2 H locs hw hH => ?_)
    refine lv_istore_n (lv' := [(3, .int r3), (0, .ref h), (1, .int a1), (2, .int a2)]) hx hb dX11_whole_11 rfl hl (by decide) rfl (fun ls hl => ?_)
    refine lv_iload_n hx hb dX11_whole_12 rfl (lv_at hl 0 rfl) ?_
    refine lv_if_ge (tgt := 20) hx hb dX11_whole_13 (by decide) (fun c4 => ?_) (fun c4 => ?_)
    · replace hw := hw.1 c4
      refine lv_aload_n hx hb dX11_whole_20 rfl (lv_at hl 1 rfl) ?_
      refine rg_20 hx hb hts hin hown hK hH (hts (.fieldLink RX11 65 "IdlCallerModel" "madeWhole" "[J") (by decide +kernel)) dX11_whole_21 ?_
      refine lv_iload_n hx hb dX11_whole_24 rfl (lv_at hl 0 rfl) ?_
      obtain ⟨h5, hw⟩ := hw
      refine rl_20 hx hb hK hH h5 dX11_whole_25 ?_
      exact b26   (rJ M2 20 r3.toNatClampNeg) M2 H locs ls hH (lv_sub hl [] rfl) hw
    · replace hw := hw.2 c4
      refine lv_lconst (v := 0) hx hb dX11_whole_16 (by decide) ?_
      refine lv_goto (tgt := 26) hx hb dX11_whole_17 (by decide) ?_
      exact b26   0 M2 H locs ls hH (lv_sub hl [] rfl) hw
  exact hst M s.heap [] ls hH hl hw
def fm_real_b26 (Q : UInt64 → RM → Prop) (s0 : UInt64) (M : RM) : Prop := Q s0 M
def fm_real (a1 : Int32) (a2 : Int32) (M : RM) (Q : UInt64 → RM → Prop) : Prop := (∀ M1 : RM, M1 = wI M 0 0 → fm_rowOf a1 a2 M1 (fun (r3 : Int32) (M2 : RM) => ((0 ≤ r3 → (vp_in r3 96 ∧ fm_real_b26 Q  (rD M2 21 r3.toNatClampNeg) M2)) ∧ (¬ 0 ≤ r3 → fm_real_b26 Q  FP.dconst0 M2))))
abbrev rmX11_real : Room := { frames := 2, cells := 0, slots := 0, locals := 44 }
set_option maxHeartbeats 4000000 in
set_option maxRecDepth 100000 in
theorem tm_real (l : Launch) (D : va_G) (kA : Nat → ClassId) (h : Nat) (ad : Nat → Nat) (sz : Nat) (M : RM) (a1 : Int32) (a2 : Int32) (Q : UInt64 → RM → Prop) (hw : fm_real a1 a2 M Q) : Met l yX11_real wsX11_real rmX11_real (va_Pc [.ref h, .int a1, .int a2] (rPc D kA h ad M sz)) (va_Qd Q (rB D kA h ad (rF kA h ad M sz)) (rF kA h ad M sz)) 0 0 (rF kA h ad M sz) := by
  refine Met.ofW (cc := cX11_real) (maxL := 4) (ret := (some .double)) (by decide) rfl ?_
  intro p e s m args below meth c s₁ B hml hv
  obtain ⟨rfl, hsz, hP, hK, hD0⟩ := hv
  have hx := B.exec
  have hb := B.bytes
  have hr := B.returns
  have hts := atoms_spec (ws := wsX11_real) B.pre
  have hown : s.vm.findClass RX11 = some m.cls := findClass_of_methodNamed B.named
  have hlocks : meth.locks = false := B.notSynchronized
  subst hsz
  have hH : rH D kA h ad (rF kA h ad M s.heap.size) s.heap M s.heap [] := ⟨hP, hD0.self, va_S.rf⟩
  have hA : ∀ q : Nat, s.heap.size ≤ q → rF kA h ad M s.heap.size q := fun q z => Or.inr z
  generalize rF kA h ad M s.heap.size = A at hH hA ⊢
  have hl := lv_entry ([.ref h, .int a1, .int a2]) (n := 4) (Nat.le_of_ble_eq_true rfl)
  rw [lg_entry_eq]
  generalize (lg_sl ([.ref h, .int a1, .int a2]) ++ List.replicate (4 - (lg_sl ([.ref h, .int a1, .int a2])).length) Slot.unset).toArray = ls at hl ⊢
  generalize ([.ref h, .int a1, .int a2] : List Value).toArray = args at hts ⊢
  have hl : lv_has ls 4 [(0, .ref h), (1, .int a1), (2, .int a2)] := hl
  have hin : ∀ w ∈ wsX110, w ∈ wsX11_real := by decide +kernel
  have b26 : ∀ (s0 : UInt64) (M : RM) (H : Heap) (locs : List Loc) (ls : Array Slot), rH D kA h ad A s.heap M H locs → lv_has ls 4 [] → fm_real_b26 Q  s0 M → W p l e (headSpec wsX11_real rmX11_real).room s m args below meth c H locs 0 0 (MQ below (va_Qd Q (rB D kA h ad A) A) args s 0 0 A) (F0 m 26 ls [.double s0]) := by
    intro   s0 M H locs ls hH hl hw
    unfold fm_real_b26 at hw
    exact r_retd hx hb hr hlocks hK hH hw dX11_real_26
  clear hP hD0
  unfold fm_real at hw
  have hst : ∀ (M : RM) (H : Heap) (locs : List Loc) (ls : Array Slot), rH D kA h ad A s.heap M H locs → lv_has ls 4 [(0, .ref h), (1, .int a1), (2, .int a2)] → (∀ M1 : RM, M1 = wI M 0 0 → fm_rowOf a1 a2 M1 (fun (r3 : Int32) (M2 : RM) => ((0 ≤ r3 → (vp_in r3 96 ∧ fm_real_b26 Q  (rD M2 21 r3.toNatClampNeg) M2)) ∧ (¬ 0 ≤ r3 → fm_real_b26 Q  FP.dconst0 M2)))) → W p l e (headSpec wsX11_real rmX11_real).room s m args below meth c H locs 0 0 (MQ below (va_Qd Q (rB D kA h ad A) A) args s 0 0 A) (F0 m 0 ls []) := by
    intro M H locs ls hH hl hw
    refine lv_aload_n hx hb dX11_real_0 rfl (lv_at hl 0 rfl) ?_
    refine lv_iconst (v := 0) hx hb dX11_real_1 (by decide) ?_
    refine rp_0 hx hb hts hin hown hK hH (hts (.fieldLink RX11 78 "IdlCallerModel" "refusal" "I") (by decide +kernel)) dX11_real_2 (fun M1 H locs eM1 hH => ?_)
    replace hw := hw M1 eM1
    refine lv_aload_n hx hb dX11_real_5 rfl (lv_at hl 0 rfl) ?_
    refine lv_iload_n hx hb dX11_real_6 rfl (lv_at hl 1 rfl) ?_
    refine lv_iload_n hx hb dX11_real_7 rfl (lv_at hl 2 rfl) ?_
    refine r_calli (va_runV (As := [.int a1, .int a2]) (rest := []) ⟨hx, hb, hml, hown, hts⟩ (tm_rowOf l D kA h ad H.size M1 a1 a2 _ hw) (cwV 2 hts gX11_real_X11_rowOf rfl rfl rfl (by decide +kernel) ⟨Nat.le_of_ble_eq_true rfl, Nat.le_of_ble_eq_true rfl⟩) (r_preV hK hH) rfl rfl hl.1 rfl (lv_room (Nat.le_of_ble_eq_true rfl)) dX11_real_8 ⟨Nat.le_of_ble_eq_true rfl, Nat.le_of_ble_eq_true rfl⟩) hH hA (fun r3 M2 H locs hw hH => ?_)
    refine lv_istore_n (lv' := [(3, .int r3), (0, .ref h), (1, .int a1), (2, .int a2)]) hx hb dX11_real_11 rfl hl (by decide) rfl (fun ls hl => ?_)
    refine lv_iload_n hx hb dX11_real_12 rfl (lv_at hl 0 rfl) ?_
    refine lv_if_ge (tgt := 20) hx hb dX11_real_13 (by decide) (fun c4 => ?_) (fun c4 => ?_)
    · replace hw := hw.1 c4
      refine lv_aload_n hx hb dX11_real_20 rfl (lv_at hl 1 rfl) ?_
      refine rg_21 hx hb hts hin hown hK hH (hts (.fieldLink RX11 69 "IdlCallerModel" "madeReal" "[D") (by decide +kernel)) dX11_real_21 ?_
      refine lv_iload_n hx hb dX11_real_24 rfl (lv_at hl 0 rfl) ?_
      obtain ⟨h5, hw⟩ := hw
      refine rl_21 hx hb hK hH h5 dX11_real_25 ?_
      exact b26   (rD M2 21 r3.toNatClampNeg) M2 H locs ls hH (lv_sub hl [] rfl) hw
    · replace hw := hw.2 c4
      refine lv_dconst0 hx hb dX11_real_16 ?_
      refine lv_goto (tgt := 26) hx hb dX11_real_17 (by decide) ?_
      exact b26   FP.dconst0 M2 H locs ls hH (lv_sub hl [] rfl) hw
  exact hst M s.heap [] ls hH hl hw
def fm_sign_b63 (Q : Int32 → RM → Prop) (s0 : Int32) (M : RM) : Prop := (nC s0 ∧ Q s0 M)
def fm_sign_b61 (Q : Int32 → RM → Prop) (M : RM) : Prop := fm_sign_b63 Q  32 M
def fm_sign (a1 : Int32) (a2 : Int32) (a3 : Int32) (M : RM) (Q : Int32 → RM → Prop) : Prop := (∀ M1 : RM, M1 = wI M 0 0 → fm_rowOf a1 a2 M1 (fun (r3 : Int32) (M2 : RM) => ((r3 < 0 → fm_sign_b61 Q   M2) ∧ (¬ r3 < 0 → (vp_in r3 96 ∧ ((¬ (rA M2 19 r3.toNatClampNeg) = 5 → fm_sign_b61 Q   M2) ∧ ((rA M2 19 r3.toNatClampNeg) = 5 → ((a3 < 0 → fm_sign_b61 Q   M2) ∧ (¬ a3 < 0 → (vp_in r3 96 ∧ ((0 ≤ (lg_cmp a3.toInt64 (rJ M2 20 r3.toNatClampNeg)) → fm_sign_b61 Q   M2) ∧ (¬ 0 ≤ (lg_cmp a3.toInt64 (rJ M2 20 r3.toNatClampNeg)) → (vp_in ((80 * r3) + a3) 7680 ∧ fm_sign_b63 Q  (rA M2 22 ((80 * r3) + a3).toNatClampNeg) M2)))))))))))))
abbrev rmX11_sign : Room := { frames := 2, cells := 0, slots := 0, locals := 44 }
set_option maxHeartbeats 4000000 in
set_option maxRecDepth 100000 in
theorem tm_sign (l : Launch) (D : va_G) (kA : Nat → ClassId) (h : Nat) (ad : Nat → Nat) (sz : Nat) (M : RM) (a1 : Int32) (a2 : Int32) (a3 : Int32) (Q : Int32 → RM → Prop) (hw : fm_sign a1 a2 a3 M Q) : Met l yX11_sign wsX11_sign rmX11_sign (va_Pc [.ref h, .int a1, .int a2, .int a3] (rPc D kA h ad M sz)) (va_Qi Q (rB D kA h ad (rF kA h ad M sz)) (rF kA h ad M sz)) 0 0 (rF kA h ad M sz) := by
  refine Met.ofW (cc := cX11_sign) (maxL := 5) (ret := (some .char)) (by decide) rfl ?_
  intro p e s m args below meth c s₁ B hml hv
  obtain ⟨rfl, hsz, hP, hK, hD0⟩ := hv
  have hx := B.exec
  have hb := B.bytes
  have hr := B.returns
  have hts := atoms_spec (ws := wsX11_sign) B.pre
  have hown : s.vm.findClass RX11 = some m.cls := findClass_of_methodNamed B.named
  have hlocks : meth.locks = false := B.notSynchronized
  subst hsz
  have hH : rH D kA h ad (rF kA h ad M s.heap.size) s.heap M s.heap [] := ⟨hP, hD0.self, va_S.rf⟩
  have hA : ∀ q : Nat, s.heap.size ≤ q → rF kA h ad M s.heap.size q := fun q z => Or.inr z
  generalize rF kA h ad M s.heap.size = A at hH hA ⊢
  have hl := lv_entry ([.ref h, .int a1, .int a2, .int a3]) (n := 5) (Nat.le_of_ble_eq_true rfl)
  rw [lg_entry_eq]
  generalize (lg_sl ([.ref h, .int a1, .int a2, .int a3]) ++ List.replicate (5 - (lg_sl ([.ref h, .int a1, .int a2, .int a3])).length) Slot.unset).toArray = ls at hl ⊢
  generalize ([.ref h, .int a1, .int a2, .int a3] : List Value).toArray = args at hts ⊢
  have hl : lv_has ls 5 [(0, .ref h), (1, .int a1), (2, .int a2), (3, .int a3)] := hl
  have hin : ∀ w ∈ wsX110, w ∈ wsX11_sign := by decide +kernel
  have b63 : ∀ (s0 : Int32) (M : RM) (H : Heap) (locs : List Loc) (ls : Array Slot), rH D kA h ad A s.heap M H locs → lv_has ls 5 [] → fm_sign_b63 Q  s0 M → W p l e (headSpec wsX11_sign rmX11_sign).room s m args below meth c H locs 0 0 (MQ below (va_Qi Q (rB D kA h ad A) A) args s 0 0 A) (F0 m 63 ls [.int s0]) := by
    intro   s0 M H locs ls hH hl hw
    unfold fm_sign_b63 at hw
    exact r_retz hx hb hr hw.1.1 hlocks hK hH hw.2 dX11_sign_63
  have b61 : ∀ (M : RM) (H : Heap) (locs : List Loc) (ls : Array Slot), rH D kA h ad A s.heap M H locs → lv_has ls 5 [] → fm_sign_b61 Q   M → W p l e (headSpec wsX11_sign rmX11_sign).room s m args below meth c H locs 0 0 (MQ below (va_Qi Q (rB D kA h ad A) A) args s 0 0 A) (F0 m 61 ls []) := by
    intro    M H locs ls hH hl hw
    unfold fm_sign_b61 at hw
    refine lv_bipush (v := 32) hx hb dX11_sign_61 (by decide) ?_
    exact b63   32 M H locs ls hH (lv_sub hl [] rfl) hw
  clear hP hD0
  unfold fm_sign at hw
  have hst : ∀ (M : RM) (H : Heap) (locs : List Loc) (ls : Array Slot), rH D kA h ad A s.heap M H locs → lv_has ls 5 [(0, .ref h), (1, .int a1), (2, .int a2), (3, .int a3)] → (∀ M1 : RM, M1 = wI M 0 0 → fm_rowOf a1 a2 M1 (fun (r3 : Int32) (M2 : RM) => ((r3 < 0 → fm_sign_b61 Q   M2) ∧ (¬ r3 < 0 → (vp_in r3 96 ∧ ((¬ (rA M2 19 r3.toNatClampNeg) = 5 → fm_sign_b61 Q   M2) ∧ ((rA M2 19 r3.toNatClampNeg) = 5 → ((a3 < 0 → fm_sign_b61 Q   M2) ∧ (¬ a3 < 0 → (vp_in r3 96 ∧ ((0 ≤ (lg_cmp a3.toInt64 (rJ M2 20 r3.toNatClampNeg)) → fm_sign_b61 Q   M2) ∧ (¬ 0 ≤ (lg_cmp a3.toInt64 (rJ M2 20 r3.toNatClampNeg)) → (vp_in ((80 * r3) + a3) 7680 ∧ fm_sign_b63 Q  (rA M2 22 ((80 * r3) + a3).toNatClampNeg) M2))))))))))))) → W p l e (headSpec wsX11_sign rmX11_sign).room s m args below meth c H locs 0 0 (MQ below (va_Qi Q (rB D kA h ad A) A) args s 0 0 A) (F0 m 0 ls []) := by
    intro M H locs ls hH hl hw
    refine lv_aload_n hx hb dX11_sign_0 rfl (lv_at hl 0 rfl) ?_
    refine lv_iconst (v := 0) hx hb dX11_sign_1 (by decide) ?_
    refine rp_0 hx hb hts hin hown hK hH (hts (.fieldLink RX11 78 "IdlCallerModel" "refusal" "I") (by decide +kernel)) dX11_sign_2 (fun M1 H locs eM1 hH => ?_)
    replace hw := hw M1 eM1
    refine lv_aload_n hx hb dX11_sign_5 rfl (lv_at hl 0 rfl) ?_
    refine lv_iload_n hx hb dX11_sign_6 rfl (lv_at hl 1 rfl) ?_
    refine lv_iload_n hx hb dX11_sign_7 rfl (lv_at hl 2 rfl) ?_
    refine r_calli (va_runV (As := [.int a1, .int a2]) (rest := []) ⟨hx, hb, hml, hown, hts⟩ (tm_rowOf l D kA h ad H.size M1 a1 a2 _ hw) (cwV 2 hts gX11_sign_X11_rowOf rfl rfl rfl (by decide +kernel) ⟨Nat.le_of_ble_eq_true rfl, Nat.le_of_ble_eq_true rfl⟩) (r_preV hK hH) rfl rfl hl.1 rfl (lv_room (Nat.le_of_ble_eq_true rfl)) dX11_sign_8 ⟨Nat.le_of_ble_eq_true rfl, Nat.le_of_ble_eq_true rfl⟩) hH hA (fun r3 M2 H locs hw hH => ?_)
    refine lv_istore (lv' := [(4, .int r3), (0, .ref h), (1, .int a1), (2, .int a2), (3, .int a3)]) hx hb dX11_sign_11 hl (by decide) rfl (fun ls hl => ?_)
    refine lv_iload hx hb dX11_sign_13 (lv_at hl 0 rfl) ?_
    refine lv_if_lt (tgt := 61) hx hb dX11_sign_15 (by decide) (fun c4 => ?_) (fun c4 => ?_)
    · replace hw := hw.1 c4
      exact b61    M2 H locs ls hH (lv_sub hl [] rfl) hw
    · replace hw := hw.2 c4
      refine lv_aload_n hx hb dX11_sign_18 rfl (lv_at hl 1 rfl) ?_
      refine rg_19 hx hb hts hin hown hK hH (hts (.fieldLink RX11 62 "IdlCallerModel" "madeKind" "[I") (by decide +kernel)) dX11_sign_19 ?_
      refine lv_iload hx hb dX11_sign_22 (lv_at hl 0 rfl) ?_
      obtain ⟨h5, hw⟩ := hw
      refine rl_19 hx hb hK hH h5 dX11_sign_24 ?_
      refine lv_iconst (v := 5) hx hb dX11_sign_25 (by decide) ?_
      refine lv_icmp_ne (tgt := 61) hx hb dX11_sign_26 (by decide) (fun c6 => ?_) (fun c6 => ?_)
      · replace hw := hw.1 c6
        exact b61    M2 H locs ls hH (lv_sub hl [] rfl) hw
      · replace hw := hw.2 c6
        refine lv_iload_n hx hb dX11_sign_29 rfl (lv_at hl 4 rfl) ?_
        refine lv_if_lt (tgt := 61) hx hb dX11_sign_30 (by decide) (fun c7 => ?_) (fun c7 => ?_)
        · replace hw := hw.1 c7
          exact b61    M2 H locs ls hH (lv_sub hl [] rfl) hw
        · replace hw := hw.2 c7
          refine lv_iload_n hx hb dX11_sign_33 rfl (lv_at hl 4 rfl) ?_
          refine lv_i2l hx hb dX11_sign_34 rfl ?_
          refine lv_aload_n hx hb dX11_sign_35 rfl (lv_at hl 1 rfl) ?_
          refine rg_20 hx hb hts hin hown hK hH (hts (.fieldLink RX11 65 "IdlCallerModel" "madeWhole" "[J") (by decide +kernel)) dX11_sign_36 ?_
          refine lv_iload hx hb dX11_sign_39 (lv_at hl 0 rfl) ?_
          obtain ⟨h8, hw⟩ := hw
          refine rl_20 hx hb hK hH h8 dX11_sign_41 ?_
          refine W.lcmp hx hb dX11_sign_42 ?_
          refine lv_if_ge (tgt := 61) hx hb dX11_sign_43 (by decide) (fun c9 => ?_) (fun c9 => ?_)
          · replace hw := hw.1 c9
            exact b61    M2 H locs ls hH (lv_sub hl [] rfl) hw
          · replace hw := hw.2 c9
            refine lv_aload_n hx hb dX11_sign_46 rfl (lv_at hl 1 rfl) ?_
            refine rg_22 hx hb hts hin hown hK hH (hts (.fieldLink RX11 72 "IdlCallerModel" "madeText" "[C") (by decide +kernel)) dX11_sign_47 ?_
            refine lv_bipush (v := 80) hx hb dX11_sign_50 (by decide) ?_
            refine lv_iload hx hb dX11_sign_52 (lv_at hl 0 rfl) ?_
            refine lv_imul hx hb dX11_sign_54 ?_
            refine lv_iload_n hx hb dX11_sign_55 rfl (lv_at hl 4 rfl) ?_
            refine lv_iadd hx hb dX11_sign_56 ?_
            obtain ⟨h10, hw⟩ := hw
            refine rl_22 hx hb hK hH h10 dX11_sign_57 ?_
            refine lv_goto (tgt := 63) hx hb dX11_sign_58 (by decide) ?_
            exact b63   (rA M2 22 ((80 * r3) + a3).toNatClampNeg) M2 H locs ls hH (lv_sub hl [] rfl) hw
  exact hst M s.heap [] ls hH hl hw
