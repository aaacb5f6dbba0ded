def fc_X1_rounded_b69 (T : LY) (Q : Int64 → CM → Prop) (v2 : Int64) (M : CM) : Prop := Q v2 M
def fc_X1_rounded_b68 (T : LY) (Q : Int64 → CM → Prop) (s0 : Int64) (M : CM) : Prop := Q s0 M
def fc_X1_rounded_b52 (T : LY) (Q : Int64 → CM → Prop) (v2 : Int64) (v4 : UInt64) (M : CM) : Prop := ((0 ≤ (Op.cmpValue (FP.dcmp v4 FP.dconst0) .g) → fc_X1_rounded_b68 T Q  (v2 + 1) M) ∧ (¬ 0 ≤ (Op.cmpValue (FP.dcmp v4 FP.dconst0) .g) → fc_X1_rounded_b68 T Q  (v2 - 1) M))
def fc_X1_rounded_b24 (T : LY) (Q : Int64 → CM → Prop) (v2 : Int64) (v4 : UInt64) (s0 : UInt64) (M : CM) : Prop := ((0 < (Op.cmpValue (FP.dcmp s0 4602678819172646912) .l) → fc_X1_rounded_b52 T Q  v2 v4 M) ∧ (¬ 0 < (Op.cmpValue (FP.dcmp s0 4602678819172646912) .l) → ((¬ (Op.cmpValue (FP.dcmp s0 4602678819172646912) .l) = 0 → fc_X1_rounded_b69 T Q  v2 M) ∧ ((Op.cmpValue (FP.dcmp s0 4602678819172646912) .l) = 0 → (((lg_cmp (v2 &&& 1) 0) = 0 → fc_X1_rounded_b69 T Q  v2 M) ∧ (¬ (lg_cmp (v2 &&& 1) 0) = 0 → fc_X1_rounded_b52 T Q  v2 v4 M))))))
def fc_X1_rounded (T : LY)  (a1 : UInt64) (M : CM) (Q : Int64 → CM → Prop) : Prop := (∀ x5 : Int64, x5 = FP.d2l a1 → (vf_n64 (FP.dsub a1 (FP.l2d x5)) ∧ (∀ x7 : UInt64, x7 = FP.dsub a1 (FP.l2d x5) → ((0 ≤ (Op.cmpValue (FP.dcmp x7 FP.dconst0) .g) → fc_X1_rounded_b24 T Q  x5 x7 x7 M) ∧ (¬ 0 ≤ (Op.cmpValue (FP.dcmp x7 FP.dconst0) .g) → fc_X1_rounded_b24 T Q  x5 x7 (FP.dneg x7) M)))))
abbrev rmX1_rounded : Room := { frames := 0, cells := 0, slots := 0, locals := 0 }
set_option maxHeartbeats 4000000 in
set_option maxRecDepth 100000 in
theorem tc_X1_rounded (l : Launch) (D : va_G) (kA : Nat → ClassId) (nm : Nat → Nat) (na : Nat) (sa sv : Nat → Nat) (sz : Nat) (T : LY) (a1 : UInt64) (M : CM) (Q : Int64 → CM → Prop) (hw : fc_X1_rounded T a1 M Q) : Met l yX1_rounded wsX1_rounded rmX1_rounded (va_Pc [.double a1] (cPc nm na sa sv D kA T M sz)) (va_Ql Q (cB D kA (cF T sz) T) (cF T sz)) 0 0 (cF T sz) := by
  refine Met.ofW (cc := cX1_rounded) (maxL := 8) (ret := (some .long)) (by decide) rfl ?_
  intro p e s m args below meth c s₁ B hml hv
  obtain ⟨rfl, hsz, hP, hK, hSt⟩ := hv
  have hx := B.exec
  have hb := B.bytes
  have hr := B.returns
  have hts := atoms_spec (ws := wsX1_rounded) B.pre
  have hown : s.vm.findClass RX1 = some m.cls := findClass_of_methodNamed B.named
  have hlocks : meth.locks = false := B.notSynchronized
  subst hsz
  have hH : cH D kA (cF T s.heap.size) s.heap T M s.heap [] := ⟨hP.self, va_S.rf⟩
  have hA : ∀ q : Nat, s.heap.size ≤ q → cF T s.heap.size q := fun q z => Or.inr z
  generalize cF T s.heap.size = A at hH hA hSt ⊢
  have hl := lv_entry ([.double a1]) (n := 8) (by first | exact Nat.le_of_ble_eq_true rfl | simp [lg_sl, va_rf_cat, cat_ref, cat_int, cat_long, cat_double])
  rw [lg_entry_eq]
  generalize (lg_sl ([.double a1]) ++ List.replicate (8 - (lg_sl ([.double a1])).length) Slot.unset).toArray = ls at hl ⊢
  generalize ([.double a1] : List Value).toArray = args at hts ⊢
  have hl : lv_has ls 8 [(0, .double a1)] := hl
  have b69 : ∀ (v2 : Int64) (M : CM) (H : Heap) (locs : List Loc) (ls : Array Slot), cH D kA A s.heap T M H locs → lv_has ls 8 [(2, .long v2)] → fc_X1_rounded_b69 T Q  v2 M → W p l e (headSpec wsX1_rounded rmX1_rounded).room s m args below meth c H locs 0 0 (MQ below (va_Ql Q (cB D kA A T) A) args s 0 0 A) (F0 m 69 ls []) := by
    intro   v2 M H locs ls hH hl hw
    unfold fc_X1_rounded_b69 at hw
    refine lv_lload_n hx hb dX1_rounded_69 rfl (lv_at hl 0 rfl) ?_
    exact c_retl hx hb hr hlocks hK hH hw dX1_rounded_70
  have b68 : ∀ (s0 : Int64) (M : CM) (H : Heap) (locs : List Loc) (ls : Array Slot), cH D kA A s.heap T M H locs → lv_has ls 8 [] → fc_X1_rounded_b68 T Q  s0 M → W p l e (headSpec wsX1_rounded rmX1_rounded).room s m args below meth c H locs 0 0 (MQ below (va_Ql Q (cB D kA A T) A) args s 0 0 A) (F0 m 68 ls [.long s0]) := by
    intro   s0 M H locs ls hH hl hw
    unfold fc_X1_rounded_b68 at hw
    exact c_retl hx hb hr hlocks hK hH hw dX1_rounded_68
  have b52 : ∀ (v2 : Int64) (v4 : UInt64) (M : CM) (H : Heap) (locs : List Loc) (ls : Array Slot), cH D kA A s.heap T M H locs → lv_has ls 8 [(2, .long v2), (4, .double v4)] → fc_X1_rounded_b52 T Q  v2 v4 M → W p l e (headSpec wsX1_rounded rmX1_rounded).room s m args below meth c H locs 0 0 (MQ below (va_Ql Q (cB D kA A T) A) args s 0 0 A) (F0 m 52 ls []) := by
    intro   v2 v4 M H locs ls hH hl hw
    unfold fc_X1_rounded_b52 at hw
    refine lv_dload hx hb dX1_rounded_52 (lv_at hl 1 rfl) ?_
    refine lv_dconst0 hx hb dX1_rounded_54 ?_
    refine lv_dcmp hx hb dX1_rounded_55 ?_
    refine lv_if_ge (tgt := 65) hx hb dX1_rounded_56 (by decide) (fun c1 => ?_) (fun c1 => ?_)
    · replace hw := hw.1 c1
      refine lv_lload_n hx hb dX1_rounded_65 rfl (lv_at hl 0 rfl) ?_
      refine lv_lconst (v := 1) hx hb dX1_rounded_66 (by decide) ?_
      refine lv_ladd hx hb dX1_rounded_67 ?_
      exact b68   (v2 + 1) M H locs ls hH (lv_sub hl [] rfl) hw
    · replace hw := hw.2 c1
      refine lv_lload_n hx hb dX1_rounded_59 rfl (lv_at hl 0 rfl) ?_
      refine lv_lconst (v := 1) hx hb dX1_rounded_60 (by decide) ?_
      refine lv_lsub hx hb dX1_rounded_61 ?_
      refine lv_goto (tgt := 68) hx hb dX1_rounded_62 (by decide) ?_
      exact b68   (v2 - 1) M H locs ls hH (lv_sub hl [] rfl) hw
  have b24 : ∀ (v2 : Int64) (v4 : UInt64) (s0 : UInt64) (M : CM) (H : Heap) (locs : List Loc) (ls : Array Slot), cH D kA A s.heap T M H locs → lv_has ls 8 [(2, .long v2), (4, .double v4)] → fc_X1_rounded_b24 T Q  v2 v4 s0 M → W p l e (headSpec wsX1_rounded rmX1_rounded).room s m args below meth c H locs 0 0 (MQ below (va_Ql Q (cB D kA A T) A) args s 0 0 A) (F0 m 24 ls [.double s0]) := by
    intro   v2 v4 s0 M H locs ls hH hl hw
    unfold fc_X1_rounded_b24 at hw
    refine lv_dstore (i := 6) (lv' := [(6, .double s0), (2, .long v2), (4, .double v4)]) hx hb dX1_rounded_24 hl (by decide) rfl (fun ls hl => ?_)
    refine lv_dload hx hb dX1_rounded_26 (lv_at hl 0 rfl) ?_
    refine lv_ldc2d (v := 4602678819172646912) hx hb hown (hts (.constantDouble RX1 149 4602678819172646912) (by decide +kernel)) dX1_rounded_28 ?_
    refine lv_dcmp hx hb dX1_rounded_31 ?_
    refine lv_if_gt (tgt := 52) hx hb dX1_rounded_32 (by decide) (fun c2 => ?_) (fun c2 => ?_)
    · replace hw := hw.1 c2
      exact b52   v2 v4 M H locs ls hH (lv_sub hl [1, 2] rfl) hw
    · replace hw := hw.2 c2
      refine lv_dload hx hb dX1_rounded_35 (lv_at hl 0 rfl) ?_
      refine lv_ldc2d (v := 4602678819172646912) hx hb hown (hts (.constantDouble RX1 149 4602678819172646912) (by decide +kernel)) dX1_rounded_37 ?_
      refine lv_dcmp hx hb dX1_rounded_40 ?_
      refine lv_if_ne (tgt := 69) hx hb dX1_rounded_41 (by decide) (fun c3 => ?_) (fun c3 => ?_)
      · replace hw := hw.1 c3
        exact b69   v2 M H locs ls hH (lv_sub hl [1] rfl) hw
      · replace hw := hw.2 c3
        refine lv_lload_n hx hb dX1_rounded_44 rfl (lv_at hl 1 rfl) ?_
        refine lv_lconst (v := 1) hx hb dX1_rounded_45 (by decide) ?_
        refine lv_land hx hb dX1_rounded_46 ?_
        refine lv_lconst (v := 0) hx hb dX1_rounded_47 (by decide) ?_
        refine W.lcmp hx hb dX1_rounded_48 ?_
        refine lv_if_eq (tgt := 69) hx hb dX1_rounded_49 (by decide) (fun c4 => ?_) (fun c4 => ?_)
        · replace hw := hw.1 c4
          exact b69   v2 M H locs ls hH (lv_sub hl [1] rfl) hw
        · replace hw := hw.2 c4
          exact b52   v2 v4 M H locs ls hH (lv_sub hl [1, 2] rfl) hw
  clear hP
  unfold fc_X1_rounded at hw
  have hst : ∀ (M : CM) (H : Heap) (locs : List Loc) (ls : Array Slot), cH D kA A s.heap T M H locs → lv_has ls 8 [(0, .double a1)] → (∀ x5 : Int64, x5 = FP.d2l a1 → (vf_n64 (FP.dsub a1 (FP.l2d x5)) ∧ (∀ x7 : UInt64, x7 = FP.dsub a1 (FP.l2d x5) → ((0 ≤ (Op.cmpValue (FP.dcmp x7 FP.dconst0) .g) → fc_X1_rounded_b24 T Q  x5 x7 x7 M) ∧ (¬ 0 ≤ (Op.cmpValue (FP.dcmp x7 FP.dconst0) .g) → fc_X1_rounded_b24 T Q  x5 x7 (FP.dneg x7) M))))) → W p l e (headSpec wsX1_rounded rmX1_rounded).room s m args below meth c H locs 0 0 (MQ below (va_Ql Q (cB D kA A T) A) args s 0 0 A) (F0 m 0 ls []) := by
    intro M H locs ls hH hl hw
    refine lv_dload_n hx hb dX1_rounded_0 rfl (lv_at hl 0 rfl) ?_
    refine lv_d2l hx hb dX1_rounded_1 ?_
    refine lv_topl (fun x5 ex5 => ?_)
    replace hw := hw x5 ex5
    refine lv_lstore_n (i := 2) (lv' := [(2, .long x5), (0, .double a1)]) hx hb dX1_rounded_2 rfl hl (by decide) rfl (fun ls hl => ?_)
    refine lv_dload_n hx hb dX1_rounded_3 rfl (lv_at hl 1 rfl) ?_
    refine lv_lload_n hx hb dX1_rounded_4 rfl (lv_at hl 0 rfl) ?_
    refine lv_l2d hx hb dX1_rounded_5 ?_
    obtain ⟨h6, hw⟩ := hw
    refine lv_dsub hx hb dX1_rounded_6 h6 ?_
    refine lv_topd (fun x7 ex7 => ?_)
    replace hw := hw x7 ex7
    refine lv_dstore (i := 4) (lv' := [(4, .double x7), (2, .long x5), (0, .double a1)]) hx hb dX1_rounded_7 hl (by decide) rfl (fun ls hl => ?_)
    refine lv_dload hx hb dX1_rounded_9 (lv_at hl 0 rfl) ?_
    refine lv_dconst0 hx hb dX1_rounded_11 ?_
    refine lv_dcmp hx hb dX1_rounded_12 ?_
    refine lv_if_ge (tgt := 22) hx hb dX1_rounded_13 (by decide) (fun c8 => ?_) (fun c8 => ?_)
    · replace hw := hw.1 c8
      refine lv_dload hx hb dX1_rounded_22 (lv_at hl 0 rfl) ?_
      exact b24   x5 x7 x7 M H locs ls hH (lv_sub hl [1, 0] rfl) hw
    · replace hw := hw.2 c8
      refine lv_dload hx hb dX1_rounded_16 (lv_at hl 0 rfl) ?_
      refine lv_dneg hx hb dX1_rounded_18 ?_
      refine lv_goto (tgt := 24) hx hb dX1_rounded_19 (by decide) ?_
      exact b24   x5 x7 (FP.dneg x7) M H locs ls hH (lv_sub hl [1, 0] rfl) hw
  exact hst M s.heap [] ls hH hl hw
def fc_X1_wrapped (T : LY)  (a1 : Int64) (a2 : Int64) (a3 : Int64) (M : CM) (Q : Int64 → CM → Prop) : Prop := Q (((a1 - a2) &&& (a3 - a2)) + a2) M
abbrev rmX1_wrapped : Room := { frames := 0, cells := 0, slots := 0, locals := 0 }
set_option maxHeartbeats 4000000 in
set_option maxRecDepth 100000 in
theorem tc_X1_wrapped (l : Launch) (D : va_G) (kA : Nat → ClassId) (nm : Nat → Nat) (na : Nat) (sa sv : Nat → Nat) (sz : Nat) (T : LY) (a1 : Int64) (a2 : Int64) (a3 : Int64) (M : CM) (Q : Int64 → CM → Prop) (hw : fc_X1_wrapped T a1 a2 a3 M Q) : Met l yX1_wrapped wsX1_wrapped rmX1_wrapped (va_Pc [.long a1, .long a2, .long a3] (cPc nm na sa sv D kA T M sz)) (va_Ql Q (cB D kA (cF T sz) T) (cF T sz)) 0 0 (cF T sz) := by
  refine Met.ofW (cc := cX1_wrapped) (maxL := 6) (ret := (some .long)) (by decide) rfl ?_
  intro p e s m args below meth c s₁ B hml hv
  obtain ⟨rfl, hsz, hP, hK, hSt⟩ := hv
  have hx := B.exec
  have hb := B.bytes
  have hr := B.returns
  have hts := atoms_spec (ws := wsX1_wrapped) B.pre
  have hown : s.vm.findClass RX1 = some m.cls := findClass_of_methodNamed B.named
  have hlocks : meth.locks = false := B.notSynchronized
  subst hsz
  have hH : cH D kA (cF T s.heap.size) s.heap T M s.heap [] := ⟨hP.self, va_S.rf⟩
  have hA : ∀ q : Nat, s.heap.size ≤ q → cF T s.heap.size q := fun q z => Or.inr z
  generalize cF T s.heap.size = A at hH hA hSt ⊢
  have hl := lv_entry ([.long a1, .long a2, .long a3]) (n := 6) (by first | exact Nat.le_of_ble_eq_true rfl | simp [lg_sl, va_rf_cat, cat_ref, cat_int, cat_long, cat_double])
  rw [lg_entry_eq]
  generalize (lg_sl ([.long a1, .long a2, .long a3]) ++ List.replicate (6 - (lg_sl ([.long a1, .long a2, .long a3])).length) Slot.unset).toArray = ls at hl ⊢
  generalize ([.long a1, .long a2, .long a3] : List Value).toArray = args at hts ⊢
  have hl : lv_has ls 6 [(0, .long a1), (2, .long a2), (4, .long a3)] := hl
  clear hP
  unfold fc_X1_wrapped at hw
  have hst : ∀ (M : CM) (H : Heap) (locs : List Loc) (ls : Array Slot), cH D kA A s.heap T M H locs → lv_has ls 6 [(0, .long a1), (2, .long a2), (4, .long a3)] → Q (((a1 - a2) &&& (a3 - a2)) + a2) M → W p l e (headSpec wsX1_wrapped rmX1_wrapped).room s m args below meth c H locs 0 0 (MQ below (va_Ql Q (cB D kA A T) A) args s 0 0 A) (F0 m 0 ls []) := by
    intro M H locs ls hH hl hw
    refine lv_lload_n hx hb dX1_wrapped_0 rfl (lv_at hl 0 rfl) ?_
    refine lv_lload_n hx hb dX1_wrapped_1 rfl (lv_at hl 1 rfl) ?_
    refine lv_lsub hx hb dX1_wrapped_2 ?_
    refine lv_lload hx hb dX1_wrapped_3 (lv_at hl 2 rfl) ?_
    refine lv_lload_n hx hb dX1_wrapped_5 rfl (lv_at hl 1 rfl) ?_
    refine lv_lsub hx hb dX1_wrapped_6 ?_
    refine lv_land hx hb dX1_wrapped_7 ?_
    refine lv_lload_n hx hb dX1_wrapped_8 rfl (lv_at hl 1 rfl) ?_
    refine lv_ladd hx hb dX1_wrapped_9 ?_
    exact c_retl hx hb hr hlocks hK hH hw dX1_wrapped_10
  exact hst M s.heap [] ls hH hl hw
def fc_X1_convertNumber_b139 (nm : Nat → Nat) (T : LY) (Q : Int32 → CM → Prop) (v2 : Option Nat) (s0 : Int64) (M : CM) : Prop := (∃ p1 : Nat, v2 = some p1 ∧ (tg T p1 = 9 ∧ fc_X8_becomeWhole T p1 3 s0 M (fun (M3 : CM) => Q 1 M3)))
def fc_X1_convertNumber_b96 (nm : Nat → Nat) (T : LY) (Q : Int32 → CM → Prop) (v0 : Option Nat) (v2 : Option Nat) (v3 : Option Nat) (v4 : UInt64) (v6 : Int64) (M : CM) : Prop := (∃ p6 : Nat, v0 = some p6 ∧ (tg T p6 = 10 ∧ ((¬ (cI M 91 p6) = 1 → (∃ i9 : Nat, v3 = some (nm i9) ∧ i9 < 10 ∧ fc_X1_wrapped T v6 (nLeast i9) (nMost i9) M (fun (r11 : Int64) (M10 : CM) => fc_X1_convertNumber_b139 nm T Q  v2 r11 M10))) ∧ ((cI M 91 p6) = 1 → (∃ i13 : Nat, v3 = some (nm i13) ∧ i13 < 10 ∧ fc_X1_rounded T v4 M (fun (r15 : Int64) (M14 : CM) => fc_X1_convertNumber_b139 nm T Q  v2 (if (if r15 < nMost i13 then r15 else nMost i13) < nLeast i13 then nLeast i13 else (if r15 < nMost i13 then r15 else nMost i13)) M14))))))
def fc_X1_convertNumber_b94 (nm : Nat → Nat) (T : LY) (Q : Int32 → CM → Prop) (M : CM) : Prop := Q 0 M
def fc_X1_convertNumber_b44 (nm : Nat → Nat) (T : LY) (Q : Int32 → CM → Prop) (v0 : Option Nat) (v2 : Option Nat) (v3 : Option Nat) (s0 : UInt64) (M : CM) : Prop := ((¬ v3 = (some (nm 5)) → (∀ x18 : Int64, x18 = FP.d2l s0 → (∃ p19 : Nat, v0 = some p19 ∧ (tg T p19 = 10 ∧ ((¬ (cI M 91 p19) = 2 → fc_X1_convertNumber_b96 nm T Q  v0 v2 v3 s0 x18 M) ∧ ((cI M 91 p19) = 2 → (∃ i22 : Nat, v3 = some (nm i22) ∧ i22 < 10 ∧ (((lg_cmp x18 (nLeast i22)) < 0 → fc_X1_convertNumber_b94 nm T Q   M) ∧ (¬ (lg_cmp x18 (nLeast i22)) < 0 → (((lg_cmp x18 (nMost i22)) ≤ 0 → fc_X1_convertNumber_b96 nm T Q  v0 v2 v3 s0 x18 M) ∧ (¬ (lg_cmp x18 (nMost i22)) ≤ 0 → fc_X1_convertNumber_b94 nm T Q   M))))))))))) ∧ (v3 = (some (nm 5)) → (∃ p25 : Nat, v2 = some p25 ∧ (tg T p25 = 9 ∧ fc_X8_becomeDouble T p25 s0 M (fun (M27 : CM) => Q 1 M27)))))
def fc_X1_convertNumber_b29 (nm : Nat → Nat) (T : LY) (Q : Int32 → CM → Prop) (v0 : Option Nat) (v1 : Option Nat) (v2 : Option Nat) (v3 : Option Nat) (M : CM) : Prop := (∃ p30 : Nat, v1 = some p30 ∧ (tg T p30 = 9 ∧ (((cI M 83 p30) = 0 → fc_X1_convertNumber_b44 nm T Q  v0 v2 v3 FP.dconst0 M) ∧ (¬ (cI M 83 p30) = 0 → fc_X1_convertNumber_b44 nm T Q  v0 v2 v3 (cD M 82 p30) M))))
def fc_X1_convertNumber_b27 (nm : Nat → Nat) (T : LY) (Q : Int32 → CM → Prop) (M : CM) : Prop := Q 0 M
def fc_X1_convertNumber (nm : Nat → Nat) (T : LY)  (a1 : Option Nat) (a2 : Option Nat) (a3 : Option Nat) (M : CM) (Q : Int32 → CM → Prop) : Prop := (∃ p33 : Nat, a1 = some p33 ∧ (tg T p33 = 10 ∧ (∃ p35 : Nat, a2 = some p35 ∧ (tg T p35 = 9 ∧ ((¬ (cI M 83 p35) = 0 → fc_X1_convertNumber_b29 nm T Q  a1 a2 a3 (cR M 90 p33) M) ∧ ((cI M 83 p35) = 0 → (((cR M 90 p33) = (some (nm 5)) → fc_X1_convertNumber_b27 nm T Q   M) ∧ (¬ (cR M 90 p33) = (some (nm 5)) → ((¬ (cI M 91 p33) = 2 → fc_X1_convertNumber_b29 nm T Q  a1 a2 a3 (cR M 90 p33) M) ∧ ((cI M 91 p33) = 2 → fc_X1_convertNumber_b27 nm T Q   M))))))))))
abbrev rmX1_convertNumber : Room := { frames := 2, cells := 0, slots := 0, locals := 45 }
set_option maxHeartbeats 4000000 in
set_option maxRecDepth 100000 in
theorem tc_X1_convertNumber (l : Launch) (D : va_G) (kA : Nat → ClassId) (nm : Nat → Nat) (na : Nat) (sa sv : Nat → Nat) (sz : Nat) (T : LY) (a1 : Option Nat) (a2 : Option Nat) (a3 : Option Nat) (M : CM) (Q : Int32 → CM → Prop) (hw : fc_X1_convertNumber nm T a1 a2 a3 M Q) : Met l yX1_convertNumber wsX1_convertNumber rmX1_convertNumber (va_Pc [va_rf a1, va_rf a2, va_rf a3] (cPc nm na sa sv D kA T M sz)) (va_Qi Q (cB D kA (cF T sz) T) (cF T sz)) 0 0 (cF T sz) := by
  refine Met.ofW (cc := cX1_convertNumber) (maxL := 10) (ret := (some .boolean)) (by decide) rfl ?_
  intro p e s m args below meth c s₁ B hml hv
  obtain ⟨rfl, hsz, hP, hK, hSt⟩ := hv
  have hx := B.exec
  have hb := B.bytes
  have hr := B.returns
  have hts := atoms_spec (ws := wsX1_convertNumber) B.pre
  have hown : s.vm.findClass RX1 = some m.cls := findClass_of_methodNamed B.named
  have hlocks : meth.locks = false := B.notSynchronized
  subst hsz
  have hH : cH D kA (cF T s.heap.size) s.heap T M s.heap [] := ⟨hP.self, va_S.rf⟩
  have hA : ∀ q : Nat, s.heap.size ≤ q → cF T s.heap.size q := fun q z => Or.inr z
  generalize cF T s.heap.size = A at hH hA hSt ⊢
  have hl := lv_entry ([va_rf a1, va_rf a2, va_rf a3]) (n := 10) (by first | exact Nat.le_of_ble_eq_true rfl | simp [lg_sl, va_rf_cat, cat_ref, cat_int, cat_long, cat_double])
  rw [lg_entry_eq]
  generalize (lg_sl ([va_rf a1, va_rf a2, va_rf a3]) ++ List.replicate (10 - (lg_sl ([va_rf a1, va_rf a2, va_rf a3])).length) Slot.unset).toArray = ls at hl ⊢
  generalize ([va_rf a1, va_rf a2, va_rf a3] : List Value).toArray = args at hts ⊢
  have hl : lv_has ls 10 [(0, va_rf a1), (1, va_rf a2), (2, va_rf a3)] := by simpa [lv_args, va_rf_cat, cat_ref, cat_int, cat_long, cat_double] using hl
  have hin8 : ∀ w ∈ wsX80, w ∈ wsX1_convertNumber := by decide +kernel
  have hin9 : ∀ w ∈ wsX90, w ∈ wsX1_convertNumber := by decide +kernel
  have b139 : ∀ (v2 : Option Nat) (s0 : Int64) (M : CM) (H : Heap) (locs : List Loc) (ls : Array Slot), cH D kA A s.heap T M H locs → lv_has ls 10 [(2, va_rf v2)] → fc_X1_convertNumber_b139 nm T Q  v2 s0 M → W p l e (headSpec wsX1_convertNumber rmX1_convertNumber).room s m args below meth c H locs 0 0 (MQ below (va_Qi Q (cB D kA A T) A) args s 0 0 A) (F0 m 139 ls [.long s0]) := by
    intro   v2 s0 M H locs ls hH hl hw
    unfold fc_X1_convertNumber_b139 at hw
    refine lv_lstore (i := 8) (lv' := [(8, .long s0), (2, va_rf v2)]) hx hb dX1_convertNumber_139 hl (by decide) (by first | rfl | simp [va_rf_cat, cat_ref, cat_int, cat_long, cat_double, cat_null]) (fun ls hl => ?_)
    refine s_aload_n hx hb dX1_convertNumber_141 rfl (lv_at hl 1 rfl) ?_
    refine lv_iconst (v := 3) hx hb dX1_convertNumber_142 (by decide) ?_
    refine lv_lload hx hb dX1_convertNumber_143 (lv_at hl 0 rfl) ?_
    obtain ⟨p1, ep1, hw⟩ := hw
    refine W.st (st' := [.long s0, .int 3, .ref p1]) (by rw [ep1]; rfl) ?_
    obtain ⟨h2, hw⟩ := hw
    refine c_callv (va_runV (As := [.int 3, .long s0]) (rest := []) ⟨hx, hb, hml, hown, hts⟩ (tc_X8_becomeWhole l D kA nm na sa sv H.size T p1 3 s0 M _ hw) (cwV 2 hts gX1_convertNumber_X8_becomeWhole rfl rfl rfl (by decide +kernel) ⟨(show (1 : Nat) + 1 ≤ 2 from Nat.le_of_ble_eq_true rfl), (show 8 + (4 + 11) + (21 : Nat) ≤ 45 from Nat.le_of_ble_eq_true rfl)⟩) (c_preV hK hH hA hSt (c_recv8 hK hH h2)) rfl rfl hl.1 rfl (lv_room (by first | exact Nat.le_of_ble_eq_true rfl | simp [va_rf_cat, cat_ref, cat_int, cat_long, cat_double, cat_null])) dX1_convertNumber_145 ⟨Nat.le_of_ble_eq_true rfl, Nat.le_of_ble_eq_true rfl⟩) hH hA (fun M3 H locs hw hH => ?_)
    refine lv_iconst (v := 1) hx hb dX1_convertNumber_148 (by decide) ?_
    exact c_retz hx hb hr rfl hlocks hK hH hw dX1_convertNumber_149
  have b96 : ∀ (v0 : Option Nat) (v2 : Option Nat) (v3 : Option Nat) (v4 : UInt64) (v6 : Int64) (M : CM) (H : Heap) (locs : List Loc) (ls : Array Slot), cH D kA A s.heap T M H locs → lv_has ls 10 [(0, va_rf v0), (2, va_rf v2), (3, va_rf v3), (4, .double v4), (6, .long v6)] → fc_X1_convertNumber_b96 nm T Q  v0 v2 v3 v4 v6 M → W p l e (headSpec wsX1_convertNumber rmX1_convertNumber).room s m args below meth c H locs 0 0 (MQ below (va_Qi Q (cB D kA A T) A) args s 0 0 A) (F0 m 96 ls []) := by
    intro   v0 v2 v3 v4 v6 M H locs ls hH hl hw
    unfold fc_X1_convertNumber_b96 at hw
    refine s_aload_n hx hb dX1_convertNumber_96 rfl (lv_at hl 0 rfl) ?_
    obtain ⟨p6, ep6, hw⟩ := hw
    refine W.st (st' := [.ref p6]) (by rw [ep6]; rfl) ?_
    obtain ⟨h7, hw⟩ := hw
    refine cg_91 hx hb hts hin9 hown hK hH h7 (hts (.fieldLink RX1 114 "IdlCaller$Type" "mode" "I") (by decide +kernel)) dX1_convertNumber_97 ?_
    refine lv_iconst (v := 1) hx hb dX1_convertNumber_100 (by decide) ?_
    refine lv_icmp_ne (tgt := 126) hx hb dX1_convertNumber_101 (by decide) (fun c8 => ?_) (fun c8 => ?_)
    · replace hw := hw.1 c8
      refine lv_lload hx hb dX1_convertNumber_126 (lv_at hl 4 rfl) ?_
      refine s_aload_n hx hb dX1_convertNumber_128 rfl (lv_at hl 2 rfl) ?_
      obtain ⟨i9, ei9, hi9, hw⟩ := hw
      refine W.st (st' := [.ref (nm i9), .long v6]) (by first | (rw [ei9]; rfl) | (have z := Option.some.inj ei9; rw [z])) ?_
      refine ce_least hx hb hown hSt hH hi9 (hts (.fieldLink RX1 125 "IdlCaller$Name" "least" "J") (by decide +kernel)) dX1_convertNumber_129 ?_
      refine s_aload_n hx hb dX1_convertNumber_132 rfl (lv_at hl 2 rfl) ?_
      refine W.st (st' := [.ref (nm i9), .long (nLeast i9), .long v6]) (by first | (rw [ei9]; rfl) | (have z := Option.some.inj ei9; rw [z])) ?_
      refine ce_most hx hb hown hSt hH hi9 (hts (.fieldLink RX1 129 "IdlCaller$Name" "most" "J") (by decide +kernel)) dX1_convertNumber_133 ?_
      refine c_calll (va_runS (As := [.long v6, .long (nLeast i9), .long (nMost i9)]) (rest := []) ⟨hx, hb, hml, hown, hts⟩ (tc_X1_wrapped l D kA nm na sa sv H.size T v6 (nLeast i9) (nMost i9) M _ hw) (va_cwS 3 hts gX1_convertNumber_X1_wrapped rfl rfl rfl (by decide +kernel) ⟨(show (0 : Nat) + 1 ≤ 2 from Nat.le_of_ble_eq_true rfl), (show 8 + (6 + 11) + (0 : Nat) ≤ 45 from Nat.le_of_ble_eq_true rfl)⟩) (c_preS hK hH hA hSt) rfl rfl hl.1 rfl (lv_room (by first | exact Nat.le_of_ble_eq_true rfl | simp [va_rf_cat, cat_ref, cat_int, cat_long, cat_double, cat_null])) dX1_convertNumber_136 ⟨Nat.le_of_ble_eq_true rfl, Nat.le_of_ble_eq_true rfl⟩) hH hA (fun r11 M10 H locs hw hH => ?_)
      exact b139   v2 r11 M10 H locs ls hH (lv_sub hl [1] rfl) hw
    · replace hw := hw.2 c8
      refine s_aload_n hx hb dX1_convertNumber_104 rfl (lv_at hl 2 rfl) ?_
      obtain ⟨i13, ei13, hi13, hw⟩ := hw
      refine W.st (st' := [.ref (nm i13)]) (by first | (rw [ei13]; rfl) | (have z := Option.some.inj ei13; rw [z])) ?_
      refine ce_least hx hb hown hSt hH hi13 (hts (.fieldLink RX1 125 "IdlCaller$Name" "least" "J") (by decide +kernel)) dX1_convertNumber_105 ?_
      refine s_aload_n hx hb dX1_convertNumber_108 rfl (lv_at hl 2 rfl) ?_
      refine W.st (st' := [.ref (nm i13), .long (nLeast i13)]) (by first | (rw [ei13]; rfl) | (have z := Option.some.inj ei13; rw [z])) ?_
      refine ce_most hx hb hown hSt hH hi13 (hts (.fieldLink RX1 129 "IdlCaller$Name" "most" "J") (by decide +kernel)) dX1_convertNumber_109 ?_
      refine lv_dload hx hb dX1_convertNumber_112 (lv_at hl 3 rfl) ?_
      refine c_calll (va_runS (As := [.double v4]) (rest := [.long (nMost i13), .long (nLeast i13)]) ⟨hx, hb, hml, hown, hts⟩ (tc_X1_rounded l D kA nm na sa sv H.size T v4 M _ hw) (va_cwS 1 hts gX1_convertNumber_X1_rounded rfl rfl rfl (by decide +kernel) ⟨(show (0 : Nat) + 1 ≤ 2 from Nat.le_of_ble_eq_true rfl), (show 8 + (8 + 11) + (0 : Nat) ≤ 45 from Nat.le_of_ble_eq_true rfl)⟩) (c_preS hK hH hA hSt) rfl rfl hl.1 rfl (lv_room (by first | exact Nat.le_of_ble_eq_true rfl | simp [va_rf_cat, cat_ref, cat_int, cat_long, cat_double, cat_null])) dX1_convertNumber_114 ⟨Nat.le_of_ble_eq_true rfl, Nat.le_of_ble_eq_true rfl⟩) hH hA (fun r15 M14 H locs hw hH => ?_)
      refine va_mmin_long hx hb (by rw [hml]; exact hl.1.symm) hown (hts (.methodLink RX1 136 Lib.MathLoose.min_long.x) (by decide +kernel)) (hts (.static Lib.MathLoose.min_long.x) (by decide +kernel)) (hts (.initialized "java/lang/Math") (by decide +kernel)) (hts (.code Lib.MathLoose.min_long.x Lib.MathLoose.min_long.code 4 (some .long)) (by decide +kernel)) ((show _ ≤ (2 : Nat) from by first | exact Nat.le_of_ble_eq_true rfl | simp [va_rf_cat, cat_ref, cat_int, cat_long, cat_double, cat_null])) ((show _ ≤ (45 : Nat) from by first | exact Nat.le_of_ble_eq_true rfl | simp [va_rf_cat, cat_ref, cat_int, cat_long, cat_double, cat_null])) (Nat.le_of_ble_eq_true rfl) (Nat.le_of_ble_eq_true rfl) dX1_convertNumber_117 ?_
      refine va_mmax_long hx hb (by rw [hml]; exact hl.1.symm) hown (hts (.methodLink RX1 142 Lib.MathLoose.max_long.x) (by decide +kernel)) (hts (.static Lib.MathLoose.max_long.x) (by decide +kernel)) (hts (.initialized "java/lang/Math") (by decide +kernel)) (hts (.code Lib.MathLoose.max_long.x Lib.MathLoose.max_long.code 4 (some .long)) (by decide +kernel)) ((show _ ≤ (2 : Nat) from by first | exact Nat.le_of_ble_eq_true rfl | simp [va_rf_cat, cat_ref, cat_int, cat_long, cat_double, cat_null])) ((show _ ≤ (45 : Nat) from by first | exact Nat.le_of_ble_eq_true rfl | simp [va_rf_cat, cat_ref, cat_int, cat_long, cat_double, cat_null])) (Nat.le_of_ble_eq_true rfl) (Nat.le_of_ble_eq_true rfl) dX1_convertNumber_120 ?_
      refine lv_goto (tgt := 139) hx hb dX1_convertNumber_123 (by decide) ?_
      exact b139   v2 (if (if r15 < nMost i13 then r15 else nMost i13) < nLeast i13 then nLeast i13 else (if r15 < nMost i13 then r15 else nMost i13)) M14 H locs ls hH (lv_sub hl [1] rfl) hw
  have b94 : ∀ (M : CM) (H : Heap) (locs : List Loc) (ls : Array Slot), cH D kA A s.heap T M H locs → lv_has ls 10 [] → fc_X1_convertNumber_b94 nm T Q   M → W p l e (headSpec wsX1_convertNumber rmX1_convertNumber).room s m args below meth c H locs 0 0 (MQ below (va_Qi Q (cB D kA A T) A) args s 0 0 A) (F0 m 94 ls []) := by
    intro    M H locs ls hH hl hw
    unfold fc_X1_convertNumber_b94 at hw
    refine lv_iconst (v := 0) hx hb dX1_convertNumber_94 (by decide) ?_
    exact c_retz hx hb hr rfl hlocks hK hH hw dX1_convertNumber_95
  have b44 : ∀ (v0 : Option Nat) (v2 : Option Nat) (v3 : Option Nat) (s0 : UInt64) (M : CM) (H : Heap) (locs : List Loc) (ls : Array Slot), cH D kA A s.heap T M H locs → lv_has ls 10 [(0, va_rf v0), (2, va_rf v2), (3, va_rf v3)] → fc_X1_convertNumber_b44 nm T Q  v0 v2 v3 s0 M → W p l e (headSpec wsX1_convertNumber rmX1_convertNumber).room s m args below meth c H locs 0 0 (MQ below (va_Qi Q (cB D kA A T) A) args s 0 0 A) (F0 m 44 ls [.double s0]) := by
    intro   v0 v2 v3 s0 M H locs ls hH hl hw
    unfold fc_X1_convertNumber_b44 at hw
    refine lv_dstore (i := 4) (lv' := [(4, .double s0), (0, va_rf v0), (2, va_rf v2), (3, va_rf v3)]) hx hb dX1_convertNumber_44 hl (by decide) (by first | rfl | simp [va_rf_cat, cat_ref, cat_int, cat_long, cat_double, cat_null]) (fun ls hl => ?_)
    refine s_aload_n hx hb dX1_convertNumber_46 rfl (lv_at hl 3 rfl) ?_
    refine ce_5 hx hb hown hSt hH (hts (.fieldLink RX1 111 "IdlCaller$Name" "DOUBLE" "LIdlCaller$Name;") (by decide +kernel)) dX1_convertNumber_47 ?_
    refine lv_acmp_ne (rx := v3) (ry := (some (nm 5))) (tgt := 61) hx hb dX1_convertNumber_50 (by decide) (fun c17 => ?_) (fun c17 => ?_)
    · replace hw := hw.1 c17
      refine lv_dload hx hb dX1_convertNumber_61 (lv_at hl 0 rfl) ?_
      refine lv_d2l hx hb dX1_convertNumber_63 ?_
      refine lv_topl (fun x18 ex18 => ?_)
      replace hw := hw x18 ex18
      refine lv_lstore (i := 6) (lv' := [(6, .long x18), (4, .double s0), (0, va_rf v0), (2, va_rf v2), (3, va_rf v3)]) hx hb dX1_convertNumber_64 hl (by decide) (by first | rfl | simp [va_rf_cat, cat_ref, cat_int, cat_long, cat_double, cat_null]) (fun ls hl => ?_)
      refine s_aload_n hx hb dX1_convertNumber_66 rfl (lv_at hl 2 rfl) ?_
      obtain ⟨p19, ep19, hw⟩ := hw
      refine W.st (st' := [.ref p19]) (by rw [ep19]; rfl) ?_
      obtain ⟨h20, hw⟩ := hw
      refine cg_91 hx hb hts hin9 hown hK hH h20 (hts (.fieldLink RX1 114 "IdlCaller$Type" "mode" "I") (by decide +kernel)) dX1_convertNumber_67 ?_
      refine lv_iconst (v := 2) hx hb dX1_convertNumber_70 (by decide) ?_
      refine lv_icmp_ne (tgt := 96) hx hb dX1_convertNumber_71 (by decide) (fun c21 => ?_) (fun c21 => ?_)
      · replace hw := hw.1 c21
        exact b96   v0 v2 v3 s0 x18 M H locs ls hH (lv_sub hl [2, 3, 4, 1, 0] rfl) hw
      · replace hw := hw.2 c21
        refine lv_lload hx hb dX1_convertNumber_74 (lv_at hl 0 rfl) ?_
        refine s_aload_n hx hb dX1_convertNumber_76 rfl (lv_at hl 4 rfl) ?_
        obtain ⟨i22, ei22, hi22, hw⟩ := hw
        refine W.st (st' := [.ref (nm i22), .long x18]) (by first | (rw [ei22]; rfl) | (have z := Option.some.inj ei22; rw [z])) ?_
        refine ce_least hx hb hown hSt hH hi22 (hts (.fieldLink RX1 125 "IdlCaller$Name" "least" "J") (by decide +kernel)) dX1_convertNumber_77 ?_
        refine W.lcmp hx hb dX1_convertNumber_80 ?_
        refine lv_if_lt (tgt := 94) hx hb dX1_convertNumber_81 (by decide) (fun c23 => ?_) (fun c23 => ?_)
        · replace hw := hw.1 c23
          exact b94    M H locs ls hH (lv_sub hl [] rfl) hw
        · replace hw := hw.2 c23
          refine lv_lload hx hb dX1_convertNumber_84 (lv_at hl 0 rfl) ?_
          refine s_aload_n hx hb dX1_convertNumber_86 rfl (lv_at hl 4 rfl) ?_
          refine W.st (st' := [.ref (nm i22), .long x18]) (by first | (rw [ei22]; rfl) | (have z := Option.some.inj ei22; rw [z])) ?_
          refine ce_most hx hb hown hSt hH hi22 (hts (.fieldLink RX1 129 "IdlCaller$Name" "most" "J") (by decide +kernel)) dX1_convertNumber_87 ?_
          refine W.lcmp hx hb dX1_convertNumber_90 ?_
          refine lv_if_le (tgt := 96) hx hb dX1_convertNumber_91 (by decide) (fun c24 => ?_) (fun c24 => ?_)
          · replace hw := hw.1 c24
            exact b96   v0 v2 v3 s0 x18 M H locs ls hH (lv_sub hl [2, 3, 4, 1, 0] rfl) hw
          · replace hw := hw.2 c24
            exact b94    M H locs ls hH (lv_sub hl [] rfl) hw
    · replace hw := hw.2 c17
      refine s_aload_n hx hb dX1_convertNumber_53 rfl (lv_at hl 2 rfl) ?_
      refine lv_dload hx hb dX1_convertNumber_54 (lv_at hl 0 rfl) ?_
      obtain ⟨p25, ep25, hw⟩ := hw
      refine W.st (st' := [.double s0, .ref p25]) (by rw [ep25]; rfl) ?_
      obtain ⟨h26, hw⟩ := hw
      refine c_callv (va_runV (As := [.double s0]) (rest := []) ⟨hx, hb, hml, hown, hts⟩ (tc_X8_becomeDouble l D kA nm na sa sv H.size T p25 s0 M _ hw) (cwV 1 hts gX1_convertNumber_X8_becomeDouble rfl rfl rfl (by decide +kernel) ⟨(show (1 : Nat) + 1 ≤ 2 from Nat.le_of_ble_eq_true rfl), (show 8 + (3 + 11) + (23 : Nat) ≤ 45 from Nat.le_of_ble_eq_true rfl)⟩) (c_preV hK hH hA hSt (c_recv8 hK hH h26)) rfl rfl hl.1 rfl (lv_room (by first | exact Nat.le_of_ble_eq_true rfl | simp [va_rf_cat, cat_ref, cat_int, cat_long, cat_double, cat_null])) dX1_convertNumber_56 ⟨Nat.le_of_ble_eq_true rfl, Nat.le_of_ble_eq_true rfl⟩) hH hA (fun M27 H locs hw hH => ?_)
      refine lv_iconst (v := 1) hx hb dX1_convertNumber_59 (by decide) ?_
      exact c_retz hx hb hr rfl hlocks hK hH hw dX1_convertNumber_60
  have b29 : ∀ (v0 : Option Nat) (v1 : Option Nat) (v2 : Option Nat) (v3 : Option Nat) (M : CM) (H : Heap) (locs : List Loc) (ls : Array Slot), cH D kA A s.heap T M H locs → lv_has ls 10 [(0, va_rf v0), (1, va_rf v1), (2, va_rf v2), (3, va_rf v3)] → fc_X1_convertNumber_b29 nm T Q  v0 v1 v2 v3 M → W p l e (headSpec wsX1_convertNumber rmX1_convertNumber).room s m args below meth c H locs 0 0 (MQ below (va_Qi Q (cB D kA A T) A) args s 0 0 A) (F0 m 29 ls []) := by
    intro   v0 v1 v2 v3 M H locs ls hH hl hw
    unfold fc_X1_convertNumber_b29 at hw
    refine s_aload_n hx hb dX1_convertNumber_29 rfl (lv_at hl 1 rfl) ?_
    obtain ⟨p30, ep30, hw⟩ := hw
    refine W.st (st' := [.ref p30]) (by rw [ep30]; rfl) ?_
    obtain ⟨h31, hw⟩ := hw
    refine cg_83 hx hb hts hin8 hown hK hH h31 (hts (.fieldLink RX1 108 "IdlCaller$Thing" "hasNumber" "Z") (by decide +kernel)) dX1_convertNumber_30 ?_
    refine lv_if_eq (tgt := 43) hx hb dX1_convertNumber_33 (by decide) (fun c32 => ?_) (fun c32 => ?_)
    · replace hw := hw.1 c32
      refine lv_dconst0 hx hb dX1_convertNumber_43 ?_
      exact b44   v0 v2 v3 FP.dconst0 M H locs ls hH (lv_sub hl [0, 2, 3] rfl) hw
    · replace hw := hw.2 c32
      refine s_aload_n hx hb dX1_convertNumber_36 rfl (lv_at hl 1 rfl) ?_
      refine W.st (st' := [.ref p30]) (by rw [ep30]; rfl) ?_
      refine cg_82 hx hb hts hin8 hown hK hH h31 (hts (.fieldLink RX1 117 "IdlCaller$Thing" "real" "D") (by decide +kernel)) dX1_convertNumber_37 ?_
      refine lv_goto (tgt := 44) hx hb dX1_convertNumber_40 (by decide) ?_
      exact b44   v0 v2 v3 (cD M 82 p30) M H locs ls hH (lv_sub hl [0, 2, 3] rfl) hw
  have b27 : ∀ (M : CM) (H : Heap) (locs : List Loc) (ls : Array Slot), cH D kA A s.heap T M H locs → lv_has ls 10 [] → fc_X1_convertNumber_b27 nm T Q   M → W p l e (headSpec wsX1_convertNumber rmX1_convertNumber).room s m args below meth c H locs 0 0 (MQ below (va_Qi Q (cB D kA A T) A) args s 0 0 A) (F0 m 27 ls []) := by
    intro    M H locs ls hH hl hw
    unfold fc_X1_convertNumber_b27 at hw
    refine lv_iconst (v := 0) hx hb dX1_convertNumber_27 (by decide) ?_
    exact c_retz hx hb hr rfl hlocks hK hH hw dX1_convertNumber_28
  clear hP
  unfold fc_X1_convertNumber at hw
  have hst : ∀ (M : CM) (H : Heap) (locs : List Loc) (ls : Array Slot), cH D kA A s.heap T M H locs → lv_has ls 10 [(0, va_rf a1), (1, va_rf a2), (2, va_rf a3)] → (∃ p33 : Nat, a1 = some p33 ∧ (tg T p33 = 10 ∧ (∃ p35 : Nat, a2 = some p35 ∧ (tg T p35 = 9 ∧ ((¬ (cI M 83 p35) = 0 → fc_X1_convertNumber_b29 nm T Q  a1 a2 a3 (cR M 90 p33) M) ∧ ((cI M 83 p35) = 0 → (((cR M 90 p33) = (some (nm 5)) → fc_X1_convertNumber_b27 nm T Q   M) ∧ (¬ (cR M 90 p33) = (some (nm 5)) → ((¬ (cI M 91 p33) = 2 → fc_X1_convertNumber_b29 nm T Q  a1 a2 a3 (cR M 90 p33) M) ∧ ((cI M 91 p33) = 2 → fc_X1_convertNumber_b27 nm T Q   M)))))))))) → W p l e (headSpec wsX1_convertNumber rmX1_convertNumber).room s m args below meth c H locs 0 0 (MQ below (va_Qi Q (cB D kA A T) A) args s 0 0 A) (F0 m 0 ls []) := by
    intro M H locs ls hH hl hw
    refine s_aload_n hx hb dX1_convertNumber_0 rfl (lv_at hl 0 rfl) ?_
    obtain ⟨p33, ep33, hw⟩ := hw
    refine W.st (st' := [.ref p33]) (by rw [ep33]; rfl) ?_
    obtain ⟨h34, hw⟩ := hw
    refine cg_90 hx hb hts hin9 hown hK hH h34 (hts (.fieldLink RX1 58 "IdlCaller$Type" "name" "LIdlCaller$Name;") (by decide +kernel)) dX1_convertNumber_1 ?_
    refine s_astore_n (i := 3) (lv' := [(3, va_rf (cR M 90 p33)), (0, va_rf a1), (1, va_rf a2), (2, va_rf a3)]) hx hb dX1_convertNumber_4 rfl hl (by decide) (by first | rfl | simp [va_rf_cat, cat_ref, cat_int, cat_long, cat_double, cat_null]) (fun ls hl => ?_)
    refine s_aload_n hx hb dX1_convertNumber_5 rfl (lv_at hl 2 rfl) ?_
    obtain ⟨p35, ep35, hw⟩ := hw
    refine W.st (st' := [.ref p35]) (by rw [ep35]; rfl) ?_
    obtain ⟨h36, hw⟩ := hw
    refine cg_83 hx hb hts hin8 hown hK hH h36 (hts (.fieldLink RX1 108 "IdlCaller$Thing" "hasNumber" "Z") (by decide +kernel)) dX1_convertNumber_6 ?_
    refine lv_if_ne (tgt := 29) hx hb dX1_convertNumber_9 (by decide) (fun c37 => ?_) (fun c37 => ?_)
    · replace hw := hw.1 c37
      exact b29   a1 a2 a3 (cR M 90 p33) M H locs ls hH (lv_sub hl [1, 2, 3, 0] rfl) hw
    · replace hw := hw.2 c37
      refine s_aload_n hx hb dX1_convertNumber_12 rfl (lv_at hl 0 rfl) ?_
      refine ce_5 hx hb hown hSt hH (hts (.fieldLink RX1 111 "IdlCaller$Name" "DOUBLE" "LIdlCaller$Name;") (by decide +kernel)) dX1_convertNumber_13 ?_
      refine lv_acmp_eq (rx := (cR M 90 p33)) (ry := (some (nm 5))) (tgt := 27) hx hb dX1_convertNumber_16 (by decide) (fun c38 => ?_) (fun c38 => ?_)
      · replace hw := hw.1 c38
        exact b27    M H locs ls hH (lv_sub hl [] rfl) hw
      · replace hw := hw.2 c38
        refine s_aload_n hx hb dX1_convertNumber_19 rfl (lv_at hl 1 rfl) ?_
        refine W.st (st' := [.ref p33]) (by rw [ep33]; rfl) ?_
        refine cg_91 hx hb hts hin9 hown hK hH h34 (hts (.fieldLink RX1 114 "IdlCaller$Type" "mode" "I") (by decide +kernel)) dX1_convertNumber_20 ?_
        refine lv_iconst (v := 2) hx hb dX1_convertNumber_23 (by decide) ?_
        refine lv_icmp_ne (tgt := 29) hx hb dX1_convertNumber_24 (by decide) (fun c39 => ?_) (fun c39 => ?_)
        · replace hw := hw.1 c39
          exact b29   a1 a2 a3 (cR M 90 p33) M H locs ls hH (lv_sub hl [1, 2, 3, 0] rfl) hw
        · replace hw := hw.2 c39
          exact b27    M H locs ls hH (lv_sub hl [] rfl) hw
  exact hst M s.heap [] ls hH hl hw
def fc_X1_convertPlain_b111 (nm : Nat → Nat) (T : LY) (Q : Int32 → CM → Prop) (v1 : Option Nat) (v2 : Option Nat) (M : CM) : Prop := (∃ p1 : Nat, v1 = some p1 ∧ (tg T p1 = 9 ∧ (∃ p3 : Nat, v2 = some p3 ∧ (tg T p3 = 9 ∧ fc_X8_becomeText T p3 (cR M 84 p1) M (fun (M5 : CM) => Q 1 M5)))))
def fc_X1_convertPlain_b62 (nm : Nat → Nat) (T : LY) (Q : Int32 → CM → Prop) (s0 : Int64) (s1 : Int32) (s2 : Option Nat) (M : CM) : Prop := (∃ p8 : Nat, s2 = some p8 ∧ (tg T p8 = 9 ∧ fc_X8_becomeWhole T p8 s1 s0 M (fun (M10 : CM) => Q 1 M10)))
def fc_X1_convertPlain_b21 (nm : Nat → Nat) (T : LY) (Q : Int32 → CM → Prop) (v0 : Option Nat) (v1 : Option Nat) (v2 : Option Nat) (M : CM) : Prop := (∃ p13 : Nat, v0 = some p13 ∧ (tg T p13 = 10 ∧ ((¬ (cR M 90 p13) = (some (nm 7)) → ((¬ (cR M 90 p13) = (some (nm 0)) → (∃ i17 : Nat, cR M 90 p13 = some (nm i17) ∧ i17 < 10 ∧ ((¬ (nSort i17) = 2 → ((¬ (cR M 90 p13) = (some (nm 8)) → fc_X1_convertPlain_b111 nm T Q  v1 v2 M) ∧ ((cR M 90 p13) = (some (nm 8)) → (∃ p20 : Nat, v1 = some p20 ∧ (tg T p20 = 9 ∧ (∃ p22 : Nat, cR M 84 p20 = some p22 ∧ (tg T p22 = 8 ∧ fc_X7_wordCode T p22 M (fun (r25 : Int64) (M24 : CM) => fc_X9_hasWord T p13 r25 M24 (fun (r28 : Int32) (M27 : CM) => ((¬ r28 = 0 → fc_X1_convertPlain_b111 nm T Q  v1 v2 M27) ∧ (r28 = 0 → Q 0 M27))))))))))) ∧ ((nSort i17) = 2 → fc_X1_convertNumber nm T v0 v1 v2 M (fun (r32 : Int32) (M31 : CM) => (nZ r32 ∧ Q r32 M31)))))) ∧ ((cR M 90 p13) = (some (nm 0)) → (∃ p34 : Nat, v1 = some p34 ∧ (tg T p34 = 9 ∧ fc_X8_isTrue T p34 M (fun (r37 : Int32) (M36 : CM) => ((r37 = 0 → fc_X1_convertPlain_b62 nm T Q  0 2 v2 M36) ∧ (¬ r37 = 0 → fc_X1_convertPlain_b62 nm T Q  1 2 v2 M36)))))))) ∧ ((cR M 90 p13) = (some (nm 7)) → (∃ p40 : Nat, v2 = some p40 ∧ (tg T p40 = 9 ∧ fc_X8_copyAll T p40 v1 M (fun (M42 : CM) => Q 1 M42)))))))
def fc_X1_convertPlain (nm : Nat → Nat) (T : LY)  (a1 : Option Nat) (a2 : Option Nat) (a3 : Option Nat) (M : CM) (Q : Int32 → CM → Prop) : Prop := (∃ p45 : Nat, a1 = some p45 ∧ (tg T p45 = 10 ∧ (((cI M 92 p45) = 0 → fc_X1_convertPlain_b21 nm T Q  a1 a2 a3 M) ∧ (¬ (cI M 92 p45) = 0 → (∃ p48 : Nat, a2 = some p48 ∧ (tg T p48 = 9 ∧ fc_X8_isUndefinedOrNull T p48 M (fun (r51 : Int32) (M50 : CM) => ((r51 = 0 → fc_X1_convertPlain_b21 nm T Q  a1 a2 a3 M50) ∧ (¬ r51 = 0 → (∃ p54 : Nat, a3 = some p54 ∧ (tg T p54 = 9 ∧ fc_X8_become T p54 1 M50 (fun (M56 : CM) => Q 1 M56))))))))))))
abbrev rmX1_convertPlain : Room := { frames := 3, cells := 0, slots := 0, locals := 74 }
set_option maxHeartbeats 4000000 in
set_option maxRecDepth 100000 in
theorem tc_X1_convertPlain (l : Launch) (D : va_G) (kA : Nat → ClassId) (nm : Nat → Nat) (na : Nat) (sa sv : Nat → Nat) (sz : Nat) (T : LY) (a1 : Option Nat) (a2 : Option Nat) (a3 : Option Nat) (M : CM) (Q : Int32 → CM → Prop) (hw : fc_X1_convertPlain nm T a1 a2 a3 M Q) : Met l yX1_convertPlain wsX1_convertPlain rmX1_convertPlain (va_Pc [va_rf a1, va_rf a2, va_rf a3] (cPc nm na sa sv D kA T M sz)) (va_Qi Q (cB D kA (cF T sz) T) (cF T sz)) 0 0 (cF T sz) := by
  refine Met.ofW (cc := cX1_convertPlain) (maxL := 3) (ret := (some .boolean)) (by decide) rfl ?_
  intro p e s m args below meth c s₁ B hml hv
  obtain ⟨rfl, hsz, hP, hK, hSt⟩ := hv
  have hx := B.exec
  have hb := B.bytes
  have hr := B.returns
  have hts := atoms_spec (ws := wsX1_convertPlain) B.pre
  have hown : s.vm.findClass RX1 = some m.cls := findClass_of_methodNamed B.named
  have hlocks : meth.locks = false := B.notSynchronized
  subst hsz
  have hH : cH D kA (cF T s.heap.size) s.heap T M s.heap [] := ⟨hP.self, va_S.rf⟩
  have hA : ∀ q : Nat, s.heap.size ≤ q → cF T s.heap.size q := fun q z => Or.inr z
  generalize cF T s.heap.size = A at hH hA hSt ⊢
  have hl := lv_entry ([va_rf a1, va_rf a2, va_rf a3]) (n := 3) (by first | exact Nat.le_of_ble_eq_true rfl | simp [lg_sl, va_rf_cat, cat_ref, cat_int, cat_long, cat_double])
  rw [lg_entry_eq]
  generalize (lg_sl ([va_rf a1, va_rf a2, va_rf a3]) ++ List.replicate (3 - (lg_sl ([va_rf a1, va_rf a2, va_rf a3])).length) Slot.unset).toArray = ls at hl ⊢
  generalize ([va_rf a1, va_rf a2, va_rf a3] : List Value).toArray = args at hts ⊢
  have hl : lv_has ls 3 [(0, va_rf a1), (1, va_rf a2), (2, va_rf a3)] := by simpa [lv_args, va_rf_cat, cat_ref, cat_int, cat_long, cat_double] using hl
  have hin8 : ∀ w ∈ wsX80, w ∈ wsX1_convertPlain := by decide +kernel
  have hin9 : ∀ w ∈ wsX90, w ∈ wsX1_convertPlain := by decide +kernel
  have b111 : ∀ (v1 : Option Nat) (v2 : Option Nat) (M : CM) (H : Heap) (locs : List Loc) (ls : Array Slot), cH D kA A s.heap T M H locs → lv_has ls 3 [(1, va_rf v1), (2, va_rf v2)] → fc_X1_convertPlain_b111 nm T Q  v1 v2 M → W p l e (headSpec wsX1_convertPlain rmX1_convertPlain).room s m args below meth c H locs 0 0 (MQ below (va_Qi Q (cB D kA A T) A) args s 0 0 A) (F0 m 111 ls []) := by
    intro   v1 v2 M H locs ls hH hl hw
    unfold fc_X1_convertPlain_b111 at hw
    refine s_aload_n hx hb dX1_convertPlain_111 rfl (lv_at hl 1 rfl) ?_
    refine s_aload_n hx hb dX1_convertPlain_112 rfl (lv_at hl 0 rfl) ?_
    obtain ⟨p1, ep1, hw⟩ := hw
    refine W.st (st' := [.ref p1, va_rf v2]) (by rw [ep1]; rfl) ?_
    obtain ⟨h2, hw⟩ := hw
    refine cg_84 hx hb hts hin8 hown hK hH h2 (hts (.fieldLink RX1 90 "IdlCaller$Thing" "text" "LIdlCaller$Text;") (by decide +kernel)) dX1_convertPlain_113 ?_
    obtain ⟨p3, ep3, hw⟩ := hw
    refine W.st (st' := [va_rf (cR M 84 p1), .ref p3]) (by rw [ep3]; rfl) ?_
    obtain ⟨h4, hw⟩ := hw
    refine c_callv (va_runV (As := [va_rf (cR M 84 p1)]) (rest := []) ⟨hx, hb, hml, hown, hts⟩ (tc_X8_becomeText l D kA nm na sa sv H.size T p3 (cR M 84 p1) M _ hw) (cwV 1 hts gX1_convertPlain_X8_becomeText rfl rfl rfl (by decide +kernel) ⟨(show (1 : Nat) + 1 ≤ 3 from Nat.le_of_ble_eq_true rfl), (show 8 + (2 + 11) + (22 : Nat) ≤ 74 from Nat.le_of_ble_eq_true rfl)⟩) (c_preV hK hH hA hSt (c_recv8 hK hH h4)) rfl rfl hl.1 rfl (lv_room (by first | exact Nat.le_of_ble_eq_true rfl | simp [va_rf_cat, cat_ref, cat_int, cat_long, cat_double, cat_null])) dX1_convertPlain_116 ⟨Nat.le_of_ble_eq_true rfl, Nat.le_of_ble_eq_true rfl⟩) hH hA (fun M5 H locs hw hH => ?_)
    refine lv_iconst (v := 1) hx hb dX1_convertPlain_119 (by decide) ?_
    exact c_retz hx hb hr rfl hlocks hK hH hw dX1_convertPlain_120
  have b62 : ∀ (s0 : Int64) (s1 : Int32) (s2 : Option Nat) (M : CM) (H : Heap) (locs : List Loc) (ls : Array Slot), cH D kA A s.heap T M H locs → lv_has ls 3 [] → fc_X1_convertPlain_b62 nm T Q  s0 s1 s2 M → W p l e (headSpec wsX1_convertPlain rmX1_convertPlain).room s m args below meth c H locs 0 0 (MQ below (va_Qi Q (cB D kA A T) A) args s 0 0 A) (F0 m 62 ls [.long s0, .int s1, va_rf s2]) := by
    intro   s0 s1 s2 M H locs ls hH hl hw
    unfold fc_X1_convertPlain_b62 at hw
    obtain ⟨p8, ep8, hw⟩ := hw
    refine W.st (st' := [.long s0, .int s1, .ref p8]) (by rw [ep8]; rfl) ?_
    obtain ⟨h9, hw⟩ := hw
    refine c_callv (va_runV (As := [.int s1, .long s0]) (rest := []) ⟨hx, hb, hml, hown, hts⟩ (tc_X8_becomeWhole l D kA nm na sa sv H.size T p8 s1 s0 M _ hw) (cwV 2 hts gX1_convertPlain_X8_becomeWhole rfl rfl rfl (by decide +kernel) ⟨(show (1 : Nat) + 1 ≤ 3 from Nat.le_of_ble_eq_true rfl), (show 8 + (4 + 11) + (21 : Nat) ≤ 74 from Nat.le_of_ble_eq_true rfl)⟩) (c_preV hK hH hA hSt (c_recv8 hK hH h9)) rfl rfl hl.1 rfl (lv_room (by first | exact Nat.le_of_ble_eq_true rfl | simp [va_rf_cat, cat_ref, cat_int, cat_long, cat_double, cat_null])) dX1_convertPlain_62 ⟨Nat.le_of_ble_eq_true rfl, Nat.le_of_ble_eq_true rfl⟩) hH hA (fun M10 H locs hw hH => ?_)
    refine lv_iconst (v := 1) hx hb dX1_convertPlain_65 (by decide) ?_
    exact c_retz hx hb hr rfl hlocks hK hH hw dX1_convertPlain_66
  have b21 : ∀ (v0 : Option Nat) (v1 : Option Nat) (v2 : Option Nat) (M : CM) (H : Heap) (locs : List Loc) (ls : Array Slot), cH D kA A s.heap T M H locs → lv_has ls 3 [(0, va_rf v0), (1, va_rf v1), (2, va_rf v2)] → fc_X1_convertPlain_b21 nm T Q  v0 v1 v2 M → W p l e (headSpec wsX1_convertPlain rmX1_convertPlain).room s m args below meth c H locs 0 0 (MQ below (va_Qi Q (cB D kA A T) A) args s 0 0 A) (F0 m 21 ls []) := by
    intro   v0 v1 v2 M H locs ls hH hl hw
    unfold fc_X1_convertPlain_b21 at hw
    refine s_aload_n hx hb dX1_convertPlain_21 rfl (lv_at hl 0 rfl) ?_
    obtain ⟨p13, ep13, hw⟩ := hw
    refine W.st (st' := [.ref p13]) (by rw [ep13]; rfl) ?_
    obtain ⟨h14, hw⟩ := hw
    refine cg_90 hx hb hts hin9 hown hK hH h14 (hts (.fieldLink RX1 58 "IdlCaller$Type" "name" "LIdlCaller$Name;") (by decide +kernel)) dX1_convertPlain_22 ?_
    refine ce_7 hx hb hown hSt hH (hts (.fieldLink RX1 62 "IdlCaller$Name" "ANY" "LIdlCaller$Name;") (by decide +kernel)) dX1_convertPlain_25 ?_
    refine lv_acmp_ne (rx := (cR M 90 p13)) (ry := (some (nm 7))) (tgt := 38) hx hb dX1_convertPlain_28 (by decide) (fun c15 => ?_) (fun c15 => ?_)
    · replace hw := hw.1 c15
      refine s_aload_n hx hb dX1_convertPlain_38 rfl (lv_at hl 0 rfl) ?_
      refine W.st (st' := [.ref p13]) (by rw [ep13]; rfl) ?_
      refine cg_90 hx hb hts hin9 hown hK hH h14 (hts (.fieldLink RX1 58 "IdlCaller$Type" "name" "LIdlCaller$Name;") (by decide +kernel)) dX1_convertPlain_39 ?_
      refine ce_0 hx hb hown hSt hH (hts (.fieldLink RX1 71 "IdlCaller$Name" "BOOLEAN" "LIdlCaller$Name;") (by decide +kernel)) dX1_convertPlain_42 ?_
      refine lv_acmp_ne (rx := (cR M 90 p13)) (ry := (some (nm 0))) (tgt := 67) hx hb dX1_convertPlain_45 (by decide) (fun c16 => ?_) (fun c16 => ?_)
      · replace hw := hw.1 c16
        refine s_aload_n hx hb dX1_convertPlain_67 rfl (lv_at hl 0 rfl) ?_
        refine W.st (st' := [.ref p13]) (by rw [ep13]; rfl) ?_
        refine cg_90 hx hb hts hin9 hown hK hH h14 (hts (.fieldLink RX1 58 "IdlCaller$Type" "name" "LIdlCaller$Name;") (by decide +kernel)) dX1_convertPlain_68 ?_
        obtain ⟨i17, ei17, hi17, hw⟩ := hw
        refine W.st (st' := [.ref (nm i17)]) (by first | (rw [ei17]; rfl) | (have z := Option.some.inj ei17; rw [z])) ?_
        refine ce_sort hx hb hown hSt hH hi17 (hts (.fieldLink RX1 81 "IdlCaller$Name" "sort" "I") (by decide +kernel)) dX1_convertPlain_71 ?_
        refine lv_iconst (v := 2) hx hb dX1_convertPlain_74 (by decide) ?_
        refine lv_icmp_ne (tgt := 85) hx hb dX1_convertPlain_75 (by decide) (fun c18 => ?_) (fun c18 => ?_)
        · replace hw := hw.1 c18
          refine s_aload_n hx hb dX1_convertPlain_85 rfl (lv_at hl 0 rfl) ?_
          refine W.st (st' := [.ref p13]) (by rw [ep13]; rfl) ?_
          refine cg_90 hx hb hts hin9 hown hK hH h14 (hts (.fieldLink RX1 58 "IdlCaller$Type" "name" "LIdlCaller$Name;") (by decide +kernel)) dX1_convertPlain_86 ?_
          refine ce_8 hx hb hown hSt hH (hts (.fieldLink RX1 87 "IdlCaller$Name" "ENUM" "LIdlCaller$Name;") (by decide +kernel)) dX1_convertPlain_89 ?_
          refine lv_acmp_ne (rx := (cR M 90 p13)) (ry := (some (nm 8))) (tgt := 111) hx hb dX1_convertPlain_92 (by decide) (fun c19 => ?_) (fun c19 => ?_)
          · replace hw := hw.1 c19
            exact b111   v1 v2 M H locs ls hH (lv_sub hl [1, 2] rfl) hw
          · replace hw := hw.2 c19
            refine s_aload_n hx hb dX1_convertPlain_95 rfl (lv_at hl 0 rfl) ?_
            refine s_aload_n hx hb dX1_convertPlain_96 rfl (lv_at hl 1 rfl) ?_
            obtain ⟨p20, ep20, hw⟩ := hw
            refine W.st (st' := [.ref p20, va_rf v0]) (by rw [ep20]; rfl) ?_
            obtain ⟨h21, hw⟩ := hw
            refine cg_84 hx hb hts hin8 hown hK hH h21 (hts (.fieldLink RX1 90 "IdlCaller$Thing" "text" "LIdlCaller$Text;") (by decide +kernel)) dX1_convertPlain_97 ?_
            obtain ⟨p22, ep22, hw⟩ := hw
            refine W.st (st' := [.ref p22, va_rf v0]) (by rw [ep22]; rfl) ?_
            obtain ⟨h23, hw⟩ := hw
            refine c_calll (va_runV (As := []) (rest := [va_rf v0]) ⟨hx, hb, hml, hown, hts⟩ (tc_X7_wordCode l D kA nm na sa sv H.size T p22 M _ hw) (cwV 0 hts gX1_convertPlain_X7_wordCode rfl rfl rfl (by decide +kernel) ⟨(show (1 : Nat) + 1 ≤ 3 from Nat.le_of_ble_eq_true rfl), (show 8 + (5 + 11) + (22 : Nat) ≤ 74 from Nat.le_of_ble_eq_true rfl)⟩) (c_preV hK hH hA hSt (c_recv7 hK hH h23)) rfl rfl hl.1 rfl (lv_room (by first | exact Nat.le_of_ble_eq_true rfl | simp [va_rf_cat, cat_ref, cat_int, cat_long, cat_double, cat_null])) dX1_convertPlain_100 ⟨Nat.le_of_ble_eq_true rfl, Nat.le_of_ble_eq_true rfl⟩) hH hA (fun r25 M24 H locs hw hH => ?_)
            refine W.st (st' := [.long r25, .ref p13]) (by rw [ep13]; rfl) ?_
            refine c_calli (va_runV (As := [.long r25]) (rest := []) ⟨hx, hb, hml, hown, hts⟩ (tc_X9_hasWord l D kA nm na sa sv H.size T p13 r25 M24 _ hw) (cwV 1 hts gX1_convertPlain_X9_hasWord rfl rfl rfl (by decide +kernel) ⟨(show (0 : Nat) + 1 ≤ 3 from Nat.le_of_ble_eq_true rfl), (show 8 + (8 + 11) + (0 : Nat) ≤ 74 from Nat.le_of_ble_eq_true rfl)⟩) (c_preV hK hH hA hSt (c_recv9 hK hH h14)) rfl rfl hl.1 rfl (lv_room (by first | exact Nat.le_of_ble_eq_true rfl | simp [va_rf_cat, cat_ref, cat_int, cat_long, cat_double, cat_null])) dX1_convertPlain_103 ⟨Nat.le_of_ble_eq_true rfl, Nat.le_of_ble_eq_true rfl⟩) hH hA (fun r28 M27 H locs hw hH => ?_)
            refine lv_if_ne (tgt := 111) hx hb dX1_convertPlain_106 (by decide) (fun c30 => ?_) (fun c30 => ?_)
            · replace hw := hw.1 c30
              exact b111   v1 v2 M27 H locs ls hH (lv_sub hl [1, 2] rfl) hw
            · replace hw := hw.2 c30
              refine lv_iconst (v := 0) hx hb dX1_convertPlain_109 (by decide) ?_
              exact c_retz hx hb hr rfl hlocks hK hH hw dX1_convertPlain_110
        · replace hw := hw.2 c18
          refine s_aload_n hx hb dX1_convertPlain_78 rfl (lv_at hl 0 rfl) ?_
          refine s_aload_n hx hb dX1_convertPlain_79 rfl (lv_at hl 1 rfl) ?_
          refine s_aload_n hx hb dX1_convertPlain_80 rfl (lv_at hl 2 rfl) ?_
          refine c_calli (va_runS (As := [va_rf v0, va_rf v1, va_rf v2]) (rest := []) ⟨hx, hb, hml, hown, hts⟩ (tc_X1_convertNumber l D kA nm na sa sv H.size T v0 v1 v2 M _ hw) (va_cwS 3 hts gX1_convertPlain_X1_convertNumber rfl rfl rfl (by decide +kernel) ⟨(show (2 : Nat) + 1 ≤ 3 from Nat.le_of_ble_eq_true rfl), (show 8 + (10 + 11) + (45 : Nat) ≤ 74 from Nat.le_of_ble_eq_true rfl)⟩) (c_preS hK hH hA hSt) rfl rfl hl.1 rfl (lv_room (by first | exact Nat.le_of_ble_eq_true rfl | simp [va_rf_cat, cat_ref, cat_int, cat_long, cat_double, cat_null])) dX1_convertPlain_81 ⟨Nat.le_of_ble_eq_true rfl, Nat.le_of_ble_eq_true rfl⟩) hH hA (fun r32 M31 H locs hw hH => ?_)
          exact c_retz hx hb hr hw.1.1 hlocks hK hH hw.2 dX1_convertPlain_84
      · replace hw := hw.2 c16
        refine s_aload_n hx hb dX1_convertPlain_48 rfl (lv_at hl 2 rfl) ?_
        refine lv_iconst (v := 2) hx hb dX1_convertPlain_49 (by decide) ?_
        refine s_aload_n hx hb dX1_convertPlain_50 rfl (lv_at hl 1 rfl) ?_
        obtain ⟨p34, ep34, hw⟩ := hw
        refine W.st (st' := [.ref p34, .int 2, va_rf v2]) (by rw [ep34]; rfl) ?_
        obtain ⟨h35, hw⟩ := hw
        refine c_calli (va_runV (As := []) (rest := [.int 2, va_rf v2]) ⟨hx, hb, hml, hown, hts⟩ (tc_X8_isTrue l D kA nm na sa sv H.size T p34 M _ hw) (cwV 0 hts gX1_convertPlain_X8_isTrue rfl rfl rfl (by decide +kernel) ⟨(show (0 : Nat) + 1 ≤ 3 from Nat.le_of_ble_eq_true rfl), (show 8 + (1 + 11) + (0 : Nat) ≤ 74 from Nat.le_of_ble_eq_true rfl)⟩) (c_preV hK hH hA hSt (c_recv8 hK hH h35)) rfl rfl hl.1 rfl (lv_room (by first | exact Nat.le_of_ble_eq_true rfl | simp [va_rf_cat, cat_ref, cat_int, cat_long, cat_double, cat_null])) dX1_convertPlain_51 ⟨Nat.le_of_ble_eq_true rfl, Nat.le_of_ble_eq_true rfl⟩) hH hA (fun r37 M36 H locs hw hH => ?_)
        refine lv_if_eq (tgt := 61) hx hb dX1_convertPlain_54 (by decide) (fun c39 => ?_) (fun c39 => ?_)
        · replace hw := hw.1 c39
          refine lv_lconst (v := 0) hx hb dX1_convertPlain_61 (by decide) ?_
          exact b62   0 2 v2 M36 H locs ls hH (lv_sub hl [] rfl) hw
        · replace hw := hw.2 c39
          refine lv_lconst (v := 1) hx hb dX1_convertPlain_57 (by decide) ?_
          refine lv_goto (tgt := 62) hx hb dX1_convertPlain_58 (by decide) ?_
          exact b62   1 2 v2 M36 H locs ls hH (lv_sub hl [] rfl) hw
    · replace hw := hw.2 c15
      refine s_aload_n hx hb dX1_convertPlain_31 rfl (lv_at hl 2 rfl) ?_
      refine s_aload_n hx hb dX1_convertPlain_32 rfl (lv_at hl 1 rfl) ?_
      obtain ⟨p40, ep40, hw⟩ := hw
      refine W.st (st' := [va_rf v1, .ref p40]) (by rw [ep40]; rfl) ?_
      obtain ⟨h41, hw⟩ := hw
      refine c_callv (va_runV (As := [va_rf v1]) (rest := []) ⟨hx, hb, hml, hown, hts⟩ (tc_X8_copyAll l D kA nm na sa sv H.size T p40 v1 M _ hw) (cwV 1 hts gX1_convertPlain_X8_copyAll rfl rfl rfl (by decide +kernel) ⟨(show (2 : Nat) + 1 ≤ 3 from Nat.le_of_ble_eq_true rfl), (show 8 + (5 + 11) + (44 : Nat) ≤ 74 from Nat.le_of_ble_eq_true rfl)⟩) (c_preV hK hH hA hSt (c_recv8 hK hH h41)) rfl rfl hl.1 rfl (lv_room (by first | exact Nat.le_of_ble_eq_true rfl | simp [va_rf_cat, cat_ref, cat_int, cat_long, cat_double, cat_null])) dX1_convertPlain_33 ⟨Nat.le_of_ble_eq_true rfl, Nat.le_of_ble_eq_true rfl⟩) hH hA (fun M42 H locs hw hH => ?_)
      refine lv_iconst (v := 1) hx hb dX1_convertPlain_36 (by decide) ?_
      exact c_retz hx hb hr rfl hlocks hK hH hw dX1_convertPlain_37
  clear hP
  unfold fc_X1_convertPlain at hw
  have hst : ∀ (M : CM) (H : Heap) (locs : List Loc) (ls : Array Slot), cH D kA A s.heap T M H locs → lv_has ls 3 [(0, va_rf a1), (1, va_rf a2), (2, va_rf a3)] → (∃ p45 : Nat, a1 = some p45 ∧ (tg T p45 = 10 ∧ (((cI M 92 p45) = 0 → fc_X1_convertPlain_b21 nm T Q  a1 a2 a3 M) ∧ (¬ (cI M 92 p45) = 0 → (∃ p48 : Nat, a2 = some p48 ∧ (tg T p48 = 9 ∧ fc_X8_isUndefinedOrNull T p48 M (fun (r51 : Int32) (M50 : CM) => ((r51 = 0 → fc_X1_convertPlain_b21 nm T Q  a1 a2 a3 M50) ∧ (¬ r51 = 0 → (∃ p54 : Nat, a3 = some p54 ∧ (tg T p54 = 9 ∧ fc_X8_become T p54 1 M50 (fun (M56 : CM) => Q 1 M56)))))))))))) → W p l e (headSpec wsX1_convertPlain rmX1_convertPlain).room s m args below meth c H locs 0 0 (MQ below (va_Qi Q (cB D kA A T) A) args s 0 0 A) (F0 m 0 ls []) := by
    intro M H locs ls hH hl hw
    refine s_aload_n hx hb dX1_convertPlain_0 rfl (lv_at hl 0 rfl) ?_
    obtain ⟨p45, ep45, hw⟩ := hw
    refine W.st (st' := [.ref p45]) (by rw [ep45]; rfl) ?_
    obtain ⟨h46, hw⟩ := hw
    refine cg_92 hx hb hts hin9 hown hK hH h46 (hts (.fieldLink RX1 34 "IdlCaller$Type" "nullable" "Z") (by decide +kernel)) dX1_convertPlain_1 ?_
    refine lv_if_eq (tgt := 21) hx hb dX1_convertPlain_4 (by decide) (fun c47 => ?_) (fun c47 => ?_)
    · replace hw := hw.1 c47
      exact b21   a1 a2 a3 M H locs ls hH (lv_sub hl [0, 1, 2] rfl) hw
    · replace hw := hw.2 c47
      refine s_aload_n hx hb dX1_convertPlain_7 rfl (lv_at hl 1 rfl) ?_
      obtain ⟨p48, ep48, hw⟩ := hw
      refine W.st (st' := [.ref p48]) (by rw [ep48]; rfl) ?_
      obtain ⟨h49, hw⟩ := hw
      refine c_calli (va_runV (As := []) (rest := []) ⟨hx, hb, hml, hown, hts⟩ (tc_X8_isUndefinedOrNull l D kA nm na sa sv H.size T p48 M _ hw) (cwV 0 hts gX1_convertPlain_X8_isUndefinedOrNull rfl rfl rfl (by decide +kernel) ⟨(show (0 : Nat) + 1 ≤ 3 from Nat.le_of_ble_eq_true rfl), (show 8 + (1 + 11) + (0 : Nat) ≤ 74 from Nat.le_of_ble_eq_true rfl)⟩) (c_preV hK hH hA hSt (c_recv8 hK hH h49)) rfl rfl hl.1 rfl (lv_room (by first | exact Nat.le_of_ble_eq_true rfl | simp [va_rf_cat, cat_ref, cat_int, cat_long, cat_double, cat_null])) dX1_convertPlain_8 ⟨Nat.le_of_ble_eq_true rfl, Nat.le_of_ble_eq_true rfl⟩) hH hA (fun r51 M50 H locs hw hH => ?_)
      refine lv_if_eq (tgt := 21) hx hb dX1_convertPlain_11 (by decide) (fun c53 => ?_) (fun c53 => ?_)
      · replace hw := hw.1 c53
        exact b21   a1 a2 a3 M50 H locs ls hH (lv_sub hl [0, 1, 2] rfl) hw
      · replace hw := hw.2 c53
        refine s_aload_n hx hb dX1_convertPlain_14 rfl (lv_at hl 2 rfl) ?_
        refine lv_iconst (v := 1) hx hb dX1_convertPlain_15 (by decide) ?_
        obtain ⟨p54, ep54, hw⟩ := hw
        refine W.st (st' := [.int 1, .ref p54]) (by rw [ep54]; rfl) ?_
        obtain ⟨h55, hw⟩ := hw
        refine c_callv (va_runV (As := [.int 1]) (rest := []) ⟨hx, hb, hml, hown, hts⟩ (tc_X8_become l D kA nm na sa sv H.size T p54 1 M50 _ hw) (cwV 1 hts gX1_convertPlain_X8_become rfl rfl rfl (by decide +kernel) ⟨(show (0 : Nat) + 1 ≤ 3 from Nat.le_of_ble_eq_true rfl), (show 8 + (2 + 11) + (0 : Nat) ≤ 74 from Nat.le_of_ble_eq_true rfl)⟩) (c_preV hK hH hA hSt (c_recv8 hK hH h55)) rfl rfl hl.1 rfl (lv_room (by first | exact Nat.le_of_ble_eq_true rfl | simp [va_rf_cat, cat_ref, cat_int, cat_long, cat_double, cat_null])) dX1_convertPlain_16 ⟨Nat.le_of_ble_eq_true rfl, Nat.le_of_ble_eq_true rfl⟩) hH hA (fun M56 H locs hw hH => ?_)
        refine lv_iconst (v := 1) hx hb dX1_convertPlain_19 (by decide) ?_
        exact c_retz hx hb hr rfl hlocks hK hH hw dX1_convertPlain_20
  exact hst M s.heap [] ls hH hl hw
def fc_X1_convert_b125 (nm : Nat → Nat) (T : LY) (Q : Int32 → CM → Prop) (M : CM) : Prop := Q 0 M
def fc_X1_convert_c80 (nm : Nat → Nat) (T : LY) (Q : Int32 → CM → Prop) (k80 : Option Nat → Option Nat → Option Nat → Int32 → CM → Prop) (v1 : Option Nat) (v2 : Option Nat) (v4 : Option Nat) (v5 : Int32) (M : CM) : Prop := (∃ p1 : Nat, v1 = some p1 ∧ (tg T p1 = 9 ∧ (((cI M 85 p1) ≤ v5 → Q 1 M) ∧ (¬ (cI M 85 p1) ≤ v5 → fc_X8_itemAt T p1 v5 M (fun (r5 : Option Nat) (M4 : CM) => (∃ p7 : Nat, v2 = some p7 ∧ (tg T p7 = 9 ∧ fc_X8_nextItem T p7 M4 (fun (r10 : Option Nat) (M9 : CM) => ((r5 = none → fc_X1_convert_b125 nm T Q   M9) ∧ (¬ r5 = none → ((r10 = none → fc_X1_convert_b125 nm T Q   M9) ∧ (¬ r10 = none → fc_X1_convertPlain nm T v4 r5 r10 M9 (fun (r15 : Int32) (M14 : CM) => ((¬ r15 = 0 → (∀ x18 : Int32, x18 = v5 + 1 → k80 v1 v2 v4 x18 M14)) ∧ (r15 = 0 → fc_X1_convert_b125 nm T Q   M14)))))))))))))))
def fc_X1_convert_l80 (nm : Nat → Nat) (T : LY) (Q : Int32 → CM → Prop) : Nat → Option Nat → Option Nat → Option Nat → Int32 → CM → Prop := lit (τ := Option Nat → Option Nat → Option Nat → Int32 → CM → Prop) (fun _ _ _ _ _ => False) (fun k => fc_X1_convert_c80 nm T Q  k)
def fc_X1_convert_b60 (nm : Nat → Nat) (T : LY) (Q : Int32 → CM → Prop) (v1 : Option Nat) (v2 : Option Nat) (v4 : Option Nat) (M : CM) : Prop := (∃ p19 : Nat, v1 = some p19 ∧ (tg T p19 = 9 ∧ (((cI M 80 p19) = 6 → (∃ p22 : Nat, v2 = some p22 ∧ (tg T p22 = 9 ∧ fc_X8_become T p22 6 M (fun (M24 : CM) => (∃ nn : Nat, fc_X1_convert_l80 nm T Q  nn v1 v2 v4 0 M24))))) ∧ (¬ (cI M 80 p19) = 6 → Q 0 M))))
def fc_X1_convert_b53 (nm : Nat → Nat) (T : LY) (Q : Int32 → CM → Prop) (v1 : Option Nat) (v2 : Option Nat) (v3 : Option Nat) (M : CM) : Prop := fc_X1_convertPlain nm T v3 v1 v2 M (fun (r28 : Int32) (M27 : CM) => (nZ r28 ∧ Q r28 M27))
def fc_X1_convert_b23 (nm : Nat → Nat) (T : LY) (Q : Int32 → CM → Prop) (v0 : Option Nat) (v1 : Option Nat) (v2 : Option Nat) (M : CM) : Prop := (∃ p30 : Nat, v0 = some p30 ∧ (tg T p30 = 1 ∧ (∃ p32 : Nat, cR M 0 p30 = some p32 ∧ (tg T p32 = 10 ∧ (((cR M 94 p32) = none → fc_X1_convert_b53 nm T Q  v1 v2 (cR M 0 p30) M) ∧ (¬ (cR M 94 p32) = none → (((cI M 92 p32) = 0 → fc_X1_convert_b60 nm T Q  v1 v2 (cR M 94 p32) M) ∧ (¬ (cI M 92 p32) = 0 → (∃ p36 : Nat, v1 = some p36 ∧ (tg T p36 = 9 ∧ fc_X8_isUndefinedOrNull T p36 M (fun (r39 : Int32) (M38 : CM) => ((r39 = 0 → fc_X1_convert_b60 nm T Q  v1 v2 (cR M 94 p32) M38) ∧ (¬ r39 = 0 → fc_X1_convert_b53 nm T Q  v1 v2 (cR M 0 p30) M38)))))))))))))
def fc_X1_convert (nm : Nat → Nat) (T : LY)  (a1 : Option Nat) (a2 : Option Nat) (a3 : Option Nat) (M : CM) (Q : Int32 → CM → Prop) : Prop := (∃ p42 : Nat, a2 = some p42 ∧ (tg T p42 = 9 ∧ ((¬ (cI M 80 p42) = 7 → fc_X1_convert_b23 nm T Q  a1 a2 a3 M) ∧ ((cI M 80 p42) = 7 → (∃ p45 : Nat, a1 = some p45 ∧ (tg T p45 = 1 ∧ fc_X0_canBeMissing T p45 M (fun (r48 : Int32) (M47 : CM) => ((r48 = 0 → fc_X1_convert_b23 nm T Q  a1 a2 a3 M47) ∧ (¬ r48 = 0 → (∃ p51 : Nat, a3 = some p51 ∧ (tg T p51 = 9 ∧ fc_X8_become T p51 0 M47 (fun (M53 : CM) => Q 1 M53))))))))))))
abbrev rmX1_convert : Room := { frames := 4, cells := 0, slots := 0, locals := 96 }
set_option maxHeartbeats 4000000 in
set_option maxRecDepth 100000 in
theorem tc_X1_convert (l : Launch) (D : va_G) (kA : Nat → ClassId) (nm : Nat → Nat) (na : Nat) (sa sv : Nat → Nat) (sz : Nat) (T : LY) (a1 : Option Nat) (a2 : Option Nat) (a3 : Option Nat) (M : CM) (Q : Int32 → CM → Prop) (hw : fc_X1_convert nm T a1 a2 a3 M Q) : Met l yX1_convert wsX1_convert rmX1_convert (va_Pc [va_rf a1, va_rf a2, va_rf a3] (cPc nm na sa sv D kA T M sz)) (va_Qi Q (cB D kA (cF T sz) T) (cF T sz)) 0 0 (cF T sz) := by
  refine Met.ofW (cc := cX1_convert) (maxL := 8) (ret := (some .boolean)) (by decide) rfl ?_
  intro p e s m args below meth c s₁ B hml hv
  obtain ⟨rfl, hsz, hP, hK, hSt⟩ := hv
  have hx := B.exec
  have hb := B.bytes
  have hr := B.returns
  have hts := atoms_spec (ws := wsX1_convert) B.pre
  have hown : s.vm.findClass RX1 = some m.cls := findClass_of_methodNamed B.named
  have hlocks : meth.locks = false := B.notSynchronized
  subst hsz
  have hH : cH D kA (cF T s.heap.size) s.heap T M s.heap [] := ⟨hP.self, va_S.rf⟩
  have hA : ∀ q : Nat, s.heap.size ≤ q → cF T s.heap.size q := fun q z => Or.inr z
  generalize cF T s.heap.size = A at hH hA hSt ⊢
  have hl := lv_entry ([va_rf a1, va_rf a2, va_rf a3]) (n := 8) (by first | exact Nat.le_of_ble_eq_true rfl | simp [lg_sl, va_rf_cat, cat_ref, cat_int, cat_long, cat_double])
  rw [lg_entry_eq]
  generalize (lg_sl ([va_rf a1, va_rf a2, va_rf a3]) ++ List.replicate (8 - (lg_sl ([va_rf a1, va_rf a2, va_rf a3])).length) Slot.unset).toArray = ls at hl ⊢
  generalize ([va_rf a1, va_rf a2, va_rf a3] : List Value).toArray = args at hts ⊢
  have hl : lv_has ls 8 [(0, va_rf a1), (1, va_rf a2), (2, va_rf a3)] := by simpa [lv_args, va_rf_cat, cat_ref, cat_int, cat_long, cat_double] using hl
  have hin0 : ∀ w ∈ wsX00, w ∈ wsX1_convert := by decide +kernel
  have hin8 : ∀ w ∈ wsX80, w ∈ wsX1_convert := by decide +kernel
  have hin9 : ∀ w ∈ wsX90, w ∈ wsX1_convert := by decide +kernel
  have b125 : ∀ (M : CM) (H : Heap) (locs : List Loc) (ls : Array Slot), cH D kA A s.heap T M H locs → lv_has ls 8 [] → fc_X1_convert_b125 nm T Q   M → W p l e (headSpec wsX1_convert rmX1_convert).room s m args below meth c H locs 0 0 (MQ below (va_Qi Q (cB D kA A T) A) args s 0 0 A) (F0 m 125 ls []) := by
    intro    M H locs ls hH hl hw
    unfold fc_X1_convert_b125 at hw
    refine lv_iconst (v := 0) hx hb dX1_convert_125 (by decide) ?_
    exact c_retz hx hb hr rfl hlocks hK hH hw dX1_convert_126
  have l80 : ∀ (nn : Nat) (v1 : Option Nat) (v2 : Option Nat) (v4 : Option Nat) (v5 : Int32) (M : CM) (H : Heap) (locs : List Loc) (ls : Array Slot), cH D kA A s.heap T M H locs → lv_has ls 8 [(1, va_rf v1), (2, va_rf v2), (4, va_rf v4), (5, .int v5)] → fc_X1_convert_l80 nm T Q  nn v1 v2 v4 v5 M → W p l e (headSpec wsX1_convert rmX1_convert).room s m args below meth c H locs 0 0 (MQ below (va_Qi Q (cB D kA A T) A) args s 0 0 A) (F0 m 80 ls []) := by
    intro   nn
    induction nn with
    | zero => intro v1 v2 v4 v5 M H locs ls hH hl hw; exact False.elim hw
    | succ nn hk80 =>
      intro v1 v2 v4 v5 M H locs ls hH hl hw
      replace hw : fc_X1_convert_c80 nm T Q  (fc_X1_convert_l80 nm T Q  nn) v1 v2 v4 v5 M := hw
      unfold fc_X1_convert_c80 at hw
      refine lv_iload hx hb dX1_convert_80 (lv_at hl 3 rfl) ?_
      refine s_aload_n hx hb dX1_convert_82 rfl (lv_at hl 0 rfl) ?_
      obtain ⟨p1, ep1, hw⟩ := hw
      refine W.st (st' := [.ref p1, .int v5]) (by rw [ep1]; rfl) ?_
      obtain ⟨h2, hw⟩ := hw
      refine cg_85 hx hb hts hin8 hown hK hH h2 (hts (.fieldLink RX1 47 "IdlCaller$Thing" "size" "I") (by decide +kernel)) dX1_convert_83 ?_
      refine lv_icmp_ge (tgt := 133) hx hb dX1_convert_86 (by decide) (fun c3 => ?_) (fun c3 => ?_)
      · replace hw := hw.1 c3
        refine lv_iconst (v := 1) hx hb dX1_convert_133 (by decide) ?_
        exact c_retz hx hb hr rfl hlocks hK hH hw dX1_convert_134
      · replace hw := hw.2 c3
        refine s_aload_n hx hb dX1_convert_89 rfl (lv_at hl 0 rfl) ?_
        refine lv_iload hx hb dX1_convert_90 (lv_at hl 3 rfl) ?_
        refine W.st (st' := [.int v5, .ref p1]) (by rw [ep1]; rfl) ?_
        refine c_callq (va_runV (As := [.int v5]) (rest := []) ⟨hx, hb, hml, hown, hts⟩ (tc_X8_itemAt l D kA nm na sa sv H.size T p1 v5 M _ hw) (cwV 1 hts gX1_convert_X8_itemAt rfl rfl rfl (by decide +kernel) ⟨(show (1 : Nat) + 1 ≤ 4 from Nat.le_of_ble_eq_true rfl), (show 8 + (2 + 11) + (21 : Nat) ≤ 96 from Nat.le_of_ble_eq_true rfl)⟩) (c_preV hK hH hA hSt (c_recv8 hK hH h2)) rfl rfl hl.1 rfl (lv_room (by first | exact Nat.le_of_ble_eq_true rfl | simp [va_rf_cat, cat_ref, cat_int, cat_long, cat_double, cat_null])) dX1_convert_92 ⟨Nat.le_of_ble_eq_true rfl, Nat.le_of_ble_eq_true rfl⟩) hH hA (fun r5 M4 H locs hw hH => ?_)
        refine s_astore (i := 6) (lv' := [(6, va_rf r5), (1, va_rf v1), (2, va_rf v2), (4, va_rf v4), (5, .int v5)]) hx hb dX1_convert_95 hl (by decide) (by first | rfl | simp [va_rf_cat, cat_ref, cat_int, cat_long, cat_double, cat_null]) (fun ls hl => ?_)
        refine s_aload_n hx hb dX1_convert_97 rfl (lv_at hl 2 rfl) ?_
        obtain ⟨p7, ep7, hw⟩ := hw
        refine W.st (st' := [.ref p7]) (by rw [ep7]; rfl) ?_
        obtain ⟨h8, hw⟩ := hw
        refine c_callq (va_runV (As := []) (rest := []) ⟨hx, hb, hml, hown, hts⟩ (tc_X8_nextItem l D kA nm na sa sv H.size T p7 M4 _ hw) (cwV 0 hts gX1_convert_X8_nextItem rfl rfl rfl (by decide +kernel) ⟨(show (1 : Nat) + 1 ≤ 4 from Nat.le_of_ble_eq_true rfl), (show 8 + (2 + 11) + (21 : Nat) ≤ 96 from Nat.le_of_ble_eq_true rfl)⟩) (c_preV hK hH hA hSt (c_recv8 hK hH h8)) rfl rfl hl.1 rfl (lv_room (by first | exact Nat.le_of_ble_eq_true rfl | simp [va_rf_cat, cat_ref, cat_int, cat_long, cat_double, cat_null])) dX1_convert_98 ⟨Nat.le_of_ble_eq_true rfl, Nat.le_of_ble_eq_true rfl⟩) hH hA (fun r10 M9 H locs hw hH => ?_)
        refine s_astore (i := 7) (lv' := [(7, va_rf r10), (6, va_rf r5), (1, va_rf v1), (2, va_rf v2), (4, va_rf v4), (5, .int v5)]) hx hb dX1_convert_101 hl (by decide) (by first | rfl | simp [va_rf_cat, cat_ref, cat_int, cat_long, cat_double, cat_null]) (fun ls hl => ?_)
        refine s_aload hx hb dX1_convert_103 (lv_at hl 1 rfl) ?_
        refine s_ifnull (tgt := 125) hx hb dX1_convert_105 (by decide) (fun c12 => ?_) (fun c12 => ?_)
        · replace hw := hw.1 c12
          exact b125    M9 H locs ls hH (lv_sub hl [] rfl) hw
        · replace hw := hw.2 c12
          refine s_aload hx hb dX1_convert_108 (lv_at hl 0 rfl) ?_
          refine s_ifnull (tgt := 125) hx hb dX1_convert_110 (by decide) (fun c13 => ?_) (fun c13 => ?_)
          · replace hw := hw.1 c13
            exact b125    M9 H locs ls hH (lv_sub hl [] rfl) hw
          · replace hw := hw.2 c13
            refine s_aload hx hb dX1_convert_113 (lv_at hl 4 rfl) ?_
            refine s_aload hx hb dX1_convert_115 (lv_at hl 1 rfl) ?_
            refine s_aload hx hb dX1_convert_117 (lv_at hl 0 rfl) ?_
            refine c_calli (va_runS (As := [va_rf v4, va_rf r5, va_rf r10]) (rest := []) ⟨hx, hb, hml, hown, hts⟩ (tc_X1_convertPlain l D kA nm na sa sv H.size T v4 r5 r10 M9 _ hw) (va_cwS 3 hts gX1_convert_X1_convertPlain rfl rfl rfl (by decide +kernel) ⟨(show (3 : Nat) + 1 ≤ 4 from Nat.le_of_ble_eq_true rfl), (show 8 + (3 + 11) + (74 : Nat) ≤ 96 from Nat.le_of_ble_eq_true rfl)⟩) (c_preS hK hH hA hSt) rfl rfl hl.1 rfl (lv_room (by first | exact Nat.le_of_ble_eq_true rfl | simp [va_rf_cat, cat_ref, cat_int, cat_long, cat_double, cat_null])) dX1_convert_119 ⟨Nat.le_of_ble_eq_true rfl, Nat.le_of_ble_eq_true rfl⟩) hH hA (fun r15 M14 H locs hw hH => ?_)
            refine lv_if_ne (tgt := 127) hx hb dX1_convert_122 (by decide) (fun c17 => ?_) (fun c17 => ?_)
            · replace hw := hw.1 c17
              obtain ⟨x18, ex18⟩ : ∃ y : Int32, y = v5 + 1 := ⟨_, rfl⟩
              replace hw := hw x18 ex18
              refine lv_iinc (v := x18) (lv' := [(5, .int x18), (7, va_rf r10), (6, va_rf r5), (1, va_rf v1), (2, va_rf v2), (4, va_rf v4)]) hx hb dX1_convert_127 hl (k := 5) rfl (by rw [ex18]; rfl) (by decide) (by first | rfl | simp [va_rf_cat, cat_ref, cat_int, cat_long, cat_double, cat_null]) (fun ls hl => ?_)
              refine lv_goto (tgt := 80) hx hb dX1_convert_130 (by decide) ?_
              exact hk80 v1 v2 v4 x18 M14 H locs ls hH (lv_sub hl [3, 4, 5, 0] rfl) hw
            · replace hw := hw.2 c17
              exact b125    M14 H locs ls hH (lv_sub hl [] rfl) hw
  have b60 : ∀ (v1 : Option Nat) (v2 : Option Nat) (v4 : Option Nat) (M : CM) (H : Heap) (locs : List Loc) (ls : Array Slot), cH D kA A s.heap T M H locs → lv_has ls 8 [(1, va_rf v1), (2, va_rf v2), (4, va_rf v4)] → fc_X1_convert_b60 nm T Q  v1 v2 v4 M → W p l e (headSpec wsX1_convert rmX1_convert).room s m args below meth c H locs 0 0 (MQ below (va_Qi Q (cB D kA A T) A) args s 0 0 A) (F0 m 60 ls []) := by
    intro   v1 v2 v4 M H locs ls hH hl hw
    unfold fc_X1_convert_b60 at hw
    refine s_aload_n hx hb dX1_convert_60 rfl (lv_at hl 0 rfl) ?_
    obtain ⟨p19, ep19, hw⟩ := hw
    refine W.st (st' := [.ref p19]) (by rw [ep19]; rfl) ?_
    obtain ⟨h20, hw⟩ := hw
    refine cg_80 hx hb hts hin8 hown hK hH h20 (hts (.fieldLink RX1 9 "IdlCaller$Thing" "kind" "I") (by decide +kernel)) dX1_convert_61 ?_
    refine lv_bipush (v := 6) hx hb dX1_convert_64 (by decide) ?_
    refine lv_icmp_eq (tgt := 71) hx hb dX1_convert_66 (by decide) (fun c21 => ?_) (fun c21 => ?_)
    · replace hw := hw.1 c21
      refine s_aload_n hx hb dX1_convert_71 rfl (lv_at hl 1 rfl) ?_
      refine lv_bipush (v := 6) hx hb dX1_convert_72 (by decide) ?_
      obtain ⟨p22, ep22, hw⟩ := hw
      refine W.st (st' := [.int 6, .ref p22]) (by rw [ep22]; rfl) ?_
      obtain ⟨h23, hw⟩ := hw
      refine c_callv (va_runV (As := [.int 6]) (rest := []) ⟨hx, hb, hml, hown, hts⟩ (tc_X8_become l D kA nm na sa sv H.size T p22 6 M _ hw) (cwV 1 hts gX1_convert_X8_become rfl rfl rfl (by decide +kernel) ⟨(show (0 : Nat) + 1 ≤ 4 from Nat.le_of_ble_eq_true rfl), (show 8 + (2 + 11) + (0 : Nat) ≤ 96 from Nat.le_of_ble_eq_true rfl)⟩) (c_preV hK hH hA hSt (c_recv8 hK hH h23)) rfl rfl hl.1 rfl (lv_room (by first | exact Nat.le_of_ble_eq_true rfl | simp [va_rf_cat, cat_ref, cat_int, cat_long, cat_double, cat_null])) dX1_convert_74 ⟨Nat.le_of_ble_eq_true rfl, Nat.le_of_ble_eq_true rfl⟩) hH hA (fun M24 H locs hw hH => ?_)
      refine lv_iconst (v := 0) hx hb dX1_convert_77 (by decide) ?_
      refine lv_istore (i := 5) (lv' := [(5, .int 0), (1, va_rf v1), (2, va_rf v2), (4, va_rf v4)]) hx hb dX1_convert_78 hl (by decide) (by first | rfl | simp [va_rf_cat, cat_ref, cat_int, cat_long, cat_double, cat_null]) (fun ls hl => ?_)
      obtain ⟨nn, hw⟩ := hw
      exact l80   nn v1 v2 v4 0 M24 H locs ls hH (lv_sub hl [1, 2, 3, 0] rfl) hw
    · replace hw := hw.2 c21
      refine lv_iconst (v := 0) hx hb dX1_convert_69 (by decide) ?_
      exact c_retz hx hb hr rfl hlocks hK hH hw dX1_convert_70
  have b53 : ∀ (v1 : Option Nat) (v2 : Option Nat) (v3 : Option Nat) (M : CM) (H : Heap) (locs : List Loc) (ls : Array Slot), cH D kA A s.heap T M H locs → lv_has ls 8 [(1, va_rf v1), (2, va_rf v2), (3, va_rf v3)] → fc_X1_convert_b53 nm T Q  v1 v2 v3 M → W p l e (headSpec wsX1_convert rmX1_convert).room s m args below meth c H locs 0 0 (MQ below (va_Qi Q (cB D kA A T) A) args s 0 0 A) (F0 m 53 ls []) := by
    intro   v1 v2 v3 M H locs ls hH hl hw
    unfold fc_X1_convert_b53 at hw
    refine s_aload_n hx hb dX1_convert_53 rfl (lv_at hl 2 rfl) ?_
    refine s_aload_n hx hb dX1_convert_54 rfl (lv_at hl 0 rfl) ?_
    refine s_aload_n hx hb dX1_convert_55 rfl (lv_at hl 1 rfl) ?_
    refine c_calli (va_runS (As := [va_rf v3, va_rf v1, va_rf v2]) (rest := []) ⟨hx, hb, hml, hown, hts⟩ (tc_X1_convertPlain l D kA nm na sa sv H.size T v3 v1 v2 M _ hw) (va_cwS 3 hts gX1_convert_X1_convertPlain rfl rfl rfl (by decide +kernel) ⟨(show (3 : Nat) + 1 ≤ 4 from Nat.le_of_ble_eq_true rfl), (show 8 + (3 + 11) + (74 : Nat) ≤ 96 from Nat.le_of_ble_eq_true rfl)⟩) (c_preS hK hH hA hSt) rfl rfl hl.1 rfl (lv_room (by first | exact Nat.le_of_ble_eq_true rfl | simp [va_rf_cat, cat_ref, cat_int, cat_long, cat_double, cat_null])) dX1_convert_56 ⟨Nat.le_of_ble_eq_true rfl, Nat.le_of_ble_eq_true rfl⟩) hH hA (fun r28 M27 H locs hw hH => ?_)
    exact c_retz hx hb hr hw.1.1 hlocks hK hH hw.2 dX1_convert_59
  have b23 : ∀ (v0 : Option Nat) (v1 : Option Nat) (v2 : Option Nat) (M : CM) (H : Heap) (locs : List Loc) (ls : Array Slot), cH D kA A s.heap T M H locs → lv_has ls 8 [(0, va_rf v0), (1, va_rf v1), (2, va_rf v2)] → fc_X1_convert_b23 nm T Q  v0 v1 v2 M → W p l e (headSpec wsX1_convert rmX1_convert).room s m args below meth c H locs 0 0 (MQ below (va_Qi Q (cB D kA A T) A) args s 0 0 A) (F0 m 23 ls []) := by
    intro   v0 v1 v2 M H locs ls hH hl hw
    unfold fc_X1_convert_b23 at hw
    refine s_aload_n hx hb dX1_convert_23 rfl (lv_at hl 0 rfl) ?_
    obtain ⟨p30, ep30, hw⟩ := hw
    refine W.st (st' := [.ref p30]) (by rw [ep30]; rfl) ?_
    obtain ⟨h31, hw⟩ := hw
    refine cg_0 hx hb hts hin0 hown hK hH h31 (hts (.fieldLink RX1 25 "IdlCaller$Argument" "type" "LIdlCaller$Type;") (by decide +kernel)) dX1_convert_24 ?_
    refine s_astore_n (i := 3) (lv' := [(3, va_rf (cR M 0 p30)), (0, va_rf v0), (1, va_rf v1), (2, va_rf v2)]) hx hb dX1_convert_27 rfl hl (by decide) (by first | rfl | simp [va_rf_cat, cat_ref, cat_int, cat_long, cat_double, cat_null]) (fun ls hl => ?_)
    refine s_aload_n hx hb dX1_convert_28 rfl (lv_at hl 0 rfl) ?_
    obtain ⟨p32, ep32, hw⟩ := hw
    refine W.st (st' := [.ref p32]) (by rw [ep32]; rfl) ?_
    obtain ⟨h33, hw⟩ := hw
    refine cg_94 hx hb hts hin9 hown hK hH h33 (hts (.fieldLink RX1 29 "IdlCaller$Type" "element" "LIdlCaller$Type;") (by decide +kernel)) dX1_convert_29 ?_
    refine s_astore (i := 4) (lv' := [(4, va_rf (cR M 94 p32)), (3, va_rf (cR M 0 p30)), (0, va_rf v0), (1, va_rf v1), (2, va_rf v2)]) hx hb dX1_convert_32 hl (by decide) (by first | rfl | simp [va_rf_cat, cat_ref, cat_int, cat_long, cat_double, cat_null]) (fun ls hl => ?_)
    refine s_aload hx hb dX1_convert_34 (lv_at hl 0 rfl) ?_
    refine s_ifnull (tgt := 53) hx hb dX1_convert_36 (by decide) (fun c34 => ?_) (fun c34 => ?_)
    · replace hw := hw.1 c34
      exact b53   v1 v2 (cR M 0 p30) M H locs ls hH (lv_sub hl [3, 4, 1] rfl) hw
    · replace hw := hw.2 c34
      refine s_aload_n hx hb dX1_convert_39 rfl (lv_at hl 1 rfl) ?_
      refine W.st (st' := [.ref p32]) (by rw [ep32]; rfl) ?_
      refine cg_92 hx hb hts hin9 hown hK hH h33 (hts (.fieldLink RX1 34 "IdlCaller$Type" "nullable" "Z") (by decide +kernel)) dX1_convert_40 ?_
      refine lv_if_eq (tgt := 60) hx hb dX1_convert_43 (by decide) (fun c35 => ?_) (fun c35 => ?_)
      · replace hw := hw.1 c35
        exact b60   v1 v2 (cR M 94 p32) M H locs ls hH (lv_sub hl [3, 4, 0] rfl) hw
      · replace hw := hw.2 c35
        refine s_aload_n hx hb dX1_convert_46 rfl (lv_at hl 3 rfl) ?_
        obtain ⟨p36, ep36, hw⟩ := hw
        refine W.st (st' := [.ref p36]) (by rw [ep36]; rfl) ?_
        obtain ⟨h37, hw⟩ := hw
        refine c_calli (va_runV (As := []) (rest := []) ⟨hx, hb, hml, hown, hts⟩ (tc_X8_isUndefinedOrNull l D kA nm na sa sv H.size T p36 M _ hw) (cwV 0 hts gX1_convert_X8_isUndefinedOrNull rfl rfl rfl (by decide +kernel) ⟨(show (0 : Nat) + 1 ≤ 4 from Nat.le_of_ble_eq_true rfl), (show 8 + (1 + 11) + (0 : Nat) ≤ 96 from Nat.le_of_ble_eq_true rfl)⟩) (c_preV hK hH hA hSt (c_recv8 hK hH h37)) rfl rfl hl.1 rfl (lv_room (by first | exact Nat.le_of_ble_eq_true rfl | simp [va_rf_cat, cat_ref, cat_int, cat_long, cat_double, cat_null])) dX1_convert_47 ⟨Nat.le_of_ble_eq_true rfl, Nat.le_of_ble_eq_true rfl⟩) hH hA (fun r39 M38 H locs hw hH => ?_)
        refine lv_if_eq (tgt := 60) hx hb dX1_convert_50 (by decide) (fun c41 => ?_) (fun c41 => ?_)
        · replace hw := hw.1 c41
          exact b60   v1 v2 (cR M 94 p32) M38 H locs ls hH (lv_sub hl [3, 4, 0] rfl) hw
        · replace hw := hw.2 c41
          exact b53   v1 v2 (cR M 0 p30) M38 H locs ls hH (lv_sub hl [3, 4, 1] rfl) hw
  clear hP
  unfold fc_X1_convert at hw
  have hst : ∀ (M : CM) (H : Heap) (locs : List Loc) (ls : Array Slot), cH D kA A s.heap T M H locs → lv_has ls 8 [(0, va_rf a1), (1, va_rf a2), (2, va_rf a3)] → (∃ p42 : Nat, a2 = some p42 ∧ (tg T p42 = 9 ∧ ((¬ (cI M 80 p42) = 7 → fc_X1_convert_b23 nm T Q  a1 a2 a3 M) ∧ ((cI M 80 p42) = 7 → (∃ p45 : Nat, a1 = some p45 ∧ (tg T p45 = 1 ∧ fc_X0_canBeMissing T p45 M (fun (r48 : Int32) (M47 : CM) => ((r48 = 0 → fc_X1_convert_b23 nm T Q  a1 a2 a3 M47) ∧ (¬ r48 = 0 → (∃ p51 : Nat, a3 = some p51 ∧ (tg T p51 = 9 ∧ fc_X8_become T p51 0 M47 (fun (M53 : CM) => Q 1 M53)))))))))))) → W p l e (headSpec wsX1_convert rmX1_convert).room s m args below meth c H locs 0 0 (MQ below (va_Qi Q (cB D kA A T) A) args s 0 0 A) (F0 m 0 ls []) := by
    intro M H locs ls hH hl hw
    refine s_aload_n hx hb dX1_convert_0 rfl (lv_at hl 1 rfl) ?_
    obtain ⟨p42, ep42, hw⟩ := hw
    refine W.st (st' := [.ref p42]) (by rw [ep42]; rfl) ?_
    obtain ⟨h43, hw⟩ := hw
    refine cg_80 hx hb hts hin8 hown hK hH h43 (hts (.fieldLink RX1 9 "IdlCaller$Thing" "kind" "I") (by decide +kernel)) dX1_convert_1 ?_
    refine lv_bipush (v := 7) hx hb dX1_convert_4 (by decide) ?_
    refine lv_icmp_ne (tgt := 23) hx hb dX1_convert_6 (by decide) (fun c44 => ?_) (fun c44 => ?_)
    · replace hw := hw.1 c44
      exact b23   a1 a2 a3 M H locs ls hH (lv_sub hl [0, 1, 2] rfl) hw
    · replace hw := hw.2 c44
      refine s_aload_n hx hb dX1_convert_9 rfl (lv_at hl 0 rfl) ?_
      obtain ⟨p45, ep45, hw⟩ := hw
      refine W.st (st' := [.ref p45]) (by rw [ep45]; rfl) ?_
      obtain ⟨h46, hw⟩ := hw
      refine c_calli (va_runV (As := []) (rest := []) ⟨hx, hb, hml, hown, hts⟩ (tc_X0_canBeMissing l D kA nm na sa sv H.size T p45 M _ hw) (cwV 0 hts gX1_convert_X0_canBeMissing rfl rfl rfl (by decide +kernel) ⟨(show (0 : Nat) + 1 ≤ 4 from Nat.le_of_ble_eq_true rfl), (show 8 + (1 + 11) + (0 : Nat) ≤ 96 from Nat.le_of_ble_eq_true rfl)⟩) (c_preV hK hH hA hSt (c_recv0 hK hH h46)) rfl rfl hl.1 rfl (lv_room (by first | exact Nat.le_of_ble_eq_true rfl | simp [va_rf_cat, cat_ref, cat_int, cat_long, cat_double, cat_null])) dX1_convert_10 ⟨Nat.le_of_ble_eq_true rfl, Nat.le_of_ble_eq_true rfl⟩) hH hA (fun r48 M47 H locs hw hH => ?_)
      refine lv_if_eq (tgt := 23) hx hb dX1_convert_13 (by decide) (fun c50 => ?_) (fun c50 => ?_)
      · replace hw := hw.1 c50
        exact b23   a1 a2 a3 M47 H locs ls hH (lv_sub hl [0, 1, 2] rfl) hw
      · replace hw := hw.2 c50
        refine s_aload_n hx hb dX1_convert_16 rfl (lv_at hl 2 rfl) ?_
        refine lv_iconst (v := 0) hx hb dX1_convert_17 (by decide) ?_
        obtain ⟨p51, ep51, hw⟩ := hw
        refine W.st (st' := [.int 0, .ref p51]) (by rw [ep51]; rfl) ?_
        obtain ⟨h52, hw⟩ := hw
        refine c_callv (va_runV (As := [.int 0]) (rest := []) ⟨hx, hb, hml, hown, hts⟩ (tc_X8_become l D kA nm na sa sv H.size T p51 0 M47 _ hw) (cwV 1 hts gX1_convert_X8_become rfl rfl rfl (by decide +kernel) ⟨(show (0 : Nat) + 1 ≤ 4 from Nat.le_of_ble_eq_true rfl), (show 8 + (2 + 11) + (0 : Nat) ≤ 96 from Nat.le_of_ble_eq_true rfl)⟩) (c_preV hK hH hA hSt (c_recv8 hK hH h52)) rfl rfl hl.1 rfl (lv_room (by first | exact Nat.le_of_ble_eq_true rfl | simp [va_rf_cat, cat_ref, cat_int, cat_long, cat_double, cat_null])) dX1_convert_18 ⟨Nat.le_of_ble_eq_true rfl, Nat.le_of_ble_eq_true rfl⟩) hH hA (fun M53 H locs hw hH => ?_)
        refine lv_iconst (v := 1) hx hb dX1_convert_21 (by decide) ?_
        exact c_retz hx hb hr rfl hlocks hK hH hw dX1_convert_22
  exact hst M s.heap [] ls hH hl hw
def fc_X10_rowOfThings_c8 (mc ms : Nat) (Q : Option Nat → LY → CM → Prop) (k8 : Nat → Int32 → LY → CM → Nat → Nat → Prop) (v0 : Nat) (v1 : Int32) (T : LY) (M : CM) (K N : Nat) : Prop := (tg T v0 = 28 ∧ (((nI (ln T v0)) ≤ v1 → (K ≤ mc ∧ N ≤ ms ∧ Q (some v0) T M)) ∧ (¬ (nI (ln T v0)) ≤ v1 → (∃ cc6 nn7 : Nat, K + cc6 ≤ mc ∧ N + nn7 ≤ ms ∧ fc_X8_withItems cc6 nn7  T M (fun (r4 : Option Nat) (T5 : LY) (M3 : CM) => (tg T5 v0 = 28 ∧ (∃ p10 : Nat, r4 = some p10 ∧ (tg T5 p10 = 9 ∧ (vp_in v1 (ln T5 v0) ∧ (∀ M9 : CM, M9 = yR M3 v0 v1.toNatClampNeg (some p10) → (∀ x13 : Int32, x13 = v1 + 1 → k8 v0 x13 T5 M9 (K + cc6) (N + nn7))))))))))))
def fc_X10_rowOfThings_l8 (mc ms : Nat) (Q : Option Nat → LY → CM → Prop) : Nat → Nat → Int32 → LY → CM → Nat → Nat → Prop := lit (τ := Nat → Int32 → LY → CM → Nat → Nat → Prop) (fun _ _ _ _ _ _ => False) (fun k => fc_X10_rowOfThings_c8 mc ms Q  k)
def fc_X10_rowOfThings (mc ms : Nat)  (T : LY) (M : CM) (Q : Option Nat → LY → CM → Prop) : Prop := (¬ (8 : Int32) < 0 ∧ ((8 : Int32).toNatClampNeg ≤ 60000000 ∧ (0 + 1 ≤ mc ∧ (0 + (8 : Int32).toNatClampNeg ≤ ms ∧ (∀ (q14 : Nat) (T15 : LY) (M16 : CM), tg T q14 = 0 → T15 = mkT T 28 ((8 : Int32).toNatClampNeg) q14 → M16 = mkM M q14 → (∃ nn : Nat, fc_X10_rowOfThings_l8 mc ms Q  nn q14 0 T15 M16 (0 + 1) (0 + (8 : Int32).toNatClampNeg)))))))
abbrev rmX10_rowOfThings (mc ms : Nat) : Room := { frames := 7, cells := mc, slots := ms, locals := 151 }
set_option maxHeartbeats 4000000 in
set_option maxRecDepth 100000 in
theorem tc_X10_rowOfThings (l : Launch) (D : va_G) (kA : Nat → ClassId) (nm : Nat → Nat) (na : Nat) (sa sv : Nat → Nat) (sz : Nat) (mc ms : Nat) (T : LY) (M : CM) (Q : Option Nat → LY → CM → Prop) (hw : fc_X10_rowOfThings mc ms  T M Q) : Met l yX10_rowOfThings wsX10_rowOfThings (rmX10_rowOfThings mc ms) (va_Pc [] (cPc nm na sa sv D kA T M sz)) (va_Qq (fun r (u : LY × CM) => Q r u.1 u.2) (cBT D kA (cF T sz)) (cF T sz)) mc ms (cF T sz) := by
  refine Met.ofW (cc := cX10_rowOfThings) (maxL := 2) (ret := (some (.array (.object "IdlCaller$Thing")))) (by decide) rfl ?_
  intro p e s m args below meth c s₁ B hml hv
  obtain ⟨rfl, hsz, hP, hK, hSt⟩ := hv
  have hx := B.exec
  have hb := B.bytes
  have hr := B.returns
  have hts := atoms_spec (ws := wsX10_rowOfThings) B.pre
  have hown : s.vm.findClass RX10 = some m.cls := findClass_of_methodNamed B.named
  have hlocks : meth.locks = false := B.notSynchronized
  subst hsz
  have hH : cH D kA (cF T s.heap.size) s.heap T M s.heap [] := ⟨hP.self, va_S.rf⟩
  have hA : ∀ q : Nat, s.heap.size ≤ q → cF T s.heap.size q := fun q z => Or.inr z
  generalize cF T s.heap.size = A at hH hA hSt ⊢
  have hl := lv_entry ([]) (n := 2) (by first | exact Nat.le_of_ble_eq_true rfl | simp [lg_sl, va_rf_cat, cat_ref, cat_int, cat_long, cat_double])
  rw [lg_entry_eq]
  generalize (lg_sl ([]) ++ List.replicate (2 - (lg_sl ([])).length) Slot.unset).toArray = ls at hl ⊢
  generalize ([] : List Value).toArray = args at hts ⊢
  have hl : lv_has ls 2 [] := hl
  have l8 : ∀ (nn : Nat) (v0 : Nat) (v1 : Int32) (T : LY) (M : CM) (K N : Nat) (H : Heap) (locs : List Loc) (ls : Array Slot), cH D kA A s.heap T M H locs → lv_has ls 2 [(0, .ref v0), (1, .int v1)] → fc_X10_rowOfThings_l8 mc ms Q  nn v0 v1 T M K N → W p l e (headSpec wsX10_rowOfThings (rmX10_rowOfThings mc ms)).room s m args below meth c H locs K N (MQ below (va_Qq (fun r (u : LY × CM) => Q r u.1 u.2) (cBT D kA A) A) args s mc ms A) (F0 m 8 ls []) := by
    intro   nn
    induction nn with
    | zero => intro v0 v1 T M K N H locs ls hH hl hw; exact False.elim hw
    | succ nn hk8 =>
      intro v0 v1 T M K N H locs ls hH hl hw
      replace hw : fc_X10_rowOfThings_c8 mc ms Q  (fc_X10_rowOfThings_l8 mc ms Q  nn) v0 v1 T M K N := hw
      unfold fc_X10_rowOfThings_c8 at hw
      refine lv_iload_n hx hb dX10_rowOfThings_8 rfl (lv_at hl 1 rfl) ?_
      refine lv_aload_n hx hb dX10_rowOfThings_9 rfl (lv_at hl 0 rfl) ?_
      obtain ⟨h1, hw⟩ := hw
      refine cn_8 hx hb hK hH h1 dX10_rowOfThings_10 ?_
      refine lv_icmp_ge (tgt := 26) hx hb dX10_rowOfThings_11 (by decide) (fun c2 => ?_) (fun c2 => ?_)
      · replace hw := hw.1 c2
        refine lv_aload_n hx hb dX10_rowOfThings_26 rfl (lv_at hl 0 rfl) ?_
        exact c_retTq (v := (some v0)) hw.1 hw.2.1 hx hb hr (Or.inr ⟨_, rfl⟩) hlocks hK hH hw.2.2 dX10_rowOfThings_27
      · replace hw := hw.2 c2
        refine lv_aload_n hx hb dX10_rowOfThings_14 rfl (lv_at hl 0 rfl) ?_
        refine lv_iload_n hx hb dX10_rowOfThings_15 rfl (lv_at hl 1 rfl) ?_
        obtain ⟨cc6, nn7, hcc6, hnn7, hw⟩ := hw
        refine c_callTq (va_runS (As := []) (rest := [.int v1, .ref v0]) ⟨hx, hb, hml, hown, hts⟩ (tc_X8_withItems l D kA nm na sa sv H.size cc6 nn7  T M _ hw) (va_cwS 0 hts gX10_rowOfThings_X8_withItems rfl rfl rfl (by decide +kernel) ⟨(show (6 : Nat) + 1 ≤ 7 from Nat.le_of_ble_eq_true rfl), (show 8 + (3 + 11) + (129 : Nat) ≤ 151 from Nat.le_of_ble_eq_true rfl)⟩) (c_preS hK hH hA hSt) rfl rfl hl.1 rfl (lv_room (by first | exact Nat.le_of_ble_eq_true rfl | simp [va_rf_cat, cat_ref, cat_int, cat_long, cat_double, cat_null])) dX10_rowOfThings_16 ⟨hcc6, hnn7⟩) hH hA (fun r4 T5 M3 H locs hw hH => ?_)
        obtain ⟨h8, hw⟩ := hw
        obtain ⟨p10, ep10, hw⟩ := hw
        refine W.st (st' := [.ref p10, .int v1, .ref v0]) (by rw [ep10]; rfl) ?_
        obtain ⟨h11, hw⟩ := hw
        obtain ⟨h12, hw⟩ := hw
        refine cs_8 hx hb hK hH h8 h11 h12 dX10_rowOfThings_19 (fun M9 H locs eM9 hH => ?_)
        replace hw := hw M9 eM9
        obtain ⟨x13, ex13⟩ : ∃ y : Int32, y = v1 + 1 := ⟨_, rfl⟩
        replace hw := hw x13 ex13
        refine lv_iinc (v := x13) (lv' := [(1, .int x13), (0, .ref v0)]) hx hb dX10_rowOfThings_20 hl (k := 1) rfl (by rw [ex13]; rfl) (by decide) rfl (fun ls hl => ?_)
        refine lv_goto (tgt := 8) hx hb dX10_rowOfThings_23 (by decide) ?_
        exact hk8 v0 x13 T5 M9 (K + cc6) (N + nn7) H locs ls hH (lv_sub hl [1, 0] rfl) hw
  clear hP
  unfold fc_X10_rowOfThings at hw
  have hst : ∀ (T : LY) (M : CM) (H : Heap) (locs : List Loc) (ls : Array Slot), cH D kA A s.heap T M H locs → lv_has ls 2 [] → (¬ (8 : Int32) < 0 ∧ ((8 : Int32).toNatClampNeg ≤ 60000000 ∧ (0 + 1 ≤ mc ∧ (0 + (8 : Int32).toNatClampNeg ≤ ms ∧ (∀ (q14 : Nat) (T15 : LY) (M16 : CM), tg T q14 = 0 → T15 = mkT T 28 ((8 : Int32).toNatClampNeg) q14 → M16 = mkM M q14 → (∃ nn : Nat, fc_X10_rowOfThings_l8 mc ms Q  nn q14 0 T15 M16 (0 + 1) (0 + (8 : Int32).toNatClampNeg))))))) → W p l e (headSpec wsX10_rowOfThings (rmX10_rowOfThings mc ms)).room s m args below meth c H locs 0 0 (MQ below (va_Qq (fun r (u : LY × CM) => Q r u.1 u.2) (cBT D kA A) A) args s mc ms A) (F0 m 0 ls []) := by
    intro T M H locs ls hH hl hw
    refine lv_bipush (v := 8) hx hb dX10_rowOfThings_0 (by decide) ?_
    obtain ⟨h17, hw⟩ := hw
    obtain ⟨h18, hw⟩ := hw
    obtain ⟨h19, hw⟩ := hw
    obtain ⟨h20, hw⟩ := hw
    refine cnewa_8 hx hb hown (hts (.classLink RX10 120 "IdlCaller$Thing") (by decide +kernel)) (hSt.2.2.2.2.2.2.2.2.2.2.2.2.2.2.2.2.2.2.2.2.2.2.2.2.2.2.2.2.1) hK hH hA h17 rfl h18 h19 h20 dX10_rowOfThings_2 (fun q14 H zq14 hH => ?_)
    obtain ⟨T15, eT15⟩ : ∃ z, z = mkT T 28 ((8 : Int32).toNatClampNeg) q14 := ⟨_, rfl⟩
    obtain ⟨M16, eM16⟩ : ∃ z, z = mkM M q14 := ⟨_, rfl⟩
    replace hw := hw q14 T15 M16 zq14 eT15 eM16
    rw [← eT15, ← eM16] at hH
    refine lv_astore_n (i := 0) (lv' := [(0, .ref q14)]) hx hb dX10_rowOfThings_5 rfl hl (by decide) rfl (fun ls hl => ?_)
    refine lv_iconst (v := 0) hx hb dX10_rowOfThings_6 (by decide) ?_
    refine lv_istore_n (i := 1) (lv' := [(1, .int 0), (0, .ref q14)]) hx hb dX10_rowOfThings_7 rfl hl (by decide) rfl (fun ls hl => ?_)
    obtain ⟨nn, hw⟩ := hw
    exact l8   nn q14 0 T15 M16 (0 + 1) (0 + (8 : Int32).toNatClampNeg) H locs ls hH (lv_sub hl [1, 0] rfl) hw
  exact hst T M s.heap [] ls hH hl hw
def fc_X10_init_c81 (mc ms : Nat) (h : Nat) (Q : LY → CM → Prop) (k81 : Int32 → LY → CM → Nat → Nat → Prop) (v1 : Int32) (T : LY) (M : CM) (K N : Nat) : Prop := (tg T h = 11 ∧ (∃ p2 : Nat, cR M 102 h = some p2 ∧ (tg T p2 = 27 ∧ (((nI (ln T p2)) ≤ v1 → (K ≤ mc ∧ N ≤ ms ∧ Q T M)) ∧ (¬ (nI (ln T p2)) ≤ v1 → (K + 1 ≤ mc ∧ (N + 4 ≤ ms ∧ (∀ (q5 : Nat) (T6 : LY) (M7 : CM), tg T q5 = 0 → T6 = mkT T 6 0 q5 → M7 = mkM M q5 → (tg T6 q5 = 6 ∧ (∃ cc14 nn15 : Nat, (K + 1) + cc14 ≤ mc ∧ (N + 4) + nn15 ≤ ms ∧ fc_X5_init cc14 nn15 q5 T6 M7 (fun (T13 : LY) (M11 : CM) => (tg T13 p2 = 27 ∧ (tg T13 q5 = 6 ∧ (vp_in v1 (ln T13 p2) ∧ (∀ M17 : CM, M17 = yR M11 p2 v1.toNatClampNeg (some q5) → (∀ x20 : Int32, x20 = v1 + 1 → k81 x20 T13 M17 ((K + 1) + cc14) ((N + 4) + nn15)))))))))))))))))
def fc_X10_init_l81 (mc ms : Nat) (h : Nat) (Q : LY → CM → Prop) : Nat → Int32 → LY → CM → Nat → Nat → Prop := lit (τ := Int32 → LY → CM → Nat → Nat → Prop) (fun _ _ _ _ _ => False) (fun k => fc_X10_init_c81 mc ms h Q  k)
def fc_X10_init (mc ms : Nat) (h : Nat)  (T : LY) (M : CM) (Q : LY → CM → Prop) : Prop := (0 + 1 ≤ mc ∧ (0 + 2 ≤ ms ∧ (∀ (q21 : Nat) (T22 : LY) (M23 : CM), tg T q21 = 0 → T22 = mkT T 8 0 q21 → M23 = mkM M q21 → (tg T22 q21 = 8 ∧ (∃ cc30 nn31 : Nat, (0 + 1) + cc30 ≤ mc ∧ (0 + 2) + nn31 ≤ ms ∧ fc_X7_init cc30 nn31 q21 100 T22 M23 (fun (T29 : LY) (M27 : CM) => (tg T29 h = 11 ∧ (∀ M33 : CM, M33 = sR M27 100 h (some q21) → (((0 + 1) + cc30) + 1 ≤ mc ∧ (((0 + 2) + nn31) + 7 ≤ ms ∧ (∀ (q34 : Nat) (T35 : LY) (M36 : CM), tg T29 q34 = 0 → T35 = mkT T29 7 0 q34 → M36 = mkM M33 q34 → (tg T35 q34 = 7 ∧ (∃ cc43 nn44 : Nat, (((0 + 1) + cc30) + 1) + cc43 ≤ mc ∧ (((0 + 2) + nn31) + 7) + nn44 ≤ ms ∧ fc_X6_init cc43 nn44 q34 T35 M36 (fun (T42 : LY) (M40 : CM) => (tg T42 h = 11 ∧ (∀ M46 : CM, M46 = sR M40 101 h (some q34) → (¬ (6 : Int32) < 0 ∧ ((6 : Int32).toNatClampNeg ≤ 60000000 ∧ (((((0 + 1) + cc30) + 1) + cc43) + 1 ≤ mc ∧ (((((0 + 2) + nn31) + 7) + nn44) + (6 : Int32).toNatClampNeg ≤ ms ∧ (∀ (q47 : Nat) (T48 : LY) (M49 : CM), tg T42 q47 = 0 → T48 = mkT T42 27 ((6 : Int32).toNatClampNeg) q47 → M49 = mkM M46 q47 → (tg T48 h = 11 ∧ (∀ M55 : CM, M55 = sR M49 102 h (some q47) → (∃ cc59 nn60 : Nat, (((((0 + 1) + cc30) + 1) + cc43) + 1) + cc59 ≤ mc ∧ (((((0 + 2) + nn31) + 7) + nn44) + (6 : Int32).toNatClampNeg) + nn60 ≤ ms ∧ fc_X10_rowOfThings cc59 nn60  T48 M55 (fun (r57 : Option Nat) (T58 : LY) (M56 : CM) => (tg T58 h = 11 ∧ (∀ M62 : CM, M62 = sR M56 103 h r57 → (((((((0 + 1) + cc30) + 1) + cc43) + 1) + cc59) + 1 ≤ mc ∧ (((((((0 + 2) + nn31) + 7) + nn44) + (6 : Int32).toNatClampNeg) + nn60) + 1 ≤ ms ∧ (∀ (q63 : Nat) (T64 : LY) (M65 : CM), tg T58 q63 = 0 → T64 = mkT T58 5 0 q63 → M65 = mkM M62 q63 → (tg T64 q63 = 5 ∧ (((((((0 + 1) + cc30) + 1) + cc43) + 1) + cc59) + 1 ≤ mc ∧ (((((((0 + 2) + nn31) + 7) + nn44) + (6 : Int32).toNatClampNeg) + nn60) + 1 ≤ ms ∧ fc_X4_init T64 q63 M65 (fun (M69 : CM) => (tg T64 h = 11 ∧ (∀ M75 : CM, M75 = sR M69 104 h (some q63) → (∃ cc79 nn80 : Nat, (((((((0 + 1) + cc30) + 1) + cc43) + 1) + cc59) + 1) + cc79 ≤ mc ∧ (((((((0 + 2) + nn31) + 7) + nn44) + (6 : Int32).toNatClampNeg) + nn60) + 1) + nn80 ≤ ms ∧ fc_X10_rowOfThings cc79 nn80  T64 M75 (fun (r77 : Option Nat) (T78 : LY) (M76 : CM) => (tg T78 h = 11 ∧ (∀ M82 : CM, M82 = sR M76 105 h r77 → (∃ cc86 nn87 : Nat, ((((((((0 + 1) + cc30) + 1) + cc43) + 1) + cc59) + 1) + cc79) + cc86 ≤ mc ∧ ((((((((0 + 2) + nn31) + 7) + nn44) + (6 : Int32).toNatClampNeg) + nn60) + 1) + nn80) + nn87 ≤ ms ∧ fc_X10_rowOfThings cc86 nn87  T78 M82 (fun (r84 : Option Nat) (T85 : LY) (M83 : CM) => (tg T85 h = 11 ∧ (∀ M89 : CM, M89 = sR M83 106 h r84 → (∀ M90 : CM, M90 = sI M89 107 h 0 → (∀ M91 : CM, M91 = sI M90 108 h (-1) → (∃ nn : Nat, fc_X10_init_l81 mc ms h Q  nn 0 T85 M91 (((((((((0 + 1) + cc30) + 1) + cc43) + 1) + cc59) + 1) + cc79) + cc86) (((((((((0 + 2) + nn31) + 7) + nn44) + (6 : Int32).toNatClampNeg) + nn60) + 1) + nn80) + nn87))))))))))))))))))))))))))))))))))))))))))))))))
abbrev rmX10_init (mc ms : Nat) : Room := { frames := 8, cells := mc, slots := ms, locals := 172 }
set_option maxHeartbeats 4000000 in
set_option maxRecDepth 100000 in
theorem tc_X10_init (l : Launch) (D : va_G) (kA : Nat → ClassId) (nm : Nat → Nat) (na : Nat) (sa sv : Nat → Nat) (sz : Nat) (mc ms : Nat) (h : Nat) (T : LY) (M : CM) (Q : LY → CM → Prop) (hw : fc_X10_init mc ms h  T M Q) : Met l yX10_init wsX10_init (rmX10_init mc ms) (va_Pc [.ref h] (cPc nm na sa sv D kA T M sz)) (va_Qv (fun (u : LY × CM) => Q u.1 u.2) (cBT D kA (cF T sz)) (cF T sz)) mc ms (cF T sz) := by
  refine Met.ofW (cc := cX10_init) (maxL := 2) (ret := none) (by decide) rfl ?_
  intro p e s m args below meth c s₁ B hml hv
  obtain ⟨rfl, hsz, hP, hK, hSt⟩ := hv
  have hx := B.exec
  have hb := B.bytes
  have hr := B.returns
  have hts := atoms_spec (ws := wsX10_init) B.pre
  have hown : s.vm.findClass RX10 = some m.cls := findClass_of_methodNamed B.named
  have hlocks : meth.locks = false := B.notSynchronized
  have hini : meth.name = "<init>" := (name_of_methodNamed B.named B.method).1
  subst hsz
  have hH : cH D kA (cF T s.heap.size) s.heap T M s.heap [] := ⟨hP.self, va_S.rf⟩
  have hA : ∀ q : Nat, s.heap.size ≤ q → cF T s.heap.size q := fun q z => Or.inr z
  generalize cF T s.heap.size = A at hH hA hSt ⊢
  have hl := lv_entry ([.ref h]) (n := 2) (by first | exact Nat.le_of_ble_eq_true rfl | simp [lg_sl, va_rf_cat, cat_ref, cat_int, cat_long, cat_double])
  rw [lg_entry_eq]
  generalize (lg_sl ([.ref h]) ++ List.replicate (2 - (lg_sl ([.ref h])).length) Slot.unset).toArray = ls at hl ⊢
  generalize ([.ref h] : List Value).toArray = args at hts ⊢
  have hl : lv_has ls 2 [(0, .ref h)] := hl
  have hin4 : ∀ w ∈ wsX40, w ∈ wsX10_init := by decide +kernel
  have hin5 : ∀ w ∈ wsX50, w ∈ wsX10_init := by decide +kernel
  have hin6 : ∀ w ∈ wsX60, w ∈ wsX10_init := by decide +kernel
  have hin7 : ∀ w ∈ wsX70, w ∈ wsX10_init := by decide +kernel
  have hin10 : ∀ w ∈ wsX100, w ∈ wsX10_init := by decide +kernel
  have l81 : ∀ (nn : Nat) (v1 : Int32) (T : LY) (M : CM) (K N : Nat) (H : Heap) (locs : List Loc) (ls : Array Slot), cH D kA A s.heap T M H locs → lv_has ls 2 [(0, .ref h), (1, .int v1)] → fc_X10_init_l81 mc ms h Q  nn v1 T M K N → W p l e (headSpec wsX10_init (rmX10_init mc ms)).room s m args below meth c H locs K N (MQ below (va_Qv (fun (u : LY × CM) => Q u.1 u.2) (cBT D kA A) A) args s mc ms A) (F0 m 81 ls []) := by
    intro   nn
    induction nn with
    | zero => intro v1 T M K N H locs ls hH hl hw; exact False.elim hw
    | succ nn hk81 =>
      intro v1 T M K N H locs ls hH hl hw
      replace hw : fc_X10_init_c81 mc ms h Q  (fc_X10_init_l81 mc ms h Q  nn) v1 T M K N := hw
      unfold fc_X10_init_c81 at hw
      refine lv_iload_n hx hb dX10_init_81 rfl (lv_at hl 1 rfl) ?_
      refine lv_aload_n hx hb dX10_init_82 rfl (lv_at hl 0 rfl) ?_
      obtain ⟨h1, hw⟩ := hw
      refine cg_102 hx hb hts hin10 hown hK hH h1 (hts (.fieldLink RX10 27 "IdlCaller" "operations" "[LIdlCaller$Operation;") (by decide +kernel)) dX10_init_83 ?_
      obtain ⟨p2, ep2, hw⟩ := hw
      refine W.st (st' := [.ref p2, .int v1]) (by rw [ep2]; rfl) ?_
      obtain ⟨h3, hw⟩ := hw
      refine cn_7 hx hb hK hH h3 dX10_init_86 ?_
      refine lv_icmp_ge (tgt := 109) hx hb dX10_init_87 (by decide) (fun c4 => ?_) (fun c4 => ?_)
      · replace hw := hw.1 c4
        exact c_retTv hw.1 hw.2.1 hx hb hr hlocks hK hH hw.2.2 dX10_init_109
      · replace hw := hw.2 c4
        refine lv_aload_n hx hb dX10_init_90 rfl (lv_at hl 0 rfl) ?_
        refine cg_102 hx hb hts hin10 hown hK hH h1 (hts (.fieldLink RX10 27 "IdlCaller" "operations" "[LIdlCaller$Operation;") (by decide +kernel)) dX10_init_91 ?_
        refine lv_iload_n hx hb dX10_init_94 rfl (lv_at hl 1 rfl) ?_
        obtain ⟨h8, hw⟩ := hw
        obtain ⟨h9, hw⟩ := hw
        refine cnew_5 hx hb hts hin5 hown (hts (.classLink RX10 25 RX5) (by decide +kernel)) (hts (.instantiable RX5 4) (by decide +kernel)) (hts (.initialized RX5) (by decide +kernel)) hK hH hA h8 h9 dX10_init_95 (fun q5 H zq5 hH => ?_)
        obtain ⟨T6, eT6⟩ : ∃ z, z = mkT T 6 0 q5 := ⟨_, rfl⟩
        obtain ⟨M7, eM7⟩ : ∃ z, z = mkM M q5 := ⟨_, rfl⟩
        replace hw := hw q5 T6 M7 zq5 eT6 eM7
        rw [← eT6, ← eM7] at hH
        refine lv_dup hx hb dX10_init_98 rfl ?_
        obtain ⟨h10, hw⟩ := hw
        obtain ⟨cc14, nn15, hcc14, hnn15, hw⟩ := hw
        refine c_callTv (va_runIN (As := []) (rest := [.ref q5, .int v1, va_rf (cR M 102 h)]) ⟨hx, hb, hml, hown, hts⟩ (tc_X5_init l D kA nm na sa sv H.size cc14 nn15 q5 T6 M7 _ hw) ⟨va_cnB 0 hts gX10_init_X5_init_n59 rfl rfl rfl (hSt.2.2.2.2.2.2.2.2.2.2.2.2.2.2.2.2.1) (hts (.initialized RX5) (by decide +kernel)) (by decide +kernel) ⟨(show (1 : Nat) + 1 ≤ 8 from Nat.le_of_ble_eq_true rfl), (show 8 + (1 + 11) + (12 : Nat) ≤ 172 from Nat.le_of_ble_eq_true rfl)⟩, rfl, hts (.instanceMethod yX5_init) (by decide +kernel)⟩ (c_preS hK hH hA hSt) rfl rfl hl.1 rfl (lv_room (by first | exact Nat.le_of_ble_eq_true rfl | simp [va_rf_cat, cat_ref, cat_int, cat_long, cat_double, cat_null])) dX10_init_99 ⟨hcc14, hnn15⟩) hH hA (fun T13 M11 H locs hw hH => ?_)
        refine W.st (st' := [.ref q5, .int v1, .ref p2]) (by rw [ep2]; rfl) ?_
        obtain ⟨h16, hw⟩ := hw
        obtain ⟨h18, hw⟩ := hw
        obtain ⟨h19, hw⟩ := hw
        refine cs_7 hx hb hK hH h16 h18 h19 dX10_init_102 (fun M17 H locs eM17 hH => ?_)
        replace hw := hw M17 eM17
        obtain ⟨x20, ex20⟩ : ∃ y : Int32, y = v1 + 1 := ⟨_, rfl⟩
        replace hw := hw x20 ex20
        refine lv_iinc (v := x20) (lv' := [(1, .int x20), (0, .ref h)]) hx hb dX10_init_103 hl (k := 1) rfl (by rw [ex20]; rfl) (by decide) rfl (fun ls hl => ?_)
        refine lv_goto (tgt := 81) hx hb dX10_init_106 (by decide) ?_
        exact hk81 x20 T13 M17 ((K + 1) + cc14) ((N + 4) + nn15) H locs ls hH (lv_sub hl [1, 0] rfl) hw
  clear hP
  unfold fc_X10_init at hw
  have hst : ∀ (T : LY) (M : CM) (H : Heap) (locs : List Loc) (ls : Array Slot), cH D kA A s.heap T M H locs → lv_has ls 2 [(0, .ref h)] → (0 + 1 ≤ mc ∧ (0 + 2 ≤ ms ∧ (∀ (q21 : Nat) (T22 : LY) (M23 : CM), tg T q21 = 0 → T22 = mkT T 8 0 q21 → M23 = mkM M q21 → (tg T22 q21 = 8 ∧ (∃ cc30 nn31 : Nat, (0 + 1) + cc30 ≤ mc ∧ (0 + 2) + nn31 ≤ ms ∧ fc_X7_init cc30 nn31 q21 100 T22 M23 (fun (T29 : LY) (M27 : CM) => (tg T29 h = 11 ∧ (∀ M33 : CM, M33 = sR M27 100 h (some q21) → (((0 + 1) + cc30) + 1 ≤ mc ∧ (((0 + 2) + nn31) + 7 ≤ ms ∧ (∀ (q34 : Nat) (T35 : LY) (M36 : CM), tg T29 q34 = 0 → T35 = mkT T29 7 0 q34 → M36 = mkM M33 q34 → (tg T35 q34 = 7 ∧ (∃ cc43 nn44 : Nat, (((0 + 1) + cc30) + 1) + cc43 ≤ mc ∧ (((0 + 2) + nn31) + 7) + nn44 ≤ ms ∧ fc_X6_init cc43 nn44 q34 T35 M36 (fun (T42 : LY) (M40 : CM) => (tg T42 h = 11 ∧ (∀ M46 : CM, M46 = sR M40 101 h (some q34) → (¬ (6 : Int32) < 0 ∧ ((6 : Int32).toNatClampNeg ≤ 60000000 ∧ (((((0 + 1) + cc30) + 1) + cc43) + 1 ≤ mc ∧ (((((0 + 2) + nn31) + 7) + nn44) + (6 : Int32).toNatClampNeg ≤ ms ∧ (∀ (q47 : Nat) (T48 : LY) (M49 : CM), tg T42 q47 = 0 → T48 = mkT T42 27 ((6 : Int32).toNatClampNeg) q47 → M49 = mkM M46 q47 → (tg T48 h = 11 ∧ (∀ M55 : CM, M55 = sR M49 102 h (some q47) → (∃ cc59 nn60 : Nat, (((((0 + 1) + cc30) + 1) + cc43) + 1) + cc59 ≤ mc ∧ (((((0 + 2) + nn31) + 7) + nn44) + (6 : Int32).toNatClampNeg) + nn60 ≤ ms ∧ fc_X10_rowOfThings cc59 nn60  T48 M55 (fun (r57 : Option Nat) (T58 : LY) (M56 : CM) => (tg T58 h = 11 ∧ (∀ M62 : CM, M62 = sR M56 103 h r57 → (((((((0 + 1) + cc30) + 1) + cc43) + 1) + cc59) + 1 ≤ mc ∧ (((((((0 + 2) + nn31) + 7) + nn44) + (6 : Int32).toNatClampNeg) + nn60) + 1 ≤ ms ∧ (∀ (q63 : Nat) (T64 : LY) (M65 : CM), tg T58 q63 = 0 → T64 = mkT T58 5 0 q63 → M65 = mkM M62 q63 → (tg T64 q63 = 5 ∧ (((((((0 + 1) + cc30) + 1) + cc43) + 1) + cc59) + 1 ≤ mc ∧ (((((((0 + 2) + nn31) + 7) + nn44) + (6 : Int32).toNatClampNeg) + nn60) + 1 ≤ ms ∧ fc_X4_init T64 q63 M65 (fun (M69 : CM) => (tg T64 h = 11 ∧ (∀ M75 : CM, M75 = sR M69 104 h (some q63) → (∃ cc79 nn80 : Nat, (((((((0 + 1) + cc30) + 1) + cc43) + 1) + cc59) + 1) + cc79 ≤ mc ∧ (((((((0 + 2) + nn31) + 7) + nn44) + (6 : Int32).toNatClampNeg) + nn60) + 1) + nn80 ≤ ms ∧ fc_X10_rowOfThings cc79 nn80  T64 M75 (fun (r77 : Option Nat) (T78 : LY) (M76 : CM) => (tg T78 h = 11 ∧ (∀ M82 : CM, M82 = sR M76 105 h r77 → (∃ cc86 nn87 : Nat, ((((((((0 + 1) + cc30) + 1) + cc43) + 1) + cc59) + 1) + cc79) + cc86 ≤ mc ∧ ((((((((0 + 2) + nn31) + 7) + nn44) + (6 : Int32).toNatClampNeg) + nn60) + 1) + nn80) + nn87 ≤ ms ∧ fc_X10_rowOfThings cc86 nn87  T78 M82 (fun (r84 : Option Nat) (T85 : LY) (M83 : CM) => (tg T85 h = 11 ∧ (∀ M89 : CM, M89 = sR M83 106 h r84 → (∀ M90 : CM, M90 = sI M89 107 h 0 → (∀ M91 : CM, M91 = sI M90 108 h (-1) → (∃ nn : Nat, fc_X10_init_l81 mc ms h Q  nn 0 T85 M91 (((((((((0 + 1) + cc30) + 1) + cc43) + 1) + cc59) + 1) + cc79) + cc86) (((((((((0 + 2) + nn31) + 7) + nn44) + (6 : Int32).toNatClampNeg) + nn60) + 1) + nn80) + nn87)))))))))))))))))))))))))))))))))))))))))))))))) → W p l e (headSpec wsX10_init (rmX10_init mc ms)).room s m args below meth c H locs 0 0 (MQ below (va_Qv (fun (u : LY × CM) => Q u.1 u.2) (cBT D kA A) A) args s mc ms A) (F0 m 0 ls []) := by
    intro T M H locs ls hH hl hw
    refine lv_aload_n hx hb dX10_init_0 rfl (lv_at hl 0 rfl) ?_
    refine W.objInit hx hb hown (hts (.methodLink RX10 1 objectInit) (by decide +kernel)) (hts (.instanceMethod objectInit) (by decide +kernel)) (hts (.code objectInit ⟨#[0xb1]⟩ 1 none) (by decide +kernel)) rfl (by rw [hml]; exact hl.1) rfl dX10_init_1 ((show _ ≤ (8 : Nat) from by first | exact Nat.le_of_ble_eq_true rfl | simp [va_rf_cat, cat_ref, cat_int, cat_long, cat_double, cat_null])) ((show _ ≤ (172 : Nat) from by first | exact Nat.le_of_ble_eq_true rfl | simp [va_rf_cat, cat_ref, cat_int, cat_long, cat_double, cat_null])) ?_
    refine W.eq (g2 := F0 m 4 ls []) rfl ?_
    refine lv_aload_n hx hb dX10_init_4 rfl (lv_at hl 0 rfl) ?_
    obtain ⟨h24, hw⟩ := hw
    obtain ⟨h25, hw⟩ := hw
    refine cnew_7 hx hb hts hin7 hown (hts (.classLink RX10 7 RX7) (by decide +kernel)) (hts (.instantiable RX7 2) (by decide +kernel)) (hts (.initialized RX7) (by decide +kernel)) hK hH hA h24 h25 dX10_init_5 (fun q21 H zq21 hH => ?_)
    obtain ⟨T22, eT22⟩ : ∃ z, z = mkT T 8 0 q21 := ⟨_, rfl⟩
    obtain ⟨M23, eM23⟩ : ∃ z, z = mkM M q21 := ⟨_, rfl⟩
    replace hw := hw q21 T22 M23 zq21 eT22 eM23
    rw [← eT22, ← eM23] at hH
    refine lv_dup hx hb dX10_init_8 rfl ?_
    refine lv_bipush (v := 100) hx hb dX10_init_9 (by decide) ?_
    obtain ⟨h26, hw⟩ := hw
    obtain ⟨cc30, nn31, hcc30, hnn31, hw⟩ := hw
    refine c_callTv (va_runI (As := [.int 100]) (rest := [.ref q21, .ref h]) ⟨hx, hb, hml, hown, hts⟩ (tc_X7_init l D kA nm na sa sv H.size cc30 nn31 q21 100 T22 M23 _ hw) (cwI 1 hts gX10_init_X7_init rfl rfl rfl (hts (.initialized RX7) (by decide +kernel)) (hts (.methodLink RX10 11 yX7_init) (by decide +kernel)) (hts (.instanceMethod yX7_init) (by decide +kernel)) rfl (by decide +kernel) ⟨(show (1 : Nat) + 1 ≤ 8 from Nat.le_of_ble_eq_true rfl), (show 8 + (2 + 11) + (14 : Nat) ≤ 172 from Nat.le_of_ble_eq_true rfl)⟩) (c_preS hK hH hA hSt) rfl rfl hl.1 rfl (lv_room (by first | exact Nat.le_of_ble_eq_true rfl | simp [va_rf_cat, cat_ref, cat_int, cat_long, cat_double, cat_null])) dX10_init_11 ⟨hcc30, hnn31⟩) hH hA (fun T29 M27 H locs hw hH => ?_)
    obtain ⟨h32, hw⟩ := hw
    refine cp_100 (x := (some q21)) hx hb hts hin10 hown hK hH h32 rfl hini (hts (.fieldLink RX10 14 "IdlCaller" "line" "LIdlCaller$Text;") (by decide +kernel)) dX10_init_14 (fun M33 H locs eM33 hH => ?_)
    replace hw := hw M33 eM33
    refine lv_aload_n hx hb dX10_init_17 rfl (lv_at hl 0 rfl) ?_
    obtain ⟨h37, hw⟩ := hw
    obtain ⟨h38, hw⟩ := hw
    refine cnew_6 hx hb hts hin6 hown (hts (.classLink RX10 18 RX6) (by decide +kernel)) (hts (.instantiable RX6 7) (by decide +kernel)) (hts (.initialized RX6) (by decide +kernel)) hK hH hA h37 h38 dX10_init_18 (fun q34 H zq34 hH => ?_)
    obtain ⟨T35, eT35⟩ : ∃ z, z = mkT T29 7 0 q34 := ⟨_, rfl⟩
    obtain ⟨M36, eM36⟩ : ∃ z, z = mkM M33 q34 := ⟨_, rfl⟩
    replace hw := hw q34 T35 M36 zq34 eT35 eM36
    rw [← eT35, ← eM36] at hH
    refine lv_dup hx hb dX10_init_21 rfl ?_
    obtain ⟨h39, hw⟩ := hw
    obtain ⟨cc43, nn44, hcc43, hnn44, hw⟩ := hw
    refine c_callTv (va_runIN (As := []) (rest := [.ref q34, .ref h]) ⟨hx, hb, hml, hown, hts⟩ (tc_X6_init l D kA nm na sa sv H.size cc43 nn44 q34 T35 M36 _ hw) ⟨va_cnB 0 hts gX10_init_X6_init_n20 rfl rfl rfl (hSt.2.2.2.2.2.2.2.2.2.2.2.2.2.2.1) (hts (.initialized RX6) (by decide +kernel)) (by decide +kernel) ⟨(show (1 : Nat) + 1 ≤ 8 from Nat.le_of_ble_eq_true rfl), (show 8 + (1 + 11) + (12 : Nat) ≤ 172 from Nat.le_of_ble_eq_true rfl)⟩, rfl, hts (.instanceMethod yX6_init) (by decide +kernel)⟩ (c_preS hK hH hA hSt) rfl rfl hl.1 rfl (lv_room (by first | exact Nat.le_of_ble_eq_true rfl | simp [va_rf_cat, cat_ref, cat_int, cat_long, cat_double, cat_null])) dX10_init_22 ⟨hcc43, hnn44⟩) hH hA (fun T42 M40 H locs hw hH => ?_)
    obtain ⟨h45, hw⟩ := hw
    refine cp_101 (x := (some q34)) hx hb hts hin10 hown hK hH h45 rfl hini (hts (.fieldLink RX10 21 "IdlCaller" "reader" "LIdlCaller$Reader;") (by decide +kernel)) dX10_init_25 (fun M46 H locs eM46 hH => ?_)
    replace hw := hw M46 eM46
    refine lv_aload_n hx hb dX10_init_28 rfl (lv_at hl 0 rfl) ?_
    refine lv_bipush (v := 6) hx hb dX10_init_29 (by decide) ?_
    obtain ⟨h50, hw⟩ := hw
    obtain ⟨h51, hw⟩ := hw
    obtain ⟨h52, hw⟩ := hw
    obtain ⟨h53, hw⟩ := hw
    refine cnewa_7 hx hb hown (hts (.classLink RX10 25 "IdlCaller$Operation") (by decide +kernel)) (hSt.2.2.2.2.2.2.2.2.2.2.2.2.2.2.2.2.2.2.2.2.2.2.2.2.2.2.2.1) hK hH hA h50 rfl h51 h52 h53 dX10_init_31 (fun q47 H zq47 hH => ?_)
    obtain ⟨T48, eT48⟩ : ∃ z, z = mkT T42 27 ((6 : Int32).toNatClampNeg) q47 := ⟨_, rfl⟩
    obtain ⟨M49, eM49⟩ : ∃ z, z = mkM M46 q47 := ⟨_, rfl⟩
    replace hw := hw q47 T48 M49 zq47 eT48 eM49
    rw [← eT48, ← eM49] at hH
    obtain ⟨h54, hw⟩ := hw
    refine cp_102 (x := (some q47)) hx hb hts hin10 hown hK hH h54 rfl hini (hts (.fieldLink RX10 27 "IdlCaller" "operations" "[LIdlCaller$Operation;") (by decide +kernel)) dX10_init_34 (fun M55 H locs eM55 hH => ?_)
    replace hw := hw M55 eM55
    refine lv_aload_n hx hb dX10_init_37 rfl (lv_at hl 0 rfl) ?_
    obtain ⟨cc59, nn60, hcc59, hnn60, hw⟩ := hw
    refine c_callTq (va_runS (As := []) (rest := [.ref h]) ⟨hx, hb, hml, hown, hts⟩ (tc_X10_rowOfThings l D kA nm na sa sv H.size cc59 nn60  T48 M55 _ hw) (va_cwS 0 hts gX10_init_X10_rowOfThings rfl rfl rfl (by decide +kernel) ⟨(show (7 : Nat) + 1 ≤ 8 from Nat.le_of_ble_eq_true rfl), (show 8 + (2 + 11) + (151 : Nat) ≤ 172 from Nat.le_of_ble_eq_true rfl)⟩) (c_preS hK hH hA hSt) rfl rfl hl.1 rfl (lv_room (by first | exact Nat.le_of_ble_eq_true rfl | simp [va_rf_cat, cat_ref, cat_int, cat_long, cat_double, cat_null])) dX10_init_38 ⟨hcc59, hnn60⟩) hH hA (fun r57 T58 M56 H locs hw hH => ?_)
    obtain ⟨h61, hw⟩ := hw
    refine cp_103 (x := r57) hx hb hts hin10 hown hK hH h61 rfl hini (hts (.fieldLink RX10 35 "IdlCaller" "slots" "[LIdlCaller$Thing;") (by decide +kernel)) dX10_init_41 (fun M62 H locs eM62 hH => ?_)
    replace hw := hw M62 eM62
    refine lv_aload_n hx hb dX10_init_44 rfl (lv_at hl 0 rfl) ?_
    obtain ⟨h66, hw⟩ := hw
    obtain ⟨h67, hw⟩ := hw
    refine cnew_4 hx hb hts hin4 hown (hts (.classLink RX10 39 RX4) (by decide +kernel)) (hts (.instantiable RX4 1) (by decide +kernel)) (hts (.initialized RX4) (by decide +kernel)) hK hH hA h66 h67 dX10_init_45 (fun q63 H zq63 hH => ?_)
    obtain ⟨T64, eT64⟩ : ∃ z, z = mkT T58 5 0 q63 := ⟨_, rfl⟩
    obtain ⟨M65, eM65⟩ : ∃ z, z = mkM M62 q63 := ⟨_, rfl⟩
    replace hw := hw q63 T64 M65 zq63 eT64 eM65
    rw [← eT64, ← eM65] at hH
    refine lv_dup hx hb dX10_init_48 rfl ?_
    obtain ⟨h68, hw⟩ := hw
    obtain ⟨h72, hw⟩ := hw
    obtain ⟨h73, hw⟩ := hw
    refine c_callv (va_runIN (As := []) (rest := [.ref q63, .ref h]) ⟨hx, hb, hml, hown, hts⟩ (tc_X4_init l D kA nm na sa sv H.size T64 q63 M65 _ hw) ⟨va_cnB 0 hts gX10_init_X4_init_n41 rfl rfl rfl (hSt.2.2.2.2.2.2.2.2.2.2.2.2.2.2.2.1) (hts (.initialized RX4) (by decide +kernel)) (by decide +kernel) ⟨(show (1 : Nat) + 1 ≤ 8 from Nat.le_of_ble_eq_true rfl), (show 8 + (1 + 11) + (12 : Nat) ≤ 172 from Nat.le_of_ble_eq_true rfl)⟩, rfl, hts (.instanceMethod yX4_init) (by decide +kernel)⟩ (c_preS hK hH hA hSt) rfl rfl hl.1 rfl (lv_room (by first | exact Nat.le_of_ble_eq_true rfl | simp [va_rf_cat, cat_ref, cat_int, cat_long, cat_double, cat_null])) dX10_init_49 ⟨h72, h73⟩) hH hA (fun M69 H locs hw hH => ?_)
    obtain ⟨h74, hw⟩ := hw
    refine cp_104 (x := (some q63)) hx hb hts hin10 hown hK hH h74 rfl hini (hts (.fieldLink RX10 42 "IdlCaller" "numeral" "LIdlCaller$Numeral;") (by decide +kernel)) dX10_init_52 (fun M75 H locs eM75 hH => ?_)
    replace hw := hw M75 eM75
    refine lv_aload_n hx hb dX10_init_55 rfl (lv_at hl 0 rfl) ?_
    obtain ⟨cc79, nn80, hcc79, hnn80, hw⟩ := hw
    refine c_callTq (va_runS (As := []) (rest := [.ref h]) ⟨hx, hb, hml, hown, hts⟩ (tc_X10_rowOfThings l D kA nm na sa sv H.size cc79 nn80  T64 M75 _ hw) (va_cwS 0 hts gX10_init_X10_rowOfThings rfl rfl rfl (by decide +kernel) ⟨(show (7 : Nat) + 1 ≤ 8 from Nat.le_of_ble_eq_true rfl), (show 8 + (2 + 11) + (151 : Nat) ≤ 172 from Nat.le_of_ble_eq_true rfl)⟩) (c_preS hK hH hA hSt) rfl rfl hl.1 rfl (lv_room (by first | exact Nat.le_of_ble_eq_true rfl | simp [va_rf_cat, cat_ref, cat_int, cat_long, cat_double, cat_null])) dX10_init_56 ⟨hcc79, hnn80⟩) hH hA (fun r77 T78 M76 H locs hw hH => ?_)
    obtain ⟨h81, hw⟩ := hw
    refine cp_105 (x := r77) hx hb hts hin10 hown hK hH h81 (hts (.fieldLink RX10 46 "IdlCaller" "converted" "[LIdlCaller$Thing;") (by decide +kernel)) dX10_init_59 (fun M82 H locs eM82 hH => ?_)
    replace hw := hw M82 eM82
    refine lv_aload_n hx hb dX10_init_62 rfl (lv_at hl 0 rfl) ?_
    obtain ⟨cc86, nn87, hcc86, hnn87, hw⟩ := hw
    refine c_callTq (va_runS (As := []) (rest := [.ref h]) ⟨hx, hb, hml, hown, hts⟩ (tc_X10_rowOfThings l D kA nm na sa sv H.size cc86 nn87  T78 M82 _ hw) (va_cwS 0 hts gX10_init_X10_rowOfThings rfl rfl rfl (by decide +kernel) ⟨(show (7 : Nat) + 1 ≤ 8 from Nat.le_of_ble_eq_true rfl), (show 8 + (2 + 11) + (151 : Nat) ≤ 172 from Nat.le_of_ble_eq_true rfl)⟩) (c_preS hK hH hA hSt) rfl rfl hl.1 rfl (lv_room (by first | exact Nat.le_of_ble_eq_true rfl | simp [va_rf_cat, cat_ref, cat_int, cat_long, cat_double, cat_null])) dX10_init_63 ⟨hcc86, hnn87⟩) hH hA (fun r84 T85 M83 H locs hw hH => ?_)
    obtain ⟨h88, hw⟩ := hw
    refine cp_106 (x := r84) hx hb hts hin10 hown hK hH h88 (hts (.fieldLink RX10 49 "IdlCaller" "spare" "[LIdlCaller$Thing;") (by decide +kernel)) dX10_init_66 (fun M89 H locs eM89 hH => ?_)
    replace hw := hw M89 eM89
    refine lv_aload_n hx hb dX10_init_69 rfl (lv_at hl 0 rfl) ?_
    refine lv_iconst (v := 0) hx hb dX10_init_70 (by decide) ?_
    refine cp_107 (x := 0) hx hb hts hin10 hown hK hH h88 (hts (.fieldLink RX10 52 "IdlCaller" "places" "I") (by decide +kernel)) dX10_init_71 (fun M90 H locs eM90 hH => ?_)
    replace hw := hw M90 eM90
    refine lv_aload_n hx hb dX10_init_74 rfl (lv_at hl 0 rfl) ?_
    refine lv_iconst (v := (-1)) hx hb dX10_init_75 (by decide) ?_
    refine cp_108 (x := (-1)) hx hb hts hin10 hown hK hH h88 (hts (.fieldLink RX10 56 "IdlCaller" "lastPlace" "I") (by decide +kernel)) dX10_init_76 (fun M91 H locs eM91 hH => ?_)
    replace hw := hw M91 eM91
    refine lv_iconst (v := 0) hx hb dX10_init_79 (by decide) ?_
    refine lv_istore_n (i := 1) (lv' := [(1, .int 0), (0, .ref h)]) hx hb dX10_init_80 rfl hl (by decide) rfl (fun ls hl => ?_)
    obtain ⟨nn, hw⟩ := hw
    exact l81   nn 0 T85 M91 (((((((((0 + 1) + cc30) + 1) + cc43) + 1) + cc59) + 1) + cc79) + cc86) (((((((((0 + 2) + nn31) + 7) + nn44) + (6 : Int32).toNatClampNeg) + nn60) + 1) + nn80) + nn87) H locs ls hH (lv_sub hl [1, 0] rfl) hw
  exact hst T M s.heap [] ls hH hl hw
