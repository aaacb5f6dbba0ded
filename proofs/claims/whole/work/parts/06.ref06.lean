def fm_lowest_b34 (Q : Int64 → RM → Prop) (s0 : Int64) (M : RM) : Prop := Q s0 M
def fm_lowest (a1 : Int32) (M : RM) (Q : Int64 → RM → Prop) : Prop := ((¬ a1 = 1 → ((¬ a1 = 2 → ((¬ a1 = 3 → fm_lowest_b34 Q  (-2147483648) M) ∧ (a1 = 3 → fm_lowest_b34 Q  (-32768) M))) ∧ (a1 = 2 → fm_lowest_b34 Q  0 M))) ∧ (a1 = 1 → fm_lowest_b34 Q  (-128) M))
abbrev rmX11_lowest : Room := { frames := 0, cells := 0, slots := 0, locals := 0 }
set_option maxHeartbeats 4000000 in
set_option maxRecDepth 100000 in
theorem tm_lowest (l : Launch) (D : va_G) (kA : Nat → ClassId) (h : Nat) (ad : Nat → Nat) (sz : Nat) (M : RM) (a1 : Int32) (Q : Int64 → RM → Prop) (hw : fm_lowest a1 M Q) : Met l yX11_lowest wsX11_lowest rmX11_lowest (va_Pc [.int a1] (rPc D kA h ad M sz)) (va_Ql Q (rB D kA h ad (rF kA h ad M sz)) (rF kA h ad M sz)) 0 0 (rF kA h ad M sz) := by
  refine Met.ofW (cc := cX11_lowest) (maxL := 1) (ret := (some .long)) (by decide) rfl ?_
  intro p e s m args below meth c s₁ B hml hv
  obtain ⟨rfl, hsz, hP, hK, hD0⟩ := hv
  have hx := B.exec
  have hb := B.bytes
  have hr := B.returns
  have hts := atoms_spec (ws := wsX11_lowest) B.pre
  have hown : s.vm.findClass RX11 = some m.cls := findClass_of_methodNamed B.named
  have hlocks : meth.locks = false := B.notSynchronized
  subst hsz
  have hH : rH D kA h ad (rF kA h ad M s.heap.size) s.heap M s.heap [] := ⟨hP, hD0.self, va_S.rf⟩
  have hA : ∀ q : Nat, s.heap.size ≤ q → rF kA h ad M s.heap.size q := fun q z => Or.inr z
  generalize rF kA h ad M s.heap.size = A at hH hA ⊢
  have hl := lv_entry ([.int a1]) (n := 1) (Nat.le_of_ble_eq_true rfl)
  rw [lg_entry_eq]
  generalize (lg_sl ([.int a1]) ++ List.replicate (1 - (lg_sl ([.int a1])).length) Slot.unset).toArray = ls at hl ⊢
  generalize ([.int a1] : List Value).toArray = args at hts ⊢
  have hl : lv_has ls 1 [(0, .int a1)] := hl
  have b34 : ∀ (s0 : Int64) (M : RM) (H : Heap) (locs : List Loc) (ls : Array Slot), rH D kA h ad A s.heap M H locs → lv_has ls 1 [] → fm_lowest_b34 Q  s0 M → W p l e (headSpec wsX11_lowest rmX11_lowest).room s m args below meth c H locs 0 0 (MQ below (va_Ql Q (rB D kA h ad A) A) args s 0 0 A) (F0 m 34 ls [.long s0]) := by
    intro   s0 M H locs ls hH hl hw
    unfold fm_lowest_b34 at hw
    exact r_retl hx hb hr hlocks hK hH hw dX11_lowest_34
  clear hP hD0
  unfold fm_lowest at hw
  have hst : ∀ (M : RM) (H : Heap) (locs : List Loc) (ls : Array Slot), rH D kA h ad A s.heap M H locs → lv_has ls 1 [(0, .int a1)] → ((¬ a1 = 1 → ((¬ a1 = 2 → ((¬ a1 = 3 → fm_lowest_b34 Q  (-2147483648) M) ∧ (a1 = 3 → fm_lowest_b34 Q  (-32768) M))) ∧ (a1 = 2 → fm_lowest_b34 Q  0 M))) ∧ (a1 = 1 → fm_lowest_b34 Q  (-128) M)) → W p l e (headSpec wsX11_lowest rmX11_lowest).room s m args below meth c H locs 0 0 (MQ below (va_Ql Q (rB D kA h ad A) A) args s 0 0 A) (F0 m 0 ls []) := by
    intro M H locs ls hH hl hw
    refine lv_iload_n hx hb dX11_lowest_0 rfl (lv_at hl 0 rfl) ?_
    refine lv_iconst (v := 1) hx hb dX11_lowest_1 (by decide) ?_
    refine lv_icmp_ne (tgt := 11) hx hb dX11_lowest_2 (by decide) (fun c1 => ?_) (fun c1 => ?_)
    · replace hw := hw.1 c1
      refine lv_iload_n hx hb dX11_lowest_11 rfl (lv_at hl 0 rfl) ?_
      refine lv_iconst (v := 2) hx hb dX11_lowest_12 (by decide) ?_
      refine lv_icmp_ne (tgt := 20) hx hb dX11_lowest_13 (by decide) (fun c2 => ?_) (fun c2 => ?_)
      · replace hw := hw.1 c2
        refine lv_iload_n hx hb dX11_lowest_20 rfl (lv_at hl 0 rfl) ?_
        refine lv_iconst (v := 3) hx hb dX11_lowest_21 (by decide) ?_
        refine lv_icmp_ne (tgt := 31) hx hb dX11_lowest_22 (by decide) (fun c3 => ?_) (fun c3 => ?_)
        · replace hw := hw.1 c3
          refine lv_ldc2 (v := (-2147483648)) hx hb hown (hts (.constantLong RX11 292 (-2147483648)) (by decide +kernel)) dX11_lowest_31 ?_
          exact b34   (-2147483648) M H locs ls hH (lv_sub hl [] rfl) hw
        · replace hw := hw.2 c3
          refine lv_ldc2 (v := (-32768)) hx hb hown (hts (.constantLong RX11 290 (-32768)) (by decide +kernel)) dX11_lowest_25 ?_
          refine lv_goto (tgt := 34) hx hb dX11_lowest_28 (by decide) ?_
          exact b34   (-32768) M H locs ls hH (lv_sub hl [] rfl) hw
      · replace hw := hw.2 c2
        refine lv_lconst (v := 0) hx hb dX11_lowest_16 (by decide) ?_
        refine lv_goto (tgt := 34) hx hb dX11_lowest_17 (by decide) ?_
        exact b34   0 M H locs ls hH (lv_sub hl [] rfl) hw
    · replace hw := hw.2 c1
      refine lv_ldc2 (v := (-128)) hx hb hown (hts (.constantLong RX11 288 (-128)) (by decide +kernel)) dX11_lowest_5 ?_
      refine lv_goto (tgt := 34) hx hb dX11_lowest_8 (by decide) ?_
      exact b34   (-128) M H locs ls hH (lv_sub hl [] rfl) hw
  exact hst M s.heap [] ls hH hl hw
def fm_highest_b36 (Q : Int64 → RM → Prop) (s0 : Int64) (M : RM) : Prop := Q s0 M
def fm_highest (a1 : Int32) (M : RM) (Q : Int64 → RM → Prop) : Prop := ((¬ a1 = 1 → ((¬ a1 = 2 → ((¬ a1 = 3 → fm_highest_b36 Q  2147483647 M) ∧ (a1 = 3 → fm_highest_b36 Q  32767 M))) ∧ (a1 = 2 → fm_highest_b36 Q  255 M))) ∧ (a1 = 1 → fm_highest_b36 Q  127 M))
abbrev rmX11_highest : Room := { frames := 0, cells := 0, slots := 0, locals := 0 }
set_option maxHeartbeats 4000000 in
set_option maxRecDepth 100000 in
theorem tm_highest (l : Launch) (D : va_G) (kA : Nat → ClassId) (h : Nat) (ad : Nat → Nat) (sz : Nat) (M : RM) (a1 : Int32) (Q : Int64 → RM → Prop) (hw : fm_highest a1 M Q) : Met l yX11_highest wsX11_highest rmX11_highest (va_Pc [.int a1] (rPc D kA h ad M sz)) (va_Ql Q (rB D kA h ad (rF kA h ad M sz)) (rF kA h ad M sz)) 0 0 (rF kA h ad M sz) := by
  refine Met.ofW (cc := cX11_highest) (maxL := 1) (ret := (some .long)) (by decide) rfl ?_
  intro p e s m args below meth c s₁ B hml hv
  obtain ⟨rfl, hsz, hP, hK, hD0⟩ := hv
  have hx := B.exec
  have hb := B.bytes
  have hr := B.returns
  have hts := atoms_spec (ws := wsX11_highest) B.pre
  have hown : s.vm.findClass RX11 = some m.cls := findClass_of_methodNamed B.named
  have hlocks : meth.locks = false := B.notSynchronized
  subst hsz
  have hH : rH D kA h ad (rF kA h ad M s.heap.size) s.heap M s.heap [] := ⟨hP, hD0.self, va_S.rf⟩
  have hA : ∀ q : Nat, s.heap.size ≤ q → rF kA h ad M s.heap.size q := fun q z => Or.inr z
  generalize rF kA h ad M s.heap.size = A at hH hA ⊢
  have hl := lv_entry ([.int a1]) (n := 1) (Nat.le_of_ble_eq_true rfl)
  rw [lg_entry_eq]
  generalize (lg_sl ([.int a1]) ++ List.replicate (1 - (lg_sl ([.int a1])).length) Slot.unset).toArray = ls at hl ⊢
  generalize ([.int a1] : List Value).toArray = args at hts ⊢
  have hl : lv_has ls 1 [(0, .int a1)] := hl
  have b36 : ∀ (s0 : Int64) (M : RM) (H : Heap) (locs : List Loc) (ls : Array Slot), rH D kA h ad A s.heap M H locs → lv_has ls 1 [] → fm_highest_b36 Q  s0 M → W p l e (headSpec wsX11_highest rmX11_highest).room s m args below meth c H locs 0 0 (MQ below (va_Ql Q (rB D kA h ad A) A) args s 0 0 A) (F0 m 36 ls [.long s0]) := by
    intro   s0 M H locs ls hH hl hw
    unfold fm_highest_b36 at hw
    exact r_retl hx hb hr hlocks hK hH hw dX11_highest_36
  clear hP hD0
  unfold fm_highest at hw
  have hst : ∀ (M : RM) (H : Heap) (locs : List Loc) (ls : Array Slot), rH D kA h ad A s.heap M H locs → lv_has ls 1 [(0, .int a1)] → ((¬ a1 = 1 → ((¬ a1 = 2 → ((¬ a1 = 3 → fm_highest_b36 Q  2147483647 M) ∧ (a1 = 3 → fm_highest_b36 Q  32767 M))) ∧ (a1 = 2 → fm_highest_b36 Q  255 M))) ∧ (a1 = 1 → fm_highest_b36 Q  127 M)) → W p l e (headSpec wsX11_highest rmX11_highest).room s m args below meth c H locs 0 0 (MQ below (va_Ql Q (rB D kA h ad A) A) args s 0 0 A) (F0 m 0 ls []) := by
    intro M H locs ls hH hl hw
    refine lv_iload_n hx hb dX11_highest_0 rfl (lv_at hl 0 rfl) ?_
    refine lv_iconst (v := 1) hx hb dX11_highest_1 (by decide) ?_
    refine lv_icmp_ne (tgt := 11) hx hb dX11_highest_2 (by decide) (fun c1 => ?_) (fun c1 => ?_)
    · replace hw := hw.1 c1
      refine lv_iload_n hx hb dX11_highest_11 rfl (lv_at hl 0 rfl) ?_
      refine lv_iconst (v := 2) hx hb dX11_highest_12 (by decide) ?_
      refine lv_icmp_ne (tgt := 22) hx hb dX11_highest_13 (by decide) (fun c2 => ?_) (fun c2 => ?_)
      · replace hw := hw.1 c2
        refine lv_iload_n hx hb dX11_highest_22 rfl (lv_at hl 0 rfl) ?_
        refine lv_iconst (v := 3) hx hb dX11_highest_23 (by decide) ?_
        refine lv_icmp_ne (tgt := 33) hx hb dX11_highest_24 (by decide) (fun c3 => ?_) (fun c3 => ?_)
        · replace hw := hw.1 c3
          refine lv_ldc2 (v := 2147483647) hx hb hown (hts (.constantLong RX11 298 2147483647) (by decide +kernel)) dX11_highest_33 ?_
          exact b36   2147483647 M H locs ls hH (lv_sub hl [] rfl) hw
        · replace hw := hw.2 c3
          refine lv_ldc2 (v := 32767) hx hb hown (hts (.constantLong RX11 296 32767) (by decide +kernel)) dX11_highest_27 ?_
          refine lv_goto (tgt := 36) hx hb dX11_highest_30 (by decide) ?_
          exact b36   32767 M H locs ls hH (lv_sub hl [] rfl) hw
      · replace hw := hw.2 c2
        refine lv_ldc2 (v := 255) hx hb hown (hts (.constantLong RX11 118 255) (by decide +kernel)) dX11_highest_16 ?_
        refine lv_goto (tgt := 36) hx hb dX11_highest_19 (by decide) ?_
        exact b36   255 M H locs ls hH (lv_sub hl [] rfl) hw
    · replace hw := hw.2 c1
      refine lv_ldc2 (v := 127) hx hb hown (hts (.constantLong RX11 294 127) (by decide +kernel)) dX11_highest_5 ?_
      refine lv_goto (tgt := 36) hx hb dX11_highest_8 (by decide) ?_
      exact b36   127 M H locs ls hH (lv_sub hl [] rfl) hw
  exact hst M s.heap [] ls hH hl hw
def fm_rounded_b55 (Q : Int64 → RM → Prop) (s0 : Int64) (M : RM) : Prop := Q s0 M
def fm_rounded_b54 (Q : Int64 → RM → Prop) (v2 : Int64) (M : RM) : Prop := fm_rounded_b55 Q  v2 M
def fm_rounded_b48 (Q : Int64 → RM → Prop) (v2 : Int64) (M : RM) : Prop := fm_rounded_b55 Q  (v2 + 1) M
def fm_rounded_b14 (Q : Int64 → RM → Prop) (v0 : UInt64) (v2 : Int64) (M : RM) : Prop := (vf_n64 (FP.dsub v0 (FP.l2d v2)) ∧ (∀ x2 : UInt64, x2 = FP.dsub v0 (FP.l2d v2) → ((0 < (Op.cmpValue (FP.dcmp x2 4602678819172646912) .l) → fm_rounded_b48 Q  v2 M) ∧ (¬ 0 < (Op.cmpValue (FP.dcmp x2 4602678819172646912) .l) → ((¬ (Op.cmpValue (FP.dcmp x2 4602678819172646912) .l) = 0 → fm_rounded_b54 Q  v2 M) ∧ ((Op.cmpValue (FP.dcmp x2 4602678819172646912) .l) = 0 → (¬ (2 : Int64) = 0 ∧ (((lg_cmp (v2 - v2 / 2 * 2) 0) = 0 → fm_rounded_b54 Q  v2 M) ∧ (¬ (lg_cmp (v2 - v2 / 2 * 2) 0) = 0 → fm_rounded_b48 Q  v2 M)))))))))
def fm_rounded (a1 : UInt64) (M : RM) (Q : Int64 → RM → Prop) : Prop := (∀ x7 : Int64, x7 = FP.d2l a1 → (((Op.cmpValue (FP.dcmp (FP.l2d x7) a1) .l) ≤ 0 → fm_rounded_b14 Q  a1 x7 M) ∧ (¬ (Op.cmpValue (FP.dcmp (FP.l2d x7) a1) .l) ≤ 0 → (∀ x9 : Int64, x9 = x7 - 1 → fm_rounded_b14 Q  a1 x9 M))))
abbrev rmX11_rounded : Room := { frames := 0, cells := 0, slots := 0, locals := 0 }
set_option maxHeartbeats 4000000 in
set_option maxRecDepth 100000 in
theorem tm_rounded (l : Launch) (D : va_G) (kA : Nat → ClassId) (h : Nat) (ad : Nat → Nat) (sz : Nat) (M : RM) (a1 : UInt64) (Q : Int64 → RM → Prop) (hw : fm_rounded a1 M Q) : Met l yX11_rounded wsX11_rounded rmX11_rounded (va_Pc [.double a1] (rPc D kA h ad M sz)) (va_Ql Q (rB D kA h ad (rF kA h ad M sz)) (rF kA h ad M sz)) 0 0 (rF kA h ad M sz) := by
  refine Met.ofW (cc := cX11_rounded) (maxL := 6) (ret := (some .long)) (by decide) rfl ?_
  intro p e s m args below meth c s₁ B hml hv
  obtain ⟨rfl, hsz, hP, hK, hD0⟩ := hv
  have hx := B.exec
  have hb := B.bytes
  have hr := B.returns
  have hts := atoms_spec (ws := wsX11_rounded) B.pre
  have hown : s.vm.findClass RX11 = some m.cls := findClass_of_methodNamed B.named
  have hlocks : meth.locks = false := B.notSynchronized
  subst hsz
  have hH : rH D kA h ad (rF kA h ad M s.heap.size) s.heap M s.heap [] := ⟨hP, hD0.self, va_S.rf⟩
  have hA : ∀ q : Nat, s.heap.size ≤ q → rF kA h ad M s.heap.size q := fun q z => Or.inr z
  generalize rF kA h ad M s.heap.size = A at hH hA ⊢
  have hl := lv_entry ([.double a1]) (n := 6) (Nat.le_of_ble_eq_true rfl)
  rw [lg_entry_eq]
  generalize (lg_sl ([.double a1]) ++ List.replicate (6 - (lg_sl ([.double a1])).length) Slot.unset).toArray = ls at hl ⊢
  generalize ([.double a1] : List Value).toArray = args at hts ⊢
  have hl : lv_has ls 6 [(0, .double a1)] := hl
  have b55 : ∀ (s0 : Int64) (M : RM) (H : Heap) (locs : List Loc) (ls : Array Slot), rH D kA h ad A s.heap M H locs → lv_has ls 6 [] → fm_rounded_b55 Q  s0 M → W p l e (headSpec wsX11_rounded rmX11_rounded).room s m args below meth c H locs 0 0 (MQ below (va_Ql Q (rB D kA h ad A) A) args s 0 0 A) (F0 m 55 ls [.long s0]) := by
    intro   s0 M H locs ls hH hl hw
    unfold fm_rounded_b55 at hw
    exact r_retl hx hb hr hlocks hK hH hw dX11_rounded_55
  have b54 : ∀ (v2 : Int64) (M : RM) (H : Heap) (locs : List Loc) (ls : Array Slot), rH D kA h ad A s.heap M H locs → lv_has ls 6 [(2, .long v2)] → fm_rounded_b54 Q  v2 M → W p l e (headSpec wsX11_rounded rmX11_rounded).room s m args below meth c H locs 0 0 (MQ below (va_Ql Q (rB D kA h ad A) A) args s 0 0 A) (F0 m 54 ls []) := by
    intro   v2 M H locs ls hH hl hw
    unfold fm_rounded_b54 at hw
    refine lv_lload_n hx hb dX11_rounded_54 rfl (lv_at hl 0 rfl) ?_
    exact b55   v2 M H locs ls hH (lv_sub hl [] rfl) hw
  have b48 : ∀ (v2 : Int64) (M : RM) (H : Heap) (locs : List Loc) (ls : Array Slot), rH D kA h ad A s.heap M H locs → lv_has ls 6 [(2, .long v2)] → fm_rounded_b48 Q  v2 M → W p l e (headSpec wsX11_rounded rmX11_rounded).room s m args below meth c H locs 0 0 (MQ below (va_Ql Q (rB D kA h ad A) A) args s 0 0 A) (F0 m 48 ls []) := by
    intro   v2 M H locs ls hH hl hw
    unfold fm_rounded_b48 at hw
    refine lv_lload_n hx hb dX11_rounded_48 rfl (lv_at hl 0 rfl) ?_
    refine lv_lconst (v := 1) hx hb dX11_rounded_49 (by decide) ?_
    refine lv_ladd hx hb dX11_rounded_50 ?_
    refine lv_goto (tgt := 55) hx hb dX11_rounded_51 (by decide) ?_
    exact b55   (v2 + 1) M H locs ls hH (lv_sub hl [] rfl) hw
  have b14 : ∀ (v0 : UInt64) (v2 : Int64) (M : RM) (H : Heap) (locs : List Loc) (ls : Array Slot), rH D kA h ad A s.heap M H locs → lv_has ls 6 [(0, .double v0), (2, .long v2)] → fm_rounded_b14 Q  v0 v2 M → W p l e (headSpec wsX11_rounded rmX11_rounded).room s m args below meth c H locs 0 0 (MQ below (va_Ql Q (rB D kA h ad A) A) args s 0 0 A) (F0 m 14 ls []) := by
    intro   v0 v2 M H locs ls hH hl hw
    unfold fm_rounded_b14 at hw
    refine lv_dload_n hx hb dX11_rounded_14 rfl (lv_at hl 0 rfl) ?_
    refine lv_lload_n hx hb dX11_rounded_15 rfl (lv_at hl 1 rfl) ?_
    refine lv_l2d hx hb dX11_rounded_16 ?_
    obtain ⟨h1, hw⟩ := hw
    refine lv_dsub hx hb dX11_rounded_17 h1 ?_
    refine lv_topd (fun x2 ex2 => ?_)
    replace hw := hw x2 ex2
    refine lv_dstore (lv' := [(4, .double x2), (0, .double v0), (2, .long v2)]) hx hb dX11_rounded_18 hl (by decide) rfl (fun ls hl => ?_)
    refine lv_dload hx hb dX11_rounded_20 (lv_at hl 0 rfl) ?_
    refine lv_ldc2d (v := 4602678819172646912) hx hb hown (hts (.constantDouble RX11 300 4602678819172646912) (by decide +kernel)) dX11_rounded_22 ?_
    refine lv_dcmp hx hb dX11_rounded_25 ?_
    refine lv_if_gt (tgt := 48) hx hb dX11_rounded_26 (by decide) (fun c3 => ?_) (fun c3 => ?_)
    · replace hw := hw.1 c3
      exact b48   v2 M H locs ls hH (lv_sub hl [2] rfl) hw
    · replace hw := hw.2 c3
      refine lv_dload hx hb dX11_rounded_29 (lv_at hl 0 rfl) ?_
      refine lv_ldc2d (v := 4602678819172646912) hx hb hown (hts (.constantDouble RX11 300 4602678819172646912) (by decide +kernel)) dX11_rounded_31 ?_
      refine lv_dcmp hx hb dX11_rounded_34 ?_
      refine lv_if_ne (tgt := 54) hx hb dX11_rounded_35 (by decide) (fun c4 => ?_) (fun c4 => ?_)
      · replace hw := hw.1 c4
        exact b54   v2 M H locs ls hH (lv_sub hl [2] rfl) hw
      · replace hw := hw.2 c4
        refine lv_lload_n hx hb dX11_rounded_38 rfl (lv_at hl 2 rfl) ?_
        refine lv_ldc2 (v := 2) hx hb hown (hts (.constantLong RX11 302 2) (by decide +kernel)) dX11_rounded_39 ?_
        obtain ⟨h5, hw⟩ := hw
        refine lv_lrem hx hb dX11_rounded_42 h5 ?_
        refine lv_lconst (v := 0) hx hb dX11_rounded_43 (by decide) ?_
        refine W.lcmp hx hb dX11_rounded_44 ?_
        refine lv_if_eq (tgt := 54) hx hb dX11_rounded_45 (by decide) (fun c6 => ?_) (fun c6 => ?_)
        · replace hw := hw.1 c6
          exact b54   v2 M H locs ls hH (lv_sub hl [2] rfl) hw
        · replace hw := hw.2 c6
          exact b48   v2 M H locs ls hH (lv_sub hl [2] rfl) hw
  clear hP hD0
  unfold fm_rounded at hw
  have hst : ∀ (M : RM) (H : Heap) (locs : List Loc) (ls : Array Slot), rH D kA h ad A s.heap M H locs → lv_has ls 6 [(0, .double a1)] → (∀ x7 : Int64, x7 = FP.d2l a1 → (((Op.cmpValue (FP.dcmp (FP.l2d x7) a1) .l) ≤ 0 → fm_rounded_b14 Q  a1 x7 M) ∧ (¬ (Op.cmpValue (FP.dcmp (FP.l2d x7) a1) .l) ≤ 0 → (∀ x9 : Int64, x9 = x7 - 1 → fm_rounded_b14 Q  a1 x9 M)))) → W p l e (headSpec wsX11_rounded rmX11_rounded).room s m args below meth c H locs 0 0 (MQ below (va_Ql Q (rB D kA h ad A) A) args s 0 0 A) (F0 m 0 ls []) := by
    intro M H locs ls hH hl hw
    refine lv_dload_n hx hb dX11_rounded_0 rfl (lv_at hl 0 rfl) ?_
    refine lv_d2l hx hb dX11_rounded_1 ?_
    refine lv_topl (fun x7 ex7 => ?_)
    replace hw := hw x7 ex7
    refine lv_lstore_n (lv' := [(2, .long x7), (0, .double a1)]) hx hb dX11_rounded_2 rfl hl (by decide) rfl (fun ls hl => ?_)
    refine lv_lload_n hx hb dX11_rounded_3 rfl (lv_at hl 0 rfl) ?_
    refine lv_l2d hx hb dX11_rounded_4 ?_
    refine lv_dload_n hx hb dX11_rounded_5 rfl (lv_at hl 1 rfl) ?_
    refine lv_dcmp hx hb dX11_rounded_6 ?_
    refine lv_if_le (tgt := 14) hx hb dX11_rounded_7 (by decide) (fun c8 => ?_) (fun c8 => ?_)
    · replace hw := hw.1 c8
      exact b14   a1 x7 M H locs ls hH (lv_sub hl [1, 0] rfl) hw
    · replace hw := hw.2 c8
      refine lv_lload_n hx hb dX11_rounded_10 rfl (lv_at hl 0 rfl) ?_
      refine lv_lconst (v := 1) hx hb dX11_rounded_11 (by decide) ?_
      refine lv_lsub hx hb dX11_rounded_12 ?_
      refine lv_topl (fun x9 ex9 => ?_)
      replace hw := hw x9 ex9
      refine lv_lstore_n (lv' := [(2, .long x9), (0, .double a1)]) hx hb dX11_rounded_13 rfl hl (by decide) rfl (fun ls hl => ?_)
      exact b14   a1 x9 M H locs ls hH (lv_sub hl [1, 0] rfl) hw
  exact hst M s.heap [] ls hH hl hw
def fm_makeWhole_b183 (Q : Int32 → RM → Prop) (v1 : Int32) (v10 : Int64) (M : RM) : Prop := fm_make v1 3 v10 FP.dconst0 M (fun (M1 : RM) => Q 1 M1)
def fm_makeWhole_b178 (Q : Int32 → RM → Prop) (v1 : Int32) (v6 : Int64) (s0 : Int64) (M : RM) : Prop := (∀ x3 : Int64, x3 = s0 + v6 → fm_makeWhole_b183 Q  v1 x3 M)
def fm_makeWhole_b140 (Q : Int32 → RM → Prop) (M : RM) : Prop := Q 0 M
def fm_makeWhole_b109 (Q : Int32 → RM → Prop) (v1 : Int32) (s0 : Int64) (M : RM) : Prop := fm_makeWhole_b183 Q  v1 s0 M
def fm_makeWhole_b69 (Q : Int32 → RM → Prop) (v1 : Int32) (v3 : Int32) (v6 : Int64) (v8 : Int64) (s0 : Int64) (M : RM) : Prop := (vp_in v3 370 ∧ ((¬ (rA M 9 v3.toNatClampNeg) = 1 → (vp_in v3 370 ∧ ((¬ (rA M 9 v3.toNatClampNeg) = 2 → (∀ x8 : Int64, x8 = (v8 - v6) + 1 → (¬ x8 = 0 ∧ (∀ x10 : Int64, x10 = (s0 - v6) - (s0 - v6) / x8 * x8 → ((0 ≤ (lg_cmp x10 0) → fm_makeWhole_b178 Q  v1 v6 x10 M) ∧ (¬ 0 ≤ (lg_cmp x10 0) → fm_makeWhole_b178 Q  v1 v6 (x10 + x8) M)))))) ∧ ((rA M 9 v3.toNatClampNeg) = 2 → (((lg_cmp s0 v6) < 0 → fm_makeWhole_b140 Q   M) ∧ (¬ (lg_cmp s0 v6) < 0 → (((lg_cmp s0 v8) ≤ 0 → fm_makeWhole_b183 Q  v1 s0 M) ∧ (¬ (lg_cmp s0 v8) ≤ 0 → fm_makeWhole_b140 Q   M)))))))) ∧ ((rA M 9 v3.toNatClampNeg) = 1 → ((0 ≤ (lg_cmp s0 v6) → (((lg_cmp s0 v8) ≤ 0 → fm_makeWhole_b109 Q  v1 s0 M) ∧ (¬ (lg_cmp s0 v8) ≤ 0 → fm_makeWhole_b109 Q  v1 v8 M))) ∧ (¬ 0 ≤ (lg_cmp s0 v6) → fm_makeWhole_b109 Q  v1 v6 M)))))
def fm_makeWhole_b26 (Q : Int32 → RM → Prop) (v1 : Int32) (v3 : Int32) (v4 : UInt64) (M : RM) : Prop := (vp_in v3 370 ∧ fm_lowest (rA M 8 v3.toNatClampNeg) M (fun (r18 : Int64) (M17 : RM) => (vp_in v3 370 ∧ fm_highest (rA M17 8 v3.toNatClampNeg) M17 (fun (r21 : Int64) (M20 : RM) => (vp_in v3 370 ∧ ((¬ (rA M20 9 v3.toNatClampNeg) = 1 → fm_makeWhole_b69 Q  v1 v3 r18 r21 (FP.d2l v4) M20) ∧ ((rA M20 9 v3.toNatClampNeg) = 1 → fm_rounded v4 M20 (fun (r25 : Int64) (M24 : RM) => fm_makeWhole_b69 Q  v1 v3 r18 r21 r25 M24))))))))
def fm_makeWhole (a1 : Int32) (a2 : Int32) (a3 : Int32) (M : RM) (Q : Int32 → RM → Prop) : Prop := fm_numberOf a2 M (fun (r27 : UInt64) (M26 : RM) => ((¬ (rI M26 25) = 0 → fm_makeWhole_b26 Q  a1 a3 r27 M26) ∧ ((rI M26 25) = 0 → (vp_in a3 370 ∧ ((¬ (rA M26 9 a3.toNatClampNeg) = 2 → fm_makeWhole_b26 Q  a1 a3 r27 M26) ∧ ((rA M26 9 a3.toNatClampNeg) = 2 → Q 0 M26))))))
abbrev rmX11_makeWhole : Room := { frames := 5, cells := 0, slots := 0, locals := 119 }
set_option maxHeartbeats 4000000 in
set_option maxRecDepth 100000 in
theorem tm_makeWhole (l : Launch) (D : va_G) (kA : Nat → ClassId) (h : Nat) (ad : Nat → Nat) (sz : Nat) (M : RM) (a1 : Int32) (a2 : Int32) (a3 : Int32) (Q : Int32 → RM → Prop) (hw : fm_makeWhole a1 a2 a3 M Q) : Met l yX11_makeWhole wsX11_makeWhole rmX11_makeWhole (va_Pc [.ref h, .int a1, .int a2, .int a3] (rPc D kA h ad M sz)) (va_Qi Q (rB D kA h ad (rF kA h ad M sz)) (rF kA h ad M sz)) 0 0 (rF kA h ad M sz) := by
  refine Met.ofW (cc := cX11_makeWhole) (maxL := 14) (ret := (some .boolean)) (by decide) rfl ?_
  intro p e s m args below meth c s₁ B hml hv
  obtain ⟨rfl, hsz, hP, hK, hD0⟩ := hv
  have hx := B.exec
  have hb := B.bytes
  have hr := B.returns
  have hts := atoms_spec (ws := wsX11_makeWhole) B.pre
  have hown : s.vm.findClass RX11 = some m.cls := findClass_of_methodNamed B.named
  have hlocks : meth.locks = false := B.notSynchronized
  subst hsz
  have hH : rH D kA h ad (rF kA h ad M s.heap.size) s.heap M s.heap [] := ⟨hP, hD0.self, va_S.rf⟩
  have hA : ∀ q : Nat, s.heap.size ≤ q → rF kA h ad M s.heap.size q := fun q z => Or.inr z
  generalize rF kA h ad M s.heap.size = A at hH hA ⊢
  have hl := lv_entry ([.ref h, .int a1, .int a2, .int a3]) (n := 14) (Nat.le_of_ble_eq_true rfl)
  rw [lg_entry_eq]
  generalize (lg_sl ([.ref h, .int a1, .int a2, .int a3]) ++ List.replicate (14 - (lg_sl ([.ref h, .int a1, .int a2, .int a3])).length) Slot.unset).toArray = ls at hl ⊢
  generalize ([.ref h, .int a1, .int a2, .int a3] : List Value).toArray = args at hts ⊢
  have hl : lv_has ls 14 [(0, .ref h), (1, .int a1), (2, .int a2), (3, .int a3)] := hl
  have hin : ∀ w ∈ wsX110, w ∈ wsX11_makeWhole := by decide +kernel
  have b183 : ∀ (v1 : Int32) (v10 : Int64) (M : RM) (H : Heap) (locs : List Loc) (ls : Array Slot), rH D kA h ad A s.heap M H locs → lv_has ls 14 [(0, .ref h), (1, .int v1), (10, .long v10)] → fm_makeWhole_b183 Q  v1 v10 M → W p l e (headSpec wsX11_makeWhole rmX11_makeWhole).room s m args below meth c H locs 0 0 (MQ below (va_Qi Q (rB D kA h ad A) A) args s 0 0 A) (F0 m 183 ls []) := by
    intro   v1 v10 M H locs ls hH hl hw
    unfold fm_makeWhole_b183 at hw
    refine lv_aload_n hx hb dX11_makeWhole_183 rfl (lv_at hl 0 rfl) ?_
    refine lv_iload_n hx hb dX11_makeWhole_184 rfl (lv_at hl 1 rfl) ?_
    refine lv_iconst (v := 3) hx hb dX11_makeWhole_185 (by decide) ?_
    refine lv_lload hx hb dX11_makeWhole_186 (lv_at hl 2 rfl) ?_
    refine lv_dconst0 hx hb dX11_makeWhole_188 ?_
    refine r_callv (va_runV (As := [.int v1, .int 3, .long v10, .double FP.dconst0]) (rest := []) ⟨hx, hb, hml, hown, hts⟩ (tm_make l D kA h ad H.size M v1 3 v10 FP.dconst0 _ hw) (cwV 4 hts gX11_makeWhole_X11_make rfl rfl rfl (by decide +kernel) ⟨Nat.le_of_ble_eq_true rfl, Nat.le_of_ble_eq_true rfl⟩) (r_preV hK hH) rfl rfl hl.1 rfl (lv_room (Nat.le_of_ble_eq_true rfl)) dX11_makeWhole_189 ⟨Nat.le_of_ble_eq_true rfl, Nat.le_of_ble_eq_true rfl⟩) hH hA (fun M1 H locs hw hH => ?_)
    refine lv_iconst (v := 1) hx hb dX11_makeWhole_192 (by decide) ?_
    exact r_retz hx hb hr rfl hlocks hK hH hw dX11_makeWhole_193
  have b178 : ∀ (v1 : Int32) (v6 : Int64) (s0 : Int64) (M : RM) (H : Heap) (locs : List Loc) (ls : Array Slot), rH D kA h ad A s.heap M H locs → lv_has ls 14 [(0, .ref h), (1, .int v1), (6, .long v6)] → fm_makeWhole_b178 Q  v1 v6 s0 M → W p l e (headSpec wsX11_makeWhole rmX11_makeWhole).room s m args below meth c H locs 0 0 (MQ below (va_Qi Q (rB D kA h ad A) A) args s 0 0 A) (F0 m 178 ls [.long s0]) := by
    intro   v1 v6 s0 M H locs ls hH hl hw
    unfold fm_makeWhole_b178 at hw
    refine lv_lload hx hb dX11_makeWhole_178 (lv_at hl 2 rfl) ?_
    refine lv_ladd hx hb dX11_makeWhole_180 ?_
    refine lv_topl (fun x3 ex3 => ?_)
    replace hw := hw x3 ex3
    refine lv_lstore (lv' := [(10, .long x3), (0, .ref h), (1, .int v1), (6, .long v6)]) hx hb dX11_makeWhole_181 hl (by decide) rfl (fun ls hl => ?_)
    exact b183   v1 x3 M H locs ls hH (lv_sub hl [1, 2, 0] rfl) hw
  have b140 : ∀ (M : RM) (H : Heap) (locs : List Loc) (ls : Array Slot), rH D kA h ad A s.heap M H locs → lv_has ls 14 [] → fm_makeWhole_b140 Q   M → W p l e (headSpec wsX11_makeWhole rmX11_makeWhole).room s m args below meth c H locs 0 0 (MQ below (va_Qi Q (rB D kA h ad A) A) args s 0 0 A) (F0 m 140 ls []) := by
    intro    M H locs ls hH hl hw
    unfold fm_makeWhole_b140 at hw
    refine lv_iconst (v := 0) hx hb dX11_makeWhole_140 (by decide) ?_
    exact r_retz hx hb hr rfl hlocks hK hH hw dX11_makeWhole_141
  have b109 : ∀ (v1 : Int32) (s0 : Int64) (M : RM) (H : Heap) (locs : List Loc) (ls : Array Slot), rH D kA h ad A s.heap M H locs → lv_has ls 14 [(0, .ref h), (1, .int v1)] → fm_makeWhole_b109 Q  v1 s0 M → W p l e (headSpec wsX11_makeWhole rmX11_makeWhole).room s m args below meth c H locs 0 0 (MQ below (va_Qi Q (rB D kA h ad A) A) args s 0 0 A) (F0 m 109 ls [.long s0]) := by
    intro   v1 s0 M H locs ls hH hl hw
    unfold fm_makeWhole_b109 at hw
    refine lv_lstore (lv' := [(10, .long s0), (0, .ref h), (1, .int v1)]) hx hb dX11_makeWhole_109 hl (by decide) rfl (fun ls hl => ?_)
    refine lv_goto (tgt := 183) hx hb dX11_makeWhole_111 (by decide) ?_
    exact b183   v1 s0 M H locs ls hH (lv_sub hl [1, 2, 0] rfl) hw
  have b69 : ∀ (v1 : Int32) (v3 : Int32) (v6 : Int64) (v8 : Int64) (s0 : Int64) (M : RM) (H : Heap) (locs : List Loc) (ls : Array Slot), rH D kA h ad A s.heap M H locs → lv_has ls 14 [(0, .ref h), (1, .int v1), (3, .int v3), (6, .long v6), (8, .long v8)] → fm_makeWhole_b69 Q  v1 v3 v6 v8 s0 M → W p l e (headSpec wsX11_makeWhole rmX11_makeWhole).room s m args below meth c H locs 0 0 (MQ below (va_Qi Q (rB D kA h ad A) A) args s 0 0 A) (F0 m 69 ls [.long s0]) := by
    intro   v1 v3 v6 v8 s0 M H locs ls hH hl hw
    unfold fm_makeWhole_b69 at hw
    refine lv_lstore (lv' := [(10, .long s0), (0, .ref h), (1, .int v1), (3, .int v3), (6, .long v6), (8, .long v8)]) hx hb dX11_makeWhole_69 hl (by decide) rfl (fun ls hl => ?_)
    refine lv_aload_n hx hb dX11_makeWhole_71 rfl (lv_at hl 1 rfl) ?_
    refine rg_9 hx hb hts hin hown hK hH (hts (.fieldLink RX11 34 "IdlCallerModel" "mode" "[I") (by decide +kernel)) dX11_makeWhole_72 ?_
    refine lv_iload_n hx hb dX11_makeWhole_75 rfl (lv_at hl 3 rfl) ?_
    obtain ⟨h4, hw⟩ := hw
    refine rl_9 hx hb hK hH h4 dX11_makeWhole_76 ?_
    refine lv_iconst (v := 1) hx hb dX11_makeWhole_77 (by decide) ?_
    refine lv_icmp_ne (tgt := 114) hx hb dX11_makeWhole_78 (by decide) (fun c5 => ?_) (fun c5 => ?_)
    · replace hw := hw.1 c5
      refine lv_aload_n hx hb dX11_makeWhole_114 rfl (lv_at hl 1 rfl) ?_
      refine rg_9 hx hb hts hin hown hK hH (hts (.fieldLink RX11 34 "IdlCallerModel" "mode" "[I") (by decide +kernel)) dX11_makeWhole_115 ?_
      refine lv_iload_n hx hb dX11_makeWhole_118 rfl (lv_at hl 3 rfl) ?_
      obtain ⟨h6, hw⟩ := hw
      refine rl_9 hx hb hK hH h6 dX11_makeWhole_119 ?_
      refine lv_iconst (v := 2) hx hb dX11_makeWhole_120 (by decide) ?_
      refine lv_icmp_ne (tgt := 142) hx hb dX11_makeWhole_121 (by decide) (fun c7 => ?_) (fun c7 => ?_)
      · replace hw := hw.1 c7
        refine lv_lload hx hb dX11_makeWhole_142 (lv_at hl 5 rfl) ?_
        refine lv_lload hx hb dX11_makeWhole_144 (lv_at hl 4 rfl) ?_
        refine lv_lsub hx hb dX11_makeWhole_146 ?_
        refine lv_lconst (v := 1) hx hb dX11_makeWhole_147 (by decide) ?_
        refine lv_ladd hx hb dX11_makeWhole_148 ?_
        refine lv_topl (fun x8 ex8 => ?_)
        replace hw := hw x8 ex8
        refine lv_lstore (lv' := [(12, .long x8), (10, .long s0), (0, .ref h), (1, .int v1), (3, .int v3), (6, .long v6), (8, .long v8)]) hx hb dX11_makeWhole_149 hl (by decide) rfl (fun ls hl => ?_)
        refine lv_lload hx hb dX11_makeWhole_151 (lv_at hl 1 rfl) ?_
        refine lv_lload hx hb dX11_makeWhole_153 (lv_at hl 5 rfl) ?_
        refine lv_lsub hx hb dX11_makeWhole_155 ?_
        refine lv_lload hx hb dX11_makeWhole_156 (lv_at hl 0 rfl) ?_
        obtain ⟨h9, hw⟩ := hw
        refine lv_lrem hx hb dX11_makeWhole_158 h9 ?_
        refine lv_topl (fun x10 ex10 => ?_)
        replace hw := hw x10 ex10
        refine lv_lstore (lv' := [(10, .long x10), (12, .long x8), (0, .ref h), (1, .int v1), (3, .int v3), (6, .long v6), (8, .long v8)]) hx hb dX11_makeWhole_159 hl (by decide) rfl (fun ls hl => ?_)
        refine lv_lload hx hb dX11_makeWhole_161 (lv_at hl 0 rfl) ?_
        refine lv_lconst (v := 0) hx hb dX11_makeWhole_163 (by decide) ?_
        refine W.lcmp hx hb dX11_makeWhole_164 ?_
        refine lv_if_ge (tgt := 176) hx hb dX11_makeWhole_165 (by decide) (fun c11 => ?_) (fun c11 => ?_)
        · replace hw := hw.1 c11
          refine lv_lload hx hb dX11_makeWhole_176 (lv_at hl 0 rfl) ?_
          exact b178   v1 v6 x10 M H locs ls hH (lv_sub hl [2, 3, 5] rfl) hw
        · replace hw := hw.2 c11
          refine lv_lload hx hb dX11_makeWhole_168 (lv_at hl 0 rfl) ?_
          refine lv_lload hx hb dX11_makeWhole_170 (lv_at hl 1 rfl) ?_
          refine lv_ladd hx hb dX11_makeWhole_172 ?_
          refine lv_goto (tgt := 178) hx hb dX11_makeWhole_173 (by decide) ?_
          exact b178   v1 v6 (x10 + x8) M H locs ls hH (lv_sub hl [2, 3, 5] rfl) hw
      · replace hw := hw.2 c7
        refine lv_lload hx hb dX11_makeWhole_124 (lv_at hl 0 rfl) ?_
        refine lv_lload hx hb dX11_makeWhole_126 (lv_at hl 4 rfl) ?_
        refine W.lcmp hx hb dX11_makeWhole_128 ?_
        refine lv_if_lt (tgt := 140) hx hb dX11_makeWhole_129 (by decide) (fun c12 => ?_) (fun c12 => ?_)
        · replace hw := hw.1 c12
          exact b140    M H locs ls hH (lv_sub hl [] rfl) hw
        · replace hw := hw.2 c12
          refine lv_lload hx hb dX11_makeWhole_132 (lv_at hl 0 rfl) ?_
          refine lv_lload hx hb dX11_makeWhole_134 (lv_at hl 5 rfl) ?_
          refine W.lcmp hx hb dX11_makeWhole_136 ?_
          refine lv_if_le (tgt := 183) hx hb dX11_makeWhole_137 (by decide) (fun c13 => ?_) (fun c13 => ?_)
          · replace hw := hw.1 c13
            exact b183   v1 s0 M H locs ls hH (lv_sub hl [1, 2, 0] rfl) hw
          · replace hw := hw.2 c13
            exact b140    M H locs ls hH (lv_sub hl [] rfl) hw
    · replace hw := hw.2 c5
      refine lv_lload hx hb dX11_makeWhole_81 (lv_at hl 0 rfl) ?_
      refine lv_lload hx hb dX11_makeWhole_83 (lv_at hl 4 rfl) ?_
      refine W.lcmp hx hb dX11_makeWhole_85 ?_
      refine lv_if_ge (tgt := 94) hx hb dX11_makeWhole_86 (by decide) (fun c14 => ?_) (fun c14 => ?_)
      · replace hw := hw.1 c14
        refine lv_lload hx hb dX11_makeWhole_94 (lv_at hl 0 rfl) ?_
        refine lv_lload hx hb dX11_makeWhole_96 (lv_at hl 5 rfl) ?_
        refine W.lcmp hx hb dX11_makeWhole_98 ?_
        refine lv_if_le (tgt := 107) hx hb dX11_makeWhole_99 (by decide) (fun c15 => ?_) (fun c15 => ?_)
        · replace hw := hw.1 c15
          refine lv_lload hx hb dX11_makeWhole_107 (lv_at hl 0 rfl) ?_
          exact b109   v1 s0 M H locs ls hH (lv_sub hl [1, 2] rfl) hw
        · replace hw := hw.2 c15
          refine lv_lload hx hb dX11_makeWhole_102 (lv_at hl 5 rfl) ?_
          refine lv_goto (tgt := 109) hx hb dX11_makeWhole_104 (by decide) ?_
          exact b109   v1 v8 M H locs ls hH (lv_sub hl [1, 2] rfl) hw
      · replace hw := hw.2 c14
        refine lv_lload hx hb dX11_makeWhole_89 (lv_at hl 4 rfl) ?_
        refine lv_goto (tgt := 109) hx hb dX11_makeWhole_91 (by decide) ?_
        exact b109   v1 v6 M H locs ls hH (lv_sub hl [1, 2] rfl) hw
  have b26 : ∀ (v1 : Int32) (v3 : Int32) (v4 : UInt64) (M : RM) (H : Heap) (locs : List Loc) (ls : Array Slot), rH D kA h ad A s.heap M H locs → lv_has ls 14 [(0, .ref h), (1, .int v1), (3, .int v3), (4, .double v4)] → fm_makeWhole_b26 Q  v1 v3 v4 M → W p l e (headSpec wsX11_makeWhole rmX11_makeWhole).room s m args below meth c H locs 0 0 (MQ below (va_Qi Q (rB D kA h ad A) A) args s 0 0 A) (F0 m 26 ls []) := by
    intro   v1 v3 v4 M H locs ls hH hl hw
    unfold fm_makeWhole_b26 at hw
    refine lv_aload_n hx hb dX11_makeWhole_26 rfl (lv_at hl 0 rfl) ?_
    refine rg_8 hx hb hts hin hown hK hH (hts (.fieldLink RX11 31 "IdlCallerModel" "sort" "[I") (by decide +kernel)) dX11_makeWhole_27 ?_
    refine lv_iload_n hx hb dX11_makeWhole_30 rfl (lv_at hl 2 rfl) ?_
    obtain ⟨h16, hw⟩ := hw
    refine rl_8 hx hb hK hH h16 dX11_makeWhole_31 ?_
    refine r_calll (va_runS (As := [.int (rA M 8 v3.toNatClampNeg)]) (rest := []) ⟨hx, hb, hml, hown, hts⟩ (tm_lowest l D kA h ad H.size M (rA M 8 v3.toNatClampNeg) _ hw) (va_cwS 1 hts gX11_makeWhole_X11_lowest rfl rfl rfl (by decide +kernel) ⟨Nat.le_of_ble_eq_true rfl, Nat.le_of_ble_eq_true rfl⟩) (r_preS hK hH) rfl rfl hl.1 rfl (lv_room (Nat.le_of_ble_eq_true rfl)) dX11_makeWhole_32 ⟨Nat.le_of_ble_eq_true rfl, Nat.le_of_ble_eq_true rfl⟩) hH hA (fun r18 M17 H locs hw hH => ?_)
    refine lv_lstore (lv' := [(6, .long r18), (0, .ref h), (1, .int v1), (3, .int v3), (4, .double v4)]) hx hb dX11_makeWhole_35 hl (by decide) rfl (fun ls hl => ?_)
    refine lv_aload_n hx hb dX11_makeWhole_37 rfl (lv_at hl 1 rfl) ?_
    refine rg_8 hx hb hts hin hown hK hH (hts (.fieldLink RX11 31 "IdlCallerModel" "sort" "[I") (by decide +kernel)) dX11_makeWhole_38 ?_
    refine lv_iload_n hx hb dX11_makeWhole_41 rfl (lv_at hl 3 rfl) ?_
    obtain ⟨h19, hw⟩ := hw
    refine rl_8 hx hb hK hH h19 dX11_makeWhole_42 ?_
    refine r_calll (va_runS (As := [.int (rA M17 8 v3.toNatClampNeg)]) (rest := []) ⟨hx, hb, hml, hown, hts⟩ (tm_highest l D kA h ad H.size M17 (rA M17 8 v3.toNatClampNeg) _ hw) (va_cwS 1 hts gX11_makeWhole_X11_highest rfl rfl rfl (by decide +kernel) ⟨Nat.le_of_ble_eq_true rfl, Nat.le_of_ble_eq_true rfl⟩) (r_preS hK hH) rfl rfl hl.1 rfl (lv_room (Nat.le_of_ble_eq_true rfl)) dX11_makeWhole_43 ⟨Nat.le_of_ble_eq_true rfl, Nat.le_of_ble_eq_true rfl⟩) hH hA (fun r21 M20 H locs hw hH => ?_)
    refine lv_lstore (lv' := [(8, .long r21), (6, .long r18), (0, .ref h), (1, .int v1), (3, .int v3), (4, .double v4)]) hx hb dX11_makeWhole_46 hl (by decide) rfl (fun ls hl => ?_)
    refine lv_aload_n hx hb dX11_makeWhole_48 rfl (lv_at hl 2 rfl) ?_
    refine rg_9 hx hb hts hin hown hK hH (hts (.fieldLink RX11 34 "IdlCallerModel" "mode" "[I") (by decide +kernel)) dX11_makeWhole_49 ?_
    refine lv_iload_n hx hb dX11_makeWhole_52 rfl (lv_at hl 4 rfl) ?_
    obtain ⟨h22, hw⟩ := hw
    refine rl_9 hx hb hK hH h22 dX11_makeWhole_53 ?_
    refine lv_iconst (v := 1) hx hb dX11_makeWhole_54 (by decide) ?_
    refine lv_icmp_ne (tgt := 66) hx hb dX11_makeWhole_55 (by decide) (fun c23 => ?_) (fun c23 => ?_)
    · replace hw := hw.1 c23
      refine lv_dload hx hb dX11_makeWhole_66 (lv_at hl 5 rfl) ?_
      refine lv_d2l hx hb dX11_makeWhole_68 ?_
      exact b69   v1 v3 r18 r21 (FP.d2l v4) M20 H locs ls hH (lv_sub hl [2, 3, 4, 1, 0] rfl) hw
    · replace hw := hw.2 c23
      refine lv_dload hx hb dX11_makeWhole_58 (lv_at hl 5 rfl) ?_
      refine r_calll (va_runS (As := [.double v4]) (rest := []) ⟨hx, hb, hml, hown, hts⟩ (tm_rounded l D kA h ad H.size M20 v4 _ hw) (va_cwS 1 hts gX11_makeWhole_X11_rounded rfl rfl rfl (by decide +kernel) ⟨Nat.le_of_ble_eq_true rfl, Nat.le_of_ble_eq_true rfl⟩) (r_preS hK hH) rfl rfl hl.1 rfl (lv_room (Nat.le_of_ble_eq_true rfl)) dX11_makeWhole_60 ⟨Nat.le_of_ble_eq_true rfl, Nat.le_of_ble_eq_true rfl⟩) hH hA (fun r25 M24 H locs hw hH => ?_)
      refine lv_goto (tgt := 69) hx hb dX11_makeWhole_63 (by decide) ?_
      exact b69   v1 v3 r18 r21 r25 M24 H locs ls hH (lv_sub hl [2, 3, 4, 1, 0] rfl) hw
  clear hP hD0
  unfold fm_makeWhole at hw
  have hst : ∀ (M : RM) (H : Heap) (locs : List Loc) (ls : Array Slot), rH D kA h ad A s.heap M H locs → lv_has ls 14 [(0, .ref h), (1, .int a1), (2, .int a2), (3, .int a3)] → fm_numberOf a2 M (fun (r27 : UInt64) (M26 : RM) => ((¬ (rI M26 25) = 0 → fm_makeWhole_b26 Q  a1 a3 r27 M26) ∧ ((rI M26 25) = 0 → (vp_in a3 370 ∧ ((¬ (rA M26 9 a3.toNatClampNeg) = 2 → fm_makeWhole_b26 Q  a1 a3 r27 M26) ∧ ((rA M26 9 a3.toNatClampNeg) = 2 → Q 0 M26)))))) → W p l e (headSpec wsX11_makeWhole rmX11_makeWhole).room s m args below meth c H locs 0 0 (MQ below (va_Qi Q (rB D kA h ad A) A) args s 0 0 A) (F0 m 0 ls []) := by
    intro M H locs ls hH hl hw
    refine lv_aload_n hx hb dX11_makeWhole_0 rfl (lv_at hl 0 rfl) ?_
    refine lv_iload_n hx hb dX11_makeWhole_1 rfl (lv_at hl 2 rfl) ?_
    refine r_calld (va_runV (As := [.int a2]) (rest := []) ⟨hx, hb, hml, hown, hts⟩ (tm_numberOf l D kA h ad H.size M a2 _ hw) (cwV 1 hts gX11_makeWhole_X11_numberOf rfl rfl rfl (by decide +kernel) ⟨Nat.le_of_ble_eq_true rfl, Nat.le_of_ble_eq_true rfl⟩) (r_preV hK hH) rfl rfl hl.1 rfl (lv_room (Nat.le_of_ble_eq_true rfl)) dX11_makeWhole_2 ⟨Nat.le_of_ble_eq_true rfl, Nat.le_of_ble_eq_true rfl⟩) hH hA (fun r27 M26 H locs hw hH => ?_)
    refine lv_dstore (lv' := [(4, .double r27), (0, .ref h), (1, .int a1), (2, .int a2), (3, .int a3)]) hx hb dX11_makeWhole_5 hl (by decide) rfl (fun ls hl => ?_)
    refine lv_aload_n hx hb dX11_makeWhole_7 rfl (lv_at hl 1 rfl) ?_
    refine rg_25 hx hb hts hin hown hK hH (hts (.fieldLink RX11 264 "IdlCallerModel" "hasNumber" "Z") (by decide +kernel)) dX11_makeWhole_8 ?_
    refine lv_if_ne (tgt := 26) hx hb dX11_makeWhole_11 (by decide) (fun c28 => ?_) (fun c28 => ?_)
    · replace hw := hw.1 c28
      exact b26   a1 a3 r27 M26 H locs ls hH (lv_sub hl [1, 2, 4, 0] rfl) hw
    · replace hw := hw.2 c28
      refine lv_aload_n hx hb dX11_makeWhole_14 rfl (lv_at hl 1 rfl) ?_
      refine rg_9 hx hb hts hin hown hK hH (hts (.fieldLink RX11 34 "IdlCallerModel" "mode" "[I") (by decide +kernel)) dX11_makeWhole_15 ?_
      refine lv_iload_n hx hb dX11_makeWhole_18 rfl (lv_at hl 4 rfl) ?_
      obtain ⟨h29, hw⟩ := hw
      refine rl_9 hx hb hK hH h29 dX11_makeWhole_19 ?_
      refine lv_iconst (v := 2) hx hb dX11_makeWhole_20 (by decide) ?_
      refine lv_icmp_ne (tgt := 26) hx hb dX11_makeWhole_21 (by decide) (fun c30 => ?_) (fun c30 => ?_)
      · replace hw := hw.1 c30
        exact b26   a1 a3 r27 M26 H locs ls hH (lv_sub hl [1, 2, 4, 0] rfl) hw
      · replace hw := hw.2 c30
        refine lv_iconst (v := 0) hx hb dX11_makeWhole_24 (by decide) ?_
        exact r_retz hx hb hr rfl hlocks hK hH hw dX11_makeWhole_25
  exact hst M s.heap [] ls hH hl hw
def fm_isWordOf_b97 (Q : Int32 → RM → Prop) (k2 : Int32 → Int32 → RM → Prop) (v1 : Int32) (v2 : Int32) (v4 : Int32) (M : RM) : Prop := ((v4 = 0 → (∀ x2 : Int32, x2 = v2 + 1 → k2 v1 x2 M)) ∧ (¬ v4 = 0 → Q 1 M))
def fm_isWordOf_b89 (Q : Int32 → RM → Prop) (k40 : Int32 → Int32 → Int32 → Int32 → Int32 → RM → Prop) (v1 : Int32) (v2 : Int32) (v3 : Int32) (v5 : Int32) (s0 : Int32) (M : RM) : Prop := (∀ x3 : Int32, x3 = v5 + 1 → k40 v1 v2 v3 s0 x3 M)
def fm_isWordOf_b81 (Q : Int32 → RM → Prop) (k40 : Int32 → Int32 → Int32 → Int32 → Int32 → RM → Prop) (v1 : Int32) (v2 : Int32) (v3 : Int32) (v5 : Int32) (s0 : Int32) (s1 : Int32) (M : RM) : Prop := ((¬ s1 = s0 → fm_isWordOf_b89 Q k40 v1 v2 v3 v5 0 M) ∧ (s1 = s0 → fm_isWordOf_b89 Q k40 v1 v2 v3 v5 1 M))
def fm_isWordOf_c40 (Q : Int32 → RM → Prop) (k2 : Int32 → Int32 → RM → Prop) (k40 : Int32 → Int32 → Int32 → Int32 → Int32 → RM → Prop) (v1 : Int32) (v2 : Int32) (v3 : Int32) (v4 : Int32) (v5 : Int32) (M : RM) : Prop := ((8 ≤ v5 → fm_isWordOf_b97 Q k2 v1 v2 v4 M) ∧ (¬ 8 ≤ v5 → ((v4 = 0 → fm_isWordOf_b97 Q k2 v1 v2 v4 M) ∧ (¬ v4 = 0 → (vp_in (v3 + v5) 14800 ∧ (((rI M 24) ≤ v5 → fm_isWordOf_b81 Q k40 v1 v2 v3 v5 0 (rA M 12 (v3 + v5).toNatClampNeg) M) ∧ (¬ (rI M 24) ≤ v5 → (vp_in v5 100 ∧ fm_isWordOf_b81 Q k40 v1 v2 v3 v5 (rA M 23 v5.toNatClampNeg) (rA M 12 (v3 + v5).toNatClampNeg) M))))))))
def fm_isWordOf_l40 (Q : Int32 → RM → Prop) (k2 : Int32 → Int32 → RM → Prop) : Nat → Int32 → Int32 → Int32 → Int32 → Int32 → RM → Prop := lit (τ := Int32 → Int32 → Int32 → Int32 → Int32 → RM → Prop) (fun _ _ _ _ _ _ => False) (fun k => fm_isWordOf_c40 Q k2 k)
def fm_isWordOf_b35 (Q : Int32 → RM → Prop) (k2 : Int32 → Int32 → RM → Prop) (v1 : Int32) (v2 : Int32) (v3 : Int32) (s0 : Int32) (M : RM) : Prop := (∃ nn : Nat, fm_isWordOf_l40 Q k2 nn v1 v2 v3 s0 0 M)
def fm_isWordOf_c2 (Q : Int32 → RM → Prop) (k2 : Int32 → Int32 → RM → Prop) (v1 : Int32) (v2 : Int32) (M : RM) : Prop := (vp_in v1 370 ∧ (((rA M 11 v1.toNatClampNeg) ≤ v2 → Q 0 M) ∧ (¬ (rA M 11 v1.toNatClampNeg) ≤ v2 → (∀ x12 : Int32, x12 = 8 * ((5 * v1) + v2) → ((8 < (rI M 24) → fm_isWordOf_b35 Q k2 v1 v2 x12 0 M) ∧ (¬ 8 < (rI M 24) → fm_isWordOf_b35 Q k2 v1 v2 x12 1 M))))))
def fm_isWordOf_l2 (Q : Int32 → RM → Prop) : Nat → Int32 → Int32 → RM → Prop := lit (τ := Int32 → Int32 → RM → Prop) (fun _ _ _ => False) (fun k => fm_isWordOf_c2 Q  k)
def fm_isWordOf (a1 : Int32) (M : RM) (Q : Int32 → RM → Prop) : Prop := (∃ nn : Nat, fm_isWordOf_l2 Q  nn a1 0 M)
abbrev rmX11_isWordOf : Room := { frames := 0, cells := 0, slots := 0, locals := 0 }
set_option maxHeartbeats 4000000 in
set_option maxRecDepth 100000 in
theorem tm_isWordOf (l : Launch) (D : va_G) (kA : Nat → ClassId) (h : Nat) (ad : Nat → Nat) (sz : Nat) (M : RM) (a1 : Int32) (Q : Int32 → RM → Prop) (hw : fm_isWordOf a1 M Q) : Met l yX11_isWordOf wsX11_isWordOf rmX11_isWordOf (va_Pc [.ref h, .int a1] (rPc D kA h ad M sz)) (va_Qi Q (rB D kA h ad (rF kA h ad M sz)) (rF kA h ad M sz)) 0 0 (rF kA h ad M sz) := by
  refine Met.ofW (cc := cX11_isWordOf) (maxL := 6) (ret := (some .boolean)) (by decide) rfl ?_
  intro p e s m args below meth c s₁ B hml hv
  obtain ⟨rfl, hsz, hP, hK, hD0⟩ := hv
  have hx := B.exec
  have hb := B.bytes
  have hr := B.returns
  have hts := atoms_spec (ws := wsX11_isWordOf) B.pre
  have hown : s.vm.findClass RX11 = some m.cls := findClass_of_methodNamed B.named
  have hlocks : meth.locks = false := B.notSynchronized
  subst hsz
  have hH : rH D kA h ad (rF kA h ad M s.heap.size) s.heap M s.heap [] := ⟨hP, hD0.self, va_S.rf⟩
  have hA : ∀ q : Nat, s.heap.size ≤ q → rF kA h ad M s.heap.size q := fun q z => Or.inr z
  generalize rF kA h ad M s.heap.size = A at hH hA ⊢
  have hl := lv_entry ([.ref h, .int a1]) (n := 6) (Nat.le_of_ble_eq_true rfl)
  rw [lg_entry_eq]
  generalize (lg_sl ([.ref h, .int a1]) ++ List.replicate (6 - (lg_sl ([.ref h, .int a1])).length) Slot.unset).toArray = ls at hl ⊢
  generalize ([.ref h, .int a1] : List Value).toArray = args at hts ⊢
  have hl : lv_has ls 6 [(0, .ref h), (1, .int a1)] := hl
  have hin : ∀ w ∈ wsX110, w ∈ wsX11_isWordOf := by decide +kernel
  have b97 : ∀ (k2 : Int32 → Int32 → RM → Prop) (hk2 : ∀ (v1 : Int32) (v2 : Int32) (M : RM) (H : Heap) (locs : List Loc) (ls : Array Slot), rH D kA h ad A s.heap M H locs → lv_has ls 6 [(0, .ref h), (1, .int v1), (2, .int v2)] → k2 v1 v2 M → W p l e (headSpec wsX11_isWordOf rmX11_isWordOf).room s m args below meth c H locs 0 0 (MQ below (va_Qi Q (rB D kA h ad A) A) args s 0 0 A) (F0 m 2 ls [])) (v1 : Int32) (v2 : Int32) (v4 : Int32) (M : RM) (H : Heap) (locs : List Loc) (ls : Array Slot), rH D kA h ad A s.heap M H locs → lv_has ls 6 [(0, .ref h), (1, .int v1), (2, .int v2), (4, .int v4)] → fm_isWordOf_b97 Q k2 v1 v2 v4 M → W p l e (headSpec wsX11_isWordOf rmX11_isWordOf).room s m args below meth c H locs 0 0 (MQ below (va_Qi Q (rB D kA h ad A) A) args s 0 0 A) (F0 m 97 ls []) := by
    intro k2 hk2 v1 v2 v4 M H locs ls hH hl hw
    unfold fm_isWordOf_b97 at hw
    refine lv_iload hx hb dX11_isWordOf_97 (lv_at hl 3 rfl) ?_
    refine lv_if_eq (tgt := 104) hx hb dX11_isWordOf_99 (by decide) (fun c1 => ?_) (fun c1 => ?_)
    · replace hw := hw.1 c1
      obtain ⟨x2, ex2⟩ : ∃ y : Int32, y = v2 + 1 := ⟨_, rfl⟩
      replace hw := hw x2 ex2
      refine lv_iinc (v := x2) (lv' := [(2, .int x2), (0, .ref h), (1, .int v1), (4, .int v4)]) hx hb dX11_isWordOf_104 hl (k := 2) rfl (by rw [ex2]; rfl) (by decide) rfl (fun ls hl => ?_)
      refine lv_goto (tgt := 2) hx hb dX11_isWordOf_107 (by decide) ?_
      exact hk2 v1 x2 M H locs ls hH (lv_sub hl [1, 2, 0] rfl) hw
    · replace hw := hw.2 c1
      refine lv_iconst (v := 1) hx hb dX11_isWordOf_102 (by decide) ?_
      exact r_retz hx hb hr rfl hlocks hK hH hw dX11_isWordOf_103
  have b89 : ∀ (k40 : Int32 → Int32 → Int32 → Int32 → Int32 → RM → Prop) (hk40 : ∀ (v1 : Int32) (v2 : Int32) (v3 : Int32) (v4 : Int32) (v5 : Int32) (M : RM) (H : Heap) (locs : List Loc) (ls : Array Slot), rH D kA h ad A s.heap M H locs → lv_has ls 6 [(0, .ref h), (1, .int v1), (2, .int v2), (3, .int v3), (4, .int v4), (5, .int v5)] → k40 v1 v2 v3 v4 v5 M → W p l e (headSpec wsX11_isWordOf rmX11_isWordOf).room s m args below meth c H locs 0 0 (MQ below (va_Qi Q (rB D kA h ad A) A) args s 0 0 A) (F0 m 40 ls [])) (v1 : Int32) (v2 : Int32) (v3 : Int32) (v5 : Int32) (s0 : Int32) (M : RM) (H : Heap) (locs : List Loc) (ls : Array Slot), rH D kA h ad A s.heap M H locs → lv_has ls 6 [(0, .ref h), (1, .int v1), (2, .int v2), (3, .int v3), (5, .int v5)] → fm_isWordOf_b89 Q k40 v1 v2 v3 v5 s0 M → W p l e (headSpec wsX11_isWordOf rmX11_isWordOf).room s m args below meth c H locs 0 0 (MQ below (va_Qi Q (rB D kA h ad A) A) args s 0 0 A) (F0 m 89 ls [.int s0]) := by
    intro k40 hk40 v1 v2 v3 v5 s0 M H locs ls hH hl hw
    unfold fm_isWordOf_b89 at hw
    refine lv_istore (lv' := [(4, .int s0), (0, .ref h), (1, .int v1), (2, .int v2), (3, .int v3), (5, .int v5)]) hx hb dX11_isWordOf_89 hl (by decide) rfl (fun ls hl => ?_)
    obtain ⟨x3, ex3⟩ : ∃ y : Int32, y = v5 + 1 := ⟨_, rfl⟩
    replace hw := hw x3 ex3
    refine lv_iinc (v := x3) (lv' := [(5, .int x3), (4, .int s0), (0, .ref h), (1, .int v1), (2, .int v2), (3, .int v3)]) hx hb dX11_isWordOf_91 hl (k := 5) rfl (by rw [ex3]; rfl) (by decide) rfl (fun ls hl => ?_)
    refine lv_goto (tgt := 40) hx hb dX11_isWordOf_94 (by decide) ?_
    exact hk40 v1 v2 v3 s0 x3 M H locs ls hH (lv_sub hl [2, 3, 4, 5, 1, 0] rfl) hw
  have b81 : ∀ (k40 : Int32 → Int32 → Int32 → Int32 → Int32 → RM → Prop) (hk40 : ∀ (v1 : Int32) (v2 : Int32) (v3 : Int32) (v4 : Int32) (v5 : Int32) (M : RM) (H : Heap) (locs : List Loc) (ls : Array Slot), rH D kA h ad A s.heap M H locs → lv_has ls 6 [(0, .ref h), (1, .int v1), (2, .int v2), (3, .int v3), (4, .int v4), (5, .int v5)] → k40 v1 v2 v3 v4 v5 M → W p l e (headSpec wsX11_isWordOf rmX11_isWordOf).room s m args below meth c H locs 0 0 (MQ below (va_Qi Q (rB D kA h ad A) A) args s 0 0 A) (F0 m 40 ls [])) (v1 : Int32) (v2 : Int32) (v3 : Int32) (v5 : Int32) (s0 : Int32) (s1 : Int32) (M : RM) (H : Heap) (locs : List Loc) (ls : Array Slot), rH D kA h ad A s.heap M H locs → lv_has ls 6 [(0, .ref h), (1, .int v1), (2, .int v2), (3, .int v3), (5, .int v5)] → fm_isWordOf_b81 Q k40 v1 v2 v3 v5 s0 s1 M → W p l e (headSpec wsX11_isWordOf rmX11_isWordOf).room s m args below meth c H locs 0 0 (MQ below (va_Qi Q (rB D kA h ad A) A) args s 0 0 A) (F0 m 81 ls [.int s0, .int s1]) := by
    intro k40 hk40 v1 v2 v3 v5 s0 s1 M H locs ls hH hl hw
    unfold fm_isWordOf_b81 at hw
    refine lv_icmp_ne (tgt := 88) hx hb dX11_isWordOf_81 (by decide) (fun c4 => ?_) (fun c4 => ?_)
    · replace hw := hw.1 c4
      refine lv_iconst (v := 0) hx hb dX11_isWordOf_88 (by decide) ?_
      exact b89 _ hk40 v1 v2 v3 v5 0 M H locs ls hH (lv_sub hl [0, 1, 2, 3, 4] rfl) hw
    · replace hw := hw.2 c4
      refine lv_iconst (v := 1) hx hb dX11_isWordOf_84 (by decide) ?_
      refine lv_goto (tgt := 89) hx hb dX11_isWordOf_85 (by decide) ?_
      exact b89 _ hk40 v1 v2 v3 v5 1 M H locs ls hH (lv_sub hl [0, 1, 2, 3, 4] rfl) hw
  have l40 : ∀ (k2 : Int32 → Int32 → RM → Prop) (hk2 : ∀ (v1 : Int32) (v2 : Int32) (M : RM) (H : Heap) (locs : List Loc) (ls : Array Slot), rH D kA h ad A s.heap M H locs → lv_has ls 6 [(0, .ref h), (1, .int v1), (2, .int v2)] → k2 v1 v2 M → W p l e (headSpec wsX11_isWordOf rmX11_isWordOf).room s m args below meth c H locs 0 0 (MQ below (va_Qi Q (rB D kA h ad A) A) args s 0 0 A) (F0 m 2 ls [])) (nn : Nat) (v1 : Int32) (v2 : Int32) (v3 : Int32) (v4 : Int32) (v5 : Int32) (M : RM) (H : Heap) (locs : List Loc) (ls : Array Slot), rH D kA h ad A s.heap M H locs → lv_has ls 6 [(0, .ref h), (1, .int v1), (2, .int v2), (3, .int v3), (4, .int v4), (5, .int v5)] → fm_isWordOf_l40 Q k2 nn v1 v2 v3 v4 v5 M → W p l e (headSpec wsX11_isWordOf rmX11_isWordOf).room s m args below meth c H locs 0 0 (MQ below (va_Qi Q (rB D kA h ad A) A) args s 0 0 A) (F0 m 40 ls []) := by
    intro k2 hk2 nn
    induction nn with
    | zero => intro v1 v2 v3 v4 v5 M H locs ls hH hl hw; exact False.elim hw
    | succ nn hk40 =>
      intro v1 v2 v3 v4 v5 M H locs ls hH hl hw
      replace hw : fm_isWordOf_c40 Q k2 (fm_isWordOf_l40 Q k2 nn) v1 v2 v3 v4 v5 M := hw
      unfold fm_isWordOf_c40 at hw
      refine lv_iload hx hb dX11_isWordOf_40 (lv_at hl 5 rfl) ?_
      refine lv_bipush (v := 8) hx hb dX11_isWordOf_42 (by decide) ?_
      refine lv_icmp_ge (tgt := 97) hx hb dX11_isWordOf_44 (by decide) (fun c5 => ?_) (fun c5 => ?_)
      · replace hw := hw.1 c5
        exact b97 _ hk2 v1 v2 v4 M H locs ls hH (lv_sub hl [0, 1, 2, 4] rfl) hw
      · replace hw := hw.2 c5
        refine lv_iload hx hb dX11_isWordOf_47 (lv_at hl 4 rfl) ?_
        refine lv_if_eq (tgt := 97) hx hb dX11_isWordOf_49 (by decide) (fun c6 => ?_) (fun c6 => ?_)
        · replace hw := hw.1 c6
          exact b97 _ hk2 v1 v2 v4 M H locs ls hH (lv_sub hl [0, 1, 2, 4] rfl) hw
        · replace hw := hw.2 c6
          refine lv_aload_n hx hb dX11_isWordOf_52 rfl (lv_at hl 0 rfl) ?_
          refine rg_12 hx hb hts hin hown hK hH (hts (.fieldLink RX11 43 "IdlCallerModel" "wordText" "[C") (by decide +kernel)) dX11_isWordOf_53 ?_
          refine lv_iload_n hx hb dX11_isWordOf_56 rfl (lv_at hl 3 rfl) ?_
          refine lv_iload hx hb dX11_isWordOf_57 (lv_at hl 5 rfl) ?_
          refine lv_iadd hx hb dX11_isWordOf_59 ?_
          obtain ⟨h7, hw⟩ := hw
          refine rl_12 hx hb hK hH h7 dX11_isWordOf_60 ?_
          refine lv_iload hx hb dX11_isWordOf_61 (lv_at hl 5 rfl) ?_
          refine lv_aload_n hx hb dX11_isWordOf_63 rfl (lv_at hl 0 rfl) ?_
          refine rg_24 hx hb hts hin hown hK hH (hts (.fieldLink RX11 227 "IdlCallerModel" "saidSize" "I") (by decide +kernel)) dX11_isWordOf_64 ?_
          refine lv_icmp_ge (tgt := 80) hx hb dX11_isWordOf_67 (by decide) (fun c8 => ?_) (fun c8 => ?_)
          · replace hw := hw.1 c8
            refine lv_iconst (v := 0) hx hb dX11_isWordOf_80 (by decide) ?_
            exact b81 _ hk40 v1 v2 v3 v5 0 (rA M 12 (v3 + v5).toNatClampNeg) M H locs ls hH (lv_sub hl [0, 1, 2, 3, 5] rfl) hw
          · replace hw := hw.2 c8
            refine lv_aload_n hx hb dX11_isWordOf_70 rfl (lv_at hl 0 rfl) ?_
            refine rg_23 hx hb hts hin hown hK hH (hts (.fieldLink RX11 75 "IdlCallerModel" "said" "[C") (by decide +kernel)) dX11_isWordOf_71 ?_
            refine lv_iload hx hb dX11_isWordOf_74 (lv_at hl 5 rfl) ?_
            obtain ⟨h9, hw⟩ := hw
            refine rl_23 hx hb hK hH h9 dX11_isWordOf_76 ?_
            refine lv_goto (tgt := 81) hx hb dX11_isWordOf_77 (by decide) ?_
            exact b81 _ hk40 v1 v2 v3 v5 (rA M 23 v5.toNatClampNeg) (rA M 12 (v3 + v5).toNatClampNeg) M H locs ls hH (lv_sub hl [0, 1, 2, 3, 5] rfl) hw
  have b35 : ∀ (k2 : Int32 → Int32 → RM → Prop) (hk2 : ∀ (v1 : Int32) (v2 : Int32) (M : RM) (H : Heap) (locs : List Loc) (ls : Array Slot), rH D kA h ad A s.heap M H locs → lv_has ls 6 [(0, .ref h), (1, .int v1), (2, .int v2)] → k2 v1 v2 M → W p l e (headSpec wsX11_isWordOf rmX11_isWordOf).room s m args below meth c H locs 0 0 (MQ below (va_Qi Q (rB D kA h ad A) A) args s 0 0 A) (F0 m 2 ls [])) (v1 : Int32) (v2 : Int32) (v3 : Int32) (s0 : Int32) (M : RM) (H : Heap) (locs : List Loc) (ls : Array Slot), rH D kA h ad A s.heap M H locs → lv_has ls 6 [(0, .ref h), (1, .int v1), (2, .int v2), (3, .int v3)] → fm_isWordOf_b35 Q k2 v1 v2 v3 s0 M → W p l e (headSpec wsX11_isWordOf rmX11_isWordOf).room s m args below meth c H locs 0 0 (MQ below (va_Qi Q (rB D kA h ad A) A) args s 0 0 A) (F0 m 35 ls [.int s0]) := by
    intro k2 hk2 v1 v2 v3 s0 M H locs ls hH hl hw
    unfold fm_isWordOf_b35 at hw
    refine lv_istore (lv' := [(4, .int s0), (0, .ref h), (1, .int v1), (2, .int v2), (3, .int v3)]) hx hb dX11_isWordOf_35 hl (by decide) rfl (fun ls hl => ?_)
    refine lv_iconst (v := 0) hx hb dX11_isWordOf_37 (by decide) ?_
    refine lv_istore (lv' := [(5, .int 0), (4, .int s0), (0, .ref h), (1, .int v1), (2, .int v2), (3, .int v3)]) hx hb dX11_isWordOf_38 hl (by decide) rfl (fun ls hl => ?_)
    obtain ⟨nn, hw⟩ := hw
    exact l40 _ hk2 nn v1 v2 v3 s0 0 M H locs ls hH (lv_sub hl [2, 3, 4, 5, 1, 0] rfl) hw
  have l2 : ∀ (nn : Nat) (v1 : Int32) (v2 : Int32) (M : RM) (H : Heap) (locs : List Loc) (ls : Array Slot), rH D kA h ad A s.heap M H locs → lv_has ls 6 [(0, .ref h), (1, .int v1), (2, .int v2)] → fm_isWordOf_l2 Q  nn v1 v2 M → W p l e (headSpec wsX11_isWordOf rmX11_isWordOf).room s m args below meth c H locs 0 0 (MQ below (va_Qi Q (rB D kA h ad A) A) args s 0 0 A) (F0 m 2 ls []) := by
    intro   nn
    induction nn with
    | zero => intro v1 v2 M H locs ls hH hl hw; exact False.elim hw
    | succ nn hk2 =>
      intro v1 v2 M H locs ls hH hl hw
      replace hw : fm_isWordOf_c2 Q  (fm_isWordOf_l2 Q  nn) v1 v2 M := hw
      unfold fm_isWordOf_c2 at hw
      refine lv_iload_n hx hb dX11_isWordOf_2 rfl (lv_at hl 2 rfl) ?_
      refine lv_aload_n hx hb dX11_isWordOf_3 rfl (lv_at hl 0 rfl) ?_
      refine rg_11 hx hb hts hin hown hK hH (hts (.fieldLink RX11 40 "IdlCallerModel" "wordMany" "[I") (by decide +kernel)) dX11_isWordOf_4 ?_
      refine lv_iload_n hx hb dX11_isWordOf_7 rfl (lv_at hl 1 rfl) ?_
      obtain ⟨h10, hw⟩ := hw
      refine rl_11 hx hb hK hH h10 dX11_isWordOf_8 ?_
      refine lv_icmp_ge (tgt := 110) hx hb dX11_isWordOf_9 (by decide) (fun c11 => ?_) (fun c11 => ?_)
      · replace hw := hw.1 c11
        refine lv_iconst (v := 0) hx hb dX11_isWordOf_110 (by decide) ?_
        exact r_retz hx hb hr rfl hlocks hK hH hw dX11_isWordOf_111
      · replace hw := hw.2 c11
        refine lv_bipush (v := 8) hx hb dX11_isWordOf_12 (by decide) ?_
        refine lv_iconst (v := 5) hx hb dX11_isWordOf_14 (by decide) ?_
        refine lv_iload_n hx hb dX11_isWordOf_15 rfl (lv_at hl 1 rfl) ?_
        refine lv_imul hx hb dX11_isWordOf_16 ?_
        refine lv_iload_n hx hb dX11_isWordOf_17 rfl (lv_at hl 2 rfl) ?_
        refine lv_iadd hx hb dX11_isWordOf_18 ?_
        refine lv_imul hx hb dX11_isWordOf_19 ?_
        refine lv_topi (fun x12 ex12 => ?_)
        replace hw := hw x12 ex12
        refine lv_istore_n (lv' := [(3, .int x12), (0, .ref h), (1, .int v1), (2, .int v2)]) hx hb dX11_isWordOf_20 rfl hl (by decide) rfl (fun ls hl => ?_)
        refine lv_aload_n hx hb dX11_isWordOf_21 rfl (lv_at hl 1 rfl) ?_
        refine rg_24 hx hb hts hin hown hK hH (hts (.fieldLink RX11 227 "IdlCallerModel" "saidSize" "I") (by decide +kernel)) dX11_isWordOf_22 ?_
        refine lv_bipush (v := 8) hx hb dX11_isWordOf_25 (by decide) ?_
        refine lv_icmp_gt (tgt := 34) hx hb dX11_isWordOf_27 (by decide) (fun c13 => ?_) (fun c13 => ?_)
        · replace hw := hw.1 c13
          refine lv_iconst (v := 0) hx hb dX11_isWordOf_34 (by decide) ?_
          exact b35 _ hk2 v1 v2 x12 0 M H locs ls hH (lv_sub hl [1, 2, 3, 0] rfl) hw
        · replace hw := hw.2 c13
          refine lv_iconst (v := 1) hx hb dX11_isWordOf_30 (by decide) ?_
          refine lv_goto (tgt := 35) hx hb dX11_isWordOf_31 (by decide) ?_
          exact b35 _ hk2 v1 v2 x12 1 M H locs ls hH (lv_sub hl [1, 2, 3, 0] rfl) hw
  clear hP hD0
  unfold fm_isWordOf at hw
  have hst : ∀ (M : RM) (H : Heap) (locs : List Loc) (ls : Array Slot), rH D kA h ad A s.heap M H locs → lv_has ls 6 [(0, .ref h), (1, .int a1)] → (∃ nn : Nat, fm_isWordOf_l2 Q  nn a1 0 M) → W p l e (headSpec wsX11_isWordOf rmX11_isWordOf).room s m args below meth c H locs 0 0 (MQ below (va_Qi Q (rB D kA h ad A) A) args s 0 0 A) (F0 m 0 ls []) := by
    intro M H locs ls hH hl hw
    refine lv_iconst (v := 0) hx hb dX11_isWordOf_0 (by decide) ?_
    refine lv_istore_n (lv' := [(2, .int 0), (0, .ref h), (1, .int a1)]) hx hb dX11_isWordOf_1 rfl hl (by decide) rfl (fun ls hl => ?_)
    obtain ⟨nn, hw⟩ := hw
    exact l2   nn a1 0 M H locs ls hH (lv_sub hl [1, 2, 0] rfl) hw
  exact hst M s.heap [] ls hH hl hw
def fm_makeAsItIs_b122 (Q : RM → Prop) (M : RM) : Prop := Q M
def fm_makeAsItIs_b119 (Q : RM → Prop) (s0 : UInt64) (s1 : Int64) (s2 : Int32) (s3 : Int32) (M : RM) : Prop := fm_make s3 s2 s1 s0 M (fun (M1 : RM) => fm_makeAsItIs_b122 Q   M1)
def fm_makeAsItIs_b104 (Q : RM → Prop) (v2 : Int32) (v3 : Int32) (s0 : Int64) (s1 : Int32) (s2 : Int32) (M : RM) : Prop := ((¬ v3 = 3 → fm_makeAsItIs_b119 Q  FP.dconst0 s0 s1 s2 M) ∧ (v3 = 3 → (vp_in v2 48 ∧ fm_makeAsItIs_b119 Q  (rD M 15 v2.toNatClampNeg) s0 s1 s2 M)))
def fm_makeAsItIs_b66 (Q : RM → Prop) (v2 : Int32) (v3 : Int32) (s0 : Int32) (s1 : Int32) (M : RM) : Prop := ((¬ v3 = 2 → ((¬ v3 = 5 → fm_makeAsItIs_b104 Q  v2 v3 0 s0 s1 M) ∧ (v3 = 5 → (vp_in v2 48 ∧ fm_makeAsItIs_b104 Q  v2 v3 ((rA M 16 v2.toNatClampNeg).toInt64) s0 s1 M)))) ∧ (v3 = 2 → (vp_in v2 48 ∧ (((rA M 14 v2.toNatClampNeg) = 0 → fm_makeAsItIs_b104 Q  v2 v3 0 s0 s1 M) ∧ (¬ (rA M 14 v2.toNatClampNeg) = 0 → fm_makeAsItIs_b104 Q  v2 v3 1 s0 s1 M)))))
def fm_makeAsItIs (a1 : Int32) (a2 : Int32) (M : RM) (Q : RM → Prop) : Prop := (vp_in a2 48 ∧ (∀ x11 : Int32, x11 = rA M 13 a2.toNatClampNeg → ((¬ x11 = 4 → ((¬ x11 = 0 → ((¬ x11 = 1 → ((¬ x11 = 2 → ((¬ x11 = 3 → fm_makeAsItIs_b66 Q  a2 x11 6 a1 M) ∧ (x11 = 3 → fm_makeAsItIs_b66 Q  a2 x11 4 a1 M))) ∧ (x11 = 2 → fm_makeAsItIs_b66 Q  a2 x11 2 a1 M))) ∧ (x11 = 1 → fm_makeAsItIs_b66 Q  a2 x11 8 a1 M))) ∧ (x11 = 0 → fm_makeAsItIs_b66 Q  a2 x11 7 a1 M))) ∧ (x11 = 4 → fm_sayAll a2 M (fun (M17 : RM) => fm_makeText a1 M17 (fun (M19 : RM) => fm_makeAsItIs_b122 Q   M19))))))
abbrev rmX11_makeAsItIs : Room := { frames := 4, cells := 0, slots := 0, locals := 98 }
set_option maxHeartbeats 4000000 in
set_option maxRecDepth 100000 in
theorem tm_makeAsItIs (l : Launch) (D : va_G) (kA : Nat → ClassId) (h : Nat) (ad : Nat → Nat) (sz : Nat) (M : RM) (a1 : Int32) (a2 : Int32) (Q : RM → Prop) (hw : fm_makeAsItIs a1 a2 M Q) : Met l yX11_makeAsItIs wsX11_makeAsItIs rmX11_makeAsItIs (va_Pc [.ref h, .int a1, .int a2] (rPc D kA h ad M sz)) (va_Qv Q (rB D kA h ad (rF kA h ad M sz)) (rF kA h ad M sz)) 0 0 (rF kA h ad M sz) := by
  refine Met.ofW (cc := cX11_makeAsItIs) (maxL := 4) (ret := none) (by decide) rfl ?_
  intro p e s m args below meth c s₁ B hml hv
  obtain ⟨rfl, hsz, hP, hK, hD0⟩ := hv
  have hx := B.exec
  have hb := B.bytes
  have hr := B.returns
  have hts := atoms_spec (ws := wsX11_makeAsItIs) B.pre
  have hown : s.vm.findClass RX11 = some m.cls := findClass_of_methodNamed B.named
  have hlocks : meth.locks = false := B.notSynchronized
  subst hsz
  have hH : rH D kA h ad (rF kA h ad M s.heap.size) s.heap M s.heap [] := ⟨hP, hD0.self, va_S.rf⟩
  have hA : ∀ q : Nat, s.heap.size ≤ q → rF kA h ad M s.heap.size q := fun q z => Or.inr z
  generalize rF kA h ad M s.heap.size = A at hH hA ⊢
  have hl := lv_entry ([.ref h, .int a1, .int a2]) (n := 4) (Nat.le_of_ble_eq_true rfl)
  rw [lg_entry_eq]
  generalize (lg_sl ([.ref h, .int a1, .int a2]) ++ List.replicate (4 - (lg_sl ([.ref h, .int a1, .int a2])).length) Slot.unset).toArray = ls at hl ⊢
  generalize ([.ref h, .int a1, .int a2] : List Value).toArray = args at hts ⊢
  have hl : lv_has ls 4 [(0, .ref h), (1, .int a1), (2, .int a2)] := hl
  have hin : ∀ w ∈ wsX110, w ∈ wsX11_makeAsItIs := by decide +kernel
  have b122 : ∀ (M : RM) (H : Heap) (locs : List Loc) (ls : Array Slot), rH D kA h ad A s.heap M H locs → lv_has ls 4 [] → fm_makeAsItIs_b122 Q   M → W p l e (headSpec wsX11_makeAsItIs rmX11_makeAsItIs).room s m args below meth c H locs 0 0 (MQ below (va_Qv Q (rB D kA h ad A) A) args s 0 0 A) (F0 m 122 ls []) := by
    intro    M H locs ls hH hl hw
    unfold fm_makeAsItIs_b122 at hw
    exact r_retv hx hb hr hlocks hK hH hw dX11_makeAsItIs_122
  have b119 : ∀ (s0 : UInt64) (s1 : Int64) (s2 : Int32) (s3 : Int32) (M : RM) (H : Heap) (locs : List Loc) (ls : Array Slot), rH D kA h ad A s.heap M H locs → lv_has ls 4 [] → fm_makeAsItIs_b119 Q  s0 s1 s2 s3 M → W p l e (headSpec wsX11_makeAsItIs rmX11_makeAsItIs).room s m args below meth c H locs 0 0 (MQ below (va_Qv Q (rB D kA h ad A) A) args s 0 0 A) (F0 m 119 ls [.double s0, .long s1, .int s2, .int s3, .ref h]) := by
    intro   s0 s1 s2 s3 M H locs ls hH hl hw
    unfold fm_makeAsItIs_b119 at hw
    refine r_callv (va_runV (As := [.int s3, .int s2, .long s1, .double s0]) (rest := []) ⟨hx, hb, hml, hown, hts⟩ (tm_make l D kA h ad H.size M s3 s2 s1 s0 _ hw) (cwV 4 hts gX11_makeAsItIs_X11_make rfl rfl rfl (by decide +kernel) ⟨Nat.le_of_ble_eq_true rfl, Nat.le_of_ble_eq_true rfl⟩) (r_preV hK hH) rfl rfl hl.1 rfl (lv_room (Nat.le_of_ble_eq_true rfl)) dX11_makeAsItIs_119 ⟨Nat.le_of_ble_eq_true rfl, Nat.le_of_ble_eq_true rfl⟩) hH hA (fun M1 H locs hw hH => ?_)
    exact b122    M1 H locs ls hH (lv_sub hl [] rfl) hw
  have b104 : ∀ (v2 : Int32) (v3 : Int32) (s0 : Int64) (s1 : Int32) (s2 : Int32) (M : RM) (H : Heap) (locs : List Loc) (ls : Array Slot), rH D kA h ad A s.heap M H locs → lv_has ls 4 [(0, .ref h), (2, .int v2), (3, .int v3)] → fm_makeAsItIs_b104 Q  v2 v3 s0 s1 s2 M → W p l e (headSpec wsX11_makeAsItIs rmX11_makeAsItIs).room s m args below meth c H locs 0 0 (MQ below (va_Qv Q (rB D kA h ad A) A) args s 0 0 A) (F0 m 104 ls [.long s0, .int s1, .int s2, .ref h]) := by
    intro   v2 v3 s0 s1 s2 M H locs ls hH hl hw
    unfold fm_makeAsItIs_b104 at hw
    refine lv_iload_n hx hb dX11_makeAsItIs_104 rfl (lv_at hl 2 rfl) ?_
    refine lv_iconst (v := 3) hx hb dX11_makeAsItIs_105 (by decide) ?_
    refine lv_icmp_ne (tgt := 118) hx hb dX11_makeAsItIs_106 (by decide) (fun c3 => ?_) (fun c3 => ?_)
    · replace hw := hw.1 c3
      refine lv_dconst0 hx hb dX11_makeAsItIs_118 ?_
      exact b119   FP.dconst0 s0 s1 s2 M H locs ls hH (lv_sub hl [] rfl) hw
    · replace hw := hw.2 c3
      refine lv_aload_n hx hb dX11_makeAsItIs_109 rfl (lv_at hl 0 rfl) ?_
      refine rg_15 hx hb hts hin hown hK hH (hts (.fieldLink RX11 52 "IdlCallerModel" "numeric" "[D") (by decide +kernel)) dX11_makeAsItIs_110 ?_
      refine lv_iload_n hx hb dX11_makeAsItIs_113 rfl (lv_at hl 1 rfl) ?_
      obtain ⟨h4, hw⟩ := hw
      refine rl_15 hx hb hK hH h4 dX11_makeAsItIs_114 ?_
      refine lv_goto (tgt := 119) hx hb dX11_makeAsItIs_115 (by decide) ?_
      exact b119   (rD M 15 v2.toNatClampNeg) s0 s1 s2 M H locs ls hH (lv_sub hl [] rfl) hw
  have b66 : ∀ (v2 : Int32) (v3 : Int32) (s0 : Int32) (s1 : Int32) (M : RM) (H : Heap) (locs : List Loc) (ls : Array Slot), rH D kA h ad A s.heap M H locs → lv_has ls 4 [(0, .ref h), (2, .int v2), (3, .int v3)] → fm_makeAsItIs_b66 Q  v2 v3 s0 s1 M → W p l e (headSpec wsX11_makeAsItIs rmX11_makeAsItIs).room s m args below meth c H locs 0 0 (MQ below (va_Qv Q (rB D kA h ad A) A) args s 0 0 A) (F0 m 66 ls [.int s0, .int s1, .ref h]) := by
    intro   v2 v3 s0 s1 M H locs ls hH hl hw
    unfold fm_makeAsItIs_b66 at hw
    refine lv_iload_n hx hb dX11_makeAsItIs_66 rfl (lv_at hl 2 rfl) ?_
    refine lv_iconst (v := 2) hx hb dX11_makeAsItIs_67 (by decide) ?_
    refine lv_icmp_ne (tgt := 88) hx hb dX11_makeAsItIs_68 (by decide) (fun c5 => ?_) (fun c5 => ?_)
    · replace hw := hw.1 c5
      refine lv_iload_n hx hb dX11_makeAsItIs_88 rfl (lv_at hl 2 rfl) ?_
      refine lv_iconst (v := 5) hx hb dX11_makeAsItIs_89 (by decide) ?_
      refine lv_icmp_ne (tgt := 103) hx hb dX11_makeAsItIs_90 (by decide) (fun c6 => ?_) (fun c6 => ?_)
      · replace hw := hw.1 c6
        refine lv_lconst (v := 0) hx hb dX11_makeAsItIs_103 (by decide) ?_
        exact b104   v2 v3 0 s0 s1 M H locs ls hH (lv_sub hl [0, 1, 2] rfl) hw
      · replace hw := hw.2 c6
        refine lv_aload_n hx hb dX11_makeAsItIs_93 rfl (lv_at hl 0 rfl) ?_
        refine rg_16 hx hb hts hin hown hK hH (hts (.fieldLink RX11 56 "IdlCallerModel" "size" "[I") (by decide +kernel)) dX11_makeAsItIs_94 ?_
        refine lv_iload_n hx hb dX11_makeAsItIs_97 rfl (lv_at hl 1 rfl) ?_
        obtain ⟨h7, hw⟩ := hw
        refine rl_16 hx hb hK hH h7 dX11_makeAsItIs_98 ?_
        refine lv_i2l hx hb dX11_makeAsItIs_99 rfl ?_
        refine lv_goto (tgt := 104) hx hb dX11_makeAsItIs_100 (by decide) ?_
        exact b104   v2 v3 ((rA M 16 v2.toNatClampNeg).toInt64) s0 s1 M H locs ls hH (lv_sub hl [0, 1, 2] rfl) hw
    · replace hw := hw.2 c5
      refine lv_aload_n hx hb dX11_makeAsItIs_71 rfl (lv_at hl 0 rfl) ?_
      refine rg_14 hx hb hts hin hown hK hH (hts (.fieldLink RX11 49 "IdlCallerModel" "truth" "[Z") (by decide +kernel)) dX11_makeAsItIs_72 ?_
      refine lv_iload_n hx hb dX11_makeAsItIs_75 rfl (lv_at hl 1 rfl) ?_
      obtain ⟨h8, hw⟩ := hw
      refine rl_14 hx hb hK hH h8 dX11_makeAsItIs_76 ?_
      refine lv_if_eq (tgt := 84) hx hb dX11_makeAsItIs_77 (by decide) (fun c9 => ?_) (fun c9 => ?_)
      · replace hw := hw.1 c9
        refine lv_lconst (v := 0) hx hb dX11_makeAsItIs_84 (by decide) ?_
        refine lv_goto (tgt := 104) hx hb dX11_makeAsItIs_85 (by decide) ?_
        exact b104   v2 v3 0 s0 s1 M H locs ls hH (lv_sub hl [0, 1, 2] rfl) hw
      · replace hw := hw.2 c9
        refine lv_lconst (v := 1) hx hb dX11_makeAsItIs_80 (by decide) ?_
        refine lv_goto (tgt := 104) hx hb dX11_makeAsItIs_81 (by decide) ?_
        exact b104   v2 v3 1 s0 s1 M H locs ls hH (lv_sub hl [0, 1, 2] rfl) hw
  clear hP hD0
  unfold fm_makeAsItIs at hw
  have hst : ∀ (M : RM) (H : Heap) (locs : List Loc) (ls : Array Slot), rH D kA h ad A s.heap M H locs → lv_has ls 4 [(0, .ref h), (1, .int a1), (2, .int a2)] → (vp_in a2 48 ∧ (∀ x11 : Int32, x11 = rA M 13 a2.toNatClampNeg → ((¬ x11 = 4 → ((¬ x11 = 0 → ((¬ x11 = 1 → ((¬ x11 = 2 → ((¬ x11 = 3 → fm_makeAsItIs_b66 Q  a2 x11 6 a1 M) ∧ (x11 = 3 → fm_makeAsItIs_b66 Q  a2 x11 4 a1 M))) ∧ (x11 = 2 → fm_makeAsItIs_b66 Q  a2 x11 2 a1 M))) ∧ (x11 = 1 → fm_makeAsItIs_b66 Q  a2 x11 8 a1 M))) ∧ (x11 = 0 → fm_makeAsItIs_b66 Q  a2 x11 7 a1 M))) ∧ (x11 = 4 → fm_sayAll a2 M (fun (M17 : RM) => fm_makeText a1 M17 (fun (M19 : RM) => fm_makeAsItIs_b122 Q   M19)))))) → W p l e (headSpec wsX11_makeAsItIs rmX11_makeAsItIs).room s m args below meth c H locs 0 0 (MQ below (va_Qv Q (rB D kA h ad A) A) args s 0 0 A) (F0 m 0 ls []) := by
    intro M H locs ls hH hl hw
    refine lv_aload_n hx hb dX11_makeAsItIs_0 rfl (lv_at hl 0 rfl) ?_
    refine rg_13 hx hb hts hin hown hK hH (hts (.fieldLink RX11 46 "IdlCallerModel" "kindOf" "[I") (by decide +kernel)) dX11_makeAsItIs_1 ?_
    refine lv_iload_n hx hb dX11_makeAsItIs_4 rfl (lv_at hl 2 rfl) ?_
    obtain ⟨h10, hw⟩ := hw
    refine rl_13 hx hb hK hH h10 dX11_makeAsItIs_5 ?_
    refine lv_topi (fun x11 ex11 => ?_)
    replace hw := hw x11 ex11
    refine lv_istore_n (lv' := [(3, .int x11), (0, .ref h), (1, .int a1), (2, .int a2)]) hx hb dX11_makeAsItIs_6 rfl hl (by decide) rfl (fun ls hl => ?_)
    refine lv_iload_n hx hb dX11_makeAsItIs_7 rfl (lv_at hl 0 rfl) ?_
    refine lv_iconst (v := 4) hx hb dX11_makeAsItIs_8 (by decide) ?_
    refine lv_icmp_ne (tgt := 25) hx hb dX11_makeAsItIs_9 (by decide) (fun c12 => ?_) (fun c12 => ?_)
    · replace hw := hw.1 c12
      refine lv_aload_n hx hb dX11_makeAsItIs_25 rfl (lv_at hl 1 rfl) ?_
      refine lv_iload_n hx hb dX11_makeAsItIs_26 rfl (lv_at hl 2 rfl) ?_
      refine lv_iload_n hx hb dX11_makeAsItIs_27 rfl (lv_at hl 0 rfl) ?_
      refine lv_if_ne (tgt := 36) hx hb dX11_makeAsItIs_28 (by decide) (fun c13 => ?_) (fun c13 => ?_)
      · replace hw := hw.1 c13
        refine lv_iload_n hx hb dX11_makeAsItIs_36 rfl (lv_at hl 0 rfl) ?_
        refine lv_iconst (v := 1) hx hb dX11_makeAsItIs_37 (by decide) ?_
        refine lv_icmp_ne (tgt := 46) hx hb dX11_makeAsItIs_38 (by decide) (fun c14 => ?_) (fun c14 => ?_)
        · replace hw := hw.1 c14
          refine lv_iload_n hx hb dX11_makeAsItIs_46 rfl (lv_at hl 0 rfl) ?_
          refine lv_iconst (v := 2) hx hb dX11_makeAsItIs_47 (by decide) ?_
          refine lv_icmp_ne (tgt := 55) hx hb dX11_makeAsItIs_48 (by decide) (fun c15 => ?_) (fun c15 => ?_)
          · replace hw := hw.1 c15
            refine lv_iload_n hx hb dX11_makeAsItIs_55 rfl (lv_at hl 0 rfl) ?_
            refine lv_iconst (v := 3) hx hb dX11_makeAsItIs_56 (by decide) ?_
            refine lv_icmp_ne (tgt := 64) hx hb dX11_makeAsItIs_57 (by decide) (fun c16 => ?_) (fun c16 => ?_)
            · replace hw := hw.1 c16
              refine lv_bipush (v := 6) hx hb dX11_makeAsItIs_64 (by decide) ?_
              exact b66   a2 x11 6 a1 M H locs ls hH (lv_sub hl [1, 3, 0] rfl) hw
            · replace hw := hw.2 c16
              refine lv_iconst (v := 4) hx hb dX11_makeAsItIs_60 (by decide) ?_
              refine lv_goto (tgt := 66) hx hb dX11_makeAsItIs_61 (by decide) ?_
              exact b66   a2 x11 4 a1 M H locs ls hH (lv_sub hl [1, 3, 0] rfl) hw
          · replace hw := hw.2 c15
            refine lv_iconst (v := 2) hx hb dX11_makeAsItIs_51 (by decide) ?_
            refine lv_goto (tgt := 66) hx hb dX11_makeAsItIs_52 (by decide) ?_
            exact b66   a2 x11 2 a1 M H locs ls hH (lv_sub hl [1, 3, 0] rfl) hw
        · replace hw := hw.2 c14
          refine lv_bipush (v := 8) hx hb dX11_makeAsItIs_41 (by decide) ?_
          refine lv_goto (tgt := 66) hx hb dX11_makeAsItIs_43 (by decide) ?_
          exact b66   a2 x11 8 a1 M H locs ls hH (lv_sub hl [1, 3, 0] rfl) hw
      · replace hw := hw.2 c13
        refine lv_bipush (v := 7) hx hb dX11_makeAsItIs_31 (by decide) ?_
        refine lv_goto (tgt := 66) hx hb dX11_makeAsItIs_33 (by decide) ?_
        exact b66   a2 x11 7 a1 M H locs ls hH (lv_sub hl [1, 3, 0] rfl) hw
    · replace hw := hw.2 c12
      refine lv_aload_n hx hb dX11_makeAsItIs_12 rfl (lv_at hl 1 rfl) ?_
      refine lv_iload_n hx hb dX11_makeAsItIs_13 rfl (lv_at hl 3 rfl) ?_
      refine r_callv (va_runV (As := [.int a2]) (rest := []) ⟨hx, hb, hml, hown, hts⟩ (tm_sayAll l D kA h ad H.size M a2 _ hw) (cwV 1 hts gX11_makeAsItIs_X11_sayAll rfl rfl rfl (by decide +kernel) ⟨Nat.le_of_ble_eq_true rfl, Nat.le_of_ble_eq_true rfl⟩) (r_preV hK hH) rfl rfl hl.1 rfl (lv_room (Nat.le_of_ble_eq_true rfl)) dX11_makeAsItIs_14 ⟨Nat.le_of_ble_eq_true rfl, Nat.le_of_ble_eq_true rfl⟩) hH hA (fun M17 H locs hw hH => ?_)
      refine lv_aload_n hx hb dX11_makeAsItIs_17 rfl (lv_at hl 1 rfl) ?_
      refine lv_iload_n hx hb dX11_makeAsItIs_18 rfl (lv_at hl 2 rfl) ?_
      refine r_callv (va_runV (As := [.int a1]) (rest := []) ⟨hx, hb, hml, hown, hts⟩ (tm_makeText l D kA h ad H.size M17 a1 _ hw) (cwV 1 hts gX11_makeAsItIs_X11_makeText rfl rfl rfl (by decide +kernel) ⟨Nat.le_of_ble_eq_true rfl, Nat.le_of_ble_eq_true rfl⟩) (r_preV hK hH) rfl rfl hl.1 rfl (lv_room (Nat.le_of_ble_eq_true rfl)) dX11_makeAsItIs_19 ⟨Nat.le_of_ble_eq_true rfl, Nat.le_of_ble_eq_true rfl⟩) hH hA (fun M19 H locs hw hH => ?_)
      refine lv_goto (tgt := 122) hx hb dX11_makeAsItIs_22 (by decide) ?_
      exact b122    M19 H locs ls hH (lv_sub hl [] rfl) hw
  exact hst M s.heap [] ls hH hl hw
def fm_convertOne_b253 (Q : Int32 → RM → Prop) (v1 : Int32) (v2 : Int32) (v3 : Int32) (M : RM) : Prop := fm_makeWhole v1 v2 v3 M (fun (r2 : Int32) (M1 : RM) => (nZ r2 ∧ Q r2 M1))
def fm_convertOne_b229 (Q : Int32 → RM → Prop) (s0 : Int32) (M : RM) : Prop := (nZ s0 ∧ Q s0 M)
def fm_convertOne_b224 (Q : Int32 → RM → Prop) (M : RM) : Prop := fm_convertOne_b229 Q  1 M
def fm_convertOne_b195 (Q : Int32 → RM → Prop) (v1 : Int32) (v2 : Int32) (v3 : Int32) (M : RM) : Prop := fm_sayAll v2 M (fun (M3 : RM) => fm_makeText v1 M3 (fun (M5 : RM) => (vp_in v3 370 ∧ (((rA M5 8 v3.toNatClampNeg) = 6 → fm_convertOne_b224 Q   M5) ∧ (¬ (rA M5 8 v3.toNatClampNeg) = 6 → fm_isWordOf v3 M5 (fun (r10 : Int32) (M9 : RM) => ((r10 = 0 → fm_convertOne_b229 Q  0 M9) ∧ (¬ r10 = 0 → fm_convertOne_b224 Q   M9))))))))
def fm_convertOne_b189 (Q : Int32 → RM → Prop) (s0 : Int64) (s1 : Int32) (s2 : Int32) (M : RM) : Prop := fm_make s2 s1 s0 FP.dconst0 M (fun (M12 : RM) => Q 1 M12)
def fm_convertOne_b174 (Q : Int32 → RM → Prop) (v1 : Int32) (s0 : Int32) (M : RM) : Prop := ((s0 = 0 → fm_convertOne_b189 Q  0 2 v1 M) ∧ (¬ s0 = 0 → fm_convertOne_b189 Q  1 2 v1 M))
def fm_convertOne_b33 (Q : Int32 → RM → Prop) (v1 : Int32) (v2 : Int32) (v3 : Int32) (v4 : Int32) (M : RM) : Prop := (vp_in v3 370 ∧ ((rA M 8 v3.toNatClampNeg = 0 → ((¬ v4 = 2 → ((¬ v4 = 3 → ((¬ v4 = 4 → ((¬ v4 = 5 → fm_convertOne_b174 Q  v1 0 M) ∧ (v4 = 5 → fm_convertOne_b174 Q  v1 1 M))) ∧ (v4 = 4 → (vp_in v2 48 ∧ (((rA M 16 v2.toNatClampNeg) ≤ 0 → fm_convertOne_b174 Q  v1 0 M) ∧ (¬ (rA M 16 v2.toNatClampNeg) ≤ 0 → fm_convertOne_b174 Q  v1 1 M)))))) ∧ (v4 = 3 → (vp_in v2 48 ∧ (((Op.cmpValue (FP.dcmp (rD M 15 v2.toNatClampNeg) FP.dconst0) .l) = 0 → fm_convertOne_b174 Q  v1 0 M) ∧ (¬ (Op.cmpValue (FP.dcmp (rD M 15 v2.toNatClampNeg) FP.dconst0) .l) = 0 → fm_convertOne_b174 Q  v1 1 M)))))) ∧ (v4 = 2 → (vp_in v2 48 ∧ fm_convertOne_b174 Q  v1 (rA M 14 v2.toNatClampNeg) M)))) ∧ (rA M 8 v3.toNatClampNeg = 1 → fm_convertOne_b253 Q  v1 v2 v3 M) ∧ (rA M 8 v3.toNatClampNeg = 2 → fm_convertOne_b253 Q  v1 v2 v3 M) ∧ (rA M 8 v3.toNatClampNeg = 3 → fm_convertOne_b253 Q  v1 v2 v3 M) ∧ (rA M 8 v3.toNatClampNeg = 4 → fm_convertOne_b253 Q  v1 v2 v3 M) ∧ (rA M 8 v3.toNatClampNeg = 5 → fm_numberOf v2 M (fun (r26 : UInt64) (M25 : RM) => fm_make v1 4 0 r26 M25 (fun (M27 : RM) => (nZ (rI M27 25) ∧ Q (rI M27 25) M27)))) ∧ (rA M 8 v3.toNatClampNeg = 6 → fm_convertOne_b195 Q  v1 v2 v3 M) ∧ (rA M 8 v3.toNatClampNeg = 7 → fm_makeAsItIs v1 v2 M (fun (M29 : RM) => Q 1 M29)) ∧ (rA M 8 v3.toNatClampNeg = 8 → fm_convertOne_b195 Q  v1 v2 v3 M) ∧ (rA M 8 v3.toNatClampNeg = 9 → Q 0 M) ∧ (¬ rA M 8 v3.toNatClampNeg = 0 ∧ ¬ rA M 8 v3.toNatClampNeg = 1 ∧ ¬ rA M 8 v3.toNatClampNeg = 2 ∧ ¬ rA M 8 v3.toNatClampNeg = 3 ∧ ¬ rA M 8 v3.toNatClampNeg = 4 ∧ ¬ rA M 8 v3.toNatClampNeg = 5 ∧ ¬ rA M 8 v3.toNatClampNeg = 6 ∧ ¬ rA M 8 v3.toNatClampNeg = 7 ∧ ¬ rA M 8 v3.toNatClampNeg = 8 ∧ ¬ rA M 8 v3.toNatClampNeg = 9 → fm_convertOne_b253 Q  v1 v2 v3 M)))
def fm_convertOne (a1 : Int32) (a2 : Int32) (a3 : Int32) (M : RM) (Q : Int32 → RM → Prop) : Prop := (vp_in a2 48 ∧ (∀ x32 : Int32, x32 = rA M 13 a2.toNatClampNeg → ((1 < x32 → fm_convertOne_b33 Q  a1 a2 a3 x32 M) ∧ (¬ 1 < x32 → (vp_in a3 370 ∧ (((rA M 10 a3.toNatClampNeg) = 0 → fm_convertOne_b33 Q  a1 a2 a3 x32 M) ∧ (¬ (rA M 10 a3.toNatClampNeg) = 0 → fm_make a1 1 0 FP.dconst0 M (fun (M36 : RM) => Q 1 M36))))))))
abbrev rmX11_convertOne : Room := { frames := 6, cells := 0, slots := 0, locals := 152 }
set_option maxHeartbeats 4000000 in
set_option maxRecDepth 100000 in
theorem tm_convertOne (l : Launch) (D : va_G) (kA : Nat → ClassId) (h : Nat) (ad : Nat → Nat) (sz : Nat) (M : RM) (a1 : Int32) (a2 : Int32) (a3 : Int32) (Q : Int32 → RM → Prop) (hw : fm_convertOne a1 a2 a3 M Q) : Met l yX11_convertOne wsX11_convertOne rmX11_convertOne (va_Pc [.ref h, .int a1, .int a2, .int a3] (rPc D kA h ad M sz)) (va_Qi Q (rB D kA h ad (rF kA h ad M sz)) (rF kA h ad M sz)) 0 0 (rF kA h ad M sz) := by
  refine Met.ofW (cc := cX11_convertOne) (maxL := 8) (ret := (some .boolean)) (by decide) rfl ?_
  intro p e s m args below meth c s₁ B hml hv
  obtain ⟨rfl, hsz, hP, hK, hD0⟩ := hv
  have hx := B.exec
  have hb := B.bytes
  have hr := B.returns
  have hts := atoms_spec (ws := wsX11_convertOne) B.pre
  have hown : s.vm.findClass RX11 = some m.cls := findClass_of_methodNamed B.named
  have hlocks : meth.locks = false := B.notSynchronized
  subst hsz
  have hH : rH D kA h ad (rF kA h ad M s.heap.size) s.heap M s.heap [] := ⟨hP, hD0.self, va_S.rf⟩
  have hA : ∀ q : Nat, s.heap.size ≤ q → rF kA h ad M s.heap.size q := fun q z => Or.inr z
  generalize rF kA h ad M s.heap.size = A at hH hA ⊢
  have hl := lv_entry ([.ref h, .int a1, .int a2, .int a3]) (n := 8) (Nat.le_of_ble_eq_true rfl)
  rw [lg_entry_eq]
  generalize (lg_sl ([.ref h, .int a1, .int a2, .int a3]) ++ List.replicate (8 - (lg_sl ([.ref h, .int a1, .int a2, .int a3])).length) Slot.unset).toArray = ls at hl ⊢
  generalize ([.ref h, .int a1, .int a2, .int a3] : List Value).toArray = args at hts ⊢
  have hl : lv_has ls 8 [(0, .ref h), (1, .int a1), (2, .int a2), (3, .int a3)] := hl
  have hin : ∀ w ∈ wsX110, w ∈ wsX11_convertOne := by decide +kernel
  have b253 : ∀ (v1 : Int32) (v2 : Int32) (v3 : Int32) (M : RM) (H : Heap) (locs : List Loc) (ls : Array Slot), rH D kA h ad A s.heap M H locs → lv_has ls 8 [(0, .ref h), (1, .int v1), (2, .int v2), (3, .int v3)] → fm_convertOne_b253 Q  v1 v2 v3 M → W p l e (headSpec wsX11_convertOne rmX11_convertOne).room s m args below meth c H locs 0 0 (MQ below (va_Qi Q (rB D kA h ad A) A) args s 0 0 A) (F0 m 253 ls []) := by
    intro   v1 v2 v3 M H locs ls hH hl hw
    unfold fm_convertOne_b253 at hw
    refine lv_aload_n hx hb dX11_convertOne_253 rfl (lv_at hl 0 rfl) ?_
    refine lv_iload_n hx hb dX11_convertOne_254 rfl (lv_at hl 1 rfl) ?_
    refine lv_iload_n hx hb dX11_convertOne_255 rfl (lv_at hl 2 rfl) ?_
    refine lv_iload_n hx hb dX11_convertOne_256 rfl (lv_at hl 3 rfl) ?_
    refine r_calli (va_runV (As := [.int v1, .int v2, .int v3]) (rest := []) ⟨hx, hb, hml, hown, hts⟩ (tm_makeWhole l D kA h ad H.size M v1 v2 v3 _ hw) (cwV 3 hts gX11_convertOne_X11_makeWhole rfl rfl rfl (by decide +kernel) ⟨Nat.le_of_ble_eq_true rfl, Nat.le_of_ble_eq_true rfl⟩) (r_preV hK hH) rfl rfl hl.1 rfl (lv_room (Nat.le_of_ble_eq_true rfl)) dX11_convertOne_257 ⟨Nat.le_of_ble_eq_true rfl, Nat.le_of_ble_eq_true rfl⟩) hH hA (fun r2 M1 H locs hw hH => ?_)
    exact r_retz hx hb hr hw.1.1 hlocks hK hH hw.2 dX11_convertOne_260
  have b229 : ∀ (s0 : Int32) (M : RM) (H : Heap) (locs : List Loc) (ls : Array Slot), rH D kA h ad A s.heap M H locs → lv_has ls 8 [] → fm_convertOne_b229 Q  s0 M → W p l e (headSpec wsX11_convertOne rmX11_convertOne).room s m args below meth c H locs 0 0 (MQ below (va_Qi Q (rB D kA h ad A) A) args s 0 0 A) (F0 m 229 ls [.int s0]) := by
    intro   s0 M H locs ls hH hl hw
    unfold fm_convertOne_b229 at hw
    exact r_retz hx hb hr hw.1.1 hlocks hK hH hw.2 dX11_convertOne_229
  have b224 : ∀ (M : RM) (H : Heap) (locs : List Loc) (ls : Array Slot), rH D kA h ad A s.heap M H locs → lv_has ls 8 [] → fm_convertOne_b224 Q   M → W p l e (headSpec wsX11_convertOne rmX11_convertOne).room s m args below meth c H locs 0 0 (MQ below (va_Qi Q (rB D kA h ad A) A) args s 0 0 A) (F0 m 224 ls []) := by
    intro    M H locs ls hH hl hw
    unfold fm_convertOne_b224 at hw
    refine lv_iconst (v := 1) hx hb dX11_convertOne_224 (by decide) ?_
    refine lv_goto (tgt := 229) hx hb dX11_convertOne_225 (by decide) ?_
    exact b229   1 M H locs ls hH (lv_sub hl [] rfl) hw
  have b195 : ∀ (v1 : Int32) (v2 : Int32) (v3 : Int32) (M : RM) (H : Heap) (locs : List Loc) (ls : Array Slot), rH D kA h ad A s.heap M H locs → lv_has ls 8 [(0, .ref h), (1, .int v1), (2, .int v2), (3, .int v3)] → fm_convertOne_b195 Q  v1 v2 v3 M → W p l e (headSpec wsX11_convertOne rmX11_convertOne).room s m args below meth c H locs 0 0 (MQ below (va_Qi Q (rB D kA h ad A) A) args s 0 0 A) (F0 m 195 ls []) := by
    intro   v1 v2 v3 M H locs ls hH hl hw
    unfold fm_convertOne_b195 at hw
    refine lv_aload_n hx hb dX11_convertOne_195 rfl (lv_at hl 0 rfl) ?_
    refine lv_iload_n hx hb dX11_convertOne_196 rfl (lv_at hl 2 rfl) ?_
    refine r_callv (va_runV (As := [.int v2]) (rest := []) ⟨hx, hb, hml, hown, hts⟩ (tm_sayAll l D kA h ad H.size M v2 _ hw) (cwV 1 hts gX11_convertOne_X11_sayAll rfl rfl rfl (by decide +kernel) ⟨Nat.le_of_ble_eq_true rfl, Nat.le_of_ble_eq_true rfl⟩) (r_preV hK hH) rfl rfl hl.1 rfl (lv_room (Nat.le_of_ble_eq_true rfl)) dX11_convertOne_197 ⟨Nat.le_of_ble_eq_true rfl, Nat.le_of_ble_eq_true rfl⟩) hH hA (fun M3 H locs hw hH => ?_)
    refine lv_aload_n hx hb dX11_convertOne_200 rfl (lv_at hl 0 rfl) ?_
    refine lv_iload_n hx hb dX11_convertOne_201 rfl (lv_at hl 1 rfl) ?_
    refine r_callv (va_runV (As := [.int v1]) (rest := []) ⟨hx, hb, hml, hown, hts⟩ (tm_makeText l D kA h ad H.size M3 v1 _ hw) (cwV 1 hts gX11_convertOne_X11_makeText rfl rfl rfl (by decide +kernel) ⟨Nat.le_of_ble_eq_true rfl, Nat.le_of_ble_eq_true rfl⟩) (r_preV hK hH) rfl rfl hl.1 rfl (lv_room (Nat.le_of_ble_eq_true rfl)) dX11_convertOne_202 ⟨Nat.le_of_ble_eq_true rfl, Nat.le_of_ble_eq_true rfl⟩) hH hA (fun M5 H locs hw hH => ?_)
    refine lv_aload_n hx hb dX11_convertOne_205 rfl (lv_at hl 0 rfl) ?_
    refine rg_8 hx hb hts hin hown hK hH (hts (.fieldLink RX11 31 "IdlCallerModel" "sort" "[I") (by decide +kernel)) dX11_convertOne_206 ?_
    refine lv_iload_n hx hb dX11_convertOne_209 rfl (lv_at hl 3 rfl) ?_
    obtain ⟨h7, hw⟩ := hw
    refine rl_8 hx hb hK hH h7 dX11_convertOne_210 ?_
    refine lv_bipush (v := 6) hx hb dX11_convertOne_211 (by decide) ?_
    refine lv_icmp_eq (tgt := 224) hx hb dX11_convertOne_213 (by decide) (fun c8 => ?_) (fun c8 => ?_)
    · replace hw := hw.1 c8
      exact b224    M5 H locs ls hH (lv_sub hl [] rfl) hw
    · replace hw := hw.2 c8
      refine lv_aload_n hx hb dX11_convertOne_216 rfl (lv_at hl 0 rfl) ?_
      refine lv_iload_n hx hb dX11_convertOne_217 rfl (lv_at hl 3 rfl) ?_
      refine r_calli (va_runV (As := [.int v3]) (rest := []) ⟨hx, hb, hml, hown, hts⟩ (tm_isWordOf l D kA h ad H.size M5 v3 _ hw) (cwV 1 hts gX11_convertOne_X11_isWordOf rfl rfl rfl (by decide +kernel) ⟨Nat.le_of_ble_eq_true rfl, Nat.le_of_ble_eq_true rfl⟩) (r_preV hK hH) rfl rfl hl.1 rfl (lv_room (Nat.le_of_ble_eq_true rfl)) dX11_convertOne_218 ⟨Nat.le_of_ble_eq_true rfl, Nat.le_of_ble_eq_true rfl⟩) hH hA (fun r10 M9 H locs hw hH => ?_)
      refine lv_if_eq (tgt := 228) hx hb dX11_convertOne_221 (by decide) (fun c11 => ?_) (fun c11 => ?_)
      · replace hw := hw.1 c11
        refine lv_iconst (v := 0) hx hb dX11_convertOne_228 (by decide) ?_
        exact b229   0 M9 H locs ls hH (lv_sub hl [] rfl) hw
      · replace hw := hw.2 c11
        exact b224    M9 H locs ls hH (lv_sub hl [] rfl) hw
  have b189 : ∀ (s0 : Int64) (s1 : Int32) (s2 : Int32) (M : RM) (H : Heap) (locs : List Loc) (ls : Array Slot), rH D kA h ad A s.heap M H locs → lv_has ls 8 [] → fm_convertOne_b189 Q  s0 s1 s2 M → W p l e (headSpec wsX11_convertOne rmX11_convertOne).room s m args below meth c H locs 0 0 (MQ below (va_Qi Q (rB D kA h ad A) A) args s 0 0 A) (F0 m 189 ls [.long s0, .int s1, .int s2, .ref h]) := by
    intro   s0 s1 s2 M H locs ls hH hl hw
    unfold fm_convertOne_b189 at hw
    refine lv_dconst0 hx hb dX11_convertOne_189 ?_
    refine r_callv (va_runV (As := [.int s2, .int s1, .long s0, .double FP.dconst0]) (rest := []) ⟨hx, hb, hml, hown, hts⟩ (tm_make l D kA h ad H.size M s2 s1 s0 FP.dconst0 _ hw) (cwV 4 hts gX11_convertOne_X11_make rfl rfl rfl (by decide +kernel) ⟨Nat.le_of_ble_eq_true rfl, Nat.le_of_ble_eq_true rfl⟩) (r_preV hK hH) rfl rfl hl.1 rfl (lv_room (Nat.le_of_ble_eq_true rfl)) dX11_convertOne_190 ⟨Nat.le_of_ble_eq_true rfl, Nat.le_of_ble_eq_true rfl⟩) hH hA (fun M12 H locs hw hH => ?_)
    refine lv_iconst (v := 1) hx hb dX11_convertOne_193 (by decide) ?_
    exact r_retz hx hb hr rfl hlocks hK hH hw dX11_convertOne_194
  have b174 : ∀ (v1 : Int32) (s0 : Int32) (M : RM) (H : Heap) (locs : List Loc) (ls : Array Slot), rH D kA h ad A s.heap M H locs → lv_has ls 8 [(0, .ref h), (1, .int v1)] → fm_convertOne_b174 Q  v1 s0 M → W p l e (headSpec wsX11_convertOne rmX11_convertOne).room s m args below meth c H locs 0 0 (MQ below (va_Qi Q (rB D kA h ad A) A) args s 0 0 A) (F0 m 174 ls [.int s0]) := by
    intro   v1 s0 M H locs ls hH hl hw
    unfold fm_convertOne_b174 at hw
    refine lv_istore (lv' := [(5, .int s0), (0, .ref h), (1, .int v1)]) hx hb dX11_convertOne_174 hl (by decide) rfl (fun ls hl => ?_)
    refine lv_aload_n hx hb dX11_convertOne_176 rfl (lv_at hl 1 rfl) ?_
    refine lv_iload_n hx hb dX11_convertOne_177 rfl (lv_at hl 2 rfl) ?_
    refine lv_iconst (v := 2) hx hb dX11_convertOne_178 (by decide) ?_
    refine lv_iload hx hb dX11_convertOne_179 (lv_at hl 0 rfl) ?_
    refine lv_if_eq (tgt := 188) hx hb dX11_convertOne_181 (by decide) (fun c14 => ?_) (fun c14 => ?_)
    · replace hw := hw.1 c14
      refine lv_lconst (v := 0) hx hb dX11_convertOne_188 (by decide) ?_
      exact b189   0 2 v1 M H locs ls hH (lv_sub hl [] rfl) hw
    · replace hw := hw.2 c14
      refine lv_lconst (v := 1) hx hb dX11_convertOne_184 (by decide) ?_
      refine lv_goto (tgt := 189) hx hb dX11_convertOne_185 (by decide) ?_
      exact b189   1 2 v1 M H locs ls hH (lv_sub hl [] rfl) hw
  have b33 : ∀ (v1 : Int32) (v2 : Int32) (v3 : Int32) (v4 : Int32) (M : RM) (H : Heap) (locs : List Loc) (ls : Array Slot), rH D kA h ad A s.heap M H locs → lv_has ls 8 [(0, .ref h), (1, .int v1), (2, .int v2), (3, .int v3), (4, .int v4)] → fm_convertOne_b33 Q  v1 v2 v3 v4 M → W p l e (headSpec wsX11_convertOne rmX11_convertOne).room s m args below meth c H locs 0 0 (MQ below (va_Qi Q (rB D kA h ad A) A) args s 0 0 A) (F0 m 33 ls []) := by
    intro   v1 v2 v3 v4 M H locs ls hH hl hw
    unfold fm_convertOne_b33 at hw
    refine lv_aload_n hx hb dX11_convertOne_33 rfl (lv_at hl 0 rfl) ?_
    refine rg_8 hx hb hts hin hown hK hH (hts (.fieldLink RX11 31 "IdlCallerModel" "sort" "[I") (by decide +kernel)) dX11_convertOne_34 ?_
    refine lv_iload_n hx hb dX11_convertOne_37 rfl (lv_at hl 3 rfl) ?_
    obtain ⟨h15, hw⟩ := hw
    refine rl_8 hx hb hK hH h15 dX11_convertOne_38 ?_
    by_cases c0 : rA M 8 v3.toNatClampNeg = 0
    · replace hw := hw.1 c0
      refine lv_tableIn (off := 61) (tgt := 100) hx hb dX11_convertOne_39 (by rw [c0]; decide) (by rw [c0]; decide) (by rw [c0]; rfl) (by decide) ?_
      refine lv_iload hx hb dX11_convertOne_100 (lv_at hl 4 rfl) ?_
      refine lv_iconst (v := 2) hx hb dX11_convertOne_102 (by decide) ?_
      refine lv_icmp_ne (tgt := 115) hx hb dX11_convertOne_103 (by decide) (fun c16 => ?_) (fun c16 => ?_)
      · replace hw := hw.1 c16
        refine lv_iload hx hb dX11_convertOne_115 (lv_at hl 4 rfl) ?_
        refine lv_iconst (v := 3) hx hb dX11_convertOne_117 (by decide) ?_
        refine lv_icmp_ne (tgt := 140) hx hb dX11_convertOne_118 (by decide) (fun c17 => ?_) (fun c17 => ?_)
        · replace hw := hw.1 c17
          refine lv_iload hx hb dX11_convertOne_140 (lv_at hl 4 rfl) ?_
          refine lv_iconst (v := 4) hx hb dX11_convertOne_142 (by decide) ?_
          refine lv_icmp_ne (tgt := 163) hx hb dX11_convertOne_143 (by decide) (fun c18 => ?_) (fun c18 => ?_)
          · replace hw := hw.1 c18
            refine lv_iload hx hb dX11_convertOne_163 (lv_at hl 4 rfl) ?_
            refine lv_iconst (v := 5) hx hb dX11_convertOne_165 (by decide) ?_
            refine lv_icmp_ne (tgt := 173) hx hb dX11_convertOne_166 (by decide) (fun c19 => ?_) (fun c19 => ?_)
            · replace hw := hw.1 c19
              refine lv_iconst (v := 0) hx hb dX11_convertOne_173 (by decide) ?_
              exact b174   v1 0 M H locs ls hH (lv_sub hl [0, 1] rfl) hw
            · replace hw := hw.2 c19
              refine lv_iconst (v := 1) hx hb dX11_convertOne_169 (by decide) ?_
              refine lv_goto (tgt := 174) hx hb dX11_convertOne_170 (by decide) ?_
              exact b174   v1 1 M H locs ls hH (lv_sub hl [0, 1] rfl) hw
          · replace hw := hw.2 c18
            refine lv_aload_n hx hb dX11_convertOne_146 rfl (lv_at hl 0 rfl) ?_
            refine rg_16 hx hb hts hin hown hK hH (hts (.fieldLink RX11 56 "IdlCallerModel" "size" "[I") (by decide +kernel)) dX11_convertOne_147 ?_
            refine lv_iload_n hx hb dX11_convertOne_150 rfl (lv_at hl 2 rfl) ?_
            obtain ⟨h20, hw⟩ := hw
            refine rl_16 hx hb hK hH h20 dX11_convertOne_151 ?_
            refine lv_if_le (tgt := 159) hx hb dX11_convertOne_152 (by decide) (fun c21 => ?_) (fun c21 => ?_)
            · replace hw := hw.1 c21
              refine lv_iconst (v := 0) hx hb dX11_convertOne_159 (by decide) ?_
              refine lv_goto (tgt := 174) hx hb dX11_convertOne_160 (by decide) ?_
              exact b174   v1 0 M H locs ls hH (lv_sub hl [0, 1] rfl) hw
            · replace hw := hw.2 c21
              refine lv_iconst (v := 1) hx hb dX11_convertOne_155 (by decide) ?_
              refine lv_goto (tgt := 174) hx hb dX11_convertOne_156 (by decide) ?_
              exact b174   v1 1 M H locs ls hH (lv_sub hl [0, 1] rfl) hw
        · replace hw := hw.2 c17
          refine lv_aload_n hx hb dX11_convertOne_121 rfl (lv_at hl 0 rfl) ?_
          refine rg_15 hx hb hts hin hown hK hH (hts (.fieldLink RX11 52 "IdlCallerModel" "numeric" "[D") (by decide +kernel)) dX11_convertOne_122 ?_
          refine lv_iload_n hx hb dX11_convertOne_125 rfl (lv_at hl 2 rfl) ?_
          obtain ⟨h22, hw⟩ := hw
          refine rl_15 hx hb hK hH h22 dX11_convertOne_126 ?_
          refine lv_dconst0 hx hb dX11_convertOne_127 ?_
          refine lv_dcmp hx hb dX11_convertOne_128 ?_
          refine lv_if_eq (tgt := 136) hx hb dX11_convertOne_129 (by decide) (fun c23 => ?_) (fun c23 => ?_)
          · replace hw := hw.1 c23
            refine lv_iconst (v := 0) hx hb dX11_convertOne_136 (by decide) ?_
            refine lv_goto (tgt := 174) hx hb dX11_convertOne_137 (by decide) ?_
            exact b174   v1 0 M H locs ls hH (lv_sub hl [0, 1] rfl) hw
          · replace hw := hw.2 c23
            refine lv_iconst (v := 1) hx hb dX11_convertOne_132 (by decide) ?_
            refine lv_goto (tgt := 174) hx hb dX11_convertOne_133 (by decide) ?_
            exact b174   v1 1 M H locs ls hH (lv_sub hl [0, 1] rfl) hw
      · replace hw := hw.2 c16
        refine lv_aload_n hx hb dX11_convertOne_106 rfl (lv_at hl 0 rfl) ?_
        refine rg_14 hx hb hts hin hown hK hH (hts (.fieldLink RX11 49 "IdlCallerModel" "truth" "[Z") (by decide +kernel)) dX11_convertOne_107 ?_
        refine lv_iload_n hx hb dX11_convertOne_110 rfl (lv_at hl 2 rfl) ?_
        obtain ⟨h24, hw⟩ := hw
        refine rl_14 hx hb hK hH h24 dX11_convertOne_111 ?_
        refine lv_goto (tgt := 174) hx hb dX11_convertOne_112 (by decide) ?_
        exact b174   v1 (rA M 14 v2.toNatClampNeg) M H locs ls hH (lv_sub hl [0, 1] rfl) hw
    by_cases c1 : rA M 8 v3.toNatClampNeg = 1
    · replace hw := hw.2.1 c1
      refine lv_tableIn (off := 214) (tgt := 253) hx hb dX11_convertOne_39 (by rw [c1]; decide) (by rw [c1]; decide) (by rw [c1]; rfl) (by decide) ?_
      exact b253   v1 v2 v3 M H locs ls hH (lv_sub hl [0, 1, 2, 3] rfl) hw
    by_cases c2 : rA M 8 v3.toNatClampNeg = 2
    · replace hw := hw.2.2.1 c2
      refine lv_tableIn (off := 214) (tgt := 253) hx hb dX11_convertOne_39 (by rw [c2]; decide) (by rw [c2]; decide) (by rw [c2]; rfl) (by decide) ?_
      exact b253   v1 v2 v3 M H locs ls hH (lv_sub hl [0, 1, 2, 3] rfl) hw
    by_cases c3 : rA M 8 v3.toNatClampNeg = 3
    · replace hw := hw.2.2.2.1 c3
      refine lv_tableIn (off := 214) (tgt := 253) hx hb dX11_convertOne_39 (by rw [c3]; decide) (by rw [c3]; decide) (by rw [c3]; rfl) (by decide) ?_
      exact b253   v1 v2 v3 M H locs ls hH (lv_sub hl [0, 1, 2, 3] rfl) hw
    by_cases c4 : rA M 8 v3.toNatClampNeg = 4
    · replace hw := hw.2.2.2.2.1 c4
      refine lv_tableIn (off := 214) (tgt := 253) hx hb dX11_convertOne_39 (by rw [c4]; decide) (by rw [c4]; decide) (by rw [c4]; rfl) (by decide) ?_
      exact b253   v1 v2 v3 M H locs ls hH (lv_sub hl [0, 1, 2, 3] rfl) hw
    by_cases c5 : rA M 8 v3.toNatClampNeg = 5
    · replace hw := hw.2.2.2.2.2.1 c5
      refine lv_tableIn (off := 191) (tgt := 230) hx hb dX11_convertOne_39 (by rw [c5]; decide) (by rw [c5]; decide) (by rw [c5]; rfl) (by decide) ?_
      refine lv_aload_n hx hb dX11_convertOne_230 rfl (lv_at hl 0 rfl) ?_
      refine lv_iload_n hx hb dX11_convertOne_231 rfl (lv_at hl 2 rfl) ?_
      refine r_calld (va_runV (As := [.int v2]) (rest := []) ⟨hx, hb, hml, hown, hts⟩ (tm_numberOf l D kA h ad H.size M v2 _ hw) (cwV 1 hts gX11_convertOne_X11_numberOf rfl rfl rfl (by decide +kernel) ⟨Nat.le_of_ble_eq_true rfl, Nat.le_of_ble_eq_true rfl⟩) (r_preV hK hH) rfl rfl hl.1 rfl (lv_room (Nat.le_of_ble_eq_true rfl)) dX11_convertOne_232 ⟨Nat.le_of_ble_eq_true rfl, Nat.le_of_ble_eq_true rfl⟩) hH hA (fun r26 M25 H locs hw hH => ?_)
      refine lv_dstore (lv' := [(6, .double r26), (0, .ref h), (1, .int v1), (2, .int v2), (3, .int v3), (4, .int v4)]) hx hb dX11_convertOne_235 hl (by decide) rfl (fun ls hl => ?_)
      refine lv_aload_n hx hb dX11_convertOne_237 rfl (lv_at hl 1 rfl) ?_
      refine lv_iload_n hx hb dX11_convertOne_238 rfl (lv_at hl 2 rfl) ?_
      refine lv_iconst (v := 4) hx hb dX11_convertOne_239 (by decide) ?_
      refine lv_lconst (v := 0) hx hb dX11_convertOne_240 (by decide) ?_
      refine lv_dload hx hb dX11_convertOne_241 (lv_at hl 0 rfl) ?_
      refine r_callv (va_runV (As := [.int v1, .int 4, .long 0, .double r26]) (rest := []) ⟨hx, hb, hml, hown, hts⟩ (tm_make l D kA h ad H.size M25 v1 4 0 r26 _ hw) (cwV 4 hts gX11_convertOne_X11_make rfl rfl rfl (by decide +kernel) ⟨Nat.le_of_ble_eq_true rfl, Nat.le_of_ble_eq_true rfl⟩) (r_preV hK hH) rfl rfl hl.1 rfl (lv_room (Nat.le_of_ble_eq_true rfl)) dX11_convertOne_243 ⟨Nat.le_of_ble_eq_true rfl, Nat.le_of_ble_eq_true rfl⟩) hH hA (fun M27 H locs hw hH => ?_)
      refine lv_aload_n hx hb dX11_convertOne_246 rfl (lv_at hl 1 rfl) ?_
      refine rg_25 hx hb hts hin hown hK hH (hts (.fieldLink RX11 264 "IdlCallerModel" "hasNumber" "Z") (by decide +kernel)) dX11_convertOne_247 ?_
      exact r_retz hx hb hr hw.1.1 hlocks hK hH hw.2 dX11_convertOne_250
    by_cases c6 : rA M 8 v3.toNatClampNeg = 6
    · replace hw := hw.2.2.2.2.2.2.1 c6
      refine lv_tableIn (off := 156) (tgt := 195) hx hb dX11_convertOne_39 (by rw [c6]; decide) (by rw [c6]; decide) (by rw [c6]; rfl) (by decide) ?_
      exact b195   v1 v2 v3 M H locs ls hH (lv_sub hl [0, 1, 2, 3] rfl) hw
    by_cases c7 : rA M 8 v3.toNatClampNeg = 7
    · replace hw := hw.2.2.2.2.2.2.2.1 c7
      refine lv_tableIn (off := 53) (tgt := 92) hx hb dX11_convertOne_39 (by rw [c7]; decide) (by rw [c7]; decide) (by rw [c7]; rfl) (by decide) ?_
      refine lv_aload_n hx hb dX11_convertOne_92 rfl (lv_at hl 0 rfl) ?_
      refine lv_iload_n hx hb dX11_convertOne_93 rfl (lv_at hl 1 rfl) ?_
      refine lv_iload_n hx hb dX11_convertOne_94 rfl (lv_at hl 2 rfl) ?_
      refine r_callv (va_runV (As := [.int v1, .int v2]) (rest := []) ⟨hx, hb, hml, hown, hts⟩ (tm_makeAsItIs l D kA h ad H.size M v1 v2 _ hw) (cwV 2 hts gX11_convertOne_X11_makeAsItIs rfl rfl rfl (by decide +kernel) ⟨Nat.le_of_ble_eq_true rfl, Nat.le_of_ble_eq_true rfl⟩) (r_preV hK hH) rfl rfl hl.1 rfl (lv_room (Nat.le_of_ble_eq_true rfl)) dX11_convertOne_95 ⟨Nat.le_of_ble_eq_true rfl, Nat.le_of_ble_eq_true rfl⟩) hH hA (fun M29 H locs hw hH => ?_)
      refine lv_iconst (v := 1) hx hb dX11_convertOne_98 (by decide) ?_
      exact r_retz hx hb hr rfl hlocks hK hH hw dX11_convertOne_99
    by_cases c8 : rA M 8 v3.toNatClampNeg = 8
    · replace hw := hw.2.2.2.2.2.2.2.2.1 c8
      refine lv_tableIn (off := 156) (tgt := 195) hx hb dX11_convertOne_39 (by rw [c8]; decide) (by rw [c8]; decide) (by rw [c8]; rfl) (by decide) ?_
      exact b195   v1 v2 v3 M H locs ls hH (lv_sub hl [0, 1, 2, 3] rfl) hw
    by_cases c9 : rA M 8 v3.toNatClampNeg = 9
    · replace hw := hw.2.2.2.2.2.2.2.2.2.1 c9
      refine lv_tableIn (off := 212) (tgt := 251) hx hb dX11_convertOne_39 (by rw [c9]; decide) (by rw [c9]; decide) (by rw [c9]; rfl) (by decide) ?_
      refine lv_iconst (v := 0) hx hb dX11_convertOne_251 (by decide) ?_
      exact r_retz hx hb hr rfl hlocks hK hH hw dX11_convertOne_252
    replace hw := hw.2.2.2.2.2.2.2.2.2.2 ⟨c0, c1, c2, c3, c4, c5, c6, c7, c8, c9⟩
    have d0 : (rA M 8 v3.toNatClampNeg).toInt ≠ 0 := fun q => c0 (Int32.toInt_inj.mp (q.trans (by decide)))
    have d1 : (rA M 8 v3.toNatClampNeg).toInt ≠ 1 := fun q => c1 (Int32.toInt_inj.mp (q.trans (by decide)))
    have d2 : (rA M 8 v3.toNatClampNeg).toInt ≠ 2 := fun q => c2 (Int32.toInt_inj.mp (q.trans (by decide)))
    have d3 : (rA M 8 v3.toNatClampNeg).toInt ≠ 3 := fun q => c3 (Int32.toInt_inj.mp (q.trans (by decide)))
    have d4 : (rA M 8 v3.toNatClampNeg).toInt ≠ 4 := fun q => c4 (Int32.toInt_inj.mp (q.trans (by decide)))
    have d5 : (rA M 8 v3.toNatClampNeg).toInt ≠ 5 := fun q => c5 (Int32.toInt_inj.mp (q.trans (by decide)))
    have d6 : (rA M 8 v3.toNatClampNeg).toInt ≠ 6 := fun q => c6 (Int32.toInt_inj.mp (q.trans (by decide)))
    have d7 : (rA M 8 v3.toNatClampNeg).toInt ≠ 7 := fun q => c7 (Int32.toInt_inj.mp (q.trans (by decide)))
    have d8 : (rA M 8 v3.toNatClampNeg).toInt ≠ 8 := fun q => c8 (Int32.toInt_inj.mp (q.trans (by decide)))
    have d9 : (rA M 8 v3.toNatClampNeg).toInt ≠ 9 := fun q => c9 (Int32.toInt_inj.mp (q.trans (by decide)))
    refine lv_tableOut (tgt := 253) hx hb dX11_convertOne_39 (by omega) (by decide) ?_
    exact b253   v1 v2 v3 M H locs ls hH (lv_sub hl [0, 1, 2, 3] rfl) hw
  clear hP hD0
  unfold fm_convertOne at hw
  have hst : ∀ (M : RM) (H : Heap) (locs : List Loc) (ls : Array Slot), rH D kA h ad A s.heap M H locs → lv_has ls 8 [(0, .ref h), (1, .int a1), (2, .int a2), (3, .int a3)] → (vp_in a2 48 ∧ (∀ x32 : Int32, x32 = rA M 13 a2.toNatClampNeg → ((1 < x32 → fm_convertOne_b33 Q  a1 a2 a3 x32 M) ∧ (¬ 1 < x32 → (vp_in a3 370 ∧ (((rA M 10 a3.toNatClampNeg) = 0 → fm_convertOne_b33 Q  a1 a2 a3 x32 M) ∧ (¬ (rA M 10 a3.toNatClampNeg) = 0 → fm_make a1 1 0 FP.dconst0 M (fun (M36 : RM) => Q 1 M36)))))))) → W p l e (headSpec wsX11_convertOne rmX11_convertOne).room s m args below meth c H locs 0 0 (MQ below (va_Qi Q (rB D kA h ad A) A) args s 0 0 A) (F0 m 0 ls []) := by
    intro M H locs ls hH hl hw
    refine lv_aload_n hx hb dX11_convertOne_0 rfl (lv_at hl 0 rfl) ?_
    refine rg_13 hx hb hts hin hown hK hH (hts (.fieldLink RX11 46 "IdlCallerModel" "kindOf" "[I") (by decide +kernel)) dX11_convertOne_1 ?_
    refine lv_iload_n hx hb dX11_convertOne_4 rfl (lv_at hl 2 rfl) ?_
    obtain ⟨h31, hw⟩ := hw
    refine rl_13 hx hb hK hH h31 dX11_convertOne_5 ?_
    refine lv_topi (fun x32 ex32 => ?_)
    replace hw := hw x32 ex32
    refine lv_istore (lv' := [(4, .int x32), (0, .ref h), (1, .int a1), (2, .int a2), (3, .int a3)]) hx hb dX11_convertOne_6 hl (by decide) rfl (fun ls hl => ?_)
    refine lv_iload hx hb dX11_convertOne_8 (lv_at hl 0 rfl) ?_
    refine lv_iconst (v := 1) hx hb dX11_convertOne_10 (by decide) ?_
    refine lv_icmp_gt (tgt := 33) hx hb dX11_convertOne_11 (by decide) (fun c33 => ?_) (fun c33 => ?_)
    · replace hw := hw.1 c33
      exact b33   a1 a2 a3 x32 M H locs ls hH (lv_sub hl [1, 2, 3, 4, 0] rfl) hw
    · replace hw := hw.2 c33
      refine lv_aload_n hx hb dX11_convertOne_14 rfl (lv_at hl 1 rfl) ?_
      refine rg_10 hx hb hts hin hown hK hH (hts (.fieldLink RX11 37 "IdlCallerModel" "isNullable" "[Z") (by decide +kernel)) dX11_convertOne_15 ?_
      refine lv_iload_n hx hb dX11_convertOne_18 rfl (lv_at hl 4 rfl) ?_
      obtain ⟨h34, hw⟩ := hw
      refine rl_10 hx hb hK hH h34 dX11_convertOne_19 ?_
      refine lv_if_eq (tgt := 33) hx hb dX11_convertOne_20 (by decide) (fun c35 => ?_) (fun c35 => ?_)
      · replace hw := hw.1 c35
        exact b33   a1 a2 a3 x32 M H locs ls hH (lv_sub hl [1, 2, 3, 4, 0] rfl) hw
      · replace hw := hw.2 c35
        refine lv_aload_n hx hb dX11_convertOne_23 rfl (lv_at hl 1 rfl) ?_
        refine lv_iload_n hx hb dX11_convertOne_24 rfl (lv_at hl 2 rfl) ?_
        refine lv_iconst (v := 1) hx hb dX11_convertOne_25 (by decide) ?_
        refine lv_lconst (v := 0) hx hb dX11_convertOne_26 (by decide) ?_
        refine lv_dconst0 hx hb dX11_convertOne_27 ?_
        refine r_callv (va_runV (As := [.int a1, .int 1, .long 0, .double FP.dconst0]) (rest := []) ⟨hx, hb, hml, hown, hts⟩ (tm_make l D kA h ad H.size M a1 1 0 FP.dconst0 _ hw) (cwV 4 hts gX11_convertOne_X11_make rfl rfl rfl (by decide +kernel) ⟨Nat.le_of_ble_eq_true rfl, Nat.le_of_ble_eq_true rfl⟩) (r_preV hK hH) rfl rfl hl.1 rfl (lv_room (Nat.le_of_ble_eq_true rfl)) dX11_convertOne_28 ⟨Nat.le_of_ble_eq_true rfl, Nat.le_of_ble_eq_true rfl⟩) hH hA (fun M36 H locs hw hH => ?_)
        refine lv_iconst (v := 1) hx hb dX11_convertOne_31 (by decide) ?_
        exact r_retz hx hb hr rfl hlocks hK hH hw dX11_convertOne_32
  exact hst M s.heap [] ls hH hl hw
