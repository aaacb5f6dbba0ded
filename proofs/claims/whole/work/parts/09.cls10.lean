def fc_X10_refuseAt (T : LY) (h : Nat)  (a1 : Int32) (M : CM) (Q : Int32 → CM → Prop) : Prop := (tg T h = 11 ∧ (∀ M2 : CM, M2 = sI M 108 h a1 → Q (-5) M2))
abbrev rmX10_refuseAt : Room := { frames := 0, cells := 0, slots := 0, locals := 0 }
set_option maxHeartbeats 4000000 in
set_option maxRecDepth 100000 in
theorem tc_X10_refuseAt (l : Launch) (D : va_G) (kA : Nat → ClassId) (nm : Nat → Nat) (na : Nat) (sa sv : Nat → Nat) (sz : Nat) (T : LY) (h : Nat) (a1 : Int32) (M : CM) (Q : Int32 → CM → Prop) (hw : fc_X10_refuseAt T h a1 M Q) : Met l yX10_refuseAt wsX10_refuseAt rmX10_refuseAt (va_Pc [.ref h, .int a1] (cPc nm na sa sv D kA T M sz)) (va_Qi Q (cB D kA (cF T sz) T) (cF T sz)) 0 0 (cF T sz) := by
  refine Met.ofW (cc := cX10_refuseAt) (maxL := 2) (ret := (some .int)) (by decide) rfl ?_
  intro p e s m args below meth c s₁ B hml hv
  obtain ⟨rfl, hsz, hP, hK, hSt⟩ := hv
  have hx := B.exec
  have hb := B.bytes
  have hr := B.returns
  have hts := atoms_spec (ws := wsX10_refuseAt) B.pre
  have hown : s.vm.findClass RX10 = some m.cls := findClass_of_methodNamed B.named
  have hlocks : meth.locks = false := B.notSynchronized
  subst hsz
  have hH : cH D kA (cF T s.heap.size) s.heap T M s.heap [] := ⟨hP.self, va_S.rf⟩
  have hA : ∀ q : Nat, s.heap.size ≤ q → cF T s.heap.size q := fun q z => Or.inr z
  generalize cF T s.heap.size = A at hH hA hSt ⊢
  have hl := lv_entry ([.ref h, .int a1]) (n := 2) (by first | exact Nat.le_of_ble_eq_true rfl | simp [lg_sl, va_rf_cat, cat_ref, cat_int, cat_long, cat_double])
  rw [lg_entry_eq]
  generalize (lg_sl ([.ref h, .int a1]) ++ List.replicate (2 - (lg_sl ([.ref h, .int a1])).length) Slot.unset).toArray = ls at hl ⊢
  generalize ([.ref h, .int a1] : List Value).toArray = args at hts ⊢
  have hl : lv_has ls 2 [(0, .ref h), (1, .int a1)] := hl
  have hin10 : ∀ w ∈ wsX100, w ∈ wsX10_refuseAt := by decide +kernel
  clear hP
  unfold fc_X10_refuseAt at hw
  have hst : ∀ (M : CM) (H : Heap) (locs : List Loc) (ls : Array Slot), cH D kA A s.heap T M H locs → lv_has ls 2 [(0, .ref h), (1, .int a1)] → (tg T h = 11 ∧ (∀ M2 : CM, M2 = sI M 108 h a1 → Q (-5) M2)) → W p l e (headSpec wsX10_refuseAt rmX10_refuseAt).room s m args below meth c H locs 0 0 (MQ below (va_Qi Q (cB D kA A T) A) args s 0 0 A) (F0 m 0 ls []) := by
    intro M H locs ls hH hl hw
    refine lv_aload_n hx hb dX10_refuseAt_0 rfl (lv_at hl 0 rfl) ?_
    refine lv_iload_n hx hb dX10_refuseAt_1 rfl (lv_at hl 1 rfl) ?_
    obtain ⟨h1, hw⟩ := hw
    refine cp_108 (x := a1) hx hb hts hin10 hown hK hH h1 (hts (.fieldLink RX10 56 "IdlCaller" "lastPlace" "I") (by decide +kernel)) dX10_refuseAt_2 (fun M2 H locs eM2 hH => ?_)
    replace hw := hw M2 eM2
    refine lv_bipush (v := (-5)) hx hb dX10_refuseAt_5 (by decide) ?_
    exact c_reti hx hb hr hlocks hK hH hw dX10_refuseAt_7
  exact hst M s.heap [] ls hH hl hw
def fc_X10_convertSlots_b66 (nm : Nat → Nat) (T : LY) (h : Nat) (Q : Int32 → CM → Prop) (v4 : Int32) (M : CM) : Prop := Q v4 M
def fc_X10_convertSlots_c3 (nm : Nat → Nat) (T : LY) (h : Nat) (Q : Int32 → CM → Prop) (k3 : Option Nat → Int32 → Int32 → CM → Prop) (v1 : Option Nat) (v3 : Int32) (v4 : Int32) (M : CM) : Prop := ((v3 ≤ v4 → Q (-1) M) ∧ (¬ v3 ≤ v4 → (∃ p2 : Nat, v1 = some p2 ∧ (tg T p2 = 3 ∧ fc_X2_argumentAt T p2 v4 M (fun (r5 : Option Nat) (M4 : CM) => (tg T h = 11 ∧ fc_X10_thingAt T (cR M4 103 h) v4 M4 (fun (r9 : Option Nat) (M8 : CM) => fc_X10_thingAt T (cR M8 106 h) v4 M8 (fun (r12 : Option Nat) (M11 : CM) => ((r5 = none → fc_X10_convertSlots_b66 nm T h Q  v4 M11) ∧ (¬ r5 = none → ((r9 = none → fc_X10_convertSlots_b66 nm T h Q  v4 M11) ∧ (¬ r9 = none → ((r12 = none → fc_X10_convertSlots_b66 nm T h Q  v4 M11) ∧ (¬ r12 = none → fc_X1_convert nm T r5 r9 r12 M11 (fun (r18 : Int32) (M17 : CM) => ((¬ r18 = 0 → (∀ x21 : Int32, x21 = v4 + 1 → k3 v1 v3 x21 M17)) ∧ (r18 = 0 → fc_X10_convertSlots_b66 nm T h Q  v4 M17)))))))))))))))))
def fc_X10_convertSlots_l3 (nm : Nat → Nat) (T : LY) (h : Nat) (Q : Int32 → CM → Prop) : Nat → Option Nat → Int32 → Int32 → CM → Prop := lit (τ := Option Nat → Int32 → Int32 → CM → Prop) (fun _ _ _ _ => False) (fun k => fc_X10_convertSlots_c3 nm T h Q  k)
def fc_X10_convertSlots (nm : Nat → Nat) (T : LY) (h : Nat)  (a1 : Option Nat) (a2 : Int32) (a3 : Int32) (M : CM) (Q : Int32 → CM → Prop) : Prop := (∃ nn : Nat, fc_X10_convertSlots_l3 nm T h Q  nn a1 a3 a2 M)
abbrev rmX10_convertSlots : Room := { frames := 5, cells := 0, slots := 0, locals := 123 }
set_option maxHeartbeats 4000000 in
set_option maxRecDepth 100000 in
theorem tc_X10_convertSlots (l : Launch) (D : va_G) (kA : Nat → ClassId) (nm : Nat → Nat) (na : Nat) (sa sv : Nat → Nat) (sz : Nat) (T : LY) (h : Nat) (a1 : Option Nat) (a2 : Int32) (a3 : Int32) (M : CM) (Q : Int32 → CM → Prop) (hw : fc_X10_convertSlots nm T h a1 a2 a3 M Q) : Met l yX10_convertSlots wsX10_convertSlots rmX10_convertSlots (va_Pc [.ref h, va_rf a1, .int a2, .int a3] (cPc nm na sa sv D kA T M sz)) (va_Qi Q (cB D kA (cF T sz) T) (cF T sz)) 0 0 (cF T sz) := by
  refine Met.ofW (cc := cX10_convertSlots) (maxL := 8) (ret := (some .int)) (by decide) rfl ?_
  intro p e s m args below meth c s₁ B hml hv
  obtain ⟨rfl, hsz, hP, hK, hSt⟩ := hv
  have hx := B.exec
  have hb := B.bytes
  have hr := B.returns
  have hts := atoms_spec (ws := wsX10_convertSlots) B.pre
  have hown : s.vm.findClass RX10 = some m.cls := findClass_of_methodNamed B.named
  have hlocks : meth.locks = false := B.notSynchronized
  subst hsz
  have hH : cH D kA (cF T s.heap.size) s.heap T M s.heap [] := ⟨hP.self, va_S.rf⟩
  have hA : ∀ q : Nat, s.heap.size ≤ q → cF T s.heap.size q := fun q z => Or.inr z
  generalize cF T s.heap.size = A at hH hA hSt ⊢
  have hl := lv_entry ([.ref h, va_rf a1, .int a2, .int a3]) (n := 8) (by first | exact Nat.le_of_ble_eq_true rfl | simp [lg_sl, va_rf_cat, cat_ref, cat_int, cat_long, cat_double])
  rw [lg_entry_eq]
  generalize (lg_sl ([.ref h, va_rf a1, .int a2, .int a3]) ++ List.replicate (8 - (lg_sl ([.ref h, va_rf a1, .int a2, .int a3])).length) Slot.unset).toArray = ls at hl ⊢
  generalize ([.ref h, va_rf a1, .int a2, .int a3] : List Value).toArray = args at hts ⊢
  have hl : lv_has ls 8 [(0, .ref h), (1, va_rf a1), (2, .int a2), (3, .int a3)] := by simpa [lv_args, va_rf_cat, cat_ref, cat_int, cat_long, cat_double] using hl
  have hin10 : ∀ w ∈ wsX100, w ∈ wsX10_convertSlots := by decide +kernel
  have b66 : ∀ (v4 : Int32) (M : CM) (H : Heap) (locs : List Loc) (ls : Array Slot), cH D kA A s.heap T M H locs → lv_has ls 8 [(4, .int v4)] → fc_X10_convertSlots_b66 nm T h Q  v4 M → W p l e (headSpec wsX10_convertSlots rmX10_convertSlots).room s m args below meth c H locs 0 0 (MQ below (va_Qi Q (cB D kA A T) A) args s 0 0 A) (F0 m 66 ls []) := by
    intro   v4 M H locs ls hH hl hw
    unfold fc_X10_convertSlots_b66 at hw
    refine lv_iload hx hb dX10_convertSlots_66 (lv_at hl 0 rfl) ?_
    exact c_reti hx hb hr hlocks hK hH hw dX10_convertSlots_68
  have l3 : ∀ (nn : Nat) (v1 : Option Nat) (v3 : Int32) (v4 : Int32) (M : CM) (H : Heap) (locs : List Loc) (ls : Array Slot), cH D kA A s.heap T M H locs → lv_has ls 8 [(0, .ref h), (1, va_rf v1), (3, .int v3), (4, .int v4)] → fc_X10_convertSlots_l3 nm T h Q  nn v1 v3 v4 M → W p l e (headSpec wsX10_convertSlots rmX10_convertSlots).room s m args below meth c H locs 0 0 (MQ below (va_Qi Q (cB D kA A T) A) args s 0 0 A) (F0 m 3 ls []) := by
    intro   nn
    induction nn with
    | zero => intro v1 v3 v4 M H locs ls hH hl hw; exact False.elim hw
    | succ nn hk3 =>
      intro v1 v3 v4 M H locs ls hH hl hw
      replace hw : fc_X10_convertSlots_c3 nm T h Q  (fc_X10_convertSlots_l3 nm T h Q  nn) v1 v3 v4 M := hw
      unfold fc_X10_convertSlots_c3 at hw
      refine lv_iload hx hb dX10_convertSlots_3 (lv_at hl 3 rfl) ?_
      refine lv_iload_n hx hb dX10_convertSlots_5 rfl (lv_at hl 2 rfl) ?_
      refine lv_icmp_ge (tgt := 75) hx hb dX10_convertSlots_6 (by decide) (fun c1 => ?_) (fun c1 => ?_)
      · replace hw := hw.1 c1
        refine lv_iconst (v := (-1)) hx hb dX10_convertSlots_75 (by decide) ?_
        exact c_reti hx hb hr hlocks hK hH hw dX10_convertSlots_76
      · replace hw := hw.2 c1
        refine s_aload_n hx hb dX10_convertSlots_9 rfl (lv_at hl 1 rfl) ?_
        refine lv_iload hx hb dX10_convertSlots_10 (lv_at hl 3 rfl) ?_
        obtain ⟨p2, ep2, hw⟩ := hw
        refine W.st (st' := [.int v4, .ref p2]) (by rw [ep2]; rfl) ?_
        obtain ⟨h3, hw⟩ := hw
        refine c_callq (va_runV (As := [.int v4]) (rest := []) ⟨hx, hb, hml, hown, hts⟩ (tc_X2_argumentAt l D kA nm na sa sv H.size T p2 v4 M _ hw) (cwV 1 hts gX10_convertSlots_X2_argumentAt rfl rfl rfl (by decide +kernel) ⟨(show (1 : Nat) + 1 ≤ 5 from Nat.le_of_ble_eq_true rfl), (show 8 + (3 + 11) + (13 : Nat) ≤ 123 from Nat.le_of_ble_eq_true rfl)⟩) (c_preV hK hH hA hSt (c_recv2 hK hH h3)) rfl rfl hl.1 rfl (lv_room (by first | exact Nat.le_of_ble_eq_true rfl | simp [va_rf_cat, cat_ref, cat_int, cat_long, cat_double, cat_null])) dX10_convertSlots_12 ⟨Nat.le_of_ble_eq_true rfl, Nat.le_of_ble_eq_true rfl⟩) hH hA (fun r5 M4 H locs hw hH => ?_)
        refine s_astore (i := 5) (lv' := [(5, va_rf r5), (0, .ref h), (1, va_rf v1), (3, .int v3), (4, .int v4)]) hx hb dX10_convertSlots_15 hl (by decide) (by first | rfl | simp [va_rf_cat, cat_ref, cat_int, cat_long, cat_double, cat_null]) (fun ls hl => ?_)
        refine lv_aload_n hx hb dX10_convertSlots_17 rfl (lv_at hl 1 rfl) ?_
        obtain ⟨h7, hw⟩ := hw
        refine cg_103 hx hb hts hin10 hown hK hH h7 (hts (.fieldLink RX10 35 "IdlCaller" "slots" "[LIdlCaller$Thing;") (by decide +kernel)) dX10_convertSlots_18 ?_
        refine lv_iload hx hb dX10_convertSlots_21 (lv_at hl 4 rfl) ?_
        refine c_callq (va_runS (As := [va_rf (cR M4 103 h), .int v4]) (rest := []) ⟨hx, hb, hml, hown, hts⟩ (tc_X10_thingAt l D kA nm na sa sv H.size T (cR M4 103 h) v4 M4 _ hw) (va_cwS 2 hts gX10_convertSlots_X10_thingAt rfl rfl rfl (by decide +kernel) ⟨(show (0 : Nat) + 1 ≤ 5 from Nat.le_of_ble_eq_true rfl), (show 8 + (2 + 11) + (0 : Nat) ≤ 123 from Nat.le_of_ble_eq_true rfl)⟩) (c_preS hK hH hA hSt) rfl rfl hl.1 rfl (lv_room (by first | exact Nat.le_of_ble_eq_true rfl | simp [va_rf_cat, cat_ref, cat_int, cat_long, cat_double, cat_null])) dX10_convertSlots_23 ⟨Nat.le_of_ble_eq_true rfl, Nat.le_of_ble_eq_true rfl⟩) hH hA (fun r9 M8 H locs hw hH => ?_)
        refine s_astore (i := 6) (lv' := [(6, va_rf r9), (5, va_rf r5), (0, .ref h), (1, va_rf v1), (3, .int v3), (4, .int v4)]) hx hb dX10_convertSlots_26 hl (by decide) (by first | rfl | simp [va_rf_cat, cat_ref, cat_int, cat_long, cat_double, cat_null]) (fun ls hl => ?_)
        refine lv_aload_n hx hb dX10_convertSlots_28 rfl (lv_at hl 2 rfl) ?_
        refine cg_106 hx hb hts hin10 hown hK hH h7 (hts (.fieldLink RX10 49 "IdlCaller" "spare" "[LIdlCaller$Thing;") (by decide +kernel)) dX10_convertSlots_29 ?_
        refine lv_iload hx hb dX10_convertSlots_32 (lv_at hl 5 rfl) ?_
        refine c_callq (va_runS (As := [va_rf (cR M8 106 h), .int v4]) (rest := []) ⟨hx, hb, hml, hown, hts⟩ (tc_X10_thingAt l D kA nm na sa sv H.size T (cR M8 106 h) v4 M8 _ hw) (va_cwS 2 hts gX10_convertSlots_X10_thingAt rfl rfl rfl (by decide +kernel) ⟨(show (0 : Nat) + 1 ≤ 5 from Nat.le_of_ble_eq_true rfl), (show 8 + (2 + 11) + (0 : Nat) ≤ 123 from Nat.le_of_ble_eq_true rfl)⟩) (c_preS hK hH hA hSt) rfl rfl hl.1 rfl (lv_room (by first | exact Nat.le_of_ble_eq_true rfl | simp [va_rf_cat, cat_ref, cat_int, cat_long, cat_double, cat_null])) dX10_convertSlots_34 ⟨Nat.le_of_ble_eq_true rfl, Nat.le_of_ble_eq_true rfl⟩) hH hA (fun r12 M11 H locs hw hH => ?_)
        refine s_astore (i := 7) (lv' := [(7, va_rf r12), (6, va_rf r9), (5, va_rf r5), (0, .ref h), (1, va_rf v1), (3, .int v3), (4, .int v4)]) hx hb dX10_convertSlots_37 hl (by decide) (by first | rfl | simp [va_rf_cat, cat_ref, cat_int, cat_long, cat_double, cat_null]) (fun ls hl => ?_)
        refine s_aload hx hb dX10_convertSlots_39 (lv_at hl 2 rfl) ?_
        refine s_ifnull (tgt := 66) hx hb dX10_convertSlots_41 (by decide) (fun c14 => ?_) (fun c14 => ?_)
        · replace hw := hw.1 c14
          exact b66   v4 M11 H locs ls hH (lv_sub hl [6] rfl) hw
        · replace hw := hw.2 c14
          refine s_aload hx hb dX10_convertSlots_44 (lv_at hl 1 rfl) ?_
          refine s_ifnull (tgt := 66) hx hb dX10_convertSlots_46 (by decide) (fun c15 => ?_) (fun c15 => ?_)
          · replace hw := hw.1 c15
            exact b66   v4 M11 H locs ls hH (lv_sub hl [6] rfl) hw
          · replace hw := hw.2 c15
            refine s_aload hx hb dX10_convertSlots_49 (lv_at hl 0 rfl) ?_
            refine s_ifnull (tgt := 66) hx hb dX10_convertSlots_51 (by decide) (fun c16 => ?_) (fun c16 => ?_)
            · replace hw := hw.1 c16
              exact b66   v4 M11 H locs ls hH (lv_sub hl [6] rfl) hw
            · replace hw := hw.2 c16
              refine s_aload hx hb dX10_convertSlots_54 (lv_at hl 2 rfl) ?_
              refine s_aload hx hb dX10_convertSlots_56 (lv_at hl 1 rfl) ?_
              refine s_aload hx hb dX10_convertSlots_58 (lv_at hl 0 rfl) ?_
              refine c_calli (va_runS (As := [va_rf r5, va_rf r9, va_rf r12]) (rest := []) ⟨hx, hb, hml, hown, hts⟩ (tc_X1_convert l D kA nm na sa sv H.size T r5 r9 r12 M11 _ hw) (va_cwS 3 hts gX10_convertSlots_X1_convert rfl rfl rfl (by decide +kernel) ⟨(show (4 : Nat) + 1 ≤ 5 from Nat.le_of_ble_eq_true rfl), (show 8 + (8 + 11) + (96 : Nat) ≤ 123 from Nat.le_of_ble_eq_true rfl)⟩) (c_preS hK hH hA hSt) rfl rfl hl.1 rfl (lv_room (by first | exact Nat.le_of_ble_eq_true rfl | simp [va_rf_cat, cat_ref, cat_int, cat_long, cat_double, cat_null])) dX10_convertSlots_60 ⟨Nat.le_of_ble_eq_true rfl, Nat.le_of_ble_eq_true rfl⟩) hH hA (fun r18 M17 H locs hw hH => ?_)
              refine lv_if_ne (tgt := 69) hx hb dX10_convertSlots_63 (by decide) (fun c20 => ?_) (fun c20 => ?_)
              · replace hw := hw.1 c20
                obtain ⟨x21, ex21⟩ : ∃ y : Int32, y = v4 + 1 := ⟨_, rfl⟩
                replace hw := hw x21 ex21
                refine lv_iinc (v := x21) (lv' := [(4, .int x21), (7, va_rf r12), (6, va_rf r9), (5, va_rf r5), (0, .ref h), (1, va_rf v1), (3, .int v3)]) hx hb dX10_convertSlots_69 hl (k := 6) rfl (by rw [ex21]; rfl) (by decide) (by first | rfl | simp [va_rf_cat, cat_ref, cat_int, cat_long, cat_double, cat_null]) (fun ls hl => ?_)
                refine lv_goto (tgt := 3) hx hb dX10_convertSlots_72 (by decide) ?_
                exact hk3 v1 v3 x21 M17 H locs ls hH (lv_sub hl [4, 5, 6, 0] rfl) hw
              · replace hw := hw.2 c20
                exact b66   v4 M17 H locs ls hH (lv_sub hl [6] rfl) hw
  clear hP
  unfold fc_X10_convertSlots at hw
  have hst : ∀ (M : CM) (H : Heap) (locs : List Loc) (ls : Array Slot), cH D kA A s.heap T M H locs → lv_has ls 8 [(0, .ref h), (1, va_rf a1), (2, .int a2), (3, .int a3)] → (∃ nn : Nat, fc_X10_convertSlots_l3 nm T h Q  nn a1 a3 a2 M) → W p l e (headSpec wsX10_convertSlots rmX10_convertSlots).room s m args below meth c H locs 0 0 (MQ below (va_Qi Q (cB D kA A T) A) args s 0 0 A) (F0 m 0 ls []) := by
    intro M H locs ls hH hl hw
    refine lv_iload_n hx hb dX10_convertSlots_0 rfl (lv_at hl 2 rfl) ?_
    refine lv_istore (i := 4) (lv' := [(4, .int a2), (0, .ref h), (1, va_rf a1), (2, .int a2), (3, .int a3)]) hx hb dX10_convertSlots_1 hl (by decide) (by first | rfl | simp [va_rf_cat, cat_ref, cat_int, cat_long, cat_double, cat_null]) (fun ls hl => ?_)
    obtain ⟨nn, hw⟩ := hw
    exact l3   nn a1 a3 a2 M H locs ls hH (lv_sub hl [1, 2, 4, 0] rfl) hw
  exact hst M s.heap [] ls hH hl hw
def fc_X10_finish_b31 (T : LY) (h : Nat) (Q : Int32 → CM → Prop) (k2 : Option Nat → Int32 → Int32 → CM → Prop) (v1 : Option Nat) (v2 : Int32) (v3 : Int32) (M : CM) : Prop := (∀ x1 : Int32, x1 = v3 + 1 → k2 v1 v2 x1 M)
def fc_X10_finish_c2 (T : LY) (h : Nat) (Q : Int32 → CM → Prop) (k2 : Option Nat → Int32 → Int32 → CM → Prop) (v1 : Option Nat) (v2 : Int32) (v3 : Int32) (M : CM) : Prop := (∃ p2 : Nat, v1 = some p2 ∧ (tg T p2 = 3 ∧ (((cI M 23 p2) ≤ v3 → (tg T h = 11 ∧ (∀ M6 : CM, M6 = sR M 105 h (cR M 106 h) → (∀ M7 : CM, M7 = sR M6 106 h (cR M 105 h) → (∀ M8 : CM, M8 = sI M7 107 h (if v2 < cI M7 23 p2 then cI M7 23 p2 else v2) → (∀ M9 : CM, M9 = sI M8 108 h (-1) → Q (cI M9 21 p2) M9)))))) ∧ (¬ (cI M 23 p2) ≤ v3 → (tg T h = 11 ∧ fc_X10_thingAt T (cR M 106 h) v3 M (fun (r12 : Option Nat) (M11 : CM) => ((r12 = none → fc_X10_finish_b31 T h Q k2 v1 v2 v3 M11) ∧ (¬ r12 = none → (∃ p15 : Nat, r12 = some p15 ∧ (tg T p15 = 9 ∧ fc_X8_become T p15 0 M11 (fun (M17 : CM) => fc_X10_finish_b31 T h Q k2 v1 v2 v3 M17)))))))))))
def fc_X10_finish_l2 (T : LY) (h : Nat) (Q : Int32 → CM → Prop) : Nat → Option Nat → Int32 → Int32 → CM → Prop := lit (τ := Option Nat → Int32 → Int32 → CM → Prop) (fun _ _ _ _ => False) (fun k => fc_X10_finish_c2 T h Q  k)
def fc_X10_finish (T : LY) (h : Nat)  (a1 : Option Nat) (a2 : Int32) (M : CM) (Q : Int32 → CM → Prop) : Prop := (∃ nn : Nat, fc_X10_finish_l2 T h Q  nn a1 a2 a2 M)
abbrev rmX10_finish : Room := { frames := 1, cells := 0, slots := 0, locals := 21 }
set_option maxHeartbeats 4000000 in
set_option maxRecDepth 100000 in
theorem tc_X10_finish (l : Launch) (D : va_G) (kA : Nat → ClassId) (nm : Nat → Nat) (na : Nat) (sa sv : Nat → Nat) (sz : Nat) (T : LY) (h : Nat) (a1 : Option Nat) (a2 : Int32) (M : CM) (Q : Int32 → CM → Prop) (hw : fc_X10_finish T h a1 a2 M Q) : Met l yX10_finish wsX10_finish rmX10_finish (va_Pc [.ref h, va_rf a1, .int a2] (cPc nm na sa sv D kA T M sz)) (va_Qi Q (cB D kA (cF T sz) T) (cF T sz)) 0 0 (cF T sz) := by
  refine Met.ofW (cc := cX10_finish) (maxL := 5) (ret := (some .int)) (by decide) rfl ?_
  intro p e s m args below meth c s₁ B hml hv
  obtain ⟨rfl, hsz, hP, hK, hSt⟩ := hv
  have hx := B.exec
  have hb := B.bytes
  have hr := B.returns
  have hts := atoms_spec (ws := wsX10_finish) B.pre
  have hown : s.vm.findClass RX10 = some m.cls := findClass_of_methodNamed B.named
  have hlocks : meth.locks = false := B.notSynchronized
  subst hsz
  have hH : cH D kA (cF T s.heap.size) s.heap T M s.heap [] := ⟨hP.self, va_S.rf⟩
  have hA : ∀ q : Nat, s.heap.size ≤ q → cF T s.heap.size q := fun q z => Or.inr z
  generalize cF T s.heap.size = A at hH hA hSt ⊢
  have hl := lv_entry ([.ref h, va_rf a1, .int a2]) (n := 5) (by first | exact Nat.le_of_ble_eq_true rfl | simp [lg_sl, va_rf_cat, cat_ref, cat_int, cat_long, cat_double])
  rw [lg_entry_eq]
  generalize (lg_sl ([.ref h, va_rf a1, .int a2]) ++ List.replicate (5 - (lg_sl ([.ref h, va_rf a1, .int a2])).length) Slot.unset).toArray = ls at hl ⊢
  generalize ([.ref h, va_rf a1, .int a2] : List Value).toArray = args at hts ⊢
  have hl : lv_has ls 5 [(0, .ref h), (1, va_rf a1), (2, .int a2)] := by simpa [lv_args, va_rf_cat, cat_ref, cat_int, cat_long, cat_double] using hl
  have hin2 : ∀ w ∈ wsX20, w ∈ wsX10_finish := by decide +kernel
  have hin10 : ∀ w ∈ wsX100, w ∈ wsX10_finish := by decide +kernel
  have b31 : ∀ (k2 : Option Nat → Int32 → Int32 → CM → Prop) (hk2 : ∀ (v1 : Option Nat) (v2 : Int32) (v3 : Int32) (M : CM) (H : Heap) (locs : List Loc) (ls : Array Slot), cH D kA A s.heap T M H locs → lv_has ls 5 [(0, .ref h), (1, va_rf v1), (2, .int v2), (3, .int v3)] → k2 v1 v2 v3 M → W p l e (headSpec wsX10_finish rmX10_finish).room s m args below meth c H locs 0 0 (MQ below (va_Qi Q (cB D kA A T) A) args s 0 0 A) (F0 m 2 ls [])) (v1 : Option Nat) (v2 : Int32) (v3 : Int32) (M : CM) (H : Heap) (locs : List Loc) (ls : Array Slot), cH D kA A s.heap T M H locs → lv_has ls 5 [(0, .ref h), (1, va_rf v1), (2, .int v2), (3, .int v3)] → fc_X10_finish_b31 T h Q k2 v1 v2 v3 M → W p l e (headSpec wsX10_finish rmX10_finish).room s m args below meth c H locs 0 0 (MQ below (va_Qi Q (cB D kA A T) A) args s 0 0 A) (F0 m 31 ls []) := by
    intro k2 hk2 v1 v2 v3 M H locs ls hH hl hw
    unfold fc_X10_finish_b31 at hw
    obtain ⟨x1, ex1⟩ : ∃ y : Int32, y = v3 + 1 := ⟨_, rfl⟩
    replace hw := hw x1 ex1
    refine lv_iinc (v := x1) (lv' := [(3, .int x1), (0, .ref h), (1, va_rf v1), (2, .int v2)]) hx hb dX10_finish_31 hl (k := 3) rfl (by rw [ex1]; rfl) (by decide) (by first | rfl | simp [va_rf_cat, cat_ref, cat_int, cat_long, cat_double, cat_null]) (fun ls hl => ?_)
    refine lv_goto (tgt := 2) hx hb dX10_finish_34 (by decide) ?_
    exact hk2 v1 v2 x1 M H locs ls hH (lv_sub hl [1, 2, 3, 0] rfl) hw
  have l2 : ∀ (nn : Nat) (v1 : Option Nat) (v2 : Int32) (v3 : Int32) (M : CM) (H : Heap) (locs : List Loc) (ls : Array Slot), cH D kA A s.heap T M H locs → lv_has ls 5 [(0, .ref h), (1, va_rf v1), (2, .int v2), (3, .int v3)] → fc_X10_finish_l2 T h Q  nn v1 v2 v3 M → W p l e (headSpec wsX10_finish rmX10_finish).room s m args below meth c H locs 0 0 (MQ below (va_Qi Q (cB D kA A T) A) args s 0 0 A) (F0 m 2 ls []) := by
    intro   nn
    induction nn with
    | zero => intro v1 v2 v3 M H locs ls hH hl hw; exact False.elim hw
    | succ nn hk2 =>
      intro v1 v2 v3 M H locs ls hH hl hw
      replace hw : fc_X10_finish_c2 T h Q  (fc_X10_finish_l2 T h Q  nn) v1 v2 v3 M := hw
      unfold fc_X10_finish_c2 at hw
      refine lv_iload_n hx hb dX10_finish_2 rfl (lv_at hl 3 rfl) ?_
      refine s_aload_n hx hb dX10_finish_3 rfl (lv_at hl 1 rfl) ?_
      obtain ⟨p2, ep2, hw⟩ := hw
      refine W.st (st' := [.ref p2, .int v3]) (by rw [ep2]; rfl) ?_
      obtain ⟨h3, hw⟩ := hw
      refine cg_23 hx hb hts hin2 hown hK hH h3 (hts (.fieldLink RX10 273 "IdlCaller$Form" "count" "I") (by decide +kernel)) dX10_finish_4 ?_
      refine lv_icmp_ge (tgt := 37) hx hb dX10_finish_7 (by decide) (fun c4 => ?_) (fun c4 => ?_)
      · replace hw := hw.1 c4
        refine lv_aload_n hx hb dX10_finish_37 rfl (lv_at hl 0 rfl) ?_
        obtain ⟨h5, hw⟩ := hw
        refine cg_105 hx hb hts hin10 hown hK hH h5 (hts (.fieldLink RX10 46 "IdlCaller" "converted" "[LIdlCaller$Thing;") (by decide +kernel)) dX10_finish_38 ?_
        refine s_astore_n (i := 3) (lv' := [(3, va_rf (cR M 105 h)), (0, .ref h), (1, va_rf v1), (2, .int v2)]) hx hb dX10_finish_41 rfl hl (by decide) (by first | rfl | simp [va_rf_cat, cat_ref, cat_int, cat_long, cat_double, cat_null]) (fun ls hl => ?_)
        refine lv_aload_n hx hb dX10_finish_42 rfl (lv_at hl 1 rfl) ?_
        refine lv_aload_n hx hb dX10_finish_43 rfl (lv_at hl 1 rfl) ?_
        refine cg_106 hx hb hts hin10 hown hK hH h5 (hts (.fieldLink RX10 49 "IdlCaller" "spare" "[LIdlCaller$Thing;") (by decide +kernel)) dX10_finish_44 ?_
        refine cp_105 (x := cR M 106 h) hx hb hts hin10 hown hK hH h5 (hts (.fieldLink RX10 46 "IdlCaller" "converted" "[LIdlCaller$Thing;") (by decide +kernel)) dX10_finish_47 (fun M6 H locs eM6 hH => ?_)
        replace hw := hw M6 eM6
        refine lv_aload_n hx hb dX10_finish_50 rfl (lv_at hl 1 rfl) ?_
        refine s_aload_n hx hb dX10_finish_51 rfl (lv_at hl 0 rfl) ?_
        refine cp_106 (x := cR M 105 h) hx hb hts hin10 hown hK hH h5 (hts (.fieldLink RX10 49 "IdlCaller" "spare" "[LIdlCaller$Thing;") (by decide +kernel)) dX10_finish_52 (fun M7 H locs eM7 hH => ?_)
        replace hw := hw M7 eM7
        refine lv_aload_n hx hb dX10_finish_55 rfl (lv_at hl 1 rfl) ?_
        refine lv_iload_n hx hb dX10_finish_56 rfl (lv_at hl 3 rfl) ?_
        refine s_aload_n hx hb dX10_finish_57 rfl (lv_at hl 2 rfl) ?_
        refine W.st (st' := [.ref p2, .int v2, .ref h]) (by rw [ep2]; rfl) ?_
        refine cg_23 hx hb hts hin2 hown hK hH h3 (hts (.fieldLink RX10 273 "IdlCaller$Form" "count" "I") (by decide +kernel)) dX10_finish_58 ?_
        refine va_mmax hx hb (by rw [hml]; exact hl.1.symm) hown (hts (.methodLink RX10 206 Lib.Math.max.name) (by decide +kernel)) (hts (.static Lib.Math.max.name) (by decide +kernel)) (hts (.initialized "java/lang/Math") (by decide +kernel)) (hts (.code Lib.Math.max.name Lib.Math.max.code 2 (some .int)) (by decide +kernel)) ((show _ ≤ (1 : Nat) from by first | exact Nat.le_of_ble_eq_true rfl | simp [va_rf_cat, cat_ref, cat_int, cat_long, cat_double, cat_null])) ((show _ ≤ (21 : Nat) from by first | exact Nat.le_of_ble_eq_true rfl | simp [va_rf_cat, cat_ref, cat_int, cat_long, cat_double, cat_null])) (Nat.le_of_ble_eq_true rfl) (Nat.le_of_ble_eq_true rfl) dX10_finish_61 ?_
        refine cp_107 (x := (if v2 < cI M7 23 p2 then cI M7 23 p2 else v2)) hx hb hts hin10 hown hK hH h5 (hts (.fieldLink RX10 52 "IdlCaller" "places" "I") (by decide +kernel)) dX10_finish_64 (fun M8 H locs eM8 hH => ?_)
        replace hw := hw M8 eM8
        refine lv_aload_n hx hb dX10_finish_67 rfl (lv_at hl 1 rfl) ?_
        refine lv_iconst (v := (-1)) hx hb dX10_finish_68 (by decide) ?_
        refine cp_108 (x := (-1)) hx hb hts hin10 hown hK hH h5 (hts (.fieldLink RX10 56 "IdlCaller" "lastPlace" "I") (by decide +kernel)) dX10_finish_69 (fun M9 H locs eM9 hH => ?_)
        replace hw := hw M9 eM9
        refine s_aload_n hx hb dX10_finish_72 rfl (lv_at hl 2 rfl) ?_
        refine W.st (st' := [.ref p2]) (by rw [ep2]; rfl) ?_
        refine cg_21 hx hb hts hin2 hown hK hH h3 (hts (.fieldLink RX10 274 "IdlCaller$Form" "number" "I") (by decide +kernel)) dX10_finish_73 ?_
        exact c_reti hx hb hr hlocks hK hH hw dX10_finish_76
      · replace hw := hw.2 c4
        refine lv_aload_n hx hb dX10_finish_10 rfl (lv_at hl 0 rfl) ?_
        obtain ⟨h10, hw⟩ := hw
        refine cg_106 hx hb hts hin10 hown hK hH h10 (hts (.fieldLink RX10 49 "IdlCaller" "spare" "[LIdlCaller$Thing;") (by decide +kernel)) dX10_finish_11 ?_
        refine lv_iload_n hx hb dX10_finish_14 rfl (lv_at hl 3 rfl) ?_
        refine c_callq (va_runS (As := [va_rf (cR M 106 h), .int v3]) (rest := []) ⟨hx, hb, hml, hown, hts⟩ (tc_X10_thingAt l D kA nm na sa sv H.size T (cR M 106 h) v3 M _ hw) (va_cwS 2 hts gX10_finish_X10_thingAt rfl rfl rfl (by decide +kernel) ⟨(show (0 : Nat) + 1 ≤ 1 from Nat.le_of_ble_eq_true rfl), (show 8 + (2 + 11) + (0 : Nat) ≤ 21 from Nat.le_of_ble_eq_true rfl)⟩) (c_preS hK hH hA hSt) rfl rfl hl.1 rfl (lv_room (by first | exact Nat.le_of_ble_eq_true rfl | simp [va_rf_cat, cat_ref, cat_int, cat_long, cat_double, cat_null])) dX10_finish_15 ⟨Nat.le_of_ble_eq_true rfl, Nat.le_of_ble_eq_true rfl⟩) hH hA (fun r12 M11 H locs hw hH => ?_)
        refine s_astore (i := 4) (lv' := [(4, va_rf r12), (0, .ref h), (1, va_rf v1), (2, .int v2), (3, .int v3)]) hx hb dX10_finish_18 hl (by decide) (by first | rfl | simp [va_rf_cat, cat_ref, cat_int, cat_long, cat_double, cat_null]) (fun ls hl => ?_)
        refine s_aload hx hb dX10_finish_20 (lv_at hl 0 rfl) ?_
        refine s_ifnull (tgt := 31) hx hb dX10_finish_22 (by decide) (fun c14 => ?_) (fun c14 => ?_)
        · replace hw := hw.1 c14
          exact b31 _ hk2 v1 v2 v3 M11 H locs ls hH (lv_sub hl [1, 2, 3, 4] rfl) hw
        · replace hw := hw.2 c14
          refine s_aload hx hb dX10_finish_25 (lv_at hl 0 rfl) ?_
          refine lv_iconst (v := 0) hx hb dX10_finish_27 (by decide) ?_
          obtain ⟨p15, ep15, hw⟩ := hw
          refine W.st (st' := [.int 0, .ref p15]) (by rw [ep15]; rfl) ?_
          obtain ⟨h16, hw⟩ := hw
          refine c_callv (va_runV (As := [.int 0]) (rest := []) ⟨hx, hb, hml, hown, hts⟩ (tc_X8_become l D kA nm na sa sv H.size T p15 0 M11 _ hw) (cwV 1 hts gX10_finish_X8_become rfl rfl rfl (by decide +kernel) ⟨(show (0 : Nat) + 1 ≤ 1 from Nat.le_of_ble_eq_true rfl), (show 8 + (2 + 11) + (0 : Nat) ≤ 21 from Nat.le_of_ble_eq_true rfl)⟩) (c_preV hK hH hA hSt (c_recv8 hK hH h16)) rfl rfl hl.1 rfl (lv_room (by first | exact Nat.le_of_ble_eq_true rfl | simp [va_rf_cat, cat_ref, cat_int, cat_long, cat_double, cat_null])) dX10_finish_28 ⟨Nat.le_of_ble_eq_true rfl, Nat.le_of_ble_eq_true rfl⟩) hH hA (fun M17 H locs hw hH => ?_)
          exact b31 _ hk2 v1 v2 v3 M17 H locs ls hH (lv_sub hl [1, 2, 3, 4] rfl) hw
  clear hP
  unfold fc_X10_finish at hw
  have hst : ∀ (M : CM) (H : Heap) (locs : List Loc) (ls : Array Slot), cH D kA A s.heap T M H locs → lv_has ls 5 [(0, .ref h), (1, va_rf a1), (2, .int a2)] → (∃ nn : Nat, fc_X10_finish_l2 T h Q  nn a1 a2 a2 M) → W p l e (headSpec wsX10_finish rmX10_finish).room s m args below meth c H locs 0 0 (MQ below (va_Qi Q (cB D kA A T) A) args s 0 0 A) (F0 m 0 ls []) := by
    intro M H locs ls hH hl hw
    refine lv_iload_n hx hb dX10_finish_0 rfl (lv_at hl 2 rfl) ?_
    refine lv_istore_n (i := 3) (lv' := [(3, .int a2), (0, .ref h), (1, va_rf a1), (2, .int a2)]) hx hb dX10_finish_1 rfl hl (by decide) (by first | rfl | simp [va_rf_cat, cat_ref, cat_int, cat_long, cat_double, cat_null]) (fun ls hl => ?_)
    obtain ⟨nn, hw⟩ := hw
    exact l2   nn a1 a2 a2 M H locs ls hH (lv_sub hl [1, 2, 3, 0] rfl) hw
  exact hst M s.heap [] ls hH hl hw
def fc_X10_call_b175 (nm : Nat → Nat) (T : LY) (X : Nat → CM → Prop) (h : Nat) (Q : Int32 → CM → Prop) (s0 : Int32) (M : CM) : Prop := Q s0 M
def fc_X10_call_b128 (nm : Nat → Nat) (T : LY) (X : Nat → CM → Prop) (h : Nat) (Q : Int32 → CM → Prop) (v4 : Int32) (v5 : Option Nat) (v6 : Int32) (v7 : Int32) (M : CM) : Prop := ((¬ v5 = none → (tg T h = 11 ∧ fc_X10_convertSlots nm T h v5 v7 v4 M (fun (r4 : Int32) (M3 : CM) => ((r4 = (-1) → fc_X10_finish T h v5 v4 M3 (fun (r8 : Int32) (M7 : CM) => fc_X10_call_b175 nm T X h Q  r8 M7)) ∧ (¬ r4 = (-1) → fc_X10_refuseAt T h r4 M3 (fun (r11 : Int32) (M10 : CM) => fc_X10_call_b175 nm T X h Q  r11 M10)))))) ∧ (v5 = none → (tg T h = 11 ∧ fc_X10_refuseAt T h v6 M (fun (r15 : Int32) (M14 : CM) => Q r15 M14))))
def fc_X10_call_b20 (nm : Nat → Nat) (T : LY) (X : Nat → CM → Prop) (h : Nat) (Q : Int32 → CM → Prop) (M : CM) : Prop := X 1 M
def fc_X10_call (nm : Nat → Nat) (T : LY) (X : Nat → CM → Prop) (h : Nat)  (a1 : Int32) (a2 : Int32) (M : CM) (Q : Int32 → CM → Prop) : Prop := (tg T h = 11 ∧ fc_X10_operationAt T h a1 M (fun (r19 : Option Nat) (M18 : CM) => ((r19 = none → fc_X10_call_b20 nm T X h Q   M18) ∧ (¬ r19 = none → ((a2 < 0 → fc_X10_call_b20 nm T X h Q   M18) ∧ (¬ a2 < 0 → ((a2 ≤ 8 → (∃ p24 : Nat, r19 = some p24 ∧ (tg T p24 = 6 ∧ fc_X5_mostArguments T p24 M18 (fun (r27 : Int32) (M26 : CM) => (∀ x29 : Int32, x29 = (if r27 < a2 then r27 else a2) → fc_X5_gather T p24 x29 none M26 (fun (M30 : CM) => fc_X5_ableAt T p24 0 M30 (fun (r34 : Option Nat) (M33 : CM) => ((¬ r34 = none → fc_X5_decidingFor nm T p24 x29 M33 (fun (r38 : Int32) (M37 : CM) => (∀ x40 : Int32, x40 = (if r38 < 0 then 0 else r38) → fc_X10_convertSlots nm T h r34 0 x40 M37 (fun (r42 : Int32) (M41 : CM) => ((r42 = (-1) → ((r38 = (-1) → fc_X10_call_b128 nm T X h Q  x29 r34 r38 x40 M41) ∧ (¬ r38 = (-1) → fc_X10_thingAt T (cR M41 103 h) r38 M41 (fun (r47 : Option Nat) (M46 : CM) => fc_X5_choose nm T p24 r38 r47 M46 (fun (r50 : Option Nat) (M49 : CM) => fc_X10_call_b128 nm T X h Q  x29 r50 r38 x40 M49))))) ∧ (¬ r42 = (-1) → fc_X10_refuseAt T h r42 M41 (fun (r53 : Int32) (M52 : CM) => Q r53 M52))))))) ∧ (r34 = none → fc_X10_refuseAt T h a2 M33 (fun (r56 : Int32) (M55 : CM) => Q r56 M55)))))))))) ∧ (¬ a2 ≤ 8 → fc_X10_call_b20 nm T X h Q   M18))))))))
abbrev rmX10_call : Room := { frames := 6, cells := 1, slots := 6, locals := 150 }
set_option maxHeartbeats 4000000 in
set_option maxRecDepth 100000 in
theorem tc_X10_call (l : Launch) (hst0 : l.stackTraces = false) (D : va_G) (kA : Nat → ClassId) (nm : Nat → Nat) (na : Nat) (sa sv : Nat → Nat) (sz : Nat) (T : LY) (X : Nat → CM → Prop) (h : Nat) (a1 : Int32) (a2 : Int32) (M : CM) (Q : Int32 → CM → Prop) (hw : fc_X10_call nm T X h a1 a2 M Q) : vx_Met l yX10_call wsX10_call rmX10_call (va_Pc [.ref h, .int a1, .int a2] (cPc nm na sa sv D kA T M sz)) (va_Qi Q (cB D kA (cF T sz) T) (cF T sz)) (vx_X (fun (u : Nat × CM) => X u.1 u.2) (cBX D kA (cF T sz) T) (cF T sz)) 1 6 (cF T sz) := by
  refine vx_ofW (cc := cX10_call) (maxL := 9) (ret := (some .int)) (by decide) rfl ?_
  intro p e s m args below meth c s₁ B hml htab hv
  obtain ⟨rfl, hsz, hP, hK, hSt⟩ := hv
  have hx := B.exec
  have hb := B.bytes
  have hr := B.returns
  have hts := atoms_spec (ws := wsX10_call) B.pre
  have hown : s.vm.findClass RX10 = some m.cls := findClass_of_methodNamed B.named
  have hlocks : meth.locks = false := B.notSynchronized
  subst hsz
  have hH : cH D kA (cF T s.heap.size) s.heap T M s.heap [] := ⟨hP.self, va_S.rf⟩
  have hA : ∀ q : Nat, s.heap.size ≤ q → cF T s.heap.size q := fun q z => Or.inr z
  generalize cF T s.heap.size = A at hH hA hSt ⊢
  have hl := lv_entry ([.ref h, .int a1, .int a2]) (n := 9) (by first | exact Nat.le_of_ble_eq_true rfl | simp [lg_sl, va_rf_cat, cat_ref, cat_int, cat_long, cat_double])
  rw [lg_entry_eq]
  generalize (lg_sl ([.ref h, .int a1, .int a2]) ++ List.replicate (9 - (lg_sl ([.ref h, .int a1, .int a2])).length) Slot.unset).toArray = ls at hl ⊢
  generalize ([.ref h, .int a1, .int a2] : List Value).toArray = args at hts ⊢
  have hl : lv_has ls 9 [(0, .ref h), (1, .int a1), (2, .int a2)] := hl
  have hin10 : ∀ w ∈ wsX100, w ∈ wsX10_call := by decide +kernel
  have hat104 : ∀ w ∈ (vx_atS RX10 104 (exN 1) exS).filter goodWord, w ∈ wsX10_call := by decide +kernel
  have b175 : ∀ (s0 : Int32) (M : CM) (H : Heap) (locs : List Loc) (ls : Array Slot), cH D kA A s.heap T M H locs → lv_has ls 9 [] → fc_X10_call_b175 nm T X h Q  s0 M → W p l e (headSpec wsX10_call rmX10_call).room s m args below meth c H locs 0 0 (vx_MQ below (va_Qi Q (cB D kA A T) A) (vx_X (fun (u : Nat × CM) => X u.1 u.2) (cBX D kA A T) A) args s 1 6 A) (F0 m 175 ls [.int s0]) := by
    intro   s0 M H locs ls hH hl hw
    unfold fc_X10_call_b175 at hw
    exact vx_ret (W.widen (k := 1) (n := 6) (Nat.le_of_ble_eq_true rfl) (Nat.le_of_ble_eq_true rfl) (c_reti hx hb hr hlocks hK hH hw dX10_call_175))
  have b128 : ∀ (v4 : Int32) (v5 : Option Nat) (v6 : Int32) (v7 : Int32) (M : CM) (H : Heap) (locs : List Loc) (ls : Array Slot), cH D kA A s.heap T M H locs → lv_has ls 9 [(0, .ref h), (4, .int v4), (5, va_rf v5), (6, .int v6), (7, .int v7)] → fc_X10_call_b128 nm T X h Q  v4 v5 v6 v7 M → W p l e (headSpec wsX10_call rmX10_call).room s m args below meth c H locs 0 0 (vx_MQ below (va_Qi Q (cB D kA A T) A) (vx_X (fun (u : Nat × CM) => X u.1 u.2) (cBX D kA A T) A) args s 1 6 A) (F0 m 128 ls []) := by
    intro   v4 v5 v6 v7 M H locs ls hH hl hw
    unfold fc_X10_call_b128 at hw
    refine s_aload hx hb dX10_call_128 (lv_at hl 2 rfl) ?_
    refine s_ifnonnull (tgt := 140) hx hb dX10_call_130 (by decide) (fun c1 => ?_) (fun c1 => ?_)
    · replace hw := hw.1 c1
      refine lv_aload_n hx hb dX10_call_140 rfl (lv_at hl 0 rfl) ?_
      refine s_aload hx hb dX10_call_141 (lv_at hl 2 rfl) ?_
      refine lv_iload hx hb dX10_call_143 (lv_at hl 4 rfl) ?_
      refine lv_iload hx hb dX10_call_145 (lv_at hl 1 rfl) ?_
      obtain ⟨h2, hw⟩ := hw
      refine c_calli (va_runV (As := [va_rf v5, .int v7, .int v4]) (rest := []) ⟨hx, hb, hml, hown, hts⟩ (tc_X10_convertSlots l D kA nm na sa sv H.size T h v5 v7 v4 M _ hw) (cwV 3 hts gX10_call_X10_convertSlots rfl rfl rfl (by decide +kernel) ⟨(show (5 : Nat) + 1 ≤ 6 from Nat.le_of_ble_eq_true rfl), (show 8 + (8 + 11) + (123 : Nat) ≤ 150 from Nat.le_of_ble_eq_true rfl)⟩) (c_preV hK hH hA hSt (c_recv10 hK hH h2)) rfl rfl hl.1 rfl (lv_room (by first | exact Nat.le_of_ble_eq_true rfl | simp [va_rf_cat, cat_ref, cat_int, cat_long, cat_double, cat_null])) dX10_call_147 ⟨Nat.le_of_ble_eq_true rfl, Nat.le_of_ble_eq_true rfl⟩) hH hA (fun r4 M3 H locs hw hH => ?_)
      refine lv_istore (i := 8) (lv' := [(8, .int r4), (0, .ref h), (4, .int v4), (5, va_rf v5), (6, .int v6), (7, .int v7)]) hx hb dX10_call_150 hl (by decide) (by first | rfl | simp [va_rf_cat, cat_ref, cat_int, cat_long, cat_double, cat_null]) (fun ls hl => ?_)
      refine lv_iload hx hb dX10_call_152 (lv_at hl 0 rfl) ?_
      refine lv_iconst (v := (-1)) hx hb dX10_call_154 (by decide) ?_
      refine lv_icmp_eq (tgt := 167) hx hb dX10_call_155 (by decide) (fun c6 => ?_) (fun c6 => ?_)
      · replace hw := hw.1 c6
        refine lv_aload_n hx hb dX10_call_167 rfl (lv_at hl 1 rfl) ?_
        refine s_aload hx hb dX10_call_168 (lv_at hl 3 rfl) ?_
        refine lv_iload hx hb dX10_call_170 (lv_at hl 2 rfl) ?_
        refine c_calli (va_runV (As := [va_rf v5, .int v4]) (rest := []) ⟨hx, hb, hml, hown, hts⟩ (tc_X10_finish l D kA nm na sa sv H.size T h v5 v4 M3 _ hw) (cwV 2 hts gX10_call_X10_finish rfl rfl rfl (by decide +kernel) ⟨(show (1 : Nat) + 1 ≤ 6 from Nat.le_of_ble_eq_true rfl), (show 8 + (5 + 11) + (21 : Nat) ≤ 150 from Nat.le_of_ble_eq_true rfl)⟩) (c_preV hK hH hA hSt (c_recv10 hK hH h2)) rfl rfl hl.1 rfl (lv_room (by first | exact Nat.le_of_ble_eq_true rfl | simp [va_rf_cat, cat_ref, cat_int, cat_long, cat_double, cat_null])) dX10_call_172 ⟨Nat.le_of_ble_eq_true rfl, Nat.le_of_ble_eq_true rfl⟩) hH hA (fun r8 M7 H locs hw hH => ?_)
        exact b175   r8 M7 H locs ls hH (lv_sub hl [] rfl) hw
      · replace hw := hw.2 c6
        refine lv_aload_n hx hb dX10_call_158 rfl (lv_at hl 1 rfl) ?_
        refine lv_iload hx hb dX10_call_159 (lv_at hl 0 rfl) ?_
        refine c_calli (va_runV (As := [.int r4]) (rest := []) ⟨hx, hb, hml, hown, hts⟩ (tc_X10_refuseAt l D kA nm na sa sv H.size T h r4 M3 _ hw) (cwV 1 hts gX10_call_X10_refuseAt rfl rfl rfl (by decide +kernel) ⟨(show (0 : Nat) + 1 ≤ 6 from Nat.le_of_ble_eq_true rfl), (show 8 + (2 + 11) + (0 : Nat) ≤ 150 from Nat.le_of_ble_eq_true rfl)⟩) (c_preV hK hH hA hSt (c_recv10 hK hH h2)) rfl rfl hl.1 rfl (lv_room (by first | exact Nat.le_of_ble_eq_true rfl | simp [va_rf_cat, cat_ref, cat_int, cat_long, cat_double, cat_null])) dX10_call_161 ⟨Nat.le_of_ble_eq_true rfl, Nat.le_of_ble_eq_true rfl⟩) hH hA (fun r11 M10 H locs hw hH => ?_)
        refine lv_goto (tgt := 175) hx hb dX10_call_164 (by decide) ?_
        exact b175   r11 M10 H locs ls hH (lv_sub hl [] rfl) hw
    · replace hw := hw.2 c1
      refine lv_aload_n hx hb dX10_call_133 rfl (lv_at hl 0 rfl) ?_
      refine lv_iload hx hb dX10_call_134 (lv_at hl 3 rfl) ?_
      obtain ⟨h13, hw⟩ := hw
      refine c_calli (va_runV (As := [.int v6]) (rest := []) ⟨hx, hb, hml, hown, hts⟩ (tc_X10_refuseAt l D kA nm na sa sv H.size T h v6 M _ hw) (cwV 1 hts gX10_call_X10_refuseAt rfl rfl rfl (by decide +kernel) ⟨(show (0 : Nat) + 1 ≤ 6 from Nat.le_of_ble_eq_true rfl), (show 8 + (2 + 11) + (0 : Nat) ≤ 150 from Nat.le_of_ble_eq_true rfl)⟩) (c_preV hK hH hA hSt (c_recv10 hK hH h13)) rfl rfl hl.1 rfl (lv_room (by first | exact Nat.le_of_ble_eq_true rfl | simp [va_rf_cat, cat_ref, cat_int, cat_long, cat_double, cat_null])) dX10_call_136 ⟨Nat.le_of_ble_eq_true rfl, Nat.le_of_ble_eq_true rfl⟩) hH hA (fun r15 M14 H locs hw hH => ?_)
      exact vx_ret (W.widen (k := 1) (n := 6) (Nat.le_of_ble_eq_true rfl) (Nat.le_of_ble_eq_true rfl) (c_reti hx hb hr hlocks hK hH hw dX10_call_139))
  have b20 : ∀ (M : CM) (H : Heap) (locs : List Loc) (ls : Array Slot), cH D kA A s.heap T M H locs → lv_has ls 9 [] → fc_X10_call_b20 nm T X h Q   M → W p l e (headSpec wsX10_call rmX10_call).room s m args below meth c H locs 0 0 (vx_MQ below (va_Qi Q (cB D kA A T) A) (vx_X (fun (u : Nat × CM) => X u.1 u.2) (cBX D kA A T) A) args s 1 6 A) (F0 m 20 ls []) := by
    intro    M H locs ls hH hl hw
    unfold fc_X10_call_b20 at hw
    exact c_throw (k := 1) (ik := 100) (is := 180) (ic := 104) hx hb hst0 hown (by decide +kernel) (hts (.classLink RX10 100 "java/lang/IllegalArgumentException") (by decide +kernel)) (hts (.initialized "java/lang/IllegalArgumentException") (by decide +kernel)) (hSt.2.2.2.2.2.2.2.2.2.2.2.2.2.2.2.2.2.2.2.2.2.2.2.2.2.2.2.2.2.2.2.2.2.2.2.2.2.2.2.2.2.2.1) (fun w z => hts w (hat104 w z)) (by decide +kernel) (hSt.2.2.2.2.2.2.2.2.2.2.2.2.2.2.2.2.2.2.2.2.2.2.2.2.2.2.2.2.2.1) (by decide +kernel) hSt hK hH (by rw [hml]; exact hl.1) dX10_call_20 dX10_call_23 dX10_call_24 dX10_call_26 dX10_call_29 htab (show 6 ≤ (6 : Nat) from Nat.le_of_ble_eq_true rfl) (show _ ≤ (150 : Nat) from by first | exact Nat.le_of_ble_eq_true rfl | simp [va_rf_cat, cat_ref, cat_int, cat_long, cat_double, cat_null]) (Nat.le_of_ble_eq_true rfl) (Nat.le_of_ble_eq_true rfl) (Nat.le_of_ble_eq_true rfl) (Nat.le_of_ble_eq_true rfl) hlocks hw
  clear hP
  unfold fc_X10_call at hw
  have hst : ∀ (M : CM) (H : Heap) (locs : List Loc) (ls : Array Slot), cH D kA A s.heap T M H locs → lv_has ls 9 [(0, .ref h), (1, .int a1), (2, .int a2)] → (tg T h = 11 ∧ fc_X10_operationAt T h a1 M (fun (r19 : Option Nat) (M18 : CM) => ((r19 = none → fc_X10_call_b20 nm T X h Q   M18) ∧ (¬ r19 = none → ((a2 < 0 → fc_X10_call_b20 nm T X h Q   M18) ∧ (¬ a2 < 0 → ((a2 ≤ 8 → (∃ p24 : Nat, r19 = some p24 ∧ (tg T p24 = 6 ∧ fc_X5_mostArguments T p24 M18 (fun (r27 : Int32) (M26 : CM) => (∀ x29 : Int32, x29 = (if r27 < a2 then r27 else a2) → fc_X5_gather T p24 x29 none M26 (fun (M30 : CM) => fc_X5_ableAt T p24 0 M30 (fun (r34 : Option Nat) (M33 : CM) => ((¬ r34 = none → fc_X5_decidingFor nm T p24 x29 M33 (fun (r38 : Int32) (M37 : CM) => (∀ x40 : Int32, x40 = (if r38 < 0 then 0 else r38) → fc_X10_convertSlots nm T h r34 0 x40 M37 (fun (r42 : Int32) (M41 : CM) => ((r42 = (-1) → ((r38 = (-1) → fc_X10_call_b128 nm T X h Q  x29 r34 r38 x40 M41) ∧ (¬ r38 = (-1) → fc_X10_thingAt T (cR M41 103 h) r38 M41 (fun (r47 : Option Nat) (M46 : CM) => fc_X5_choose nm T p24 r38 r47 M46 (fun (r50 : Option Nat) (M49 : CM) => fc_X10_call_b128 nm T X h Q  x29 r50 r38 x40 M49))))) ∧ (¬ r42 = (-1) → fc_X10_refuseAt T h r42 M41 (fun (r53 : Int32) (M52 : CM) => Q r53 M52))))))) ∧ (r34 = none → fc_X10_refuseAt T h a2 M33 (fun (r56 : Int32) (M55 : CM) => Q r56 M55)))))))))) ∧ (¬ a2 ≤ 8 → fc_X10_call_b20 nm T X h Q   M18)))))))) → W p l e (headSpec wsX10_call rmX10_call).room s m args below meth c H locs 0 0 (vx_MQ below (va_Qi Q (cB D kA A T) A) (vx_X (fun (u : Nat × CM) => X u.1 u.2) (cBX D kA A T) A) args s 1 6 A) (F0 m 0 ls []) := by
    intro M H locs ls hH hl hw
    refine lv_aload_n hx hb dX10_call_0 rfl (lv_at hl 0 rfl) ?_
    refine lv_iload_n hx hb dX10_call_1 rfl (lv_at hl 1 rfl) ?_
    obtain ⟨h17, hw⟩ := hw
    refine c_callq (va_runV (As := [.int a1]) (rest := []) ⟨hx, hb, hml, hown, hts⟩ (tc_X10_operationAt l D kA nm na sa sv H.size T h a1 M _ hw) (cwV 1 hts gX10_call_X10_operationAt rfl rfl rfl (by decide +kernel) ⟨(show (0 : Nat) + 1 ≤ 6 from Nat.le_of_ble_eq_true rfl), (show 8 + (2 + 11) + (0 : Nat) ≤ 150 from Nat.le_of_ble_eq_true rfl)⟩) (c_preV hK hH hA hSt (c_recv10 hK hH h17)) rfl rfl hl.1 rfl (lv_room (by first | exact Nat.le_of_ble_eq_true rfl | simp [va_rf_cat, cat_ref, cat_int, cat_long, cat_double, cat_null])) dX10_call_2 ⟨Nat.le_of_ble_eq_true rfl, Nat.le_of_ble_eq_true rfl⟩) hH hA (fun r19 M18 H locs hw hH => ?_)
    refine s_astore_n (i := 3) (lv' := [(3, va_rf r19), (0, .ref h), (1, .int a1), (2, .int a2)]) hx hb dX10_call_5 rfl hl (by decide) (by first | rfl | simp [va_rf_cat, cat_ref, cat_int, cat_long, cat_double, cat_null]) (fun ls hl => ?_)
    refine s_aload_n hx hb dX10_call_6 rfl (lv_at hl 0 rfl) ?_
    refine s_ifnull (tgt := 20) hx hb dX10_call_7 (by decide) (fun c21 => ?_) (fun c21 => ?_)
    · replace hw := hw.1 c21
      exact b20    M18 H locs ls hH (lv_sub hl [] rfl) hw
    · replace hw := hw.2 c21
      refine lv_iload_n hx hb dX10_call_10 rfl (lv_at hl 3 rfl) ?_
      refine lv_if_lt (tgt := 20) hx hb dX10_call_11 (by decide) (fun c22 => ?_) (fun c22 => ?_)
      · replace hw := hw.1 c22
        exact b20    M18 H locs ls hH (lv_sub hl [] rfl) hw
      · replace hw := hw.2 c22
        refine lv_iload_n hx hb dX10_call_14 rfl (lv_at hl 3 rfl) ?_
        refine lv_bipush (v := 8) hx hb dX10_call_15 (by decide) ?_
        refine lv_icmp_le (tgt := 30) hx hb dX10_call_17 (by decide) (fun c23 => ?_) (fun c23 => ?_)
        · replace hw := hw.1 c23
          refine lv_iload_n hx hb dX10_call_30 rfl (lv_at hl 3 rfl) ?_
          refine s_aload_n hx hb dX10_call_31 rfl (lv_at hl 0 rfl) ?_
          obtain ⟨p24, ep24, hw⟩ := hw
          refine W.st (st' := [.ref p24, .int a2]) (by rw [ep24]; rfl) ?_
          obtain ⟨h25, hw⟩ := hw
          refine c_calli (va_runV (As := []) (rest := [.int a2]) ⟨hx, hb, hml, hown, hts⟩ (tc_X5_mostArguments l D kA nm na sa sv H.size T p24 M18 _ hw) (cwV 0 hts gX10_call_X5_mostArguments rfl rfl rfl (by decide +kernel) ⟨(show (1 : Nat) + 1 ≤ 6 from Nat.le_of_ble_eq_true rfl), (show 8 + (4 + 11) + (21 : Nat) ≤ 150 from Nat.le_of_ble_eq_true rfl)⟩) (c_preV hK hH hA hSt (c_recv5 hK hH h25)) rfl rfl hl.1 rfl (lv_room (by first | exact Nat.le_of_ble_eq_true rfl | simp [va_rf_cat, cat_ref, cat_int, cat_long, cat_double, cat_null])) dX10_call_32 ⟨Nat.le_of_ble_eq_true rfl, Nat.le_of_ble_eq_true rfl⟩) hH hA (fun r27 M26 H locs hw hH => ?_)
          refine va_mmin hx hb (by rw [hml]; exact hl.1.symm) hown (hts (.methodLink RX10 186 Lib.Math.min.name) (by decide +kernel)) (hts (.static Lib.Math.min.name) (by decide +kernel)) (hts (.initialized "java/lang/Math") (by decide +kernel)) (hts (.code Lib.Math.min.name Lib.Math.min.code 2 (some .int)) (by decide +kernel)) ((show _ ≤ (6 : Nat) from by first | exact Nat.le_of_ble_eq_true rfl | simp [va_rf_cat, cat_ref, cat_int, cat_long, cat_double, cat_null])) ((show _ ≤ (150 : Nat) from by first | exact Nat.le_of_ble_eq_true rfl | simp [va_rf_cat, cat_ref, cat_int, cat_long, cat_double, cat_null])) (Nat.le_of_ble_eq_true rfl) (Nat.le_of_ble_eq_true rfl) dX10_call_35 ?_
          refine lv_topi (fun x29 ex29 => ?_)
          replace hw := hw x29 ex29
          refine lv_istore (i := 4) (lv' := [(4, .int x29), (3, va_rf r19), (0, .ref h), (1, .int a1), (2, .int a2)]) hx hb dX10_call_38 hl (by decide) (by first | rfl | simp [va_rf_cat, cat_ref, cat_int, cat_long, cat_double, cat_null]) (fun ls hl => ?_)
          refine s_aload_n hx hb dX10_call_40 rfl (lv_at hl 1 rfl) ?_
          refine lv_iload hx hb dX10_call_41 (lv_at hl 0 rfl) ?_
          refine lv_null hx hb dX10_call_43 ?_
          refine W.st (st' := [.null, .int x29, .ref p24]) (by rw [ep24]; rfl) ?_
          refine c_callv (va_runV (As := [.int x29, va_rf none]) (rest := []) ⟨hx, hb, hml, hown, hts⟩ (tc_X5_gather l D kA nm na sa sv H.size T p24 x29 none M26 _ hw) (cwV 2 hts gX10_call_X5_gather rfl rfl rfl (by decide +kernel) ⟨(show (5 : Nat) + 1 ≤ 6 from Nat.le_of_ble_eq_true rfl), (show 8 + (4 + 11) + (100 : Nat) ≤ 150 from Nat.le_of_ble_eq_true rfl)⟩) (c_preV hK hH hA hSt (c_recv5 hK hH h25)) rfl rfl hl.1 rfl (lv_room (by first | exact Nat.le_of_ble_eq_true rfl | simp [va_rf_cat, cat_ref, cat_int, cat_long, cat_double, cat_null])) dX10_call_44 ⟨Nat.le_of_ble_eq_true rfl, Nat.le_of_ble_eq_true rfl⟩) hH hA (fun M30 H locs hw hH => ?_)
          refine s_aload_n hx hb dX10_call_47 rfl (lv_at hl 1 rfl) ?_
          refine lv_iconst (v := 0) hx hb dX10_call_48 (by decide) ?_
          refine W.st (st' := [.int 0, .ref p24]) (by rw [ep24]; rfl) ?_
          refine c_callq (va_runV (As := [.int 0]) (rest := []) ⟨hx, hb, hml, hown, hts⟩ (tc_X5_ableAt l D kA nm na sa sv H.size T p24 0 M30 _ hw) (cwV 1 hts gX10_call_X5_ableAt rfl rfl rfl (by decide +kernel) ⟨(show (0 : Nat) + 1 ≤ 6 from Nat.le_of_ble_eq_true rfl), (show 8 + (2 + 11) + (0 : Nat) ≤ 150 from Nat.le_of_ble_eq_true rfl)⟩) (c_preV hK hH hA hSt (c_recv5 hK hH h25)) rfl rfl hl.1 rfl (lv_room (by first | exact Nat.le_of_ble_eq_true rfl | simp [va_rf_cat, cat_ref, cat_int, cat_long, cat_double, cat_null])) dX10_call_49 ⟨Nat.le_of_ble_eq_true rfl, Nat.le_of_ble_eq_true rfl⟩) hH hA (fun r34 M33 H locs hw hH => ?_)
          refine s_astore (i := 5) (lv' := [(5, va_rf r34), (4, .int x29), (3, va_rf r19), (0, .ref h), (1, .int a1), (2, .int a2)]) hx hb dX10_call_52 hl (by decide) (by first | rfl | simp [va_rf_cat, cat_ref, cat_int, cat_long, cat_double, cat_null]) (fun ls hl => ?_)
          refine s_aload hx hb dX10_call_54 (lv_at hl 0 rfl) ?_
          refine s_ifnonnull (tgt := 65) hx hb dX10_call_56 (by decide) (fun c36 => ?_) (fun c36 => ?_)
          · replace hw := hw.1 c36
            refine s_aload_n hx hb dX10_call_65 rfl (lv_at hl 2 rfl) ?_
            refine lv_iload hx hb dX10_call_66 (lv_at hl 1 rfl) ?_
            refine W.st (st' := [.int x29, .ref p24]) (by rw [ep24]; rfl) ?_
            refine c_calli (va_runV (As := [.int x29]) (rest := []) ⟨hx, hb, hml, hown, hts⟩ (tc_X5_decidingFor l D kA nm na sa sv H.size T p24 x29 M33 _ hw) (cwV 1 hts gX10_call_X5_decidingFor rfl rfl rfl (by decide +kernel) ⟨(show (5 : Nat) + 1 ≤ 6 from Nat.le_of_ble_eq_true rfl), (show 8 + (3 + 11) + (109 : Nat) ≤ 150 from Nat.le_of_ble_eq_true rfl)⟩) (c_preV hK hH hA hSt (c_recv5 hK hH h25)) rfl rfl hl.1 rfl (lv_room (by first | exact Nat.le_of_ble_eq_true rfl | simp [va_rf_cat, cat_ref, cat_int, cat_long, cat_double, cat_null])) dX10_call_68 ⟨Nat.le_of_ble_eq_true rfl, Nat.le_of_ble_eq_true rfl⟩) hH hA (fun r38 M37 H locs hw hH => ?_)
            refine lv_istore (i := 6) (lv' := [(6, .int r38), (5, va_rf r34), (4, .int x29), (3, va_rf r19), (0, .ref h), (1, .int a1), (2, .int a2)]) hx hb dX10_call_71 hl (by decide) (by first | rfl | simp [va_rf_cat, cat_ref, cat_int, cat_long, cat_double, cat_null]) (fun ls hl => ?_)
            refine lv_iload hx hb dX10_call_73 (lv_at hl 0 rfl) ?_
            refine lv_iconst (v := 0) hx hb dX10_call_75 (by decide) ?_
            refine va_mmax hx hb (by rw [hml]; exact hl.1.symm) hown (hts (.methodLink RX10 206 Lib.Math.max.name) (by decide +kernel)) (hts (.static Lib.Math.max.name) (by decide +kernel)) (hts (.initialized "java/lang/Math") (by decide +kernel)) (hts (.code Lib.Math.max.name Lib.Math.max.code 2 (some .int)) (by decide +kernel)) ((show _ ≤ (6 : Nat) from by first | exact Nat.le_of_ble_eq_true rfl | simp [va_rf_cat, cat_ref, cat_int, cat_long, cat_double, cat_null])) ((show _ ≤ (150 : Nat) from by first | exact Nat.le_of_ble_eq_true rfl | simp [va_rf_cat, cat_ref, cat_int, cat_long, cat_double, cat_null])) (Nat.le_of_ble_eq_true rfl) (Nat.le_of_ble_eq_true rfl) dX10_call_76 ?_
            refine lv_topi (fun x40 ex40 => ?_)
            replace hw := hw x40 ex40
            refine lv_istore (i := 7) (lv' := [(7, .int x40), (6, .int r38), (5, va_rf r34), (4, .int x29), (3, va_rf r19), (0, .ref h), (1, .int a1), (2, .int a2)]) hx hb dX10_call_79 hl (by decide) (by first | rfl | simp [va_rf_cat, cat_ref, cat_int, cat_long, cat_double, cat_null]) (fun ls hl => ?_)
            refine lv_aload_n hx hb dX10_call_81 rfl (lv_at hl 5 rfl) ?_
            refine s_aload hx hb dX10_call_82 (lv_at hl 2 rfl) ?_
            refine lv_iconst (v := 0) hx hb dX10_call_84 (by decide) ?_
            refine lv_iload hx hb dX10_call_85 (lv_at hl 0 rfl) ?_
            refine c_calli (va_runV (As := [va_rf r34, .int 0, .int x40]) (rest := []) ⟨hx, hb, hml, hown, hts⟩ (tc_X10_convertSlots l D kA nm na sa sv H.size T h r34 0 x40 M37 _ hw) (cwV 3 hts gX10_call_X10_convertSlots rfl rfl rfl (by decide +kernel) ⟨(show (5 : Nat) + 1 ≤ 6 from Nat.le_of_ble_eq_true rfl), (show 8 + (8 + 11) + (123 : Nat) ≤ 150 from Nat.le_of_ble_eq_true rfl)⟩) (c_preV hK hH hA hSt (c_recv10 hK hH h17)) rfl rfl hl.1 rfl (lv_room (by first | exact Nat.le_of_ble_eq_true rfl | simp [va_rf_cat, cat_ref, cat_int, cat_long, cat_double, cat_null])) dX10_call_87 ⟨Nat.le_of_ble_eq_true rfl, Nat.le_of_ble_eq_true rfl⟩) hH hA (fun r42 M41 H locs hw hH => ?_)
            refine lv_istore (i := 8) (lv' := [(8, .int r42), (7, .int x40), (6, .int r38), (5, va_rf r34), (4, .int x29), (3, va_rf r19), (0, .ref h), (1, .int a1), (2, .int a2)]) hx hb dX10_call_90 hl (by decide) (by first | rfl | simp [va_rf_cat, cat_ref, cat_int, cat_long, cat_double, cat_null]) (fun ls hl => ?_)
            refine lv_iload hx hb dX10_call_92 (lv_at hl 0 rfl) ?_
            refine lv_iconst (v := (-1)) hx hb dX10_call_94 (by decide) ?_
            refine lv_icmp_eq (tgt := 105) hx hb dX10_call_95 (by decide) (fun c44 => ?_) (fun c44 => ?_)
            · replace hw := hw.1 c44
              refine lv_iload hx hb dX10_call_105 (lv_at hl 2 rfl) ?_
              refine lv_iconst (v := (-1)) hx hb dX10_call_107 (by decide) ?_
              refine lv_icmp_eq (tgt := 128) hx hb dX10_call_108 (by decide) (fun c45 => ?_) (fun c45 => ?_)
              · replace hw := hw.1 c45
                exact b128   x29 r34 r38 x40 M41 H locs ls hH (lv_sub hl [6, 4, 3, 2, 1] rfl) hw
              · replace hw := hw.2 c45
                refine s_aload_n hx hb dX10_call_111 rfl (lv_at hl 5 rfl) ?_
                refine lv_iload hx hb dX10_call_112 (lv_at hl 2 rfl) ?_
                refine lv_aload_n hx hb dX10_call_114 rfl (lv_at hl 6 rfl) ?_
                refine cg_103 hx hb hts hin10 hown hK hH h17 (hts (.fieldLink RX10 35 "IdlCaller" "slots" "[LIdlCaller$Thing;") (by decide +kernel)) dX10_call_115 ?_
                refine lv_iload hx hb dX10_call_118 (lv_at hl 2 rfl) ?_
                refine c_callq (va_runS (As := [va_rf (cR M41 103 h), .int r38]) (rest := [.int r38, va_rf r19]) ⟨hx, hb, hml, hown, hts⟩ (tc_X10_thingAt l D kA nm na sa sv H.size T (cR M41 103 h) r38 M41 _ hw) (va_cwS 2 hts gX10_call_X10_thingAt rfl rfl rfl (by decide +kernel) ⟨(show (0 : Nat) + 1 ≤ 6 from Nat.le_of_ble_eq_true rfl), (show 8 + (2 + 11) + (0 : Nat) ≤ 150 from Nat.le_of_ble_eq_true rfl)⟩) (c_preS hK hH hA hSt) rfl rfl hl.1 rfl (lv_room (by first | exact Nat.le_of_ble_eq_true rfl | simp [va_rf_cat, cat_ref, cat_int, cat_long, cat_double, cat_null])) dX10_call_120 ⟨Nat.le_of_ble_eq_true rfl, Nat.le_of_ble_eq_true rfl⟩) hH hA (fun r47 M46 H locs hw hH => ?_)
                refine W.st (st' := [va_rf r47, .int r38, .ref p24]) (by rw [ep24]; rfl) ?_
                refine c_callq (va_runV (As := [.int r38, va_rf r47]) (rest := []) ⟨hx, hb, hml, hown, hts⟩ (tc_X5_choose l D kA nm na sa sv H.size T p24 r38 r47 M46 _ hw) (cwV 2 hts gX10_call_X5_choose rfl rfl rfl (by decide +kernel) ⟨(show (5 : Nat) + 1 ≤ 6 from Nat.le_of_ble_eq_true rfl), (show 8 + (4 + 11) + (105 : Nat) ≤ 150 from Nat.le_of_ble_eq_true rfl)⟩) (c_preV hK hH hA hSt (c_recv5 hK hH h25)) rfl rfl hl.1 rfl (lv_room (by first | exact Nat.le_of_ble_eq_true rfl | simp [va_rf_cat, cat_ref, cat_int, cat_long, cat_double, cat_null])) dX10_call_123 ⟨Nat.le_of_ble_eq_true rfl, Nat.le_of_ble_eq_true rfl⟩) hH hA (fun r50 M49 H locs hw hH => ?_)
                refine s_astore (i := 5) (lv' := [(5, va_rf r50), (8, .int r42), (7, .int x40), (6, .int r38), (4, .int x29), (3, va_rf r19), (0, .ref h), (1, .int a1), (2, .int a2)]) hx hb dX10_call_126 hl (by decide) (by first | rfl | simp [va_rf_cat, cat_ref, cat_int, cat_long, cat_double, cat_null]) (fun ls hl => ?_)
                exact b128   x29 r50 r38 x40 M49 H locs ls hH (lv_sub hl [6, 4, 0, 3, 2] rfl) hw
            · replace hw := hw.2 c44
              refine lv_aload_n hx hb dX10_call_98 rfl (lv_at hl 6 rfl) ?_
              refine lv_iload hx hb dX10_call_99 (lv_at hl 0 rfl) ?_
              refine c_calli (va_runV (As := [.int r42]) (rest := []) ⟨hx, hb, hml, hown, hts⟩ (tc_X10_refuseAt l D kA nm na sa sv H.size T h r42 M41 _ hw) (cwV 1 hts gX10_call_X10_refuseAt rfl rfl rfl (by decide +kernel) ⟨(show (0 : Nat) + 1 ≤ 6 from Nat.le_of_ble_eq_true rfl), (show 8 + (2 + 11) + (0 : Nat) ≤ 150 from Nat.le_of_ble_eq_true rfl)⟩) (c_preV hK hH hA hSt (c_recv10 hK hH h17)) rfl rfl hl.1 rfl (lv_room (by first | exact Nat.le_of_ble_eq_true rfl | simp [va_rf_cat, cat_ref, cat_int, cat_long, cat_double, cat_null])) dX10_call_101 ⟨Nat.le_of_ble_eq_true rfl, Nat.le_of_ble_eq_true rfl⟩) hH hA (fun r53 M52 H locs hw hH => ?_)
              exact vx_ret (W.widen (k := 1) (n := 6) (Nat.le_of_ble_eq_true rfl) (Nat.le_of_ble_eq_true rfl) (c_reti hx hb hr hlocks hK hH hw dX10_call_104))
          · replace hw := hw.2 c36
            refine lv_aload_n hx hb dX10_call_59 rfl (lv_at hl 3 rfl) ?_
            refine lv_iload_n hx hb dX10_call_60 rfl (lv_at hl 5 rfl) ?_
            refine c_calli (va_runV (As := [.int a2]) (rest := []) ⟨hx, hb, hml, hown, hts⟩ (tc_X10_refuseAt l D kA nm na sa sv H.size T h a2 M33 _ hw) (cwV 1 hts gX10_call_X10_refuseAt rfl rfl rfl (by decide +kernel) ⟨(show (0 : Nat) + 1 ≤ 6 from Nat.le_of_ble_eq_true rfl), (show 8 + (2 + 11) + (0 : Nat) ≤ 150 from Nat.le_of_ble_eq_true rfl)⟩) (c_preV hK hH hA hSt (c_recv10 hK hH h17)) rfl rfl hl.1 rfl (lv_room (by first | exact Nat.le_of_ble_eq_true rfl | simp [va_rf_cat, cat_ref, cat_int, cat_long, cat_double, cat_null])) dX10_call_61 ⟨Nat.le_of_ble_eq_true rfl, Nat.le_of_ble_eq_true rfl⟩) hH hA (fun r56 M55 H locs hw hH => ?_)
            exact vx_ret (W.widen (k := 1) (n := 6) (Nat.le_of_ble_eq_true rfl) (Nat.le_of_ble_eq_true rfl) (c_reti hx hb hr hlocks hK hH hw dX10_call_64))
        · replace hw := hw.2 c23
          exact b20    M18 H locs ls hH (lv_sub hl [] rfl) hw
  exact hst M s.heap [] ls hH hl hw
def fc_X10_operation_b20 (nm : Nat → Nat) (T : LY) (X : Nat → CM → Prop) (h : Nat) (Q : Int32 → CM → Prop) (M : CM) : Prop := X 1 M
def fc_X10_operation (nm : Nat → Nat) (T : LY) (X : Nat → CM → Prop) (h : Nat)  (a1 : Int32) (a2 : Int32) (M : CM) (Q : Int32 → CM → Prop) : Prop := (tg T h = 11 ∧ fc_X10_operationAt T h a1 M (fun (r3 : Option Nat) (M2 : CM) => ((r3 = none → fc_X10_operation_b20 nm T X h Q   M2) ∧ (¬ r3 = none → ((a2 < 0 → fc_X10_operation_b20 nm T X h Q   M2) ∧ (¬ a2 < 0 → ((a2 ≤ 11 → ((¬ a2 = 0 → ((¬ a2 = 1 → ((¬ a2 = 2 → (∃ p11 : Nat, r3 = some p11 ∧ (tg T p11 = 6 ∧ fc_X5_gather T p11 (a2 - 3) none M2 (fun (M13 : CM) => fc_X5_decidingFor nm T p11 (a2 - 3) M13 (fun (r17 : Int32) (M16 : CM) => Q r17 M16))))) ∧ (a2 = 2 → (∃ p19 : Nat, r3 = some p19 ∧ (tg T p19 = 6 ∧ fc_X5_leastArguments T p19 M2 (fun (r22 : Int32) (M21 : CM) => Q r22 M21)))))) ∧ (a2 = 1 → (∃ p24 : Nat, r3 = some p24 ∧ (tg T p24 = 6 ∧ fc_X5_mostArguments T p24 M2 (fun (r27 : Int32) (M26 : CM) => Q r27 M26)))))) ∧ (a2 = 0 → (∃ p29 : Nat, r3 = some p29 ∧ (tg T p29 = 6 ∧ Q (cI M2 51 p29) M2))))) ∧ (¬ a2 ≤ 11 → fc_X10_operation_b20 nm T X h Q   M2))))))))
abbrev rmX10_operation : Room := { frames := 6, cells := 1, slots := 6, locals := 131 }
set_option maxHeartbeats 4000000 in
set_option maxRecDepth 100000 in
theorem tc_X10_operation (l : Launch) (hst0 : l.stackTraces = false) (D : va_G) (kA : Nat → ClassId) (nm : Nat → Nat) (na : Nat) (sa sv : Nat → Nat) (sz : Nat) (T : LY) (X : Nat → CM → Prop) (h : Nat) (a1 : Int32) (a2 : Int32) (M : CM) (Q : Int32 → CM → Prop) (hw : fc_X10_operation nm T X h a1 a2 M Q) : vx_Met l yX10_operation wsX10_operation rmX10_operation (va_Pc [.ref h, .int a1, .int a2] (cPc nm na sa sv D kA T M sz)) (va_Qi Q (cB D kA (cF T sz) T) (cF T sz)) (vx_X (fun (u : Nat × CM) => X u.1 u.2) (cBX D kA (cF T sz) T) (cF T sz)) 1 6 (cF T sz) := by
  refine vx_ofW (cc := cX10_operation) (maxL := 4) (ret := (some .int)) (by decide) rfl ?_
  intro p e s m args below meth c s₁ B hml htab hv
  obtain ⟨rfl, hsz, hP, hK, hSt⟩ := hv
  have hx := B.exec
  have hb := B.bytes
  have hr := B.returns
  have hts := atoms_spec (ws := wsX10_operation) B.pre
  have hown : s.vm.findClass RX10 = some m.cls := findClass_of_methodNamed B.named
  have hlocks : meth.locks = false := B.notSynchronized
  subst hsz
  have hH : cH D kA (cF T s.heap.size) s.heap T M s.heap [] := ⟨hP.self, va_S.rf⟩
  have hA : ∀ q : Nat, s.heap.size ≤ q → cF T s.heap.size q := fun q z => Or.inr z
  generalize cF T s.heap.size = A at hH hA hSt ⊢
  have hl := lv_entry ([.ref h, .int a1, .int a2]) (n := 4) (by first | exact Nat.le_of_ble_eq_true rfl | simp [lg_sl, va_rf_cat, cat_ref, cat_int, cat_long, cat_double])
  rw [lg_entry_eq]
  generalize (lg_sl ([.ref h, .int a1, .int a2]) ++ List.replicate (4 - (lg_sl ([.ref h, .int a1, .int a2])).length) Slot.unset).toArray = ls at hl ⊢
  generalize ([.ref h, .int a1, .int a2] : List Value).toArray = args at hts ⊢
  have hl : lv_has ls 4 [(0, .ref h), (1, .int a1), (2, .int a2)] := hl
  have hin5 : ∀ w ∈ wsX50, w ∈ wsX10_operation := by decide +kernel
  have hat104 : ∀ w ∈ (vx_atS RX10 104 (exN 1) exS).filter goodWord, w ∈ wsX10_operation := by decide +kernel
  have b20 : ∀ (M : CM) (H : Heap) (locs : List Loc) (ls : Array Slot), cH D kA A s.heap T M H locs → lv_has ls 4 [] → fc_X10_operation_b20 nm T X h Q   M → W p l e (headSpec wsX10_operation rmX10_operation).room s m args below meth c H locs 0 0 (vx_MQ below (va_Qi Q (cB D kA A T) A) (vx_X (fun (u : Nat × CM) => X u.1 u.2) (cBX D kA A T) A) args s 1 6 A) (F0 m 20 ls []) := by
    intro    M H locs ls hH hl hw
    unfold fc_X10_operation_b20 at hw
    exact c_throw (k := 1) (ik := 100) (is := 221) (ic := 104) hx hb hst0 hown (by decide +kernel) (hts (.classLink RX10 100 "java/lang/IllegalArgumentException") (by decide +kernel)) (hts (.initialized "java/lang/IllegalArgumentException") (by decide +kernel)) (hSt.2.2.2.2.2.2.2.2.2.2.2.2.2.2.2.2.2.2.2.2.2.2.2.2.2.2.2.2.2.2.2.2.2.2.2.2.2.2.2.2.2.2.2) (fun w z => hts w (hat104 w z)) (by decide +kernel) (hSt.2.2.2.2.2.2.2.2.2.2.2.2.2.2.2.2.2.2.2.2.2.2.2.2.2.2.2.2.2.1) (by decide +kernel) hSt hK hH (by rw [hml]; exact hl.1) dX10_operation_20 dX10_operation_23 dX10_operation_24 dX10_operation_26 dX10_operation_29 htab (show 6 ≤ (6 : Nat) from Nat.le_of_ble_eq_true rfl) (show _ ≤ (131 : Nat) from by first | exact Nat.le_of_ble_eq_true rfl | simp [va_rf_cat, cat_ref, cat_int, cat_long, cat_double, cat_null]) (Nat.le_of_ble_eq_true rfl) (Nat.le_of_ble_eq_true rfl) (Nat.le_of_ble_eq_true rfl) (Nat.le_of_ble_eq_true rfl) hlocks hw
  clear hP
  unfold fc_X10_operation at hw
  have hst : ∀ (M : CM) (H : Heap) (locs : List Loc) (ls : Array Slot), cH D kA A s.heap T M H locs → lv_has ls 4 [(0, .ref h), (1, .int a1), (2, .int a2)] → (tg T h = 11 ∧ fc_X10_operationAt T h a1 M (fun (r3 : Option Nat) (M2 : CM) => ((r3 = none → fc_X10_operation_b20 nm T X h Q   M2) ∧ (¬ r3 = none → ((a2 < 0 → fc_X10_operation_b20 nm T X h Q   M2) ∧ (¬ a2 < 0 → ((a2 ≤ 11 → ((¬ a2 = 0 → ((¬ a2 = 1 → ((¬ a2 = 2 → (∃ p11 : Nat, r3 = some p11 ∧ (tg T p11 = 6 ∧ fc_X5_gather T p11 (a2 - 3) none M2 (fun (M13 : CM) => fc_X5_decidingFor nm T p11 (a2 - 3) M13 (fun (r17 : Int32) (M16 : CM) => Q r17 M16))))) ∧ (a2 = 2 → (∃ p19 : Nat, r3 = some p19 ∧ (tg T p19 = 6 ∧ fc_X5_leastArguments T p19 M2 (fun (r22 : Int32) (M21 : CM) => Q r22 M21)))))) ∧ (a2 = 1 → (∃ p24 : Nat, r3 = some p24 ∧ (tg T p24 = 6 ∧ fc_X5_mostArguments T p24 M2 (fun (r27 : Int32) (M26 : CM) => Q r27 M26)))))) ∧ (a2 = 0 → (∃ p29 : Nat, r3 = some p29 ∧ (tg T p29 = 6 ∧ Q (cI M2 51 p29) M2))))) ∧ (¬ a2 ≤ 11 → fc_X10_operation_b20 nm T X h Q   M2)))))))) → W p l e (headSpec wsX10_operation rmX10_operation).room s m args below meth c H locs 0 0 (vx_MQ below (va_Qi Q (cB D kA A T) A) (vx_X (fun (u : Nat × CM) => X u.1 u.2) (cBX D kA A T) A) args s 1 6 A) (F0 m 0 ls []) := by
    intro M H locs ls hH hl hw
    refine lv_aload_n hx hb dX10_operation_0 rfl (lv_at hl 0 rfl) ?_
    refine lv_iload_n hx hb dX10_operation_1 rfl (lv_at hl 1 rfl) ?_
    obtain ⟨h1, hw⟩ := hw
    refine c_callq (va_runV (As := [.int a1]) (rest := []) ⟨hx, hb, hml, hown, hts⟩ (tc_X10_operationAt l D kA nm na sa sv H.size T h a1 M _ hw) (cwV 1 hts gX10_operation_X10_operationAt rfl rfl rfl (by decide +kernel) ⟨(show (0 : Nat) + 1 ≤ 6 from Nat.le_of_ble_eq_true rfl), (show 8 + (2 + 11) + (0 : Nat) ≤ 131 from Nat.le_of_ble_eq_true rfl)⟩) (c_preV hK hH hA hSt (c_recv10 hK hH h1)) rfl rfl hl.1 rfl (lv_room (by first | exact Nat.le_of_ble_eq_true rfl | simp [va_rf_cat, cat_ref, cat_int, cat_long, cat_double, cat_null])) dX10_operation_2 ⟨Nat.le_of_ble_eq_true rfl, Nat.le_of_ble_eq_true rfl⟩) hH hA (fun r3 M2 H locs hw hH => ?_)
    refine s_astore_n (i := 3) (lv' := [(3, va_rf r3), (0, .ref h), (1, .int a1), (2, .int a2)]) hx hb dX10_operation_5 rfl hl (by decide) (by first | rfl | simp [va_rf_cat, cat_ref, cat_int, cat_long, cat_double, cat_null]) (fun ls hl => ?_)
    refine s_aload_n hx hb dX10_operation_6 rfl (lv_at hl 0 rfl) ?_
    refine s_ifnull (tgt := 20) hx hb dX10_operation_7 (by decide) (fun c5 => ?_) (fun c5 => ?_)
    · replace hw := hw.1 c5
      exact b20    M2 H locs ls hH (lv_sub hl [] rfl) hw
    · replace hw := hw.2 c5
      refine lv_iload_n hx hb dX10_operation_10 rfl (lv_at hl 3 rfl) ?_
      refine lv_if_lt (tgt := 20) hx hb dX10_operation_11 (by decide) (fun c6 => ?_) (fun c6 => ?_)
      · replace hw := hw.1 c6
        exact b20    M2 H locs ls hH (lv_sub hl [] rfl) hw
      · replace hw := hw.2 c6
        refine lv_iload_n hx hb dX10_operation_14 rfl (lv_at hl 3 rfl) ?_
        refine lv_bipush (v := 11) hx hb dX10_operation_15 (by decide) ?_
        refine lv_icmp_le (tgt := 30) hx hb dX10_operation_17 (by decide) (fun c7 => ?_) (fun c7 => ?_)
        · replace hw := hw.1 c7
          refine lv_iload_n hx hb dX10_operation_30 rfl (lv_at hl 3 rfl) ?_
          refine lv_if_ne (tgt := 39) hx hb dX10_operation_31 (by decide) (fun c8 => ?_) (fun c8 => ?_)
          · replace hw := hw.1 c8
            refine lv_iload_n hx hb dX10_operation_39 rfl (lv_at hl 3 rfl) ?_
            refine lv_iconst (v := 1) hx hb dX10_operation_40 (by decide) ?_
            refine lv_icmp_ne (tgt := 49) hx hb dX10_operation_41 (by decide) (fun c9 => ?_) (fun c9 => ?_)
            · replace hw := hw.1 c9
              refine lv_iload_n hx hb dX10_operation_49 rfl (lv_at hl 3 rfl) ?_
              refine lv_iconst (v := 2) hx hb dX10_operation_50 (by decide) ?_
              refine lv_icmp_ne (tgt := 59) hx hb dX10_operation_51 (by decide) (fun c10 => ?_) (fun c10 => ?_)
              · replace hw := hw.1 c10
                refine s_aload_n hx hb dX10_operation_59 rfl (lv_at hl 0 rfl) ?_
                refine lv_iload_n hx hb dX10_operation_60 rfl (lv_at hl 3 rfl) ?_
                refine lv_iconst (v := 3) hx hb dX10_operation_61 (by decide) ?_
                refine lv_isub hx hb dX10_operation_62 ?_
                refine lv_null hx hb dX10_operation_63 ?_
                obtain ⟨p11, ep11, hw⟩ := hw
                refine W.st (st' := [.null, .int (a2 - 3), .ref p11]) (by rw [ep11]; rfl) ?_
                obtain ⟨h12, hw⟩ := hw
                refine c_callv (va_runV (As := [.int (a2 - 3), va_rf none]) (rest := []) ⟨hx, hb, hml, hown, hts⟩ (tc_X5_gather l D kA nm na sa sv H.size T p11 (a2 - 3) none M2 _ hw) (cwV 2 hts gX10_operation_X5_gather rfl rfl rfl (by decide +kernel) ⟨(show (5 : Nat) + 1 ≤ 6 from Nat.le_of_ble_eq_true rfl), (show 8 + (4 + 11) + (100 : Nat) ≤ 131 from Nat.le_of_ble_eq_true rfl)⟩) (c_preV hK hH hA hSt (c_recv5 hK hH h12)) rfl rfl hl.1 rfl (lv_room (by first | exact Nat.le_of_ble_eq_true rfl | simp [va_rf_cat, cat_ref, cat_int, cat_long, cat_double, cat_null])) dX10_operation_64 ⟨Nat.le_of_ble_eq_true rfl, Nat.le_of_ble_eq_true rfl⟩) hH hA (fun M13 H locs hw hH => ?_)
                refine s_aload_n hx hb dX10_operation_67 rfl (lv_at hl 0 rfl) ?_
                refine lv_iload_n hx hb dX10_operation_68 rfl (lv_at hl 3 rfl) ?_
                refine lv_iconst (v := 3) hx hb dX10_operation_69 (by decide) ?_
                refine lv_isub hx hb dX10_operation_70 ?_
                refine W.st (st' := [.int (a2 - 3), .ref p11]) (by rw [ep11]; rfl) ?_
                refine c_calli (va_runV (As := [.int (a2 - 3)]) (rest := []) ⟨hx, hb, hml, hown, hts⟩ (tc_X5_decidingFor l D kA nm na sa sv H.size T p11 (a2 - 3) M13 _ hw) (cwV 1 hts gX10_operation_X5_decidingFor rfl rfl rfl (by decide +kernel) ⟨(show (5 : Nat) + 1 ≤ 6 from Nat.le_of_ble_eq_true rfl), (show 8 + (3 + 11) + (109 : Nat) ≤ 131 from Nat.le_of_ble_eq_true rfl)⟩) (c_preV hK hH hA hSt (c_recv5 hK hH h12)) rfl rfl hl.1 rfl (lv_room (by first | exact Nat.le_of_ble_eq_true rfl | simp [va_rf_cat, cat_ref, cat_int, cat_long, cat_double, cat_null])) dX10_operation_71 ⟨Nat.le_of_ble_eq_true rfl, Nat.le_of_ble_eq_true rfl⟩) hH hA (fun r17 M16 H locs hw hH => ?_)
                exact vx_ret (W.widen (k := 1) (n := 6) (Nat.le_of_ble_eq_true rfl) (Nat.le_of_ble_eq_true rfl) (c_reti hx hb hr hlocks hK hH hw dX10_operation_74))
              · replace hw := hw.2 c10
                refine s_aload_n hx hb dX10_operation_54 rfl (lv_at hl 0 rfl) ?_
                obtain ⟨p19, ep19, hw⟩ := hw
                refine W.st (st' := [.ref p19]) (by rw [ep19]; rfl) ?_
                obtain ⟨h20, hw⟩ := hw
                refine c_calli (va_runV (As := []) (rest := []) ⟨hx, hb, hml, hown, hts⟩ (tc_X5_leastArguments l D kA nm na sa sv H.size T p19 M2 _ hw) (cwV 0 hts gX10_operation_X5_leastArguments rfl rfl rfl (by decide +kernel) ⟨(show (3 : Nat) + 1 ≤ 6 from Nat.le_of_ble_eq_true rfl), (show 8 + (5 + 11) + (57 : Nat) ≤ 131 from Nat.le_of_ble_eq_true rfl)⟩) (c_preV hK hH hA hSt (c_recv5 hK hH h20)) rfl rfl hl.1 rfl (lv_room (by first | exact Nat.le_of_ble_eq_true rfl | simp [va_rf_cat, cat_ref, cat_int, cat_long, cat_double, cat_null])) dX10_operation_55 ⟨Nat.le_of_ble_eq_true rfl, Nat.le_of_ble_eq_true rfl⟩) hH hA (fun r22 M21 H locs hw hH => ?_)
                exact vx_ret (W.widen (k := 1) (n := 6) (Nat.le_of_ble_eq_true rfl) (Nat.le_of_ble_eq_true rfl) (c_reti hx hb hr hlocks hK hH hw dX10_operation_58))
            · replace hw := hw.2 c9
              refine s_aload_n hx hb dX10_operation_44 rfl (lv_at hl 0 rfl) ?_
              obtain ⟨p24, ep24, hw⟩ := hw
              refine W.st (st' := [.ref p24]) (by rw [ep24]; rfl) ?_
              obtain ⟨h25, hw⟩ := hw
              refine c_calli (va_runV (As := []) (rest := []) ⟨hx, hb, hml, hown, hts⟩ (tc_X5_mostArguments l D kA nm na sa sv H.size T p24 M2 _ hw) (cwV 0 hts gX10_operation_X5_mostArguments rfl rfl rfl (by decide +kernel) ⟨(show (1 : Nat) + 1 ≤ 6 from Nat.le_of_ble_eq_true rfl), (show 8 + (4 + 11) + (21 : Nat) ≤ 131 from Nat.le_of_ble_eq_true rfl)⟩) (c_preV hK hH hA hSt (c_recv5 hK hH h25)) rfl rfl hl.1 rfl (lv_room (by first | exact Nat.le_of_ble_eq_true rfl | simp [va_rf_cat, cat_ref, cat_int, cat_long, cat_double, cat_null])) dX10_operation_45 ⟨Nat.le_of_ble_eq_true rfl, Nat.le_of_ble_eq_true rfl⟩) hH hA (fun r27 M26 H locs hw hH => ?_)
              exact vx_ret (W.widen (k := 1) (n := 6) (Nat.le_of_ble_eq_true rfl) (Nat.le_of_ble_eq_true rfl) (c_reti hx hb hr hlocks hK hH hw dX10_operation_48))
          · replace hw := hw.2 c8
            refine s_aload_n hx hb dX10_operation_34 rfl (lv_at hl 0 rfl) ?_
            obtain ⟨p29, ep29, hw⟩ := hw
            refine W.st (st' := [.ref p29]) (by rw [ep29]; rfl) ?_
            obtain ⟨h30, hw⟩ := hw
            refine cg_51 hx hb hts hin5 hown hK hH h30 (hts (.fieldLink RX10 105 "IdlCaller$Operation" "count" "I") (by decide +kernel)) dX10_operation_35 ?_
            exact vx_ret (W.widen (k := 1) (n := 6) (Nat.le_of_ble_eq_true rfl) (Nat.le_of_ble_eq_true rfl) (c_reti hx hb hr hlocks hK hH hw dX10_operation_38))
        · replace hw := hw.2 c7
          exact b20    M2 H locs ls hH (lv_sub hl [] rfl) hw
  exact hst M s.heap [] ls hH hl hw
def fc_X10_partAt_b39 (T : LY) (h : Nat) (Q : Option Nat → CM → Prop) (s0 : Option Nat) (M : CM) : Prop := Q s0 M
def fc_X10_partAt_b30 (T : LY) (h : Nat) (Q : Option Nat → CM → Prop) (v3 : Option Nat) (M : CM) : Prop := fc_X10_partAt_b39 T h Q  v3 M
def fc_X10_partAt_b20 (T : LY) (h : Nat) (Q : Option Nat → CM → Prop) (v2 : Int32) (s0 : Option Nat) (M : CM) : Prop := ((s0 = none → fc_X10_partAt_b30 T h Q  s0 M) ∧ (¬ s0 = none → ((¬ v2 = (-1) → (∃ p3 : Nat, s0 = some p3 ∧ (tg T p3 = 9 ∧ fc_X8_itemAt T p3 v2 M (fun (r6 : Option Nat) (M5 : CM) => fc_X10_partAt_b39 T h Q  r6 M5)))) ∧ (v2 = (-1) → fc_X10_partAt_b30 T h Q  s0 M))))
def fc_X10_partAt (T : LY) (h : Nat)  (a1 : Int32) (a2 : Int32) (M : CM) (Q : Option Nat → CM → Prop) : Prop := (tg T h = 11 ∧ (((cI M 107 h) ≤ a1 → fc_X10_partAt_b20 T h Q  a2 none M) ∧ (¬ (cI M 107 h) ≤ a1 → fc_X10_thingAt T (cR M 105 h) a1 M (fun (r11 : Option Nat) (M10 : CM) => fc_X10_partAt_b20 T h Q  a2 r11 M10))))
abbrev rmX10_partAt : Room := { frames := 2, cells := 0, slots := 0, locals := 42 }
set_option maxHeartbeats 4000000 in
set_option maxRecDepth 100000 in
theorem tc_X10_partAt (l : Launch) (D : va_G) (kA : Nat → ClassId) (nm : Nat → Nat) (na : Nat) (sa sv : Nat → Nat) (sz : Nat) (T : LY) (h : Nat) (a1 : Int32) (a2 : Int32) (M : CM) (Q : Option Nat → CM → Prop) (hw : fc_X10_partAt T h a1 a2 M Q) : Met l yX10_partAt wsX10_partAt rmX10_partAt (va_Pc [.ref h, .int a1, .int a2] (cPc nm na sa sv D kA T M sz)) (va_Qq Q (cB D kA (cF T sz) T) (cF T sz)) 0 0 (cF T sz) := by
  refine Met.ofW (cc := cX10_partAt) (maxL := 4) (ret := (some (.object "IdlCaller$Thing"))) (by decide) rfl ?_
  intro p e s m args below meth c s₁ B hml hv
  obtain ⟨rfl, hsz, hP, hK, hSt⟩ := hv
  have hx := B.exec
  have hb := B.bytes
  have hr := B.returns
  have hts := atoms_spec (ws := wsX10_partAt) B.pre
  have hown : s.vm.findClass RX10 = some m.cls := findClass_of_methodNamed B.named
  have hlocks : meth.locks = false := B.notSynchronized
  subst hsz
  have hH : cH D kA (cF T s.heap.size) s.heap T M s.heap [] := ⟨hP.self, va_S.rf⟩
  have hA : ∀ q : Nat, s.heap.size ≤ q → cF T s.heap.size q := fun q z => Or.inr z
  generalize cF T s.heap.size = A at hH hA hSt ⊢
  have hl := lv_entry ([.ref h, .int a1, .int a2]) (n := 4) (by first | exact Nat.le_of_ble_eq_true rfl | simp [lg_sl, va_rf_cat, cat_ref, cat_int, cat_long, cat_double])
  rw [lg_entry_eq]
  generalize (lg_sl ([.ref h, .int a1, .int a2]) ++ List.replicate (4 - (lg_sl ([.ref h, .int a1, .int a2])).length) Slot.unset).toArray = ls at hl ⊢
  generalize ([.ref h, .int a1, .int a2] : List Value).toArray = args at hts ⊢
  have hl : lv_has ls 4 [(0, .ref h), (1, .int a1), (2, .int a2)] := hl
  have hin10 : ∀ w ∈ wsX100, w ∈ wsX10_partAt := by decide +kernel
  have b39 : ∀ (s0 : Option Nat) (M : CM) (H : Heap) (locs : List Loc) (ls : Array Slot), cH D kA A s.heap T M H locs → lv_has ls 4 [] → fc_X10_partAt_b39 T h Q  s0 M → W p l e (headSpec wsX10_partAt rmX10_partAt).room s m args below meth c H locs 0 0 (MQ below (va_Qq Q (cB D kA A T) A) args s 0 0 A) (F0 m 39 ls [va_rf s0]) := by
    intro   s0 M H locs ls hH hl hw
    unfold fc_X10_partAt_b39 at hw
    exact c_retq (v := s0) hx hb hr (Or.inl ⟨_, rfl⟩) hlocks hK hH hw dX10_partAt_39
  have b30 : ∀ (v3 : Option Nat) (M : CM) (H : Heap) (locs : List Loc) (ls : Array Slot), cH D kA A s.heap T M H locs → lv_has ls 4 [(3, va_rf v3)] → fc_X10_partAt_b30 T h Q  v3 M → W p l e (headSpec wsX10_partAt rmX10_partAt).room s m args below meth c H locs 0 0 (MQ below (va_Qq Q (cB D kA A T) A) args s 0 0 A) (F0 m 30 ls []) := by
    intro   v3 M H locs ls hH hl hw
    unfold fc_X10_partAt_b30 at hw
    refine s_aload_n hx hb dX10_partAt_30 rfl (lv_at hl 0 rfl) ?_
    refine lv_goto (tgt := 39) hx hb dX10_partAt_31 (by decide) ?_
    exact b39   v3 M H locs ls hH (lv_sub hl [] rfl) hw
  have b20 : ∀ (v2 : Int32) (s0 : Option Nat) (M : CM) (H : Heap) (locs : List Loc) (ls : Array Slot), cH D kA A s.heap T M H locs → lv_has ls 4 [(2, .int v2)] → fc_X10_partAt_b20 T h Q  v2 s0 M → W p l e (headSpec wsX10_partAt rmX10_partAt).room s m args below meth c H locs 0 0 (MQ below (va_Qq Q (cB D kA A T) A) args s 0 0 A) (F0 m 20 ls [va_rf s0]) := by
    intro   v2 s0 M H locs ls hH hl hw
    unfold fc_X10_partAt_b20 at hw
    refine s_astore_n (i := 3) (lv' := [(3, va_rf s0), (2, .int v2)]) hx hb dX10_partAt_20 rfl hl (by decide) (by first | rfl | simp [va_rf_cat, cat_ref, cat_int, cat_long, cat_double, cat_null]) (fun ls hl => ?_)
    refine s_aload_n hx hb dX10_partAt_21 rfl (lv_at hl 0 rfl) ?_
    refine s_ifnull (tgt := 30) hx hb dX10_partAt_22 (by decide) (fun c1 => ?_) (fun c1 => ?_)
    · replace hw := hw.1 c1
      exact b30   s0 M H locs ls hH (lv_sub hl [0] rfl) hw
    · replace hw := hw.2 c1
      refine lv_iload_n hx hb dX10_partAt_25 rfl (lv_at hl 1 rfl) ?_
      refine lv_iconst (v := (-1)) hx hb dX10_partAt_26 (by decide) ?_
      refine lv_icmp_ne (tgt := 34) hx hb dX10_partAt_27 (by decide) (fun c2 => ?_) (fun c2 => ?_)
      · replace hw := hw.1 c2
        refine s_aload_n hx hb dX10_partAt_34 rfl (lv_at hl 0 rfl) ?_
        refine lv_iload_n hx hb dX10_partAt_35 rfl (lv_at hl 1 rfl) ?_
        obtain ⟨p3, ep3, hw⟩ := hw
        refine W.st (st' := [.int v2, .ref p3]) (by rw [ep3]; rfl) ?_
        obtain ⟨h4, hw⟩ := hw
        refine c_callq (va_runV (As := [.int v2]) (rest := []) ⟨hx, hb, hml, hown, hts⟩ (tc_X8_itemAt l D kA nm na sa sv H.size T p3 v2 M _ hw) (cwV 1 hts gX10_partAt_X8_itemAt rfl rfl rfl (by decide +kernel) ⟨(show (1 : Nat) + 1 ≤ 2 from Nat.le_of_ble_eq_true rfl), (show 8 + (2 + 11) + (21 : Nat) ≤ 42 from Nat.le_of_ble_eq_true rfl)⟩) (c_preV hK hH hA hSt (c_recv8 hK hH h4)) rfl rfl hl.1 rfl (lv_room (by first | exact Nat.le_of_ble_eq_true rfl | simp [va_rf_cat, cat_ref, cat_int, cat_long, cat_double, cat_null])) dX10_partAt_36 ⟨Nat.le_of_ble_eq_true rfl, Nat.le_of_ble_eq_true rfl⟩) hH hA (fun r6 M5 H locs hw hH => ?_)
        exact b39   r6 M5 H locs ls hH (lv_sub hl [] rfl) hw
      · replace hw := hw.2 c2
        exact b30   s0 M H locs ls hH (lv_sub hl [0] rfl) hw
  clear hP
  unfold fc_X10_partAt at hw
  have hst : ∀ (M : CM) (H : Heap) (locs : List Loc) (ls : Array Slot), cH D kA A s.heap T M H locs → lv_has ls 4 [(0, .ref h), (1, .int a1), (2, .int a2)] → (tg T h = 11 ∧ (((cI M 107 h) ≤ a1 → fc_X10_partAt_b20 T h Q  a2 none M) ∧ (¬ (cI M 107 h) ≤ a1 → fc_X10_thingAt T (cR M 105 h) a1 M (fun (r11 : Option Nat) (M10 : CM) => fc_X10_partAt_b20 T h Q  a2 r11 M10)))) → W p l e (headSpec wsX10_partAt rmX10_partAt).room s m args below meth c H locs 0 0 (MQ below (va_Qq Q (cB D kA A T) A) args s 0 0 A) (F0 m 0 ls []) := by
    intro M H locs ls hH hl hw
    refine lv_iload_n hx hb dX10_partAt_0 rfl (lv_at hl 1 rfl) ?_
    refine lv_aload_n hx hb dX10_partAt_1 rfl (lv_at hl 0 rfl) ?_
    obtain ⟨h8, hw⟩ := hw
    refine cg_107 hx hb hts hin10 hown hK hH h8 (hts (.fieldLink RX10 52 "IdlCaller" "places" "I") (by decide +kernel)) dX10_partAt_2 ?_
    refine lv_icmp_ge (tgt := 19) hx hb dX10_partAt_5 (by decide) (fun c9 => ?_) (fun c9 => ?_)
    · replace hw := hw.1 c9
      refine lv_null hx hb dX10_partAt_19 ?_
      exact b20   a2 none M H locs ls hH (lv_sub hl [2] rfl) hw
    · replace hw := hw.2 c9
      refine lv_aload_n hx hb dX10_partAt_8 rfl (lv_at hl 0 rfl) ?_
      refine cg_105 hx hb hts hin10 hown hK hH h8 (hts (.fieldLink RX10 46 "IdlCaller" "converted" "[LIdlCaller$Thing;") (by decide +kernel)) dX10_partAt_9 ?_
      refine lv_iload_n hx hb dX10_partAt_12 rfl (lv_at hl 1 rfl) ?_
      refine c_callq (va_runS (As := [va_rf (cR M 105 h), .int a1]) (rest := []) ⟨hx, hb, hml, hown, hts⟩ (tc_X10_thingAt l D kA nm na sa sv H.size T (cR M 105 h) a1 M _ hw) (va_cwS 2 hts gX10_partAt_X10_thingAt rfl rfl rfl (by decide +kernel) ⟨(show (0 : Nat) + 1 ≤ 2 from Nat.le_of_ble_eq_true rfl), (show 8 + (2 + 11) + (0 : Nat) ≤ 42 from Nat.le_of_ble_eq_true rfl)⟩) (c_preS hK hH hA hSt) rfl rfl hl.1 rfl (lv_room (by first | exact Nat.le_of_ble_eq_true rfl | simp [va_rf_cat, cat_ref, cat_int, cat_long, cat_double, cat_null])) dX10_partAt_13 ⟨Nat.le_of_ble_eq_true rfl, Nat.le_of_ble_eq_true rfl⟩) hH hA (fun r11 M10 H locs hw hH => ?_)
      refine lv_goto (tgt := 20) hx hb dX10_partAt_16 (by decide) ?_
      exact b20   a2 r11 M10 H locs ls hH (lv_sub hl [2] rfl) hw
  exact hst M s.heap [] ls hH hl hw
def fc_X10_kind_b19 (T : LY) (h : Nat) (Q : Int32 → CM → Prop) (s0 : Int32) (M : CM) : Prop := Q s0 M
def fc_X10_kind (T : LY) (h : Nat)  (a1 : Int32) (M : CM) (Q : Int32 → CM → Prop) : Prop := (tg T h = 11 ∧ fc_X10_partAt T h a1 (-1) M (fun (r3 : Option Nat) (M2 : CM) => ((¬ r3 = none → (∃ p6 : Nat, r3 = some p6 ∧ (tg T p6 = 9 ∧ fc_X10_kind_b19 T h Q  (cI M2 80 p6) M2))) ∧ (r3 = none → fc_X10_kind_b19 T h Q  (-1) M2))))
abbrev rmX10_kind : Room := { frames := 3, cells := 0, slots := 0, locals := 65 }
set_option maxHeartbeats 4000000 in
set_option maxRecDepth 100000 in
theorem tc_X10_kind (l : Launch) (D : va_G) (kA : Nat → ClassId) (nm : Nat → Nat) (na : Nat) (sa sv : Nat → Nat) (sz : Nat) (T : LY) (h : Nat) (a1 : Int32) (M : CM) (Q : Int32 → CM → Prop) (hw : fc_X10_kind T h a1 M Q) : Met l yX10_kind wsX10_kind rmX10_kind (va_Pc [.ref h, .int a1] (cPc nm na sa sv D kA T M sz)) (va_Qi Q (cB D kA (cF T sz) T) (cF T sz)) 0 0 (cF T sz) := by
  refine Met.ofW (cc := cX10_kind) (maxL := 3) (ret := (some .int)) (by decide) rfl ?_
  intro p e s m args below meth c s₁ B hml hv
  obtain ⟨rfl, hsz, hP, hK, hSt⟩ := hv
  have hx := B.exec
  have hb := B.bytes
  have hr := B.returns
  have hts := atoms_spec (ws := wsX10_kind) B.pre
  have hown : s.vm.findClass RX10 = some m.cls := findClass_of_methodNamed B.named
  have hlocks : meth.locks = false := B.notSynchronized
  subst hsz
  have hH : cH D kA (cF T s.heap.size) s.heap T M s.heap [] := ⟨hP.self, va_S.rf⟩
  have hA : ∀ q : Nat, s.heap.size ≤ q → cF T s.heap.size q := fun q z => Or.inr z
  generalize cF T s.heap.size = A at hH hA hSt ⊢
  have hl := lv_entry ([.ref h, .int a1]) (n := 3) (by first | exact Nat.le_of_ble_eq_true rfl | simp [lg_sl, va_rf_cat, cat_ref, cat_int, cat_long, cat_double])
  rw [lg_entry_eq]
  generalize (lg_sl ([.ref h, .int a1]) ++ List.replicate (3 - (lg_sl ([.ref h, .int a1])).length) Slot.unset).toArray = ls at hl ⊢
  generalize ([.ref h, .int a1] : List Value).toArray = args at hts ⊢
  have hl : lv_has ls 3 [(0, .ref h), (1, .int a1)] := hl
  have hin8 : ∀ w ∈ wsX80, w ∈ wsX10_kind := by decide +kernel
  have b19 : ∀ (s0 : Int32) (M : CM) (H : Heap) (locs : List Loc) (ls : Array Slot), cH D kA A s.heap T M H locs → lv_has ls 3 [] → fc_X10_kind_b19 T h Q  s0 M → W p l e (headSpec wsX10_kind rmX10_kind).room s m args below meth c H locs 0 0 (MQ below (va_Qi Q (cB D kA A T) A) args s 0 0 A) (F0 m 19 ls [.int s0]) := by
    intro   s0 M H locs ls hH hl hw
    unfold fc_X10_kind_b19 at hw
    exact c_reti hx hb hr hlocks hK hH hw dX10_kind_19
  clear hP
  unfold fc_X10_kind at hw
  have hst : ∀ (M : CM) (H : Heap) (locs : List Loc) (ls : Array Slot), cH D kA A s.heap T M H locs → lv_has ls 3 [(0, .ref h), (1, .int a1)] → (tg T h = 11 ∧ fc_X10_partAt T h a1 (-1) M (fun (r3 : Option Nat) (M2 : CM) => ((¬ r3 = none → (∃ p6 : Nat, r3 = some p6 ∧ (tg T p6 = 9 ∧ fc_X10_kind_b19 T h Q  (cI M2 80 p6) M2))) ∧ (r3 = none → fc_X10_kind_b19 T h Q  (-1) M2)))) → W p l e (headSpec wsX10_kind rmX10_kind).room s m args below meth c H locs 0 0 (MQ below (va_Qi Q (cB D kA A T) A) args s 0 0 A) (F0 m 0 ls []) := by
    intro M H locs ls hH hl hw
    refine lv_aload_n hx hb dX10_kind_0 rfl (lv_at hl 0 rfl) ?_
    refine lv_iload_n hx hb dX10_kind_1 rfl (lv_at hl 1 rfl) ?_
    refine lv_iconst (v := (-1)) hx hb dX10_kind_2 (by decide) ?_
    obtain ⟨h1, hw⟩ := hw
    refine c_callq (va_runV (As := [.int a1, .int (-1)]) (rest := []) ⟨hx, hb, hml, hown, hts⟩ (tc_X10_partAt l D kA nm na sa sv H.size T h a1 (-1) M _ hw) (cwV 2 hts gX10_kind_X10_partAt rfl rfl rfl (by decide +kernel) ⟨(show (2 : Nat) + 1 ≤ 3 from Nat.le_of_ble_eq_true rfl), (show 8 + (4 + 11) + (42 : Nat) ≤ 65 from Nat.le_of_ble_eq_true rfl)⟩) (c_preV hK hH hA hSt (c_recv10 hK hH h1)) rfl rfl hl.1 rfl (lv_room (by first | exact Nat.le_of_ble_eq_true rfl | simp [va_rf_cat, cat_ref, cat_int, cat_long, cat_double, cat_null])) dX10_kind_3 ⟨Nat.le_of_ble_eq_true rfl, Nat.le_of_ble_eq_true rfl⟩) hH hA (fun r3 M2 H locs hw hH => ?_)
    refine s_astore_n (i := 2) (lv' := [(2, va_rf r3), (0, .ref h), (1, .int a1)]) hx hb dX10_kind_6 rfl hl (by decide) (by first | rfl | simp [va_rf_cat, cat_ref, cat_int, cat_long, cat_double, cat_null]) (fun ls hl => ?_)
    refine s_aload_n hx hb dX10_kind_7 rfl (lv_at hl 0 rfl) ?_
    refine s_ifnonnull (tgt := 15) hx hb dX10_kind_8 (by decide) (fun c5 => ?_) (fun c5 => ?_)
    · replace hw := hw.1 c5
      refine s_aload_n hx hb dX10_kind_15 rfl (lv_at hl 0 rfl) ?_
      obtain ⟨p6, ep6, hw⟩ := hw
      refine W.st (st' := [.ref p6]) (by rw [ep6]; rfl) ?_
      obtain ⟨h7, hw⟩ := hw
      refine cg_80 hx hb hts hin8 hown hK hH h7 (hts (.fieldLink RX10 169 "IdlCaller$Thing" "kind" "I") (by decide +kernel)) dX10_kind_16 ?_
      exact b19   (cI M2 80 p6) M2 H locs ls hH (lv_sub hl [] rfl) hw
    · replace hw := hw.2 c5
      refine lv_iconst (v := (-1)) hx hb dX10_kind_11 (by decide) ?_
      refine lv_goto (tgt := 19) hx hb dX10_kind_12 (by decide) ?_
      exact b19   (-1) M2 H locs ls hH (lv_sub hl [] rfl) hw
  exact hst M s.heap [] ls hH hl hw
def fc_X10_item_b27 (T : LY) (h : Nat) (Q : Int32 → CM → Prop) (s0 : Int32) (M : CM) : Prop := Q s0 M
def fc_X10_item_b14 (T : LY) (h : Nat) (Q : Int32 → CM → Prop) (s0 : Option Nat) (M : CM) : Prop := ((¬ s0 = none → (∃ p2 : Nat, s0 = some p2 ∧ (tg T p2 = 9 ∧ fc_X10_item_b27 T h Q  (cI M 80 p2) M))) ∧ (s0 = none → fc_X10_item_b27 T h Q  (-1) M))
def fc_X10_item (T : LY) (h : Nat)  (a1 : Int32) (a2 : Int32) (M : CM) (Q : Int32 → CM → Prop) : Prop := ((0 ≤ a2 → (tg T h = 11 ∧ fc_X10_partAt T h a1 a2 M (fun (r7 : Option Nat) (M6 : CM) => fc_X10_item_b14 T h Q  r7 M6))) ∧ (¬ 0 ≤ a2 → fc_X10_item_b14 T h Q  none M))
abbrev rmX10_item : Room := { frames := 3, cells := 0, slots := 0, locals := 65 }
set_option maxHeartbeats 4000000 in
set_option maxRecDepth 100000 in
theorem tc_X10_item (l : Launch) (D : va_G) (kA : Nat → ClassId) (nm : Nat → Nat) (na : Nat) (sa sv : Nat → Nat) (sz : Nat) (T : LY) (h : Nat) (a1 : Int32) (a2 : Int32) (M : CM) (Q : Int32 → CM → Prop) (hw : fc_X10_item T h a1 a2 M Q) : Met l yX10_item wsX10_item rmX10_item (va_Pc [.ref h, .int a1, .int a2] (cPc nm na sa sv D kA T M sz)) (va_Qi Q (cB D kA (cF T sz) T) (cF T sz)) 0 0 (cF T sz) := by
  refine Met.ofW (cc := cX10_item) (maxL := 4) (ret := (some .int)) (by decide) rfl ?_
  intro p e s m args below meth c s₁ B hml hv
  obtain ⟨rfl, hsz, hP, hK, hSt⟩ := hv
  have hx := B.exec
  have hb := B.bytes
  have hr := B.returns
  have hts := atoms_spec (ws := wsX10_item) B.pre
  have hown : s.vm.findClass RX10 = some m.cls := findClass_of_methodNamed B.named
  have hlocks : meth.locks = false := B.notSynchronized
  subst hsz
  have hH : cH D kA (cF T s.heap.size) s.heap T M s.heap [] := ⟨hP.self, va_S.rf⟩
  have hA : ∀ q : Nat, s.heap.size ≤ q → cF T s.heap.size q := fun q z => Or.inr z
  generalize cF T s.heap.size = A at hH hA hSt ⊢
  have hl := lv_entry ([.ref h, .int a1, .int a2]) (n := 4) (by first | exact Nat.le_of_ble_eq_true rfl | simp [lg_sl, va_rf_cat, cat_ref, cat_int, cat_long, cat_double])
  rw [lg_entry_eq]
  generalize (lg_sl ([.ref h, .int a1, .int a2]) ++ List.replicate (4 - (lg_sl ([.ref h, .int a1, .int a2])).length) Slot.unset).toArray = ls at hl ⊢
  generalize ([.ref h, .int a1, .int a2] : List Value).toArray = args at hts ⊢
  have hl : lv_has ls 4 [(0, .ref h), (1, .int a1), (2, .int a2)] := hl
  have hin8 : ∀ w ∈ wsX80, w ∈ wsX10_item := by decide +kernel
  have b27 : ∀ (s0 : Int32) (M : CM) (H : Heap) (locs : List Loc) (ls : Array Slot), cH D kA A s.heap T M H locs → lv_has ls 4 [] → fc_X10_item_b27 T h Q  s0 M → W p l e (headSpec wsX10_item rmX10_item).room s m args below meth c H locs 0 0 (MQ below (va_Qi Q (cB D kA A T) A) args s 0 0 A) (F0 m 27 ls [.int s0]) := by
    intro   s0 M H locs ls hH hl hw
    unfold fc_X10_item_b27 at hw
    exact c_reti hx hb hr hlocks hK hH hw dX10_item_27
  have b14 : ∀ (s0 : Option Nat) (M : CM) (H : Heap) (locs : List Loc) (ls : Array Slot), cH D kA A s.heap T M H locs → lv_has ls 4 [] → fc_X10_item_b14 T h Q  s0 M → W p l e (headSpec wsX10_item rmX10_item).room s m args below meth c H locs 0 0 (MQ below (va_Qi Q (cB D kA A T) A) args s 0 0 A) (F0 m 14 ls [va_rf s0]) := by
    intro   s0 M H locs ls hH hl hw
    unfold fc_X10_item_b14 at hw
    refine s_astore_n (i := 3) (lv' := [(3, va_rf s0)]) hx hb dX10_item_14 rfl hl (by decide) (by first | rfl | simp [va_rf_cat, cat_ref, cat_int, cat_long, cat_double, cat_null]) (fun ls hl => ?_)
    refine s_aload_n hx hb dX10_item_15 rfl (lv_at hl 0 rfl) ?_
    refine s_ifnonnull (tgt := 23) hx hb dX10_item_16 (by decide) (fun c1 => ?_) (fun c1 => ?_)
    · replace hw := hw.1 c1
      refine s_aload_n hx hb dX10_item_23 rfl (lv_at hl 0 rfl) ?_
      obtain ⟨p2, ep2, hw⟩ := hw
      refine W.st (st' := [.ref p2]) (by rw [ep2]; rfl) ?_
      obtain ⟨h3, hw⟩ := hw
      refine cg_80 hx hb hts hin8 hown hK hH h3 (hts (.fieldLink RX10 169 "IdlCaller$Thing" "kind" "I") (by decide +kernel)) dX10_item_24 ?_
      exact b27   (cI M 80 p2) M H locs ls hH (lv_sub hl [] rfl) hw
    · replace hw := hw.2 c1
      refine lv_iconst (v := (-1)) hx hb dX10_item_19 (by decide) ?_
      refine lv_goto (tgt := 27) hx hb dX10_item_20 (by decide) ?_
      exact b27   (-1) M H locs ls hH (lv_sub hl [] rfl) hw
  clear hP
  unfold fc_X10_item at hw
  have hst : ∀ (M : CM) (H : Heap) (locs : List Loc) (ls : Array Slot), cH D kA A s.heap T M H locs → lv_has ls 4 [(0, .ref h), (1, .int a1), (2, .int a2)] → ((0 ≤ a2 → (tg T h = 11 ∧ fc_X10_partAt T h a1 a2 M (fun (r7 : Option Nat) (M6 : CM) => fc_X10_item_b14 T h Q  r7 M6))) ∧ (¬ 0 ≤ a2 → fc_X10_item_b14 T h Q  none M)) → W p l e (headSpec wsX10_item rmX10_item).room s m args below meth c H locs 0 0 (MQ below (va_Qi Q (cB D kA A T) A) args s 0 0 A) (F0 m 0 ls []) := by
    intro M H locs ls hH hl hw
    refine lv_iload_n hx hb dX10_item_0 rfl (lv_at hl 2 rfl) ?_
    refine lv_if_ge (tgt := 8) hx hb dX10_item_1 (by decide) (fun c4 => ?_) (fun c4 => ?_)
    · replace hw := hw.1 c4
      refine lv_aload_n hx hb dX10_item_8 rfl (lv_at hl 0 rfl) ?_
      refine lv_iload_n hx hb dX10_item_9 rfl (lv_at hl 1 rfl) ?_
      refine lv_iload_n hx hb dX10_item_10 rfl (lv_at hl 2 rfl) ?_
      obtain ⟨h5, hw⟩ := hw
      refine c_callq (va_runV (As := [.int a1, .int a2]) (rest := []) ⟨hx, hb, hml, hown, hts⟩ (tc_X10_partAt l D kA nm na sa sv H.size T h a1 a2 M _ hw) (cwV 2 hts gX10_item_X10_partAt rfl rfl rfl (by decide +kernel) ⟨(show (2 : Nat) + 1 ≤ 3 from Nat.le_of_ble_eq_true rfl), (show 8 + (4 + 11) + (42 : Nat) ≤ 65 from Nat.le_of_ble_eq_true rfl)⟩) (c_preV hK hH hA hSt (c_recv10 hK hH h5)) rfl rfl hl.1 rfl (lv_room (by first | exact Nat.le_of_ble_eq_true rfl | simp [va_rf_cat, cat_ref, cat_int, cat_long, cat_double, cat_null])) dX10_item_11 ⟨Nat.le_of_ble_eq_true rfl, Nat.le_of_ble_eq_true rfl⟩) hH hA (fun r7 M6 H locs hw hH => ?_)
      exact b14   r7 M6 H locs ls hH (lv_sub hl [] rfl) hw
    · replace hw := hw.2 c4
      refine lv_null hx hb dX10_item_4 ?_
      refine lv_goto (tgt := 14) hx hb dX10_item_5 (by decide) ?_
      exact b14   none M H locs ls hH (lv_sub hl [] rfl) hw
  exact hst M s.heap [] ls hH hl hw
def fc_X10_whole_b69 (T : LY) (h : Nat) (Q : Int64 → CM → Prop) (s0 : Int64) (M : CM) : Prop := Q s0 M
def fc_X10_whole_b29 (T : LY) (h : Nat) (Q : Int64 → CM → Prop) (v3 : Option Nat) (M : CM) : Prop := (∃ p1 : Nat, v3 = some p1 ∧ (tg T p1 = 9 ∧ Q (cJ M 81 p1) M))
def fc_X10_whole (T : LY) (h : Nat)  (a1 : Int32) (a2 : Int32) (M : CM) (Q : Int64 → CM → Prop) : Prop := (tg T h = 11 ∧ fc_X10_partAt T h a1 a2 M (fun (r5 : Option Nat) (M4 : CM) => ((¬ r5 = none → (∃ p8 : Nat, r5 = some p8 ∧ (tg T p8 = 9 ∧ (((cI M4 80 p8) = 2 → fc_X10_whole_b29 T h Q  r5 M4) ∧ (¬ (cI M4 80 p8) = 2 → ((¬ (cI M4 80 p8) = 3 → ((¬ (cI M4 80 p8) = 5 → ((¬ (cI M4 80 p8) = 6 → fc_X10_whole_b69 T h Q  0 M4) ∧ ((cI M4 80 p8) = 6 → fc_X10_whole_b69 T h Q  ((cI M4 85 p8).toInt64) M4))) ∧ ((cI M4 80 p8) = 5 → (∃ p14 : Nat, cR M4 84 p8 = some p14 ∧ (tg T p14 = 8 ∧ Q ((cI M4 71 p14).toInt64) M4))))) ∧ ((cI M4 80 p8) = 3 → fc_X10_whole_b29 T h Q  r5 M4))))))) ∧ (r5 = none → Q 0 M4))))
abbrev rmX10_whole : Room := { frames := 3, cells := 0, slots := 0, locals := 65 }
set_option maxHeartbeats 4000000 in
set_option maxRecDepth 100000 in
theorem tc_X10_whole (l : Launch) (D : va_G) (kA : Nat → ClassId) (nm : Nat → Nat) (na : Nat) (sa sv : Nat → Nat) (sz : Nat) (T : LY) (h : Nat) (a1 : Int32) (a2 : Int32) (M : CM) (Q : Int64 → CM → Prop) (hw : fc_X10_whole T h a1 a2 M Q) : Met l yX10_whole wsX10_whole rmX10_whole (va_Pc [.ref h, .int a1, .int a2] (cPc nm na sa sv D kA T M sz)) (va_Ql Q (cB D kA (cF T sz) T) (cF T sz)) 0 0 (cF T sz) := by
  refine Met.ofW (cc := cX10_whole) (maxL := 4) (ret := (some .long)) (by decide) rfl ?_
  intro p e s m args below meth c s₁ B hml hv
  obtain ⟨rfl, hsz, hP, hK, hSt⟩ := hv
  have hx := B.exec
  have hb := B.bytes
  have hr := B.returns
  have hts := atoms_spec (ws := wsX10_whole) B.pre
  have hown : s.vm.findClass RX10 = some m.cls := findClass_of_methodNamed B.named
  have hlocks : meth.locks = false := B.notSynchronized
  subst hsz
  have hH : cH D kA (cF T s.heap.size) s.heap T M s.heap [] := ⟨hP.self, va_S.rf⟩
  have hA : ∀ q : Nat, s.heap.size ≤ q → cF T s.heap.size q := fun q z => Or.inr z
  generalize cF T s.heap.size = A at hH hA hSt ⊢
  have hl := lv_entry ([.ref h, .int a1, .int a2]) (n := 4) (by first | exact Nat.le_of_ble_eq_true rfl | simp [lg_sl, va_rf_cat, cat_ref, cat_int, cat_long, cat_double])
  rw [lg_entry_eq]
  generalize (lg_sl ([.ref h, .int a1, .int a2]) ++ List.replicate (4 - (lg_sl ([.ref h, .int a1, .int a2])).length) Slot.unset).toArray = ls at hl ⊢
  generalize ([.ref h, .int a1, .int a2] : List Value).toArray = args at hts ⊢
  have hl : lv_has ls 4 [(0, .ref h), (1, .int a1), (2, .int a2)] := hl
  have hin7 : ∀ w ∈ wsX70, w ∈ wsX10_whole := by decide +kernel
  have hin8 : ∀ w ∈ wsX80, w ∈ wsX10_whole := by decide +kernel
  have b69 : ∀ (s0 : Int64) (M : CM) (H : Heap) (locs : List Loc) (ls : Array Slot), cH D kA A s.heap T M H locs → lv_has ls 4 [] → fc_X10_whole_b69 T h Q  s0 M → W p l e (headSpec wsX10_whole rmX10_whole).room s m args below meth c H locs 0 0 (MQ below (va_Ql Q (cB D kA A T) A) args s 0 0 A) (F0 m 69 ls [.long s0]) := by
    intro   s0 M H locs ls hH hl hw
    unfold fc_X10_whole_b69 at hw
    exact c_retl hx hb hr hlocks hK hH hw dX10_whole_69
  have b29 : ∀ (v3 : Option Nat) (M : CM) (H : Heap) (locs : List Loc) (ls : Array Slot), cH D kA A s.heap T M H locs → lv_has ls 4 [(3, va_rf v3)] → fc_X10_whole_b29 T h Q  v3 M → W p l e (headSpec wsX10_whole rmX10_whole).room s m args below meth c H locs 0 0 (MQ below (va_Ql Q (cB D kA A T) A) args s 0 0 A) (F0 m 29 ls []) := by
    intro   v3 M H locs ls hH hl hw
    unfold fc_X10_whole_b29 at hw
    refine s_aload_n hx hb dX10_whole_29 rfl (lv_at hl 0 rfl) ?_
    obtain ⟨p1, ep1, hw⟩ := hw
    refine W.st (st' := [.ref p1]) (by rw [ep1]; rfl) ?_
    obtain ⟨h2, hw⟩ := hw
    refine cg_81 hx hb hts hin8 hown hK hH h2 (hts (.fieldLink RX10 230 "IdlCaller$Thing" "whole" "J") (by decide +kernel)) dX10_whole_30 ?_
    exact c_retl hx hb hr hlocks hK hH hw dX10_whole_33
  clear hP
  unfold fc_X10_whole at hw
  have hst : ∀ (M : CM) (H : Heap) (locs : List Loc) (ls : Array Slot), cH D kA A s.heap T M H locs → lv_has ls 4 [(0, .ref h), (1, .int a1), (2, .int a2)] → (tg T h = 11 ∧ fc_X10_partAt T h a1 a2 M (fun (r5 : Option Nat) (M4 : CM) => ((¬ r5 = none → (∃ p8 : Nat, r5 = some p8 ∧ (tg T p8 = 9 ∧ (((cI M4 80 p8) = 2 → fc_X10_whole_b29 T h Q  r5 M4) ∧ (¬ (cI M4 80 p8) = 2 → ((¬ (cI M4 80 p8) = 3 → ((¬ (cI M4 80 p8) = 5 → ((¬ (cI M4 80 p8) = 6 → fc_X10_whole_b69 T h Q  0 M4) ∧ ((cI M4 80 p8) = 6 → fc_X10_whole_b69 T h Q  ((cI M4 85 p8).toInt64) M4))) ∧ ((cI M4 80 p8) = 5 → (∃ p14 : Nat, cR M4 84 p8 = some p14 ∧ (tg T p14 = 8 ∧ Q ((cI M4 71 p14).toInt64) M4))))) ∧ ((cI M4 80 p8) = 3 → fc_X10_whole_b29 T h Q  r5 M4))))))) ∧ (r5 = none → Q 0 M4)))) → W p l e (headSpec wsX10_whole rmX10_whole).room s m args below meth c H locs 0 0 (MQ below (va_Ql Q (cB D kA A T) A) args s 0 0 A) (F0 m 0 ls []) := by
    intro M H locs ls hH hl hw
    refine lv_aload_n hx hb dX10_whole_0 rfl (lv_at hl 0 rfl) ?_
    refine lv_iload_n hx hb dX10_whole_1 rfl (lv_at hl 1 rfl) ?_
    refine lv_iload_n hx hb dX10_whole_2 rfl (lv_at hl 2 rfl) ?_
    obtain ⟨h3, hw⟩ := hw
    refine c_callq (va_runV (As := [.int a1, .int a2]) (rest := []) ⟨hx, hb, hml, hown, hts⟩ (tc_X10_partAt l D kA nm na sa sv H.size T h a1 a2 M _ hw) (cwV 2 hts gX10_whole_X10_partAt rfl rfl rfl (by decide +kernel) ⟨(show (2 : Nat) + 1 ≤ 3 from Nat.le_of_ble_eq_true rfl), (show 8 + (4 + 11) + (42 : Nat) ≤ 65 from Nat.le_of_ble_eq_true rfl)⟩) (c_preV hK hH hA hSt (c_recv10 hK hH h3)) rfl rfl hl.1 rfl (lv_room (by first | exact Nat.le_of_ble_eq_true rfl | simp [va_rf_cat, cat_ref, cat_int, cat_long, cat_double, cat_null])) dX10_whole_3 ⟨Nat.le_of_ble_eq_true rfl, Nat.le_of_ble_eq_true rfl⟩) hH hA (fun r5 M4 H locs hw hH => ?_)
    refine s_astore_n (i := 3) (lv' := [(3, va_rf r5), (0, .ref h), (1, .int a1), (2, .int a2)]) hx hb dX10_whole_6 rfl hl (by decide) (by first | rfl | simp [va_rf_cat, cat_ref, cat_int, cat_long, cat_double, cat_null]) (fun ls hl => ?_)
    refine s_aload_n hx hb dX10_whole_7 rfl (lv_at hl 0 rfl) ?_
    refine s_ifnonnull (tgt := 13) hx hb dX10_whole_8 (by decide) (fun c7 => ?_) (fun c7 => ?_)
    · replace hw := hw.1 c7
      refine s_aload_n hx hb dX10_whole_13 rfl (lv_at hl 0 rfl) ?_
      obtain ⟨p8, ep8, hw⟩ := hw
      refine W.st (st' := [.ref p8]) (by rw [ep8]; rfl) ?_
      obtain ⟨h9, hw⟩ := hw
      refine cg_80 hx hb hts hin8 hown hK hH h9 (hts (.fieldLink RX10 169 "IdlCaller$Thing" "kind" "I") (by decide +kernel)) dX10_whole_14 ?_
      refine lv_iconst (v := 2) hx hb dX10_whole_17 (by decide) ?_
      refine lv_icmp_eq (tgt := 29) hx hb dX10_whole_18 (by decide) (fun c10 => ?_) (fun c10 => ?_)
      · replace hw := hw.1 c10
        exact b29   r5 M4 H locs ls hH (lv_sub hl [0] rfl) hw
      · replace hw := hw.2 c10
        refine s_aload_n hx hb dX10_whole_21 rfl (lv_at hl 0 rfl) ?_
        refine W.st (st' := [.ref p8]) (by rw [ep8]; rfl) ?_
        refine cg_80 hx hb hts hin8 hown hK hH h9 (hts (.fieldLink RX10 169 "IdlCaller$Thing" "kind" "I") (by decide +kernel)) dX10_whole_22 ?_
        refine lv_iconst (v := 3) hx hb dX10_whole_25 (by decide) ?_
        refine lv_icmp_ne (tgt := 34) hx hb dX10_whole_26 (by decide) (fun c11 => ?_) (fun c11 => ?_)
        · replace hw := hw.1 c11
          refine s_aload_n hx hb dX10_whole_34 rfl (lv_at hl 0 rfl) ?_
          refine W.st (st' := [.ref p8]) (by rw [ep8]; rfl) ?_
          refine cg_80 hx hb hts hin8 hown hK hH h9 (hts (.fieldLink RX10 169 "IdlCaller$Thing" "kind" "I") (by decide +kernel)) dX10_whole_35 ?_
          refine lv_iconst (v := 5) hx hb dX10_whole_38 (by decide) ?_
          refine lv_icmp_ne (tgt := 51) hx hb dX10_whole_39 (by decide) (fun c12 => ?_) (fun c12 => ?_)
          · replace hw := hw.1 c12
            refine s_aload_n hx hb dX10_whole_51 rfl (lv_at hl 0 rfl) ?_
            refine W.st (st' := [.ref p8]) (by rw [ep8]; rfl) ?_
            refine cg_80 hx hb hts hin8 hown hK hH h9 (hts (.fieldLink RX10 169 "IdlCaller$Thing" "kind" "I") (by decide +kernel)) dX10_whole_52 ?_
            refine lv_bipush (v := 6) hx hb dX10_whole_55 (by decide) ?_
            refine lv_icmp_ne (tgt := 68) hx hb dX10_whole_57 (by decide) (fun c13 => ?_) (fun c13 => ?_)
            · replace hw := hw.1 c13
              refine lv_lconst (v := 0) hx hb dX10_whole_68 (by decide) ?_
              exact b69   0 M4 H locs ls hH (lv_sub hl [] rfl) hw
            · replace hw := hw.2 c13
              refine s_aload_n hx hb dX10_whole_60 rfl (lv_at hl 0 rfl) ?_
              refine W.st (st' := [.ref p8]) (by rw [ep8]; rfl) ?_
              refine cg_85 hx hb hts hin8 hown hK hH h9 (hts (.fieldLink RX10 172 "IdlCaller$Thing" "size" "I") (by decide +kernel)) dX10_whole_61 ?_
              refine lv_i2l hx hb dX10_whole_64 rfl ?_
              refine lv_goto (tgt := 69) hx hb dX10_whole_65 (by decide) ?_
              exact b69   ((cI M4 85 p8).toInt64) M4 H locs ls hH (lv_sub hl [] rfl) hw
          · replace hw := hw.2 c12
            refine s_aload_n hx hb dX10_whole_42 rfl (lv_at hl 0 rfl) ?_
            refine W.st (st' := [.ref p8]) (by rw [ep8]; rfl) ?_
            refine cg_84 hx hb hts hin8 hown hK hH h9 (hts (.fieldLink RX10 135 "IdlCaller$Thing" "text" "LIdlCaller$Text;") (by decide +kernel)) dX10_whole_43 ?_
            obtain ⟨p14, ep14, hw⟩ := hw
            refine W.st (st' := [.ref p14]) (by rw [ep14]; rfl) ?_
            obtain ⟨h15, hw⟩ := hw
            refine cg_71 hx hb hts hin7 hown hK hH h15 (hts (.fieldLink RX10 64 "IdlCaller$Text" "length" "I") (by decide +kernel)) dX10_whole_46 ?_
            refine lv_i2l hx hb dX10_whole_49 rfl ?_
            exact c_retl hx hb hr hlocks hK hH hw dX10_whole_50
        · replace hw := hw.2 c11
          exact b29   r5 M4 H locs ls hH (lv_sub hl [0] rfl) hw
    · replace hw := hw.2 c7
      refine lv_lconst (v := 0) hx hb dX10_whole_11 (by decide) ?_
      exact c_retl hx hb hr hlocks hK hH hw dX10_whole_12
  exact hst M s.heap [] ls hH hl hw
def fc_X10_real_b27 (T : LY) (h : Nat) (Q : UInt64 → CM → Prop) (s0 : UInt64) (M : CM) : Prop := Q s0 M
def fc_X10_real_b19 (T : LY) (h : Nat) (Q : UInt64 → CM → Prop) (M : CM) : Prop := fc_X10_real_b27 T h Q  FP.dconst0 M
def fc_X10_real (T : LY) (h : Nat)  (a1 : Int32) (a2 : Int32) (M : CM) (Q : UInt64 → CM → Prop) : Prop := (tg T h = 11 ∧ fc_X10_partAt T h a1 a2 M (fun (r3 : Option Nat) (M2 : CM) => ((r3 = none → fc_X10_real_b19 T h Q   M2) ∧ (¬ r3 = none → (∃ p6 : Nat, r3 = some p6 ∧ (tg T p6 = 9 ∧ (((cI M2 80 p6) = 4 → fc_X10_real_b27 T h Q  (cD M2 82 p6) M2) ∧ (¬ (cI M2 80 p6) = 4 → fc_X10_real_b19 T h Q   M2))))))))
abbrev rmX10_real : Room := { frames := 3, cells := 0, slots := 0, locals := 65 }
set_option maxHeartbeats 4000000 in
set_option maxRecDepth 100000 in
theorem tc_X10_real (l : Launch) (D : va_G) (kA : Nat → ClassId) (nm : Nat → Nat) (na : Nat) (sa sv : Nat → Nat) (sz : Nat) (T : LY) (h : Nat) (a1 : Int32) (a2 : Int32) (M : CM) (Q : UInt64 → CM → Prop) (hw : fc_X10_real T h a1 a2 M Q) : Met l yX10_real wsX10_real rmX10_real (va_Pc [.ref h, .int a1, .int a2] (cPc nm na sa sv D kA T M sz)) (va_Qd Q (cB D kA (cF T sz) T) (cF T sz)) 0 0 (cF T sz) := by
  refine Met.ofW (cc := cX10_real) (maxL := 4) (ret := (some .double)) (by decide) rfl ?_
  intro p e s m args below meth c s₁ B hml hv
  obtain ⟨rfl, hsz, hP, hK, hSt⟩ := hv
  have hx := B.exec
  have hb := B.bytes
  have hr := B.returns
  have hts := atoms_spec (ws := wsX10_real) B.pre
  have hown : s.vm.findClass RX10 = some m.cls := findClass_of_methodNamed B.named
  have hlocks : meth.locks = false := B.notSynchronized
  subst hsz
  have hH : cH D kA (cF T s.heap.size) s.heap T M s.heap [] := ⟨hP.self, va_S.rf⟩
  have hA : ∀ q : Nat, s.heap.size ≤ q → cF T s.heap.size q := fun q z => Or.inr z
  generalize cF T s.heap.size = A at hH hA hSt ⊢
  have hl := lv_entry ([.ref h, .int a1, .int a2]) (n := 4) (by first | exact Nat.le_of_ble_eq_true rfl | simp [lg_sl, va_rf_cat, cat_ref, cat_int, cat_long, cat_double])
  rw [lg_entry_eq]
  generalize (lg_sl ([.ref h, .int a1, .int a2]) ++ List.replicate (4 - (lg_sl ([.ref h, .int a1, .int a2])).length) Slot.unset).toArray = ls at hl ⊢
  generalize ([.ref h, .int a1, .int a2] : List Value).toArray = args at hts ⊢
  have hl : lv_has ls 4 [(0, .ref h), (1, .int a1), (2, .int a2)] := hl
  have hin8 : ∀ w ∈ wsX80, w ∈ wsX10_real := by decide +kernel
  have b27 : ∀ (s0 : UInt64) (M : CM) (H : Heap) (locs : List Loc) (ls : Array Slot), cH D kA A s.heap T M H locs → lv_has ls 4 [] → fc_X10_real_b27 T h Q  s0 M → W p l e (headSpec wsX10_real rmX10_real).room s m args below meth c H locs 0 0 (MQ below (va_Qd Q (cB D kA A T) A) args s 0 0 A) (F0 m 27 ls [.double s0]) := by
    intro   s0 M H locs ls hH hl hw
    unfold fc_X10_real_b27 at hw
    exact c_retd hx hb hr hlocks hK hH hw dX10_real_27
  have b19 : ∀ (M : CM) (H : Heap) (locs : List Loc) (ls : Array Slot), cH D kA A s.heap T M H locs → lv_has ls 4 [] → fc_X10_real_b19 T h Q   M → W p l e (headSpec wsX10_real rmX10_real).room s m args below meth c H locs 0 0 (MQ below (va_Qd Q (cB D kA A T) A) args s 0 0 A) (F0 m 19 ls []) := by
    intro    M H locs ls hH hl hw
    unfold fc_X10_real_b19 at hw
    refine lv_dconst0 hx hb dX10_real_19 ?_
    refine lv_goto (tgt := 27) hx hb dX10_real_20 (by decide) ?_
    exact b27   FP.dconst0 M H locs ls hH (lv_sub hl [] rfl) hw
  clear hP
  unfold fc_X10_real at hw
  have hst : ∀ (M : CM) (H : Heap) (locs : List Loc) (ls : Array Slot), cH D kA A s.heap T M H locs → lv_has ls 4 [(0, .ref h), (1, .int a1), (2, .int a2)] → (tg T h = 11 ∧ fc_X10_partAt T h a1 a2 M (fun (r3 : Option Nat) (M2 : CM) => ((r3 = none → fc_X10_real_b19 T h Q   M2) ∧ (¬ r3 = none → (∃ p6 : Nat, r3 = some p6 ∧ (tg T p6 = 9 ∧ (((cI M2 80 p6) = 4 → fc_X10_real_b27 T h Q  (cD M2 82 p6) M2) ∧ (¬ (cI M2 80 p6) = 4 → fc_X10_real_b19 T h Q   M2)))))))) → W p l e (headSpec wsX10_real rmX10_real).room s m args below meth c H locs 0 0 (MQ below (va_Qd Q (cB D kA A T) A) args s 0 0 A) (F0 m 0 ls []) := by
    intro M H locs ls hH hl hw
    refine lv_aload_n hx hb dX10_real_0 rfl (lv_at hl 0 rfl) ?_
    refine lv_iload_n hx hb dX10_real_1 rfl (lv_at hl 1 rfl) ?_
    refine lv_iload_n hx hb dX10_real_2 rfl (lv_at hl 2 rfl) ?_
    obtain ⟨h1, hw⟩ := hw
    refine c_callq (va_runV (As := [.int a1, .int a2]) (rest := []) ⟨hx, hb, hml, hown, hts⟩ (tc_X10_partAt l D kA nm na sa sv H.size T h a1 a2 M _ hw) (cwV 2 hts gX10_real_X10_partAt rfl rfl rfl (by decide +kernel) ⟨(show (2 : Nat) + 1 ≤ 3 from Nat.le_of_ble_eq_true rfl), (show 8 + (4 + 11) + (42 : Nat) ≤ 65 from Nat.le_of_ble_eq_true rfl)⟩) (c_preV hK hH hA hSt (c_recv10 hK hH h1)) rfl rfl hl.1 rfl (lv_room (by first | exact Nat.le_of_ble_eq_true rfl | simp [va_rf_cat, cat_ref, cat_int, cat_long, cat_double, cat_null])) dX10_real_3 ⟨Nat.le_of_ble_eq_true rfl, Nat.le_of_ble_eq_true rfl⟩) hH hA (fun r3 M2 H locs hw hH => ?_)
    refine s_astore_n (i := 3) (lv' := [(3, va_rf r3), (0, .ref h), (1, .int a1), (2, .int a2)]) hx hb dX10_real_6 rfl hl (by decide) (by first | rfl | simp [va_rf_cat, cat_ref, cat_int, cat_long, cat_double, cat_null]) (fun ls hl => ?_)
    refine s_aload_n hx hb dX10_real_7 rfl (lv_at hl 0 rfl) ?_
    refine s_ifnull (tgt := 19) hx hb dX10_real_8 (by decide) (fun c5 => ?_) (fun c5 => ?_)
    · replace hw := hw.1 c5
      exact b19    M2 H locs ls hH (lv_sub hl [] rfl) hw
    · replace hw := hw.2 c5
      refine s_aload_n hx hb dX10_real_11 rfl (lv_at hl 0 rfl) ?_
      obtain ⟨p6, ep6, hw⟩ := hw
      refine W.st (st' := [.ref p6]) (by rw [ep6]; rfl) ?_
      obtain ⟨h7, hw⟩ := hw
      refine cg_80 hx hb hts hin8 hown hK hH h7 (hts (.fieldLink RX10 169 "IdlCaller$Thing" "kind" "I") (by decide +kernel)) dX10_real_12 ?_
      refine lv_iconst (v := 4) hx hb dX10_real_15 (by decide) ?_
      refine lv_icmp_eq (tgt := 23) hx hb dX10_real_16 (by decide) (fun c8 => ?_) (fun c8 => ?_)
      · replace hw := hw.1 c8
        refine s_aload_n hx hb dX10_real_23 rfl (lv_at hl 0 rfl) ?_
        refine W.st (st' := [.ref p6]) (by rw [ep6]; rfl) ?_
        refine cg_82 hx hb hts hin8 hown hK hH h7 (hts (.fieldLink RX10 234 "IdlCaller$Thing" "real" "D") (by decide +kernel)) dX10_real_24 ?_
        exact b27   (cD M2 82 p6) M2 H locs ls hH (lv_sub hl [] rfl) hw
      · replace hw := hw.2 c8
        exact b19    M2 H locs ls hH (lv_sub hl [] rfl) hw
  exact hst M s.heap [] ls hH hl hw
def fc_X10_sign_b48 (T : LY) (h : Nat) (Q : Int32 → CM → Prop) (s0 : Int32) (M : CM) : Prop := (nC s0 ∧ Q s0 M)
def fc_X10_sign_b22 (T : LY) (h : Nat) (Q : Int32 → CM → Prop) (M : CM) : Prop := (nC 32 ∧ Q 32 M)
def fc_X10_sign (T : LY) (h : Nat)  (a1 : Int32) (a2 : Int32) (a3 : Int32) (M : CM) (Q : Int32 → CM → Prop) : Prop := (tg T h = 11 ∧ fc_X10_partAt T h a1 a2 M (fun (r3 : Option Nat) (M2 : CM) => ((r3 = none → fc_X10_sign_b22 T h Q   M2) ∧ (¬ r3 = none → (∃ p6 : Nat, r3 = some p6 ∧ (tg T p6 = 9 ∧ (((cI M2 80 p6) = 5 → (∃ p9 : Nat, cR M2 84 p6 = some p9 ∧ (tg T p9 = 8 ∧ fc_X7_at T p9 a3 M2 (fun (r12 : Int32) (M11 : CM) => ((¬ r12 = 0 → fc_X10_sign_b48 T h Q  r12 M11) ∧ (r12 = 0 → fc_X10_sign_b48 T h Q  32 M11)))))) ∧ (¬ (cI M2 80 p6) = 5 → fc_X10_sign_b22 T h Q   M2))))))))
abbrev rmX10_sign : Room := { frames := 3, cells := 0, slots := 0, locals := 65 }
set_option maxHeartbeats 4000000 in
set_option maxRecDepth 100000 in
theorem tc_X10_sign (l : Launch) (D : va_G) (kA : Nat → ClassId) (nm : Nat → Nat) (na : Nat) (sa sv : Nat → Nat) (sz : Nat) (T : LY) (h : Nat) (a1 : Int32) (a2 : Int32) (a3 : Int32) (M : CM) (Q : Int32 → CM → Prop) (hw : fc_X10_sign T h a1 a2 a3 M Q) : Met l yX10_sign wsX10_sign rmX10_sign (va_Pc [.ref h, .int a1, .int a2, .int a3] (cPc nm na sa sv D kA T M sz)) (va_Qi Q (cB D kA (cF T sz) T) (cF T sz)) 0 0 (cF T sz) := by
  refine Met.ofW (cc := cX10_sign) (maxL := 6) (ret := (some .char)) (by decide) rfl ?_
  intro p e s m args below meth c s₁ B hml hv
  obtain ⟨rfl, hsz, hP, hK, hSt⟩ := hv
  have hx := B.exec
  have hb := B.bytes
  have hr := B.returns
  have hts := atoms_spec (ws := wsX10_sign) B.pre
  have hown : s.vm.findClass RX10 = some m.cls := findClass_of_methodNamed B.named
  have hlocks : meth.locks = false := B.notSynchronized
  subst hsz
  have hH : cH D kA (cF T s.heap.size) s.heap T M s.heap [] := ⟨hP.self, va_S.rf⟩
  have hA : ∀ q : Nat, s.heap.size ≤ q → cF T s.heap.size q := fun q z => Or.inr z
  generalize cF T s.heap.size = A at hH hA hSt ⊢
  have hl := lv_entry ([.ref h, .int a1, .int a2, .int a3]) (n := 6) (by first | exact Nat.le_of_ble_eq_true rfl | simp [lg_sl, va_rf_cat, cat_ref, cat_int, cat_long, cat_double])
  rw [lg_entry_eq]
  generalize (lg_sl ([.ref h, .int a1, .int a2, .int a3]) ++ List.replicate (6 - (lg_sl ([.ref h, .int a1, .int a2, .int a3])).length) Slot.unset).toArray = ls at hl ⊢
  generalize ([.ref h, .int a1, .int a2, .int a3] : List Value).toArray = args at hts ⊢
  have hl : lv_has ls 6 [(0, .ref h), (1, .int a1), (2, .int a2), (3, .int a3)] := hl
  have hin8 : ∀ w ∈ wsX80, w ∈ wsX10_sign := by decide +kernel
  have b48 : ∀ (s0 : Int32) (M : CM) (H : Heap) (locs : List Loc) (ls : Array Slot), cH D kA A s.heap T M H locs → lv_has ls 6 [] → fc_X10_sign_b48 T h Q  s0 M → W p l e (headSpec wsX10_sign rmX10_sign).room s m args below meth c H locs 0 0 (MQ below (va_Qi Q (cB D kA A T) A) args s 0 0 A) (F0 m 48 ls [.int s0]) := by
    intro   s0 M H locs ls hH hl hw
    unfold fc_X10_sign_b48 at hw
    exact c_retz hx hb hr hw.1.1 hlocks hK hH hw.2 dX10_sign_48
  have b22 : ∀ (M : CM) (H : Heap) (locs : List Loc) (ls : Array Slot), cH D kA A s.heap T M H locs → lv_has ls 6 [] → fc_X10_sign_b22 T h Q   M → W p l e (headSpec wsX10_sign rmX10_sign).room s m args below meth c H locs 0 0 (MQ below (va_Qi Q (cB D kA A T) A) args s 0 0 A) (F0 m 22 ls []) := by
    intro    M H locs ls hH hl hw
    unfold fc_X10_sign_b22 at hw
    refine lv_bipush (v := 32) hx hb dX10_sign_22 (by decide) ?_
    exact c_retz hx hb hr hw.1.1 hlocks hK hH hw.2 dX10_sign_24
  clear hP
  unfold fc_X10_sign at hw
  have hst : ∀ (M : CM) (H : Heap) (locs : List Loc) (ls : Array Slot), cH D kA A s.heap T M H locs → lv_has ls 6 [(0, .ref h), (1, .int a1), (2, .int a2), (3, .int a3)] → (tg T h = 11 ∧ fc_X10_partAt T h a1 a2 M (fun (r3 : Option Nat) (M2 : CM) => ((r3 = none → fc_X10_sign_b22 T h Q   M2) ∧ (¬ r3 = none → (∃ p6 : Nat, r3 = some p6 ∧ (tg T p6 = 9 ∧ (((cI M2 80 p6) = 5 → (∃ p9 : Nat, cR M2 84 p6 = some p9 ∧ (tg T p9 = 8 ∧ fc_X7_at T p9 a3 M2 (fun (r12 : Int32) (M11 : CM) => ((¬ r12 = 0 → fc_X10_sign_b48 T h Q  r12 M11) ∧ (r12 = 0 → fc_X10_sign_b48 T h Q  32 M11)))))) ∧ (¬ (cI M2 80 p6) = 5 → fc_X10_sign_b22 T h Q   M2)))))))) → W p l e (headSpec wsX10_sign rmX10_sign).room s m args below meth c H locs 0 0 (MQ below (va_Qi Q (cB D kA A T) A) args s 0 0 A) (F0 m 0 ls []) := by
    intro M H locs ls hH hl hw
    refine lv_aload_n hx hb dX10_sign_0 rfl (lv_at hl 0 rfl) ?_
    refine lv_iload_n hx hb dX10_sign_1 rfl (lv_at hl 1 rfl) ?_
    refine lv_iload_n hx hb dX10_sign_2 rfl (lv_at hl 2 rfl) ?_
    obtain ⟨h1, hw⟩ := hw
    refine c_callq (va_runV (As := [.int a1, .int a2]) (rest := []) ⟨hx, hb, hml, hown, hts⟩ (tc_X10_partAt l D kA nm na sa sv H.size T h a1 a2 M _ hw) (cwV 2 hts gX10_sign_X10_partAt rfl rfl rfl (by decide +kernel) ⟨(show (2 : Nat) + 1 ≤ 3 from Nat.le_of_ble_eq_true rfl), (show 8 + (4 + 11) + (42 : Nat) ≤ 65 from Nat.le_of_ble_eq_true rfl)⟩) (c_preV hK hH hA hSt (c_recv10 hK hH h1)) rfl rfl hl.1 rfl (lv_room (by first | exact Nat.le_of_ble_eq_true rfl | simp [va_rf_cat, cat_ref, cat_int, cat_long, cat_double, cat_null])) dX10_sign_3 ⟨Nat.le_of_ble_eq_true rfl, Nat.le_of_ble_eq_true rfl⟩) hH hA (fun r3 M2 H locs hw hH => ?_)
    refine s_astore (i := 4) (lv' := [(4, va_rf r3), (0, .ref h), (1, .int a1), (2, .int a2), (3, .int a3)]) hx hb dX10_sign_6 hl (by decide) (by first | rfl | simp [va_rf_cat, cat_ref, cat_int, cat_long, cat_double, cat_null]) (fun ls hl => ?_)
    refine s_aload hx hb dX10_sign_8 (lv_at hl 0 rfl) ?_
    refine s_ifnull (tgt := 22) hx hb dX10_sign_10 (by decide) (fun c5 => ?_) (fun c5 => ?_)
    · replace hw := hw.1 c5
      exact b22    M2 H locs ls hH (lv_sub hl [] rfl) hw
    · replace hw := hw.2 c5
      refine s_aload hx hb dX10_sign_13 (lv_at hl 0 rfl) ?_
      obtain ⟨p6, ep6, hw⟩ := hw
      refine W.st (st' := [.ref p6]) (by rw [ep6]; rfl) ?_
      obtain ⟨h7, hw⟩ := hw
      refine cg_80 hx hb hts hin8 hown hK hH h7 (hts (.fieldLink RX10 169 "IdlCaller$Thing" "kind" "I") (by decide +kernel)) dX10_sign_15 ?_
      refine lv_iconst (v := 5) hx hb dX10_sign_18 (by decide) ?_
      refine lv_icmp_eq (tgt := 25) hx hb dX10_sign_19 (by decide) (fun c8 => ?_) (fun c8 => ?_)
      · replace hw := hw.1 c8
        refine s_aload hx hb dX10_sign_25 (lv_at hl 0 rfl) ?_
        refine W.st (st' := [.ref p6]) (by rw [ep6]; rfl) ?_
        refine cg_84 hx hb hts hin8 hown hK hH h7 (hts (.fieldLink RX10 135 "IdlCaller$Thing" "text" "LIdlCaller$Text;") (by decide +kernel)) dX10_sign_27 ?_
        refine lv_iload_n hx hb dX10_sign_30 rfl (lv_at hl 4 rfl) ?_
        obtain ⟨p9, ep9, hw⟩ := hw
        refine W.st (st' := [.int a3, .ref p9]) (by rw [ep9]; rfl) ?_
        obtain ⟨h10, hw⟩ := hw
        refine c_calli (va_runV (As := [.int a3]) (rest := []) ⟨hx, hb, hml, hown, hts⟩ (tc_X7_at l D kA nm na sa sv H.size T p9 a3 M2 _ hw) (cwV 1 hts gX10_sign_X7_at rfl rfl rfl (by decide +kernel) ⟨(show (0 : Nat) + 1 ≤ 3 from Nat.le_of_ble_eq_true rfl), (show 8 + (2 + 11) + (0 : Nat) ≤ 65 from Nat.le_of_ble_eq_true rfl)⟩) (c_preV hK hH hA hSt (c_recv7 hK hH h10)) rfl rfl hl.1 rfl (lv_room (by first | exact Nat.le_of_ble_eq_true rfl | simp [va_rf_cat, cat_ref, cat_int, cat_long, cat_double, cat_null])) dX10_sign_31 ⟨Nat.le_of_ble_eq_true rfl, Nat.le_of_ble_eq_true rfl⟩) hH hA (fun r12 M11 H locs hw hH => ?_)
        refine lv_istore (i := 5) (lv' := [(5, .int r12), (4, va_rf r3), (0, .ref h), (1, .int a1), (2, .int a2), (3, .int a3)]) hx hb dX10_sign_34 hl (by decide) (by first | rfl | simp [va_rf_cat, cat_ref, cat_int, cat_long, cat_double, cat_null]) (fun ls hl => ?_)
        refine lv_iload hx hb dX10_sign_36 (lv_at hl 0 rfl) ?_
        refine lv_if_ne (tgt := 46) hx hb dX10_sign_38 (by decide) (fun c14 => ?_) (fun c14 => ?_)
        · replace hw := hw.1 c14
          refine lv_iload hx hb dX10_sign_46 (lv_at hl 0 rfl) ?_
          exact b48   r12 M11 H locs ls hH (lv_sub hl [] rfl) hw
        · replace hw := hw.2 c14
          refine lv_bipush (v := 32) hx hb dX10_sign_41 (by decide) ?_
          refine lv_goto (tgt := 48) hx hb dX10_sign_43 (by decide) ?_
          exact b48   32 M11 H locs ls hH (lv_sub hl [] rfl) hw
      · replace hw := hw.2 c8
        exact b22    M2 H locs ls hH (lv_sub hl [] rfl) hw
  exact hst M s.heap [] ls hH hl hw
