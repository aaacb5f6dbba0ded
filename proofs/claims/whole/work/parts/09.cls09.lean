def fc_X10_type (T : LY) (X : Nat → CM → Prop) (h : Nat)  (a1 : Int32) (a2 : Int32) (a3 : Int32) (a4 : Int32) (a5 : Int32) (M : CM) (Q : Int32 → CM → Prop) : Prop := fc_X7_signsIn T a1 M (fun (r2 : Int32) (M1 : CM) => fc_X7_signsIn T a2 M1 (fun (r5 : Int32) (M4 : CM) => fc_X7_signsIn T a3 M4 (fun (r8 : Int32) (M7 : CM) => fc_X7_signsIn T a4 M7 (fun (r11 : Int32) (M10 : CM) => fc_X7_signsIn T a5 M10 (fun (r14 : Int32) (M13 : CM) => (∀ x16 : Int32, x16 = (((r2 + r5) + r8) + r11) + r14 → (tg T h = 11 ∧ (∃ p18 : Nat, cR M13 100 h = some p18 ∧ (tg T p18 = 8 ∧ ((((cI M13 71 p18) + x16) ≤ 100 → fc_X7_appendSigns T p18 a1 M13 (fun (M21 : CM) => (∃ p24 : Nat, cR M21 100 h = some p24 ∧ (tg T p24 = 8 ∧ fc_X7_appendSigns T p24 a2 M21 (fun (M26 : CM) => (∃ p29 : Nat, cR M26 100 h = some p29 ∧ (tg T p29 = 8 ∧ fc_X7_appendSigns T p29 a3 M26 (fun (M31 : CM) => (∃ p34 : Nat, cR M31 100 h = some p34 ∧ (tg T p34 = 8 ∧ fc_X7_appendSigns T p34 a4 M31 (fun (M36 : CM) => (∃ p39 : Nat, cR M36 100 h = some p39 ∧ (tg T p39 = 8 ∧ fc_X7_appendSigns T p39 a5 M36 (fun (M41 : CM) => (∃ p44 : Nat, cR M41 100 h = some p44 ∧ (tg T p44 = 8 ∧ Q (cI M41 71 p44) M41)))))))))))))))) ∧ (¬ ((cI M13 71 p18) + x16) ≤ 100 → X 2 M13)))))))))))
abbrev rmX10_type : Room := { frames := 6, cells := 1, slots := 6, locals := 82 }
set_option maxHeartbeats 4000000 in
set_option maxRecDepth 100000 in
theorem tc_X10_type (l : Launch) (hst0 : l.stackTraces = false) (D : va_G) (kA : Nat → ClassId) (nm : Nat → Nat) (na : Nat) (sa sv : Nat → Nat) (sz : Nat) (T : LY) (X : Nat → CM → Prop) (h : Nat) (a1 : Int32) (a2 : Int32) (a3 : Int32) (a4 : Int32) (a5 : Int32) (M : CM) (Q : Int32 → CM → Prop) (hw : fc_X10_type T X h a1 a2 a3 a4 a5 M Q) : vx_Met l yX10_type wsX10_type rmX10_type (va_Pc [.ref h, .int a1, .int a2, .int a3, .int a4, .int a5] (cPc nm na sa sv D kA T M sz)) (va_Qi Q (cB D kA (cF T sz) T) (cF T sz)) (vx_X (fun (u : Nat × CM) => X u.1 u.2) (cBX D kA (cF T sz) T) (cF T sz)) 1 6 (cF T sz) := by
  refine vx_ofW (cc := cX10_type) (maxL := 7) (ret := (some .int)) (by decide) rfl ?_
  intro p e s m args below meth c s₁ B hml htab hv
  obtain ⟨rfl, hsz, hP, hK, hSt⟩ := hv
  have hx := B.exec
  have hb := B.bytes
  have hr := B.returns
  have hts := atoms_spec (ws := wsX10_type) B.pre
  have hown : s.vm.findClass RX10 = some m.cls := findClass_of_methodNamed B.named
  have hlocks : meth.locks = false := B.notSynchronized
  subst hsz
  have hH : cH D kA (cF T s.heap.size) s.heap T M s.heap [] := ⟨hP.self, va_S.rf⟩
  have hA : ∀ q : Nat, s.heap.size ≤ q → cF T s.heap.size q := fun q z => Or.inr z
  generalize cF T s.heap.size = A at hH hA hSt ⊢
  have hl := lv_entry ([.ref h, .int a1, .int a2, .int a3, .int a4, .int a5]) (n := 7) (by first | exact Nat.le_of_ble_eq_true rfl | simp [lg_sl, va_rf_cat, cat_ref, cat_int, cat_long, cat_double])
  rw [lg_entry_eq]
  generalize (lg_sl ([.ref h, .int a1, .int a2, .int a3, .int a4, .int a5]) ++ List.replicate (7 - (lg_sl ([.ref h, .int a1, .int a2, .int a3, .int a4, .int a5])).length) Slot.unset).toArray = ls at hl ⊢
  generalize ([.ref h, .int a1, .int a2, .int a3, .int a4, .int a5] : List Value).toArray = args at hts ⊢
  have hl : lv_has ls 7 [(0, .ref h), (1, .int a1), (2, .int a2), (3, .int a3), (4, .int a4), (5, .int a5)] := hl
  have hin7 : ∀ w ∈ wsX70, w ∈ wsX10_type := by decide +kernel
  have hin10 : ∀ w ∈ wsX100, w ∈ wsX10_type := by decide +kernel
  have hat71 : ∀ w ∈ (vx_atS RX10 71 (exN 2) exS).filter goodWord, w ∈ wsX10_type := by decide +kernel
  clear hP
  unfold fc_X10_type at hw
  have hst : ∀ (M : CM) (H : Heap) (locs : List Loc) (ls : Array Slot), cH D kA A s.heap T M H locs → lv_has ls 7 [(0, .ref h), (1, .int a1), (2, .int a2), (3, .int a3), (4, .int a4), (5, .int a5)] → fc_X7_signsIn T a1 M (fun (r2 : Int32) (M1 : CM) => fc_X7_signsIn T a2 M1 (fun (r5 : Int32) (M4 : CM) => fc_X7_signsIn T a3 M4 (fun (r8 : Int32) (M7 : CM) => fc_X7_signsIn T a4 M7 (fun (r11 : Int32) (M10 : CM) => fc_X7_signsIn T a5 M10 (fun (r14 : Int32) (M13 : CM) => (∀ x16 : Int32, x16 = (((r2 + r5) + r8) + r11) + r14 → (tg T h = 11 ∧ (∃ p18 : Nat, cR M13 100 h = some p18 ∧ (tg T p18 = 8 ∧ ((((cI M13 71 p18) + x16) ≤ 100 → fc_X7_appendSigns T p18 a1 M13 (fun (M21 : CM) => (∃ p24 : Nat, cR M21 100 h = some p24 ∧ (tg T p24 = 8 ∧ fc_X7_appendSigns T p24 a2 M21 (fun (M26 : CM) => (∃ p29 : Nat, cR M26 100 h = some p29 ∧ (tg T p29 = 8 ∧ fc_X7_appendSigns T p29 a3 M26 (fun (M31 : CM) => (∃ p34 : Nat, cR M31 100 h = some p34 ∧ (tg T p34 = 8 ∧ fc_X7_appendSigns T p34 a4 M31 (fun (M36 : CM) => (∃ p39 : Nat, cR M36 100 h = some p39 ∧ (tg T p39 = 8 ∧ fc_X7_appendSigns T p39 a5 M36 (fun (M41 : CM) => (∃ p44 : Nat, cR M41 100 h = some p44 ∧ (tg T p44 = 8 ∧ Q (cI M41 71 p44) M41)))))))))))))))) ∧ (¬ ((cI M13 71 p18) + x16) ≤ 100 → X 2 M13))))))))))) → W p l e (headSpec wsX10_type rmX10_type).room s m args below meth c H locs 0 0 (vx_MQ below (va_Qi Q (cB D kA A T) A) (vx_X (fun (u : Nat × CM) => X u.1 u.2) (cBX D kA A T) A) args s 1 6 A) (F0 m 0 ls []) := by
    intro M H locs ls hH hl hw
    refine lv_iload_n hx hb dX10_type_0 rfl (lv_at hl 1 rfl) ?_
    refine c_calli (va_runS (As := [.int a1]) (rest := []) ⟨hx, hb, hml, hown, hts⟩ (tc_X7_signsIn l D kA nm na sa sv H.size T a1 M _ hw) (va_cwS 1 hts gX10_type_X7_signsIn rfl rfl rfl (by decide +kernel) ⟨(show (0 : Nat) + 1 ≤ 6 from Nat.le_of_ble_eq_true rfl), (show 8 + (3 + 11) + (0 : Nat) ≤ 82 from Nat.le_of_ble_eq_true rfl)⟩) (c_preS hK hH hA hSt) rfl rfl hl.1 rfl (lv_room (by first | exact Nat.le_of_ble_eq_true rfl | simp [va_rf_cat, cat_ref, cat_int, cat_long, cat_double, cat_null])) dX10_type_1 ⟨Nat.le_of_ble_eq_true rfl, Nat.le_of_ble_eq_true rfl⟩) hH hA (fun r2 M1 H locs hw hH => ?_)
    refine lv_iload_n hx hb dX10_type_4 rfl (lv_at hl 2 rfl) ?_
    refine c_calli (va_runS (As := [.int a2]) (rest := [.int r2]) ⟨hx, hb, hml, hown, hts⟩ (tc_X7_signsIn l D kA nm na sa sv H.size T a2 M1 _ hw) (va_cwS 1 hts gX10_type_X7_signsIn rfl rfl rfl (by decide +kernel) ⟨(show (0 : Nat) + 1 ≤ 6 from Nat.le_of_ble_eq_true rfl), (show 8 + (3 + 11) + (0 : Nat) ≤ 82 from Nat.le_of_ble_eq_true rfl)⟩) (c_preS hK hH hA hSt) rfl rfl hl.1 rfl (lv_room (by first | exact Nat.le_of_ble_eq_true rfl | simp [va_rf_cat, cat_ref, cat_int, cat_long, cat_double, cat_null])) dX10_type_5 ⟨Nat.le_of_ble_eq_true rfl, Nat.le_of_ble_eq_true rfl⟩) hH hA (fun r5 M4 H locs hw hH => ?_)
    refine lv_iadd hx hb dX10_type_8 ?_
    refine lv_iload_n hx hb dX10_type_9 rfl (lv_at hl 3 rfl) ?_
    refine c_calli (va_runS (As := [.int a3]) (rest := [.int (r2 + r5)]) ⟨hx, hb, hml, hown, hts⟩ (tc_X7_signsIn l D kA nm na sa sv H.size T a3 M4 _ hw) (va_cwS 1 hts gX10_type_X7_signsIn rfl rfl rfl (by decide +kernel) ⟨(show (0 : Nat) + 1 ≤ 6 from Nat.le_of_ble_eq_true rfl), (show 8 + (3 + 11) + (0 : Nat) ≤ 82 from Nat.le_of_ble_eq_true rfl)⟩) (c_preS hK hH hA hSt) rfl rfl hl.1 rfl (lv_room (by first | exact Nat.le_of_ble_eq_true rfl | simp [va_rf_cat, cat_ref, cat_int, cat_long, cat_double, cat_null])) dX10_type_10 ⟨Nat.le_of_ble_eq_true rfl, Nat.le_of_ble_eq_true rfl⟩) hH hA (fun r8 M7 H locs hw hH => ?_)
    refine lv_iadd hx hb dX10_type_13 ?_
    refine lv_iload hx hb dX10_type_14 (lv_at hl 4 rfl) ?_
    refine c_calli (va_runS (As := [.int a4]) (rest := [.int ((r2 + r5) + r8)]) ⟨hx, hb, hml, hown, hts⟩ (tc_X7_signsIn l D kA nm na sa sv H.size T a4 M7 _ hw) (va_cwS 1 hts gX10_type_X7_signsIn rfl rfl rfl (by decide +kernel) ⟨(show (0 : Nat) + 1 ≤ 6 from Nat.le_of_ble_eq_true rfl), (show 8 + (3 + 11) + (0 : Nat) ≤ 82 from Nat.le_of_ble_eq_true rfl)⟩) (c_preS hK hH hA hSt) rfl rfl hl.1 rfl (lv_room (by first | exact Nat.le_of_ble_eq_true rfl | simp [va_rf_cat, cat_ref, cat_int, cat_long, cat_double, cat_null])) dX10_type_16 ⟨Nat.le_of_ble_eq_true rfl, Nat.le_of_ble_eq_true rfl⟩) hH hA (fun r11 M10 H locs hw hH => ?_)
    refine lv_iadd hx hb dX10_type_19 ?_
    refine lv_iload hx hb dX10_type_20 (lv_at hl 5 rfl) ?_
    refine c_calli (va_runS (As := [.int a5]) (rest := [.int (((r2 + r5) + r8) + r11)]) ⟨hx, hb, hml, hown, hts⟩ (tc_X7_signsIn l D kA nm na sa sv H.size T a5 M10 _ hw) (va_cwS 1 hts gX10_type_X7_signsIn rfl rfl rfl (by decide +kernel) ⟨(show (0 : Nat) + 1 ≤ 6 from Nat.le_of_ble_eq_true rfl), (show 8 + (3 + 11) + (0 : Nat) ≤ 82 from Nat.le_of_ble_eq_true rfl)⟩) (c_preS hK hH hA hSt) rfl rfl hl.1 rfl (lv_room (by first | exact Nat.le_of_ble_eq_true rfl | simp [va_rf_cat, cat_ref, cat_int, cat_long, cat_double, cat_null])) dX10_type_22 ⟨Nat.le_of_ble_eq_true rfl, Nat.le_of_ble_eq_true rfl⟩) hH hA (fun r14 M13 H locs hw hH => ?_)
    refine lv_iadd hx hb dX10_type_25 ?_
    refine lv_topi (fun x16 ex16 => ?_)
    replace hw := hw x16 ex16
    refine lv_istore (i := 6) (lv' := [(6, .int x16), (0, .ref h), (1, .int a1), (2, .int a2), (3, .int a3), (4, .int a4), (5, .int a5)]) hx hb dX10_type_26 hl (by decide) rfl (fun ls hl => ?_)
    refine lv_aload_n hx hb dX10_type_28 rfl (lv_at hl 1 rfl) ?_
    obtain ⟨h17, hw⟩ := hw
    refine cg_100 hx hb hts hin10 hown hK hH h17 (hts (.fieldLink RX10 14 "IdlCaller" "line" "LIdlCaller$Text;") (by decide +kernel)) dX10_type_29 ?_
    obtain ⟨p18, ep18, hw⟩ := hw
    refine W.st (st' := [.ref p18]) (by rw [ep18]; rfl) ?_
    obtain ⟨h19, hw⟩ := hw
    refine cg_71 hx hb hts hin7 hown hK hH h19 (hts (.fieldLink RX10 64 "IdlCaller$Text" "length" "I") (by decide +kernel)) dX10_type_32 ?_
    refine lv_iload hx hb dX10_type_35 (lv_at hl 0 rfl) ?_
    refine lv_iadd hx hb dX10_type_37 ?_
    refine lv_bipush (v := 100) hx hb dX10_type_38 (by decide) ?_
    refine lv_icmp_le (tgt := 53) hx hb dX10_type_40 (by decide) (fun c20 => ?_) (fun c20 => ?_)
    · replace hw := hw.1 c20
      refine lv_aload_n hx hb dX10_type_53 rfl (lv_at hl 1 rfl) ?_
      refine cg_100 hx hb hts hin10 hown hK hH h17 (hts (.fieldLink RX10 14 "IdlCaller" "line" "LIdlCaller$Text;") (by decide +kernel)) dX10_type_54 ?_
      refine lv_iload_n hx hb dX10_type_57 rfl (lv_at hl 2 rfl) ?_
      refine W.st (st' := [.int a1, .ref p18]) (by rw [ep18]; rfl) ?_
      refine c_callv (va_runV (As := [.int a1]) (rest := []) ⟨hx, hb, hml, hown, hts⟩ (tc_X7_appendSigns l D kA nm na sa sv H.size T p18 a1 M13 _ hw) (cwV 1 hts gX10_type_X7_appendSigns rfl rfl rfl (by decide +kernel) ⟨(show (1 : Nat) + 1 ≤ 6 from Nat.le_of_ble_eq_true rfl), (show 8 + (4 + 11) + (21 : Nat) ≤ 82 from Nat.le_of_ble_eq_true rfl)⟩) (c_preV hK hH hA hSt (c_recv7 hK hH h19)) rfl rfl hl.1 rfl (lv_room (by first | exact Nat.le_of_ble_eq_true rfl | simp [va_rf_cat, cat_ref, cat_int, cat_long, cat_double, cat_null])) dX10_type_58 ⟨Nat.le_of_ble_eq_true rfl, Nat.le_of_ble_eq_true rfl⟩) hH hA (fun M21 H locs hw hH => ?_)
      refine lv_aload_n hx hb dX10_type_61 rfl (lv_at hl 1 rfl) ?_
      refine cg_100 hx hb hts hin10 hown hK hH h17 (hts (.fieldLink RX10 14 "IdlCaller" "line" "LIdlCaller$Text;") (by decide +kernel)) dX10_type_62 ?_
      refine lv_iload_n hx hb dX10_type_65 rfl (lv_at hl 3 rfl) ?_
      obtain ⟨p24, ep24, hw⟩ := hw
      refine W.st (st' := [.int a2, .ref p24]) (by rw [ep24]; rfl) ?_
      obtain ⟨h25, hw⟩ := hw
      refine c_callv (va_runV (As := [.int a2]) (rest := []) ⟨hx, hb, hml, hown, hts⟩ (tc_X7_appendSigns l D kA nm na sa sv H.size T p24 a2 M21 _ hw) (cwV 1 hts gX10_type_X7_appendSigns rfl rfl rfl (by decide +kernel) ⟨(show (1 : Nat) + 1 ≤ 6 from Nat.le_of_ble_eq_true rfl), (show 8 + (4 + 11) + (21 : Nat) ≤ 82 from Nat.le_of_ble_eq_true rfl)⟩) (c_preV hK hH hA hSt (c_recv7 hK hH h25)) rfl rfl hl.1 rfl (lv_room (by first | exact Nat.le_of_ble_eq_true rfl | simp [va_rf_cat, cat_ref, cat_int, cat_long, cat_double, cat_null])) dX10_type_66 ⟨Nat.le_of_ble_eq_true rfl, Nat.le_of_ble_eq_true rfl⟩) hH hA (fun M26 H locs hw hH => ?_)
      refine lv_aload_n hx hb dX10_type_69 rfl (lv_at hl 1 rfl) ?_
      refine cg_100 hx hb hts hin10 hown hK hH h17 (hts (.fieldLink RX10 14 "IdlCaller" "line" "LIdlCaller$Text;") (by decide +kernel)) dX10_type_70 ?_
      refine lv_iload_n hx hb dX10_type_73 rfl (lv_at hl 4 rfl) ?_
      obtain ⟨p29, ep29, hw⟩ := hw
      refine W.st (st' := [.int a3, .ref p29]) (by rw [ep29]; rfl) ?_
      obtain ⟨h30, hw⟩ := hw
      refine c_callv (va_runV (As := [.int a3]) (rest := []) ⟨hx, hb, hml, hown, hts⟩ (tc_X7_appendSigns l D kA nm na sa sv H.size T p29 a3 M26 _ hw) (cwV 1 hts gX10_type_X7_appendSigns rfl rfl rfl (by decide +kernel) ⟨(show (1 : Nat) + 1 ≤ 6 from Nat.le_of_ble_eq_true rfl), (show 8 + (4 + 11) + (21 : Nat) ≤ 82 from Nat.le_of_ble_eq_true rfl)⟩) (c_preV hK hH hA hSt (c_recv7 hK hH h30)) rfl rfl hl.1 rfl (lv_room (by first | exact Nat.le_of_ble_eq_true rfl | simp [va_rf_cat, cat_ref, cat_int, cat_long, cat_double, cat_null])) dX10_type_74 ⟨Nat.le_of_ble_eq_true rfl, Nat.le_of_ble_eq_true rfl⟩) hH hA (fun M31 H locs hw hH => ?_)
      refine lv_aload_n hx hb dX10_type_77 rfl (lv_at hl 1 rfl) ?_
      refine cg_100 hx hb hts hin10 hown hK hH h17 (hts (.fieldLink RX10 14 "IdlCaller" "line" "LIdlCaller$Text;") (by decide +kernel)) dX10_type_78 ?_
      refine lv_iload hx hb dX10_type_81 (lv_at hl 5 rfl) ?_
      obtain ⟨p34, ep34, hw⟩ := hw
      refine W.st (st' := [.int a4, .ref p34]) (by rw [ep34]; rfl) ?_
      obtain ⟨h35, hw⟩ := hw
      refine c_callv (va_runV (As := [.int a4]) (rest := []) ⟨hx, hb, hml, hown, hts⟩ (tc_X7_appendSigns l D kA nm na sa sv H.size T p34 a4 M31 _ hw) (cwV 1 hts gX10_type_X7_appendSigns rfl rfl rfl (by decide +kernel) ⟨(show (1 : Nat) + 1 ≤ 6 from Nat.le_of_ble_eq_true rfl), (show 8 + (4 + 11) + (21 : Nat) ≤ 82 from Nat.le_of_ble_eq_true rfl)⟩) (c_preV hK hH hA hSt (c_recv7 hK hH h35)) rfl rfl hl.1 rfl (lv_room (by first | exact Nat.le_of_ble_eq_true rfl | simp [va_rf_cat, cat_ref, cat_int, cat_long, cat_double, cat_null])) dX10_type_83 ⟨Nat.le_of_ble_eq_true rfl, Nat.le_of_ble_eq_true rfl⟩) hH hA (fun M36 H locs hw hH => ?_)
      refine lv_aload_n hx hb dX10_type_86 rfl (lv_at hl 1 rfl) ?_
      refine cg_100 hx hb hts hin10 hown hK hH h17 (hts (.fieldLink RX10 14 "IdlCaller" "line" "LIdlCaller$Text;") (by decide +kernel)) dX10_type_87 ?_
      refine lv_iload hx hb dX10_type_90 (lv_at hl 6 rfl) ?_
      obtain ⟨p39, ep39, hw⟩ := hw
      refine W.st (st' := [.int a5, .ref p39]) (by rw [ep39]; rfl) ?_
      obtain ⟨h40, hw⟩ := hw
      refine c_callv (va_runV (As := [.int a5]) (rest := []) ⟨hx, hb, hml, hown, hts⟩ (tc_X7_appendSigns l D kA nm na sa sv H.size T p39 a5 M36 _ hw) (cwV 1 hts gX10_type_X7_appendSigns rfl rfl rfl (by decide +kernel) ⟨(show (1 : Nat) + 1 ≤ 6 from Nat.le_of_ble_eq_true rfl), (show 8 + (4 + 11) + (21 : Nat) ≤ 82 from Nat.le_of_ble_eq_true rfl)⟩) (c_preV hK hH hA hSt (c_recv7 hK hH h40)) rfl rfl hl.1 rfl (lv_room (by first | exact Nat.le_of_ble_eq_true rfl | simp [va_rf_cat, cat_ref, cat_int, cat_long, cat_double, cat_null])) dX10_type_92 ⟨Nat.le_of_ble_eq_true rfl, Nat.le_of_ble_eq_true rfl⟩) hH hA (fun M41 H locs hw hH => ?_)
      refine lv_aload_n hx hb dX10_type_95 rfl (lv_at hl 1 rfl) ?_
      refine cg_100 hx hb hts hin10 hown hK hH h17 (hts (.fieldLink RX10 14 "IdlCaller" "line" "LIdlCaller$Text;") (by decide +kernel)) dX10_type_96 ?_
      obtain ⟨p44, ep44, hw⟩ := hw
      refine W.st (st' := [.ref p44]) (by rw [ep44]; rfl) ?_
      obtain ⟨h45, hw⟩ := hw
      refine cg_71 hx hb hts hin7 hown hK hH h45 (hts (.fieldLink RX10 64 "IdlCaller$Text" "length" "I") (by decide +kernel)) dX10_type_99 ?_
      exact vx_ret (W.widen (k := 1) (n := 6) (Nat.le_of_ble_eq_true rfl) (Nat.le_of_ble_eq_true rfl) (c_reti hx hb hr hlocks hK hH hw dX10_type_102))
    · replace hw := hw.2 c20
      exact c_throw (k := 2) (ik := 67) (is := 69) (ic := 71) hx hb hst0 hown (by decide +kernel) (hts (.classLink RX10 67 "java/lang/IllegalStateException") (by decide +kernel)) (hts (.initialized "java/lang/IllegalStateException") (by decide +kernel)) (hSt.2.2.2.2.2.2.2.2.2.2.2.2.2.2.2.2.2.2.2.2.2.2.2.2.2.2.2.2.2.2.2.2.2.2.2.1) (fun w z => hts w (hat71 w z)) (by decide +kernel) (hSt.2.2.2.2.2.2.2.2.2.2.2.2.2.2.2.2.2.2.2.2.2.2.2.2.2.2.2.2.2.2.1) (by decide +kernel) hSt hK hH (by rw [hml]; exact hl.1) dX10_type_43 dX10_type_46 dX10_type_47 dX10_type_49 dX10_type_52 htab (show 6 ≤ (6 : Nat) from Nat.le_of_ble_eq_true rfl) (show _ ≤ (82 : Nat) from by first | exact Nat.le_of_ble_eq_true rfl | simp [va_rf_cat, cat_ref, cat_int, cat_long, cat_double, cat_null]) (Nat.le_of_ble_eq_true rfl) (Nat.le_of_ble_eq_true rfl) (Nat.le_of_ble_eq_true rfl) (Nat.le_of_ble_eq_true rfl) hlocks hw
  exact hst M s.heap [] ls hH hl hw
def fc_X10_erase (T : LY) (h : Nat)  (M : CM) (Q : Int32 → CM → Prop) : Prop := (tg T h = 11 ∧ (∃ p2 : Nat, cR M 100 h = some p2 ∧ (tg T p2 = 8 ∧ (∀ x4 : Int32, x4 = cI M 71 p2 → (∀ M5 : CM, M5 = sI M 71 p2 0 → Q x4 M5)))))
abbrev rmX10_erase : Room := { frames := 0, cells := 0, slots := 0, locals := 0 }
set_option maxHeartbeats 4000000 in
set_option maxRecDepth 100000 in
theorem tc_X10_erase (l : Launch) (D : va_G) (kA : Nat → ClassId) (nm : Nat → Nat) (na : Nat) (sa sv : Nat → Nat) (sz : Nat) (T : LY) (h : Nat) (M : CM) (Q : Int32 → CM → Prop) (hw : fc_X10_erase T h  M Q) : Met l yX10_erase wsX10_erase rmX10_erase (va_Pc [.ref h] (cPc nm na sa sv D kA T M sz)) (va_Qi Q (cB D kA (cF T sz) T) (cF T sz)) 0 0 (cF T sz) := by
  refine Met.ofW (cc := cX10_erase) (maxL := 2) (ret := (some .int)) (by decide) rfl ?_
  intro p e s m args below meth c s₁ B hml hv
  obtain ⟨rfl, hsz, hP, hK, hSt⟩ := hv
  have hx := B.exec
  have hb := B.bytes
  have hr := B.returns
  have hts := atoms_spec (ws := wsX10_erase) B.pre
  have hown : s.vm.findClass RX10 = some m.cls := findClass_of_methodNamed B.named
  have hlocks : meth.locks = false := B.notSynchronized
  subst hsz
  have hH : cH D kA (cF T s.heap.size) s.heap T M s.heap [] := ⟨hP.self, va_S.rf⟩
  have hA : ∀ q : Nat, s.heap.size ≤ q → cF T s.heap.size q := fun q z => Or.inr z
  generalize cF T s.heap.size = A at hH hA hSt ⊢
  have hl := lv_entry ([.ref h]) (n := 2) (by first | exact Nat.le_of_ble_eq_true rfl | simp [lg_sl, va_rf_cat, cat_ref, cat_int, cat_long, cat_double])
  rw [lg_entry_eq]
  generalize (lg_sl ([.ref h]) ++ List.replicate (2 - (lg_sl ([.ref h])).length) Slot.unset).toArray = ls at hl ⊢
  generalize ([.ref h] : List Value).toArray = args at hts ⊢
  have hl : lv_has ls 2 [(0, .ref h)] := hl
  have hin7 : ∀ w ∈ wsX70, w ∈ wsX10_erase := by decide +kernel
  have hin10 : ∀ w ∈ wsX100, w ∈ wsX10_erase := by decide +kernel
  clear hP
  unfold fc_X10_erase at hw
  have hst : ∀ (M : CM) (H : Heap) (locs : List Loc) (ls : Array Slot), cH D kA A s.heap T M H locs → lv_has ls 2 [(0, .ref h)] → (tg T h = 11 ∧ (∃ p2 : Nat, cR M 100 h = some p2 ∧ (tg T p2 = 8 ∧ (∀ x4 : Int32, x4 = cI M 71 p2 → (∀ M5 : CM, M5 = sI M 71 p2 0 → Q x4 M5))))) → W p l e (headSpec wsX10_erase rmX10_erase).room s m args below meth c H locs 0 0 (MQ below (va_Qi Q (cB D kA A T) A) args s 0 0 A) (F0 m 0 ls []) := by
    intro M H locs ls hH hl hw
    refine lv_aload_n hx hb dX10_erase_0 rfl (lv_at hl 0 rfl) ?_
    obtain ⟨h1, hw⟩ := hw
    refine cg_100 hx hb hts hin10 hown hK hH h1 (hts (.fieldLink RX10 14 "IdlCaller" "line" "LIdlCaller$Text;") (by decide +kernel)) dX10_erase_1 ?_
    obtain ⟨p2, ep2, hw⟩ := hw
    refine W.st (st' := [.ref p2]) (by rw [ep2]; rfl) ?_
    obtain ⟨h3, hw⟩ := hw
    refine cg_71 hx hb hts hin7 hown hK hH h3 (hts (.fieldLink RX10 64 "IdlCaller$Text" "length" "I") (by decide +kernel)) dX10_erase_4 ?_
    refine lv_topi (fun x4 ex4 => ?_)
    replace hw := hw x4 ex4
    refine lv_istore_n (i := 1) (lv' := [(1, .int x4), (0, .ref h)]) hx hb dX10_erase_7 rfl hl (by decide) rfl (fun ls hl => ?_)
    refine lv_aload_n hx hb dX10_erase_8 rfl (lv_at hl 1 rfl) ?_
    refine cg_100 hx hb hts hin10 hown hK hH h1 (hts (.fieldLink RX10 14 "IdlCaller" "line" "LIdlCaller$Text;") (by decide +kernel)) dX10_erase_9 ?_
    refine lv_iconst (v := 0) hx hb dX10_erase_12 (by decide) ?_
    refine W.st (st' := [.int 0, .ref p2]) (by rw [ep2]; rfl) ?_
    refine cp_71 (x := 0) hx hb hts hin7 hown hK hH h3 (hts (.fieldLink RX10 64 "IdlCaller$Text" "length" "I") (by decide +kernel)) dX10_erase_13 (fun M5 H locs eM5 hH => ?_)
    replace hw := hw M5 eM5
    refine lv_iload_n hx hb dX10_erase_16 rfl (lv_at hl 0 rfl) ?_
    exact c_reti hx hb hr hlocks hK hH hw dX10_erase_17
  exact hst M s.heap [] ls hH hl hw
def fc_X10_operationAt_b23 (T : LY) (h : Nat) (Q : Option Nat → CM → Prop) (s0 : Option Nat) (M : CM) : Prop := Q s0 M
def fc_X10_operationAt_b22 (T : LY) (h : Nat) (Q : Option Nat → CM → Prop) (M : CM) : Prop := fc_X10_operationAt_b23 T h Q  none M
def fc_X10_operationAt (T : LY) (h : Nat)  (a1 : Int32) (M : CM) (Q : Option Nat → CM → Prop) : Prop := ((a1 < 0 → fc_X10_operationAt_b22 T h Q   M) ∧ (¬ a1 < 0 → (tg T h = 11 ∧ (∃ p3 : Nat, cR M 102 h = some p3 ∧ (tg T p3 = 27 ∧ (((nI (ln T p3)) ≤ a1 → fc_X10_operationAt_b22 T h Q   M) ∧ (¬ (nI (ln T p3)) ≤ a1 → (vp_in a1 (ln T p3) ∧ fc_X10_operationAt_b23 T h Q  (xR M p3 a1.toNatClampNeg) M))))))))
abbrev rmX10_operationAt : Room := { frames := 0, cells := 0, slots := 0, locals := 0 }
set_option maxHeartbeats 4000000 in
set_option maxRecDepth 100000 in
theorem tc_X10_operationAt (l : Launch) (D : va_G) (kA : Nat → ClassId) (nm : Nat → Nat) (na : Nat) (sa sv : Nat → Nat) (sz : Nat) (T : LY) (h : Nat) (a1 : Int32) (M : CM) (Q : Option Nat → CM → Prop) (hw : fc_X10_operationAt T h a1 M Q) : Met l yX10_operationAt wsX10_operationAt rmX10_operationAt (va_Pc [.ref h, .int a1] (cPc nm na sa sv D kA T M sz)) (va_Qq Q (cB D kA (cF T sz) T) (cF T sz)) 0 0 (cF T sz) := by
  refine Met.ofW (cc := cX10_operationAt) (maxL := 2) (ret := (some (.object "IdlCaller$Operation"))) (by decide) rfl ?_
  intro p e s m args below meth c s₁ B hml hv
  obtain ⟨rfl, hsz, hP, hK, hSt⟩ := hv
  have hx := B.exec
  have hb := B.bytes
  have hr := B.returns
  have hts := atoms_spec (ws := wsX10_operationAt) B.pre
  have hown : s.vm.findClass RX10 = some m.cls := findClass_of_methodNamed B.named
  have hlocks : meth.locks = false := B.notSynchronized
  subst hsz
  have hH : cH D kA (cF T s.heap.size) s.heap T M s.heap [] := ⟨hP.self, va_S.rf⟩
  have hA : ∀ q : Nat, s.heap.size ≤ q → cF T s.heap.size q := fun q z => Or.inr z
  generalize cF T s.heap.size = A at hH hA hSt ⊢
  have hl := lv_entry ([.ref h, .int a1]) (n := 2) (by first | exact Nat.le_of_ble_eq_true rfl | simp [lg_sl, va_rf_cat, cat_ref, cat_int, cat_long, cat_double])
  rw [lg_entry_eq]
  generalize (lg_sl ([.ref h, .int a1]) ++ List.replicate (2 - (lg_sl ([.ref h, .int a1])).length) Slot.unset).toArray = ls at hl ⊢
  generalize ([.ref h, .int a1] : List Value).toArray = args at hts ⊢
  have hl : lv_has ls 2 [(0, .ref h), (1, .int a1)] := hl
  have hin10 : ∀ w ∈ wsX100, w ∈ wsX10_operationAt := by decide +kernel
  have b23 : ∀ (s0 : Option Nat) (M : CM) (H : Heap) (locs : List Loc) (ls : Array Slot), cH D kA A s.heap T M H locs → lv_has ls 2 [] → fc_X10_operationAt_b23 T h Q  s0 M → W p l e (headSpec wsX10_operationAt rmX10_operationAt).room s m args below meth c H locs 0 0 (MQ below (va_Qq Q (cB D kA A T) A) args s 0 0 A) (F0 m 23 ls [va_rf s0]) := by
    intro   s0 M H locs ls hH hl hw
    unfold fc_X10_operationAt_b23 at hw
    exact c_retq (v := s0) hx hb hr (Or.inl ⟨_, rfl⟩) hlocks hK hH hw dX10_operationAt_23
  have b22 : ∀ (M : CM) (H : Heap) (locs : List Loc) (ls : Array Slot), cH D kA A s.heap T M H locs → lv_has ls 2 [] → fc_X10_operationAt_b22 T h Q   M → W p l e (headSpec wsX10_operationAt rmX10_operationAt).room s m args below meth c H locs 0 0 (MQ below (va_Qq Q (cB D kA A T) A) args s 0 0 A) (F0 m 22 ls []) := by
    intro    M H locs ls hH hl hw
    unfold fc_X10_operationAt_b22 at hw
    refine lv_null hx hb dX10_operationAt_22 ?_
    exact b23   none M H locs ls hH (lv_sub hl [] rfl) hw
  clear hP
  unfold fc_X10_operationAt at hw
  have hst : ∀ (M : CM) (H : Heap) (locs : List Loc) (ls : Array Slot), cH D kA A s.heap T M H locs → lv_has ls 2 [(0, .ref h), (1, .int a1)] → ((a1 < 0 → fc_X10_operationAt_b22 T h Q   M) ∧ (¬ a1 < 0 → (tg T h = 11 ∧ (∃ p3 : Nat, cR M 102 h = some p3 ∧ (tg T p3 = 27 ∧ (((nI (ln T p3)) ≤ a1 → fc_X10_operationAt_b22 T h Q   M) ∧ (¬ (nI (ln T p3)) ≤ a1 → (vp_in a1 (ln T p3) ∧ fc_X10_operationAt_b23 T h Q  (xR M p3 a1.toNatClampNeg) M)))))))) → W p l e (headSpec wsX10_operationAt rmX10_operationAt).room s m args below meth c H locs 0 0 (MQ below (va_Qq Q (cB D kA A T) A) args s 0 0 A) (F0 m 0 ls []) := by
    intro M H locs ls hH hl hw
    refine lv_iload_n hx hb dX10_operationAt_0 rfl (lv_at hl 1 rfl) ?_
    refine lv_if_lt (tgt := 22) hx hb dX10_operationAt_1 (by decide) (fun c1 => ?_) (fun c1 => ?_)
    · replace hw := hw.1 c1
      exact b22    M H locs ls hH (lv_sub hl [] rfl) hw
    · replace hw := hw.2 c1
      refine lv_iload_n hx hb dX10_operationAt_4 rfl (lv_at hl 1 rfl) ?_
      refine lv_aload_n hx hb dX10_operationAt_5 rfl (lv_at hl 0 rfl) ?_
      obtain ⟨h2, hw⟩ := hw
      refine cg_102 hx hb hts hin10 hown hK hH h2 (hts (.fieldLink RX10 27 "IdlCaller" "operations" "[LIdlCaller$Operation;") (by decide +kernel)) dX10_operationAt_6 ?_
      obtain ⟨p3, ep3, hw⟩ := hw
      refine W.st (st' := [.ref p3, .int a1]) (by rw [ep3]; rfl) ?_
      obtain ⟨h4, hw⟩ := hw
      refine cn_7 hx hb hK hH h4 dX10_operationAt_9 ?_
      refine lv_icmp_ge (tgt := 22) hx hb dX10_operationAt_10 (by decide) (fun c5 => ?_) (fun c5 => ?_)
      · replace hw := hw.1 c5
        exact b22    M H locs ls hH (lv_sub hl [] rfl) hw
      · replace hw := hw.2 c5
        refine lv_aload_n hx hb dX10_operationAt_13 rfl (lv_at hl 0 rfl) ?_
        refine cg_102 hx hb hts hin10 hown hK hH h2 (hts (.fieldLink RX10 27 "IdlCaller" "operations" "[LIdlCaller$Operation;") (by decide +kernel)) dX10_operationAt_14 ?_
        refine lv_iload_n hx hb dX10_operationAt_17 rfl (lv_at hl 1 rfl) ?_
        refine W.st (st' := [.int a1, .ref p3]) (by rw [ep3]; rfl) ?_
        obtain ⟨h6, hw⟩ := hw
        refine cl_7 hx hb hK hH h4 h6 dX10_operationAt_18 ?_
        refine lv_goto (tgt := 23) hx hb dX10_operationAt_19 (by decide) ?_
        exact b23   (xR M p3 a1.toNatClampNeg) M H locs ls hH (lv_sub hl [] rfl) hw
  exact hst M s.heap [] ls hH hl hw
def fc_X10_define_b28 (nm : Nat → Nat) (mc ms : Nat) (h : Nat) (Q : Int32 → LY → CM → Prop) (v1 : Option Nat) (s0 : Option Nat) (T : LY) (M : CM) (K N : Nat) : Prop := ((¬ s0 = none → (∃ p2 : Nat, s0 = some p2 ∧ (tg T p2 = 6 ∧ (K ≤ mc ∧ (N ≤ ms ∧ fc_X5_clashOf nm T p2 v1 M (fun (r5 : Int32) (M4 : CM) => (tg T h = 11 ∧ (∀ M10 : CM, M10 = sI M4 108 h r5 → (((cI M10 108 h) = (-1) → (K ≤ mc ∧ (N ≤ ms ∧ fc_X5_append T p2 v1 M10 (fun (r13 : Int32) (M12 : CM) => (K ≤ mc ∧ N ≤ ms ∧ Q r13 T M12))))) ∧ (¬ (cI M10 108 h) = (-1) → (K ≤ mc ∧ N ≤ ms ∧ Q (-3) T M10))))))))))) ∧ (s0 = none → (tg T h = 11 ∧ (∃ p18 : Nat, cR M 101 h = some p18 ∧ (tg T p18 = 7 ∧ (∀ M20 : CM, M20 = sI M 108 h (cI M 66 p18) → (K ≤ mc ∧ N ≤ ms ∧ Q (-2) T M20)))))))
def fc_X10_define (nm : Nat → Nat) (mc ms : Nat) (h : Nat)  (T : LY) (M : CM) (Q : Int32 → LY → CM → Prop) : Prop := (tg T h = 11 ∧ (∃ p22 : Nat, cR M 101 h = some p22 ∧ (tg T p22 = 7 ∧ (∃ cc27 nn28 : Nat, 0 + cc27 ≤ mc ∧ 0 + nn28 ≤ ms ∧ fc_X6_readForm nm cc27 nn28 p22 (cR M 100 h) T M (fun (r25 : Option Nat) (T26 : LY) (M24 : CM) => ((¬ r25 = none → (∃ p30 : Nat, r25 = some p30 ∧ (tg T26 p30 = 3 ∧ (tg T26 h = 11 ∧ (0 + cc27 ≤ mc ∧ (0 + nn28 ≤ ms ∧ fc_X10_operationAt T26 h (cI M24 20 p30) M24 (fun (r34 : Option Nat) (M33 : CM) => fc_X10_define_b28 nm mc ms h Q  r25 r34 T26 M33 (0 + cc27) (0 + nn28)))))))) ∧ (r25 = none → fc_X10_define_b28 nm mc ms h Q  r25 none T26 M24 (0 + cc27) (0 + nn28))))))))
abbrev rmX10_define (mc ms : Nat) : Room := { frames := 10, cells := mc, slots := ms, locals := 234 }
set_option maxHeartbeats 4000000 in
set_option maxRecDepth 100000 in
theorem tc_X10_define (l : Launch) (D : va_G) (kA : Nat → ClassId) (nm : Nat → Nat) (na : Nat) (sa sv : Nat → Nat) (sz : Nat) (mc ms : Nat) (h : Nat) (T : LY) (M : CM) (Q : Int32 → LY → CM → Prop) (hw : fc_X10_define nm mc ms h  T M Q) : Met l yX10_define wsX10_define (rmX10_define mc ms) (va_Pc [.ref h] (cPc nm na sa sv D kA T M sz)) (va_Qi (fun r (u : LY × CM) => Q r u.1 u.2) (cBT D kA (cF T sz)) (cF T sz)) mc ms (cF T sz) := by
  refine Met.ofW (cc := cX10_define) (maxL := 3) (ret := (some .int)) (by decide) rfl ?_
  intro p e s m args below meth c s₁ B hml hv
  obtain ⟨rfl, hsz, hP, hK, hSt⟩ := hv
  have hx := B.exec
  have hb := B.bytes
  have hr := B.returns
  have hts := atoms_spec (ws := wsX10_define) B.pre
  have hown : s.vm.findClass RX10 = some m.cls := findClass_of_methodNamed B.named
  have hlocks : meth.locks = false := B.notSynchronized
  subst hsz
  have hH : cH D kA (cF T s.heap.size) s.heap T M s.heap [] := ⟨hP.self, va_S.rf⟩
  have hA : ∀ q : Nat, s.heap.size ≤ q → cF T s.heap.size q := fun q z => Or.inr z
  generalize cF T s.heap.size = A at hH hA hSt ⊢
  have hl := lv_entry ([.ref h]) (n := 3) (by first | exact Nat.le_of_ble_eq_true rfl | simp [lg_sl, va_rf_cat, cat_ref, cat_int, cat_long, cat_double])
  rw [lg_entry_eq]
  generalize (lg_sl ([.ref h]) ++ List.replicate (3 - (lg_sl ([.ref h])).length) Slot.unset).toArray = ls at hl ⊢
  generalize ([.ref h] : List Value).toArray = args at hts ⊢
  have hl : lv_has ls 3 [(0, .ref h)] := hl
  have hin2 : ∀ w ∈ wsX20, w ∈ wsX10_define := by decide +kernel
  have hin6 : ∀ w ∈ wsX60, w ∈ wsX10_define := by decide +kernel
  have hin10 : ∀ w ∈ wsX100, w ∈ wsX10_define := by decide +kernel
  have b28 : ∀ (v1 : Option Nat) (s0 : Option Nat) (T : LY) (M : CM) (K N : Nat) (H : Heap) (locs : List Loc) (ls : Array Slot), cH D kA A s.heap T M H locs → lv_has ls 3 [(0, .ref h), (1, va_rf v1)] → fc_X10_define_b28 nm mc ms h Q  v1 s0 T M K N → W p l e (headSpec wsX10_define (rmX10_define mc ms)).room s m args below meth c H locs K N (MQ below (va_Qi (fun r (u : LY × CM) => Q r u.1 u.2) (cBT D kA A) A) args s mc ms A) (F0 m 28 ls [va_rf s0]) := by
    intro   v1 s0 T M K N H locs ls hH hl hw
    unfold fc_X10_define_b28 at hw
    refine s_astore_n (i := 2) (lv' := [(2, va_rf s0), (0, .ref h), (1, va_rf v1)]) hx hb dX10_define_28 rfl hl (by decide) (by first | rfl | simp [va_rf_cat, cat_ref, cat_int, cat_long, cat_double, cat_null]) (fun ls hl => ?_)
    refine s_aload_n hx hb dX10_define_29 rfl (lv_at hl 0 rfl) ?_
    refine s_ifnonnull (tgt := 47) hx hb dX10_define_30 (by decide) (fun c1 => ?_) (fun c1 => ?_)
    · replace hw := hw.1 c1
      refine lv_aload_n hx hb dX10_define_47 rfl (lv_at hl 1 rfl) ?_
      refine s_aload_n hx hb dX10_define_48 rfl (lv_at hl 0 rfl) ?_
      refine s_aload_n hx hb dX10_define_49 rfl (lv_at hl 2 rfl) ?_
      obtain ⟨p2, ep2, hw⟩ := hw
      refine W.st (st' := [va_rf v1, .ref p2, .ref h]) (by rw [ep2]; rfl) ?_
      obtain ⟨h3, hw⟩ := hw
      obtain ⟨h7, hw⟩ := hw
      obtain ⟨h8, hw⟩ := hw
      refine c_calli (va_runV (As := [va_rf v1]) (rest := [.ref h]) ⟨hx, hb, hml, hown, hts⟩ (tc_X5_clashOf l D kA nm na sa sv H.size T p2 v1 M _ hw) (cwV 1 hts gX10_define_X5_clashOf rfl rfl rfl (by decide +kernel) ⟨(show (6 : Nat) + 1 ≤ 10 from Nat.le_of_ble_eq_true rfl), (show 8 + (3 + 11) + (131 : Nat) ≤ 234 from Nat.le_of_ble_eq_true rfl)⟩) (c_preV hK hH hA hSt (c_recv5 hK hH h3)) rfl rfl hl.1 rfl (lv_room (by first | exact Nat.le_of_ble_eq_true rfl | simp [va_rf_cat, cat_ref, cat_int, cat_long, cat_double, cat_null])) dX10_define_50 ⟨h7, h8⟩) hH hA (fun r5 M4 H locs hw hH => ?_)
      obtain ⟨h9, hw⟩ := hw
      refine cp_108 (x := r5) hx hb hts hin10 hown hK hH h9 (hts (.fieldLink RX10 56 "IdlCaller" "lastPlace" "I") (by decide +kernel)) dX10_define_53 (fun M10 H locs eM10 hH => ?_)
      replace hw := hw M10 eM10
      refine lv_aload_n hx hb dX10_define_56 rfl (lv_at hl 1 rfl) ?_
      refine cg_108 hx hb hts hin10 hown hK hH h9 (hts (.fieldLink RX10 56 "IdlCaller" "lastPlace" "I") (by decide +kernel)) dX10_define_57 ?_
      refine lv_iconst (v := (-1)) hx hb dX10_define_60 (by decide) ?_
      refine lv_icmp_eq (tgt := 67) hx hb dX10_define_61 (by decide) (fun c11 => ?_) (fun c11 => ?_)
      · replace hw := hw.1 c11
        refine s_aload_n hx hb dX10_define_67 rfl (lv_at hl 0 rfl) ?_
        refine s_aload_n hx hb dX10_define_68 rfl (lv_at hl 2 rfl) ?_
        refine W.st (st' := [va_rf v1, .ref p2]) (by rw [ep2]; rfl) ?_
        obtain ⟨h15, hw⟩ := hw
        obtain ⟨h16, hw⟩ := hw
        refine c_calli (va_runV (As := [va_rf v1]) (rest := []) ⟨hx, hb, hml, hown, hts⟩ (tc_X5_append l D kA nm na sa sv H.size T p2 v1 M10 _ hw) (cwV 1 hts gX10_define_X5_append rfl rfl rfl (by decide +kernel) ⟨(show (0 : Nat) + 1 ≤ 10 from Nat.le_of_ble_eq_true rfl), (show 8 + (2 + 11) + (0 : Nat) ≤ 234 from Nat.le_of_ble_eq_true rfl)⟩) (c_preV hK hH hA hSt (c_recv5 hK hH h3)) rfl rfl hl.1 rfl (lv_room (by first | exact Nat.le_of_ble_eq_true rfl | simp [va_rf_cat, cat_ref, cat_int, cat_long, cat_double, cat_null])) dX10_define_69 ⟨h15, h16⟩) hH hA (fun r13 M12 H locs hw hH => ?_)
        exact c_retTi hw.1 hw.2.1 hx hb hr hlocks hK hH hw.2.2 dX10_define_72
      · replace hw := hw.2 c11
        refine lv_bipush (v := (-3)) hx hb dX10_define_64 (by decide) ?_
        exact c_retTi hw.1 hw.2.1 hx hb hr hlocks hK hH hw.2.2 dX10_define_66
    · replace hw := hw.2 c1
      refine lv_aload_n hx hb dX10_define_33 rfl (lv_at hl 1 rfl) ?_
      refine lv_aload_n hx hb dX10_define_34 rfl (lv_at hl 1 rfl) ?_
      obtain ⟨h17, hw⟩ := hw
      refine cg_101 hx hb hts hin10 hown hK hH h17 (hts (.fieldLink RX10 21 "IdlCaller" "reader" "LIdlCaller$Reader;") (by decide +kernel)) dX10_define_35 ?_
      obtain ⟨p18, ep18, hw⟩ := hw
      refine W.st (st' := [.ref p18, .ref h]) (by rw [ep18]; rfl) ?_
      obtain ⟨h19, hw⟩ := hw
      refine cg_66 hx hb hts hin6 hown hK hH h19 (hts (.fieldLink RX10 90 "IdlCaller$Reader" "fault" "I") (by decide +kernel)) dX10_define_38 ?_
      refine cp_108 (x := cI M 66 p18) hx hb hts hin10 hown hK hH h17 (hts (.fieldLink RX10 56 "IdlCaller" "lastPlace" "I") (by decide +kernel)) dX10_define_41 (fun M20 H locs eM20 hH => ?_)
      replace hw := hw M20 eM20
      refine lv_bipush (v := (-2)) hx hb dX10_define_44 (by decide) ?_
      exact c_retTi hw.1 hw.2.1 hx hb hr hlocks hK hH hw.2.2 dX10_define_46
  clear hP
  unfold fc_X10_define at hw
  have hst : ∀ (T : LY) (M : CM) (H : Heap) (locs : List Loc) (ls : Array Slot), cH D kA A s.heap T M H locs → lv_has ls 3 [(0, .ref h)] → (tg T h = 11 ∧ (∃ p22 : Nat, cR M 101 h = some p22 ∧ (tg T p22 = 7 ∧ (∃ cc27 nn28 : Nat, 0 + cc27 ≤ mc ∧ 0 + nn28 ≤ ms ∧ fc_X6_readForm nm cc27 nn28 p22 (cR M 100 h) T M (fun (r25 : Option Nat) (T26 : LY) (M24 : CM) => ((¬ r25 = none → (∃ p30 : Nat, r25 = some p30 ∧ (tg T26 p30 = 3 ∧ (tg T26 h = 11 ∧ (0 + cc27 ≤ mc ∧ (0 + nn28 ≤ ms ∧ fc_X10_operationAt T26 h (cI M24 20 p30) M24 (fun (r34 : Option Nat) (M33 : CM) => fc_X10_define_b28 nm mc ms h Q  r25 r34 T26 M33 (0 + cc27) (0 + nn28)))))))) ∧ (r25 = none → fc_X10_define_b28 nm mc ms h Q  r25 none T26 M24 (0 + cc27) (0 + nn28)))))))) → W p l e (headSpec wsX10_define (rmX10_define mc ms)).room s m args below meth c H locs 0 0 (MQ below (va_Qi (fun r (u : LY × CM) => Q r u.1 u.2) (cBT D kA A) A) args s mc ms A) (F0 m 0 ls []) := by
    intro T M H locs ls hH hl hw
    refine lv_aload_n hx hb dX10_define_0 rfl (lv_at hl 0 rfl) ?_
    obtain ⟨h21, hw⟩ := hw
    refine cg_101 hx hb hts hin10 hown hK hH h21 (hts (.fieldLink RX10 21 "IdlCaller" "reader" "LIdlCaller$Reader;") (by decide +kernel)) dX10_define_1 ?_
    refine lv_aload_n hx hb dX10_define_4 rfl (lv_at hl 0 rfl) ?_
    refine cg_100 hx hb hts hin10 hown hK hH h21 (hts (.fieldLink RX10 14 "IdlCaller" "line" "LIdlCaller$Text;") (by decide +kernel)) dX10_define_5 ?_
    obtain ⟨p22, ep22, hw⟩ := hw
    refine W.st (st' := [va_rf (cR M 100 h), .ref p22]) (by rw [ep22]; rfl) ?_
    obtain ⟨h23, hw⟩ := hw
    obtain ⟨cc27, nn28, hcc27, hnn28, hw⟩ := hw
    refine c_callTq (va_runV (As := [va_rf (cR M 100 h)]) (rest := []) ⟨hx, hb, hml, hown, hts⟩ (tc_X6_readForm l D kA nm na sa sv H.size cc27 nn28 p22 (cR M 100 h) T M _ hw) (cwV 1 hts gX10_define_X6_readForm rfl rfl rfl (by decide +kernel) ⟨(show (9 : Nat) + 1 ≤ 10 from Nat.le_of_ble_eq_true rfl), (show 8 + (8 + 11) + (207 : Nat) ≤ 234 from Nat.le_of_ble_eq_true rfl)⟩) (c_preV hK hH hA hSt (c_recv6 hK hH h23)) rfl rfl hl.1 rfl (lv_room (by first | exact Nat.le_of_ble_eq_true rfl | simp [va_rf_cat, cat_ref, cat_int, cat_long, cat_double, cat_null])) dX10_define_8 ⟨hcc27, hnn28⟩) hH hA (fun r25 T26 M24 H locs hw hH => ?_)
    refine s_astore_n (i := 1) (lv' := [(1, va_rf r25), (0, .ref h)]) hx hb dX10_define_11 rfl hl (by decide) (by first | rfl | simp [va_rf_cat, cat_ref, cat_int, cat_long, cat_double, cat_null]) (fun ls hl => ?_)
    refine s_aload_n hx hb dX10_define_12 rfl (lv_at hl 0 rfl) ?_
    refine s_ifnonnull (tgt := 20) hx hb dX10_define_13 (by decide) (fun c29 => ?_) (fun c29 => ?_)
    · replace hw := hw.1 c29
      refine lv_aload_n hx hb dX10_define_20 rfl (lv_at hl 1 rfl) ?_
      refine s_aload_n hx hb dX10_define_21 rfl (lv_at hl 0 rfl) ?_
      obtain ⟨p30, ep30, hw⟩ := hw
      refine W.st (st' := [.ref p30, .ref h]) (by rw [ep30]; rfl) ?_
      obtain ⟨h31, hw⟩ := hw
      refine cg_20 hx hb hts hin2 hown hK hH h31 (hts (.fieldLink RX10 81 "IdlCaller$Form" "operation" "I") (by decide +kernel)) dX10_define_22 ?_
      obtain ⟨h32, hw⟩ := hw
      obtain ⟨h36, hw⟩ := hw
      obtain ⟨h37, hw⟩ := hw
      refine c_callq (va_runV (As := [.int (cI M24 20 p30)]) (rest := []) ⟨hx, hb, hml, hown, hts⟩ (tc_X10_operationAt l D kA nm na sa sv H.size T26 h (cI M24 20 p30) M24 _ hw) (cwV 1 hts gX10_define_X10_operationAt rfl rfl rfl (by decide +kernel) ⟨(show (0 : Nat) + 1 ≤ 10 from Nat.le_of_ble_eq_true rfl), (show 8 + (2 + 11) + (0 : Nat) ≤ 234 from Nat.le_of_ble_eq_true rfl)⟩) (c_preV hK hH hA hSt (c_recv10 hK hH h32)) rfl rfl hl.1 rfl (lv_room (by first | exact Nat.le_of_ble_eq_true rfl | simp [va_rf_cat, cat_ref, cat_int, cat_long, cat_double, cat_null])) dX10_define_25 ⟨h36, h37⟩) hH hA (fun r34 M33 H locs hw hH => ?_)
      exact b28   r25 r34 T26 M33 (0 + cc27) (0 + nn28) H locs ls hH (lv_sub hl [1, 0] rfl) hw
    · replace hw := hw.2 c29
      refine lv_null hx hb dX10_define_16 ?_
      refine lv_goto (tgt := 28) hx hb dX10_define_17 (by decide) ?_
      exact b28   r25 none T26 M24 (0 + cc27) (0 + nn28) H locs ls hH (lv_sub hl [1, 0] rfl) hw
  exact hst T M s.heap [] ls hH hl hw
def fc_X10_drop (T : LY) (X : Nat → CM → Prop) (h : Nat)  (a1 : Int32) (M : CM) (Q : Int32 → CM → Prop) : Prop := (tg T h = 11 ∧ fc_X10_operationAt T h a1 M (fun (r3 : Option Nat) (M2 : CM) => ((¬ r3 = none → (∃ p6 : Nat, r3 = some p6 ∧ (tg T p6 = 6 ∧ (∀ x8 : Int32, x8 = cI M2 51 p6 → fc_X5_clear T p6 M2 (fun (M9 : CM) => Q x8 M9))))) ∧ (r3 = none → X 1 M2))))
abbrev rmX10_drop : Room := { frames := 6, cells := 1, slots := 6, locals := 82 }
set_option maxHeartbeats 4000000 in
set_option maxRecDepth 100000 in
theorem tc_X10_drop (l : Launch) (hst0 : l.stackTraces = false) (D : va_G) (kA : Nat → ClassId) (nm : Nat → Nat) (na : Nat) (sa sv : Nat → Nat) (sz : Nat) (T : LY) (X : Nat → CM → Prop) (h : Nat) (a1 : Int32) (M : CM) (Q : Int32 → CM → Prop) (hw : fc_X10_drop T X h a1 M Q) : vx_Met l yX10_drop wsX10_drop rmX10_drop (va_Pc [.ref h, .int a1] (cPc nm na sa sv D kA T M sz)) (va_Qi Q (cB D kA (cF T sz) T) (cF T sz)) (vx_X (fun (u : Nat × CM) => X u.1 u.2) (cBX D kA (cF T sz) T) (cF T sz)) 1 6 (cF T sz) := by
  refine vx_ofW (cc := cX10_drop) (maxL := 4) (ret := (some .int)) (by decide) rfl ?_
  intro p e s m args below meth c s₁ B hml htab hv
  obtain ⟨rfl, hsz, hP, hK, hSt⟩ := hv
  have hx := B.exec
  have hb := B.bytes
  have hr := B.returns
  have hts := atoms_spec (ws := wsX10_drop) B.pre
  have hown : s.vm.findClass RX10 = some m.cls := findClass_of_methodNamed B.named
  have hlocks : meth.locks = false := B.notSynchronized
  subst hsz
  have hH : cH D kA (cF T s.heap.size) s.heap T M s.heap [] := ⟨hP.self, va_S.rf⟩
  have hA : ∀ q : Nat, s.heap.size ≤ q → cF T s.heap.size q := fun q z => Or.inr z
  generalize cF T s.heap.size = A at hH hA hSt ⊢
  have hl := lv_entry ([.ref h, .int a1]) (n := 4) (by first | exact Nat.le_of_ble_eq_true rfl | simp [lg_sl, va_rf_cat, cat_ref, cat_int, cat_long, cat_double])
  rw [lg_entry_eq]
  generalize (lg_sl ([.ref h, .int a1]) ++ List.replicate (4 - (lg_sl ([.ref h, .int a1])).length) Slot.unset).toArray = ls at hl ⊢
  generalize ([.ref h, .int a1] : List Value).toArray = args at hts ⊢
  have hl : lv_has ls 4 [(0, .ref h), (1, .int a1)] := hl
  have hin5 : ∀ w ∈ wsX50, w ∈ wsX10_drop := by decide +kernel
  have hat104 : ∀ w ∈ (vx_atS RX10 104 (exN 1) exS).filter goodWord, w ∈ wsX10_drop := by decide +kernel
  clear hP
  unfold fc_X10_drop at hw
  have hst : ∀ (M : CM) (H : Heap) (locs : List Loc) (ls : Array Slot), cH D kA A s.heap T M H locs → lv_has ls 4 [(0, .ref h), (1, .int a1)] → (tg T h = 11 ∧ fc_X10_operationAt T h a1 M (fun (r3 : Option Nat) (M2 : CM) => ((¬ r3 = none → (∃ p6 : Nat, r3 = some p6 ∧ (tg T p6 = 6 ∧ (∀ x8 : Int32, x8 = cI M2 51 p6 → fc_X5_clear T p6 M2 (fun (M9 : CM) => Q x8 M9))))) ∧ (r3 = none → X 1 M2)))) → W p l e (headSpec wsX10_drop rmX10_drop).room s m args below meth c H locs 0 0 (vx_MQ below (va_Qi Q (cB D kA A T) A) (vx_X (fun (u : Nat × CM) => X u.1 u.2) (cBX D kA A T) A) args s 1 6 A) (F0 m 0 ls []) := by
    intro M H locs ls hH hl hw
    refine lv_aload_n hx hb dX10_drop_0 rfl (lv_at hl 0 rfl) ?_
    refine lv_iload_n hx hb dX10_drop_1 rfl (lv_at hl 1 rfl) ?_
    obtain ⟨h1, hw⟩ := hw
    refine c_callq (va_runV (As := [.int a1]) (rest := []) ⟨hx, hb, hml, hown, hts⟩ (tc_X10_operationAt l D kA nm na sa sv H.size T h a1 M _ hw) (cwV 1 hts gX10_drop_X10_operationAt rfl rfl rfl (by decide +kernel) ⟨(show (0 : Nat) + 1 ≤ 6 from Nat.le_of_ble_eq_true rfl), (show 8 + (2 + 11) + (0 : Nat) ≤ 82 from Nat.le_of_ble_eq_true rfl)⟩) (c_preV hK hH hA hSt (c_recv10 hK hH h1)) rfl rfl hl.1 rfl (lv_room (by first | exact Nat.le_of_ble_eq_true rfl | simp [va_rf_cat, cat_ref, cat_int, cat_long, cat_double, cat_null])) dX10_drop_2 ⟨Nat.le_of_ble_eq_true rfl, Nat.le_of_ble_eq_true rfl⟩) hH hA (fun r3 M2 H locs hw hH => ?_)
    refine s_astore_n (i := 2) (lv' := [(2, va_rf r3), (0, .ref h), (1, .int a1)]) hx hb dX10_drop_5 rfl hl (by decide) (by first | rfl | simp [va_rf_cat, cat_ref, cat_int, cat_long, cat_double, cat_null]) (fun ls hl => ?_)
    refine s_aload_n hx hb dX10_drop_6 rfl (lv_at hl 0 rfl) ?_
    refine s_ifnonnull (tgt := 20) hx hb dX10_drop_7 (by decide) (fun c5 => ?_) (fun c5 => ?_)
    · replace hw := hw.1 c5
      refine s_aload_n hx hb dX10_drop_20 rfl (lv_at hl 0 rfl) ?_
      obtain ⟨p6, ep6, hw⟩ := hw
      refine W.st (st' := [.ref p6]) (by rw [ep6]; rfl) ?_
      obtain ⟨h7, hw⟩ := hw
      refine cg_51 hx hb hts hin5 hown hK hH h7 (hts (.fieldLink RX10 105 "IdlCaller$Operation" "count" "I") (by decide +kernel)) dX10_drop_21 ?_
      refine lv_topi (fun x8 ex8 => ?_)
      replace hw := hw x8 ex8
      refine lv_istore_n (i := 3) (lv' := [(3, .int x8), (2, va_rf r3), (0, .ref h), (1, .int a1)]) hx hb dX10_drop_24 rfl hl (by decide) (by first | rfl | simp [va_rf_cat, cat_ref, cat_int, cat_long, cat_double, cat_null]) (fun ls hl => ?_)
      refine s_aload_n hx hb dX10_drop_25 rfl (lv_at hl 1 rfl) ?_
      refine W.st (st' := [.ref p6]) (by rw [ep6]; rfl) ?_
      refine c_callv (va_runV (As := []) (rest := []) ⟨hx, hb, hml, hown, hts⟩ (tc_X5_clear l D kA nm na sa sv H.size T p6 M2 _ hw) (cwV 0 hts gX10_drop_X5_clear rfl rfl rfl (by decide +kernel) ⟨(show (0 : Nat) + 1 ≤ 6 from Nat.le_of_ble_eq_true rfl), (show 8 + (1 + 11) + (0 : Nat) ≤ 82 from Nat.le_of_ble_eq_true rfl)⟩) (c_preV hK hH hA hSt (c_recv5 hK hH h7)) rfl rfl hl.1 rfl (lv_room (by first | exact Nat.le_of_ble_eq_true rfl | simp [va_rf_cat, cat_ref, cat_int, cat_long, cat_double, cat_null])) dX10_drop_26 ⟨Nat.le_of_ble_eq_true rfl, Nat.le_of_ble_eq_true rfl⟩) hH hA (fun M9 H locs hw hH => ?_)
      refine lv_iload_n hx hb dX10_drop_29 rfl (lv_at hl 0 rfl) ?_
      exact vx_ret (W.widen (k := 1) (n := 6) (Nat.le_of_ble_eq_true rfl) (Nat.le_of_ble_eq_true rfl) (c_reti hx hb hr hlocks hK hH hw dX10_drop_30))
    · replace hw := hw.2 c5
      exact c_throw (k := 1) (ik := 100) (is := 102) (ic := 104) hx hb hst0 hown (by decide +kernel) (hts (.classLink RX10 100 "java/lang/IllegalArgumentException") (by decide +kernel)) (hts (.initialized "java/lang/IllegalArgumentException") (by decide +kernel)) (hSt.2.2.2.2.2.2.2.2.2.2.2.2.2.2.2.2.2.2.2.2.2.2.2.2.2.2.2.2.2.2.2.2.2.2.2.2.1) (fun w z => hts w (hat104 w z)) (by decide +kernel) (hSt.2.2.2.2.2.2.2.2.2.2.2.2.2.2.2.2.2.2.2.2.2.2.2.2.2.2.2.2.2.1) (by decide +kernel) hSt hK hH (by rw [hml]; exact hl.1) dX10_drop_10 dX10_drop_13 dX10_drop_14 dX10_drop_16 dX10_drop_19 htab (show 6 ≤ (6 : Nat) from Nat.le_of_ble_eq_true rfl) (show _ ≤ (82 : Nat) from by first | exact Nat.le_of_ble_eq_true rfl | simp [va_rf_cat, cat_ref, cat_int, cat_long, cat_double, cat_null]) (Nat.le_of_ble_eq_true rfl) (Nat.le_of_ble_eq_true rfl) (Nat.le_of_ble_eq_true rfl) (Nat.le_of_ble_eq_true rfl) hlocks hw
  exact hst M s.heap [] ls hH hl hw
def fc_X10_place (T : LY) (h : Nat)  (M : CM) (Q : Int32 → CM → Prop) : Prop := (tg T h = 11 ∧ Q (cI M 108 h) M)
abbrev rmX10_place : Room := { frames := 0, cells := 0, slots := 0, locals := 0 }
set_option maxHeartbeats 4000000 in
set_option maxRecDepth 100000 in
theorem tc_X10_place (l : Launch) (D : va_G) (kA : Nat → ClassId) (nm : Nat → Nat) (na : Nat) (sa sv : Nat → Nat) (sz : Nat) (T : LY) (h : Nat) (M : CM) (Q : Int32 → CM → Prop) (hw : fc_X10_place T h  M Q) : Met l yX10_place wsX10_place rmX10_place (va_Pc [.ref h] (cPc nm na sa sv D kA T M sz)) (va_Qi Q (cB D kA (cF T sz) T) (cF T sz)) 0 0 (cF T sz) := by
  refine Met.ofW (cc := cX10_place) (maxL := 1) (ret := (some .int)) (by decide) rfl ?_
  intro p e s m args below meth c s₁ B hml hv
  obtain ⟨rfl, hsz, hP, hK, hSt⟩ := hv
  have hx := B.exec
  have hb := B.bytes
  have hr := B.returns
  have hts := atoms_spec (ws := wsX10_place) B.pre
  have hown : s.vm.findClass RX10 = some m.cls := findClass_of_methodNamed B.named
  have hlocks : meth.locks = false := B.notSynchronized
  subst hsz
  have hH : cH D kA (cF T s.heap.size) s.heap T M s.heap [] := ⟨hP.self, va_S.rf⟩
  have hA : ∀ q : Nat, s.heap.size ≤ q → cF T s.heap.size q := fun q z => Or.inr z
  generalize cF T s.heap.size = A at hH hA hSt ⊢
  have hl := lv_entry ([.ref h]) (n := 1) (by first | exact Nat.le_of_ble_eq_true rfl | simp [lg_sl, va_rf_cat, cat_ref, cat_int, cat_long, cat_double])
  rw [lg_entry_eq]
  generalize (lg_sl ([.ref h]) ++ List.replicate (1 - (lg_sl ([.ref h])).length) Slot.unset).toArray = ls at hl ⊢
  generalize ([.ref h] : List Value).toArray = args at hts ⊢
  have hl : lv_has ls 1 [(0, .ref h)] := hl
  have hin10 : ∀ w ∈ wsX100, w ∈ wsX10_place := by decide +kernel
  clear hP
  unfold fc_X10_place at hw
  have hst : ∀ (M : CM) (H : Heap) (locs : List Loc) (ls : Array Slot), cH D kA A s.heap T M H locs → lv_has ls 1 [(0, .ref h)] → (tg T h = 11 ∧ Q (cI M 108 h) M) → W p l e (headSpec wsX10_place rmX10_place).room s m args below meth c H locs 0 0 (MQ below (va_Qi Q (cB D kA A T) A) args s 0 0 A) (F0 m 0 ls []) := by
    intro M H locs ls hH hl hw
    refine lv_aload_n hx hb dX10_place_0 rfl (lv_at hl 0 rfl) ?_
    obtain ⟨h1, hw⟩ := hw
    refine cg_108 hx hb hts hin10 hown hK hH h1 (hts (.fieldLink RX10 56 "IdlCaller" "lastPlace" "I") (by decide +kernel)) dX10_place_1 ?_
    exact c_reti hx hb hr hlocks hK hH hw dX10_place_4
  exact hst M s.heap [] ls hH hl hw
def fc_X10_findNumber (T : LY) (h : Nat)  (a1 : Option Nat) (M : CM) (Q : CM → Prop) : Prop := (tg T h = 11 ∧ (∃ p2 : Nat, a1 = some p2 ∧ (tg T p2 = 9 ∧ (∃ p4 : Nat, cR M 104 h = some p4 ∧ (tg T p4 = 5 ∧ fc_X4_read T p4 (cR M 84 p2) M (fun (r7 : Int32) (M6 : CM) => (∃ p9 : Nat, cR M6 104 h = some p9 ∧ (tg T p9 = 5 ∧ fc_X8_knowNumber T p2 r7 (cD M6 40 p9) M6 (fun (M11 : CM) => Q M11)))))))))
abbrev rmX10_findNumber : Room := { frames := 4, cells := 0, slots := 0, locals := 92 }
set_option maxHeartbeats 4000000 in
set_option maxRecDepth 100000 in
theorem tc_X10_findNumber (l : Launch) (D : va_G) (kA : Nat → ClassId) (nm : Nat → Nat) (na : Nat) (sa sv : Nat → Nat) (sz : Nat) (T : LY) (h : Nat) (a1 : Option Nat) (M : CM) (Q : CM → Prop) (hw : fc_X10_findNumber T h a1 M Q) : Met l yX10_findNumber wsX10_findNumber rmX10_findNumber (va_Pc [.ref h, va_rf a1] (cPc nm na sa sv D kA T M sz)) (va_Qv Q (cB D kA (cF T sz) T) (cF T sz)) 0 0 (cF T sz) := by
  refine Met.ofW (cc := cX10_findNumber) (maxL := 3) (ret := none) (by decide) rfl ?_
  intro p e s m args below meth c s₁ B hml hv
  obtain ⟨rfl, hsz, hP, hK, hSt⟩ := hv
  have hx := B.exec
  have hb := B.bytes
  have hr := B.returns
  have hts := atoms_spec (ws := wsX10_findNumber) B.pre
  have hown : s.vm.findClass RX10 = some m.cls := findClass_of_methodNamed B.named
  have hlocks : meth.locks = false := B.notSynchronized
  subst hsz
  have hH : cH D kA (cF T s.heap.size) s.heap T M s.heap [] := ⟨hP.self, va_S.rf⟩
  have hA : ∀ q : Nat, s.heap.size ≤ q → cF T s.heap.size q := fun q z => Or.inr z
  generalize cF T s.heap.size = A at hH hA hSt ⊢
  have hl := lv_entry ([.ref h, va_rf a1]) (n := 3) (by first | exact Nat.le_of_ble_eq_true rfl | simp [lg_sl, va_rf_cat, cat_ref, cat_int, cat_long, cat_double])
  rw [lg_entry_eq]
  generalize (lg_sl ([.ref h, va_rf a1]) ++ List.replicate (3 - (lg_sl ([.ref h, va_rf a1])).length) Slot.unset).toArray = ls at hl ⊢
  generalize ([.ref h, va_rf a1] : List Value).toArray = args at hts ⊢
  have hl : lv_has ls 3 [(0, .ref h), (1, va_rf a1)] := by simpa [lv_args, va_rf_cat, cat_ref, cat_int, cat_long, cat_double] using hl
  have hin4 : ∀ w ∈ wsX40, w ∈ wsX10_findNumber := by decide +kernel
  have hin8 : ∀ w ∈ wsX80, w ∈ wsX10_findNumber := by decide +kernel
  have hin10 : ∀ w ∈ wsX100, w ∈ wsX10_findNumber := by decide +kernel
  clear hP
  unfold fc_X10_findNumber at hw
  have hst : ∀ (M : CM) (H : Heap) (locs : List Loc) (ls : Array Slot), cH D kA A s.heap T M H locs → lv_has ls 3 [(0, .ref h), (1, va_rf a1)] → (tg T h = 11 ∧ (∃ p2 : Nat, a1 = some p2 ∧ (tg T p2 = 9 ∧ (∃ p4 : Nat, cR M 104 h = some p4 ∧ (tg T p4 = 5 ∧ fc_X4_read T p4 (cR M 84 p2) M (fun (r7 : Int32) (M6 : CM) => (∃ p9 : Nat, cR M6 104 h = some p9 ∧ (tg T p9 = 5 ∧ fc_X8_knowNumber T p2 r7 (cD M6 40 p9) M6 (fun (M11 : CM) => Q M11))))))))) → W p l e (headSpec wsX10_findNumber rmX10_findNumber).room s m args below meth c H locs 0 0 (MQ below (va_Qv Q (cB D kA A T) A) args s 0 0 A) (F0 m 0 ls []) := by
    intro M H locs ls hH hl hw
    refine lv_aload_n hx hb dX10_findNumber_0 rfl (lv_at hl 0 rfl) ?_
    obtain ⟨h1, hw⟩ := hw
    refine cg_104 hx hb hts hin10 hown hK hH h1 (hts (.fieldLink RX10 42 "IdlCaller" "numeral" "LIdlCaller$Numeral;") (by decide +kernel)) dX10_findNumber_1 ?_
    refine s_aload_n hx hb dX10_findNumber_4 rfl (lv_at hl 1 rfl) ?_
    obtain ⟨p2, ep2, hw⟩ := hw
    refine W.st (st' := [.ref p2, va_rf (cR M 104 h)]) (by rw [ep2]; rfl) ?_
    obtain ⟨h3, hw⟩ := hw
    refine cg_84 hx hb hts hin8 hown hK hH h3 (hts (.fieldLink RX10 135 "IdlCaller$Thing" "text" "LIdlCaller$Text;") (by decide +kernel)) dX10_findNumber_5 ?_
    obtain ⟨p4, ep4, hw⟩ := hw
    refine W.st (st' := [va_rf (cR M 84 p2), .ref p4]) (by rw [ep4]; rfl) ?_
    obtain ⟨h5, hw⟩ := hw
    refine c_calli (va_runV (As := [va_rf (cR M 84 p2)]) (rest := []) ⟨hx, hb, hml, hown, hts⟩ (tc_X4_read l D kA nm na sa sv H.size T p4 (cR M 84 p2) M _ hw) (cwV 1 hts gX10_findNumber_X4_read rfl rfl rfl (by decide +kernel) ⟨(show (3 : Nat) + 1 ≤ 4 from Nat.le_of_ble_eq_true rfl), (show 8 + (6 + 11) + (67 : Nat) ≤ 92 from Nat.le_of_ble_eq_true rfl)⟩) (c_preV hK hH hA hSt (c_recv4 hK hH h5)) rfl rfl hl.1 rfl (lv_room (by first | exact Nat.le_of_ble_eq_true rfl | simp [va_rf_cat, cat_ref, cat_int, cat_long, cat_double, cat_null])) dX10_findNumber_8 ⟨Nat.le_of_ble_eq_true rfl, Nat.le_of_ble_eq_true rfl⟩) hH hA (fun r7 M6 H locs hw hH => ?_)
    refine lv_istore_n (i := 2) (lv' := [(2, .int r7), (0, .ref h), (1, va_rf a1)]) hx hb dX10_findNumber_11 rfl hl (by decide) (by first | rfl | simp [va_rf_cat, cat_ref, cat_int, cat_long, cat_double, cat_null]) (fun ls hl => ?_)
    refine s_aload_n hx hb dX10_findNumber_12 rfl (lv_at hl 2 rfl) ?_
    refine lv_iload_n hx hb dX10_findNumber_13 rfl (lv_at hl 0 rfl) ?_
    refine lv_aload_n hx hb dX10_findNumber_14 rfl (lv_at hl 1 rfl) ?_
    refine cg_104 hx hb hts hin10 hown hK hH h1 (hts (.fieldLink RX10 42 "IdlCaller" "numeral" "LIdlCaller$Numeral;") (by decide +kernel)) dX10_findNumber_15 ?_
    obtain ⟨p9, ep9, hw⟩ := hw
    refine W.st (st' := [.ref p9, .int r7, va_rf a1]) (by rw [ep9]; rfl) ?_
    obtain ⟨h10, hw⟩ := hw
    refine cg_40 hx hb hts hin4 hown hK hH h10 (hts (.fieldLink RX10 260 "IdlCaller$Numeral" "found" "D") (by decide +kernel)) dX10_findNumber_18 ?_
    refine W.st (st' := [.double (cD M6 40 p9), .int r7, .ref p2]) (by rw [ep2]; rfl) ?_
    refine c_callv (va_runV (As := [.int r7, .double (cD M6 40 p9)]) (rest := []) ⟨hx, hb, hml, hown, hts⟩ (tc_X8_knowNumber l D kA nm na sa sv H.size T p2 r7 (cD M6 40 p9) M6 _ hw) (cwV 2 hts gX10_findNumber_X8_knowNumber rfl rfl rfl (by decide +kernel) ⟨(show (0 : Nat) + 1 ≤ 4 from Nat.le_of_ble_eq_true rfl), (show 8 + (4 + 11) + (0 : Nat) ≤ 92 from Nat.le_of_ble_eq_true rfl)⟩) (c_preV hK hH hA hSt (c_recv8 hK hH h3)) rfl rfl hl.1 rfl (lv_room (by first | exact Nat.le_of_ble_eq_true rfl | simp [va_rf_cat, cat_ref, cat_int, cat_long, cat_double, cat_null])) dX10_findNumber_21 ⟨Nat.le_of_ble_eq_true rfl, Nat.le_of_ble_eq_true rfl⟩) hH hA (fun M11 H locs hw hH => ?_)
    exact c_retv hx hb hr hlocks hK hH hw dX10_findNumber_24
  exact hst M s.heap [] ls hH hl hw
def fc_X10_simple_b125 (T : LY) (X : Nat → CM → Prop) (h : Nat) (Q : CM → Prop) (M : CM) : Prop := Q M
def fc_X10_simple_b99 (T : LY) (X : Nat → CM → Prop) (h : Nat) (Q : CM → Prop) (v2 : Int32) (v3 : Option Nat) (s0 : Nat) (s1 : Option Nat) (M : CM) : Prop := (∃ p1 : Nat, s1 = some p1 ∧ (tg T p1 = 8 ∧ fc_X7_appendLetters T p1 s0 M (fun (M3 : CM) => (∃ p6 : Nat, v3 = some p6 ∧ (tg T p6 = 9 ∧ fc_X8_knowNumber T p6 1 (FP.i2d (v2 - 2)) M3 (fun (M8 : CM) => fc_X10_simple_b125 T X h Q   M8))))))
def fc_X10_simple_b22 (T : LY) (X : Nat → CM → Prop) (h : Nat) (Q : CM → Prop) (M : CM) : Prop := X 1 M
def fc_X10_simple (T : LY) (X : Nat → CM → Prop) (h : Nat)  (a1 : Int32) (a2 : Int32) (M : CM) (Q : CM → Prop) : Prop := (tg T h = 11 ∧ fc_X10_thingAt T (cR M 103 h) a1 M (fun (r13 : Option Nat) (M12 : CM) => ((r13 = none → fc_X10_simple_b22 T X h Q   M12) ∧ (¬ r13 = none → ((a2 < 0 → fc_X10_simple_b22 T X h Q   M12) ∧ (¬ a2 < 0 → ((a2 ≤ 4 → ((¬ a2 = 0 → ((¬ a2 = 1 → ((4 ≤ a2 → (∃ p21 : Nat, r13 = some p21 ∧ (tg T p21 = 9 ∧ fc_X8_become T p21 6 M12 (fun (M23 : CM) => fc_X10_findNumber T h r13 M23 (fun (M26 : CM) => fc_X10_simple_b125 T X h Q   M26))))) ∧ (¬ 4 ≤ a2 → (∃ p29 : Nat, r13 = some p29 ∧ (tg T p29 = 9 ∧ fc_X8_becomeWhole T p29 2 ((a2 - 2).toInt64) M12 (fun (M31 : CM) => ((¬ a2 = 2 → fc_X10_simple_b99 T X h Q  a2 r13 15 (cR M31 84 p29) M31) ∧ (a2 = 2 → fc_X10_simple_b99 T X h Q  a2 r13 14 (cR M31 84 p29) M31)))))))) ∧ (a2 = 1 → (∃ p35 : Nat, r13 = some p35 ∧ (tg T p35 = 9 ∧ fc_X8_becomeNamed T p35 8 13 M12 (fun (M37 : CM) => fc_X8_knowNumber T p35 1 FP.dconst0 M37 (fun (M40 : CM) => fc_X10_simple_b125 T X h Q   M40))))))) ∧ (a2 = 0 → (∃ p43 : Nat, r13 = some p43 ∧ (tg T p43 = 9 ∧ fc_X8_becomeNamed T p43 7 12 M12 (fun (M45 : CM) => fc_X10_simple_b125 T X h Q   M45)))))) ∧ (¬ a2 ≤ 4 → fc_X10_simple_b22 T X h Q   M12))))))))
abbrev rmX10_simple : Room := { frames := 6, cells := 1, slots := 6, locals := 129 }
set_option maxHeartbeats 4000000 in
set_option maxRecDepth 100000 in
theorem tc_X10_simple (l : Launch) (hst0 : l.stackTraces = false) (D : va_G) (kA : Nat → ClassId) (nm : Nat → Nat) (na : Nat) (sa sv : Nat → Nat) (sz : Nat) (T : LY) (X : Nat → CM → Prop) (h : Nat) (a1 : Int32) (a2 : Int32) (M : CM) (Q : CM → Prop) (hw : fc_X10_simple T X h a1 a2 M Q) : vx_Met l yX10_simple wsX10_simple rmX10_simple (va_Pc [.ref h, .int a1, .int a2] (cPc nm na sa sv D kA T M sz)) (va_Qv Q (cB D kA (cF T sz) T) (cF T sz)) (vx_X (fun (u : Nat × CM) => X u.1 u.2) (cBX D kA (cF T sz) T) (cF T sz)) 1 6 (cF T sz) := by
  refine vx_ofW (cc := cX10_simple) (maxL := 4) (ret := none) (by decide) rfl ?_
  intro p e s m args below meth c s₁ B hml htab hv
  obtain ⟨rfl, hsz, hP, hK, hSt⟩ := hv
  have hx := B.exec
  have hb := B.bytes
  have hr := B.returns
  have hts := atoms_spec (ws := wsX10_simple) B.pre
  have hown : s.vm.findClass RX10 = some m.cls := findClass_of_methodNamed B.named
  have hlocks : meth.locks = false := B.notSynchronized
  subst hsz
  have hH : cH D kA (cF T s.heap.size) s.heap T M s.heap [] := ⟨hP.self, va_S.rf⟩
  have hA : ∀ q : Nat, s.heap.size ≤ q → cF T s.heap.size q := fun q z => Or.inr z
  generalize cF T s.heap.size = A at hH hA hSt ⊢
  have hl := lv_entry ([.ref h, .int a1, .int a2]) (n := 4) (by first | exact Nat.le_of_ble_eq_true rfl | simp [lg_sl, va_rf_cat, cat_ref, cat_int, cat_long, cat_double])
  rw [lg_entry_eq]
  generalize (lg_sl ([.ref h, .int a1, .int a2]) ++ List.replicate (4 - (lg_sl ([.ref h, .int a1, .int a2])).length) Slot.unset).toArray = ls at hl ⊢
  generalize ([.ref h, .int a1, .int a2] : List Value).toArray = args at hts ⊢
  have hl : lv_has ls 4 [(0, .ref h), (1, .int a1), (2, .int a2)] := hl
  have hin8 : ∀ w ∈ wsX80, w ∈ wsX10_simple := by decide +kernel
  have hin10 : ∀ w ∈ wsX100, w ∈ wsX10_simple := by decide +kernel
  have hat104 : ∀ w ∈ (vx_atS RX10 104 (exN 1) exS).filter goodWord, w ∈ wsX10_simple := by decide +kernel
  have b125 : ∀ (M : CM) (H : Heap) (locs : List Loc) (ls : Array Slot), cH D kA A s.heap T M H locs → lv_has ls 4 [] → fc_X10_simple_b125 T X h Q   M → W p l e (headSpec wsX10_simple rmX10_simple).room s m args below meth c H locs 0 0 (vx_MQ below (va_Qv Q (cB D kA A T) A) (vx_X (fun (u : Nat × CM) => X u.1 u.2) (cBX D kA A T) A) args s 1 6 A) (F0 m 125 ls []) := by
    intro    M H locs ls hH hl hw
    unfold fc_X10_simple_b125 at hw
    exact vx_ret (W.widen (k := 1) (n := 6) (Nat.le_of_ble_eq_true rfl) (Nat.le_of_ble_eq_true rfl) (c_retv hx hb hr hlocks hK hH hw dX10_simple_125))
  have b99 : ∀ (v2 : Int32) (v3 : Option Nat) (s0 : Nat) (s1 : Option Nat) (M : CM) (H : Heap) (locs : List Loc) (ls : Array Slot), cH D kA A s.heap T M H locs → lv_has ls 4 [(2, .int v2), (3, va_rf v3)] → fc_X10_simple_b99 T X h Q  v2 v3 s0 s1 M → W p l e (headSpec wsX10_simple rmX10_simple).room s m args below meth c H locs 0 0 (vx_MQ below (va_Qv Q (cB D kA A T) A) (vx_X (fun (u : Nat × CM) => X u.1 u.2) (cBX D kA A T) A) args s 1 6 A) (F0 m 99 ls [.ref (sa s0), va_rf s1]) := by
    intro   v2 v3 s0 s1 M H locs ls hH hl hw
    unfold fc_X10_simple_b99 at hw
    obtain ⟨p1, ep1, hw⟩ := hw
    refine W.st (st' := [.ref (sa s0), .ref p1]) (by rw [ep1]; rfl) ?_
    obtain ⟨h2, hw⟩ := hw
    refine c_callv (va_runV (As := [.ref (sa s0)]) (rest := []) ⟨hx, hb, hml, hown, hts⟩ (tc_X7_appendLetters l D kA nm na sa sv H.size T p1 s0 M _ hw) (cwV 1 hts gX10_simple_X7_appendLetters rfl rfl rfl (by decide +kernel) ⟨(show (4 : Nat) + 1 ≤ 6 from Nat.le_of_ble_eq_true rfl), (show 8 + (3 + 11) + (85 : Nat) ≤ 129 from Nat.le_of_ble_eq_true rfl)⟩) (c_preV hK hH hA hSt (c_recv7 hK hH h2)) rfl rfl hl.1 rfl (lv_room (by first | exact Nat.le_of_ble_eq_true rfl | simp [va_rf_cat, cat_ref, cat_int, cat_long, cat_double, cat_null])) dX10_simple_99 ⟨Nat.le_of_ble_eq_true rfl, Nat.le_of_ble_eq_true rfl⟩) hH hA (fun M3 H locs hw hH => ?_)
    refine s_aload_n hx hb dX10_simple_102 rfl (lv_at hl 1 rfl) ?_
    refine lv_iconst (v := 1) hx hb dX10_simple_103 (by decide) ?_
    refine lv_iload_n hx hb dX10_simple_104 rfl (lv_at hl 0 rfl) ?_
    refine lv_iconst (v := 2) hx hb dX10_simple_105 (by decide) ?_
    refine lv_isub hx hb dX10_simple_106 ?_
    refine lv_i2d hx hb dX10_simple_107 ?_
    obtain ⟨p6, ep6, hw⟩ := hw
    refine W.st (st' := [.double (FP.i2d (v2 - 2)), .int 1, .ref p6]) (by rw [ep6]; rfl) ?_
    obtain ⟨h7, hw⟩ := hw
    refine c_callv (va_runV (As := [.int 1, .double (FP.i2d (v2 - 2))]) (rest := []) ⟨hx, hb, hml, hown, hts⟩ (tc_X8_knowNumber l D kA nm na sa sv H.size T p6 1 (FP.i2d (v2 - 2)) M3 _ hw) (cwV 2 hts gX10_simple_X8_knowNumber rfl rfl rfl (by decide +kernel) ⟨(show (0 : Nat) + 1 ≤ 6 from Nat.le_of_ble_eq_true rfl), (show 8 + (4 + 11) + (0 : Nat) ≤ 129 from Nat.le_of_ble_eq_true rfl)⟩) (c_preV hK hH hA hSt (c_recv8 hK hH h7)) rfl rfl hl.1 rfl (lv_room (by first | exact Nat.le_of_ble_eq_true rfl | simp [va_rf_cat, cat_ref, cat_int, cat_long, cat_double, cat_null])) dX10_simple_108 ⟨Nat.le_of_ble_eq_true rfl, Nat.le_of_ble_eq_true rfl⟩) hH hA (fun M8 H locs hw hH => ?_)
    refine lv_goto (tgt := 125) hx hb dX10_simple_111 (by decide) ?_
    exact b125    M8 H locs ls hH (lv_sub hl [] rfl) hw
  have b22 : ∀ (M : CM) (H : Heap) (locs : List Loc) (ls : Array Slot), cH D kA A s.heap T M H locs → lv_has ls 4 [] → fc_X10_simple_b22 T X h Q   M → W p l e (headSpec wsX10_simple rmX10_simple).room s m args below meth c H locs 0 0 (vx_MQ below (va_Qv Q (cB D kA A T) A) (vx_X (fun (u : Nat × CM) => X u.1 u.2) (cBX D kA A T) A) args s 1 6 A) (F0 m 22 ls []) := by
    intro    M H locs ls hH hl hw
    unfold fc_X10_simple_b22 at hw
    exact c_throw (k := 1) (ik := 100) (is := 115) (ic := 104) hx hb hst0 hown (by decide +kernel) (hts (.classLink RX10 100 "java/lang/IllegalArgumentException") (by decide +kernel)) (hts (.initialized "java/lang/IllegalArgumentException") (by decide +kernel)) (hSt.2.2.2.2.2.2.2.2.2.2.2.2.2.2.2.2.2.2.2.2.2.2.2.2.2.2.2.2.2.2.2.2.2.2.2.2.2.1) (fun w z => hts w (hat104 w z)) (by decide +kernel) (hSt.2.2.2.2.2.2.2.2.2.2.2.2.2.2.2.2.2.2.2.2.2.2.2.2.2.2.2.2.2.1) (by decide +kernel) hSt hK hH (by rw [hml]; exact hl.1) dX10_simple_22 dX10_simple_25 dX10_simple_26 dX10_simple_28 dX10_simple_31 htab (show 6 ≤ (6 : Nat) from Nat.le_of_ble_eq_true rfl) (show _ ≤ (129 : Nat) from by first | exact Nat.le_of_ble_eq_true rfl | simp [va_rf_cat, cat_ref, cat_int, cat_long, cat_double, cat_null]) (Nat.le_of_ble_eq_true rfl) (Nat.le_of_ble_eq_true rfl) (Nat.le_of_ble_eq_true rfl) (Nat.le_of_ble_eq_true rfl) hlocks hw
  clear hP
  unfold fc_X10_simple at hw
  have hst : ∀ (M : CM) (H : Heap) (locs : List Loc) (ls : Array Slot), cH D kA A s.heap T M H locs → lv_has ls 4 [(0, .ref h), (1, .int a1), (2, .int a2)] → (tg T h = 11 ∧ fc_X10_thingAt T (cR M 103 h) a1 M (fun (r13 : Option Nat) (M12 : CM) => ((r13 = none → fc_X10_simple_b22 T X h Q   M12) ∧ (¬ r13 = none → ((a2 < 0 → fc_X10_simple_b22 T X h Q   M12) ∧ (¬ a2 < 0 → ((a2 ≤ 4 → ((¬ a2 = 0 → ((¬ a2 = 1 → ((4 ≤ a2 → (∃ p21 : Nat, r13 = some p21 ∧ (tg T p21 = 9 ∧ fc_X8_become T p21 6 M12 (fun (M23 : CM) => fc_X10_findNumber T h r13 M23 (fun (M26 : CM) => fc_X10_simple_b125 T X h Q   M26))))) ∧ (¬ 4 ≤ a2 → (∃ p29 : Nat, r13 = some p29 ∧ (tg T p29 = 9 ∧ fc_X8_becomeWhole T p29 2 ((a2 - 2).toInt64) M12 (fun (M31 : CM) => ((¬ a2 = 2 → fc_X10_simple_b99 T X h Q  a2 r13 15 (cR M31 84 p29) M31) ∧ (a2 = 2 → fc_X10_simple_b99 T X h Q  a2 r13 14 (cR M31 84 p29) M31)))))))) ∧ (a2 = 1 → (∃ p35 : Nat, r13 = some p35 ∧ (tg T p35 = 9 ∧ fc_X8_becomeNamed T p35 8 13 M12 (fun (M37 : CM) => fc_X8_knowNumber T p35 1 FP.dconst0 M37 (fun (M40 : CM) => fc_X10_simple_b125 T X h Q   M40))))))) ∧ (a2 = 0 → (∃ p43 : Nat, r13 = some p43 ∧ (tg T p43 = 9 ∧ fc_X8_becomeNamed T p43 7 12 M12 (fun (M45 : CM) => fc_X10_simple_b125 T X h Q   M45)))))) ∧ (¬ a2 ≤ 4 → fc_X10_simple_b22 T X h Q   M12)))))))) → W p l e (headSpec wsX10_simple rmX10_simple).room s m args below meth c H locs 0 0 (vx_MQ below (va_Qv Q (cB D kA A T) A) (vx_X (fun (u : Nat × CM) => X u.1 u.2) (cBX D kA A T) A) args s 1 6 A) (F0 m 0 ls []) := by
    intro M H locs ls hH hl hw
    refine lv_aload_n hx hb dX10_simple_0 rfl (lv_at hl 0 rfl) ?_
    obtain ⟨h11, hw⟩ := hw
    refine cg_103 hx hb hts hin10 hown hK hH h11 (hts (.fieldLink RX10 35 "IdlCaller" "slots" "[LIdlCaller$Thing;") (by decide +kernel)) dX10_simple_1 ?_
    refine lv_iload_n hx hb dX10_simple_4 rfl (lv_at hl 1 rfl) ?_
    refine c_callq (va_runS (As := [va_rf (cR M 103 h), .int a1]) (rest := []) ⟨hx, hb, hml, hown, hts⟩ (tc_X10_thingAt l D kA nm na sa sv H.size T (cR M 103 h) a1 M _ hw) (va_cwS 2 hts gX10_simple_X10_thingAt rfl rfl rfl (by decide +kernel) ⟨(show (0 : Nat) + 1 ≤ 6 from Nat.le_of_ble_eq_true rfl), (show 8 + (2 + 11) + (0 : Nat) ≤ 129 from Nat.le_of_ble_eq_true rfl)⟩) (c_preS hK hH hA hSt) rfl rfl hl.1 rfl (lv_room (by first | exact Nat.le_of_ble_eq_true rfl | simp [va_rf_cat, cat_ref, cat_int, cat_long, cat_double, cat_null])) dX10_simple_5 ⟨Nat.le_of_ble_eq_true rfl, Nat.le_of_ble_eq_true rfl⟩) hH hA (fun r13 M12 H locs hw hH => ?_)
    refine s_astore_n (i := 3) (lv' := [(3, va_rf r13), (0, .ref h), (1, .int a1), (2, .int a2)]) hx hb dX10_simple_8 rfl hl (by decide) (by first | rfl | simp [va_rf_cat, cat_ref, cat_int, cat_long, cat_double, cat_null]) (fun ls hl => ?_)
    refine s_aload_n hx hb dX10_simple_9 rfl (lv_at hl 0 rfl) ?_
    refine s_ifnull (tgt := 22) hx hb dX10_simple_10 (by decide) (fun c15 => ?_) (fun c15 => ?_)
    · replace hw := hw.1 c15
      exact b22    M12 H locs ls hH (lv_sub hl [] rfl) hw
    · replace hw := hw.2 c15
      refine lv_iload_n hx hb dX10_simple_13 rfl (lv_at hl 3 rfl) ?_
      refine lv_if_lt (tgt := 22) hx hb dX10_simple_14 (by decide) (fun c16 => ?_) (fun c16 => ?_)
      · replace hw := hw.1 c16
        exact b22    M12 H locs ls hH (lv_sub hl [] rfl) hw
      · replace hw := hw.2 c16
        refine lv_iload_n hx hb dX10_simple_17 rfl (lv_at hl 3 rfl) ?_
        refine lv_iconst (v := 4) hx hb dX10_simple_18 (by decide) ?_
        refine lv_icmp_le (tgt := 32) hx hb dX10_simple_19 (by decide) (fun c17 => ?_) (fun c17 => ?_)
        · replace hw := hw.1 c17
          refine lv_iload_n hx hb dX10_simple_32 rfl (lv_at hl 3 rfl) ?_
          refine lv_if_ne (tgt := 47) hx hb dX10_simple_33 (by decide) (fun c18 => ?_) (fun c18 => ?_)
          · replace hw := hw.1 c18
            refine lv_iload_n hx hb dX10_simple_47 rfl (lv_at hl 3 rfl) ?_
            refine lv_iconst (v := 1) hx hb dX10_simple_48 (by decide) ?_
            refine lv_icmp_ne (tgt := 69) hx hb dX10_simple_49 (by decide) (fun c19 => ?_) (fun c19 => ?_)
            · replace hw := hw.1 c19
              refine lv_iload_n hx hb dX10_simple_69 rfl (lv_at hl 3 rfl) ?_
              refine lv_iconst (v := 4) hx hb dX10_simple_70 (by decide) ?_
              refine lv_icmp_ge (tgt := 114) hx hb dX10_simple_71 (by decide) (fun c20 => ?_) (fun c20 => ?_)
              · replace hw := hw.1 c20
                refine s_aload_n hx hb dX10_simple_114 rfl (lv_at hl 0 rfl) ?_
                refine lv_bipush (v := 6) hx hb dX10_simple_115 (by decide) ?_
                obtain ⟨p21, ep21, hw⟩ := hw
                refine W.st (st' := [.int 6, .ref p21]) (by rw [ep21]; rfl) ?_
                obtain ⟨h22, hw⟩ := hw
                refine c_callv (va_runV (As := [.int 6]) (rest := []) ⟨hx, hb, hml, hown, hts⟩ (tc_X8_become l D kA nm na sa sv H.size T p21 6 M12 _ hw) (cwV 1 hts gX10_simple_X8_become rfl rfl rfl (by decide +kernel) ⟨(show (0 : Nat) + 1 ≤ 6 from Nat.le_of_ble_eq_true rfl), (show 8 + (2 + 11) + (0 : Nat) ≤ 129 from Nat.le_of_ble_eq_true rfl)⟩) (c_preV hK hH hA hSt (c_recv8 hK hH h22)) rfl rfl hl.1 rfl (lv_room (by first | exact Nat.le_of_ble_eq_true rfl | simp [va_rf_cat, cat_ref, cat_int, cat_long, cat_double, cat_null])) dX10_simple_117 ⟨Nat.le_of_ble_eq_true rfl, Nat.le_of_ble_eq_true rfl⟩) hH hA (fun M23 H locs hw hH => ?_)
                refine lv_aload_n hx hb dX10_simple_120 rfl (lv_at hl 1 rfl) ?_
                refine s_aload_n hx hb dX10_simple_121 rfl (lv_at hl 0 rfl) ?_
                refine c_callv (va_runV (As := [va_rf r13]) (rest := []) ⟨hx, hb, hml, hown, hts⟩ (tc_X10_findNumber l D kA nm na sa sv H.size T h r13 M23 _ hw) (cwV 1 hts gX10_simple_X10_findNumber rfl rfl rfl (by decide +kernel) ⟨(show (4 : Nat) + 1 ≤ 6 from Nat.le_of_ble_eq_true rfl), (show 8 + (3 + 11) + (92 : Nat) ≤ 129 from Nat.le_of_ble_eq_true rfl)⟩) (c_preV hK hH hA hSt (c_recv10 hK hH h11)) rfl rfl hl.1 rfl (lv_room (by first | exact Nat.le_of_ble_eq_true rfl | simp [va_rf_cat, cat_ref, cat_int, cat_long, cat_double, cat_null])) dX10_simple_122 ⟨Nat.le_of_ble_eq_true rfl, Nat.le_of_ble_eq_true rfl⟩) hH hA (fun M26 H locs hw hH => ?_)
                exact b125    M26 H locs ls hH (lv_sub hl [] rfl) hw
              · replace hw := hw.2 c20
                refine s_aload_n hx hb dX10_simple_74 rfl (lv_at hl 0 rfl) ?_
                refine lv_iconst (v := 2) hx hb dX10_simple_75 (by decide) ?_
                refine lv_iload_n hx hb dX10_simple_76 rfl (lv_at hl 3 rfl) ?_
                refine lv_iconst (v := 2) hx hb dX10_simple_77 (by decide) ?_
                refine lv_isub hx hb dX10_simple_78 ?_
                refine lv_i2l hx hb dX10_simple_79 rfl ?_
                obtain ⟨p29, ep29, hw⟩ := hw
                refine W.st (st' := [.long ((a2 - 2).toInt64), .int 2, .ref p29]) (by rw [ep29]; rfl) ?_
                obtain ⟨h30, hw⟩ := hw
                refine c_callv (va_runV (As := [.int 2, .long ((a2 - 2).toInt64)]) (rest := []) ⟨hx, hb, hml, hown, hts⟩ (tc_X8_becomeWhole l D kA nm na sa sv H.size T p29 2 ((a2 - 2).toInt64) M12 _ hw) (cwV 2 hts gX10_simple_X8_becomeWhole rfl rfl rfl (by decide +kernel) ⟨(show (1 : Nat) + 1 ≤ 6 from Nat.le_of_ble_eq_true rfl), (show 8 + (4 + 11) + (21 : Nat) ≤ 129 from Nat.le_of_ble_eq_true rfl)⟩) (c_preV hK hH hA hSt (c_recv8 hK hH h30)) rfl rfl hl.1 rfl (lv_room (by first | exact Nat.le_of_ble_eq_true rfl | simp [va_rf_cat, cat_ref, cat_int, cat_long, cat_double, cat_null])) dX10_simple_80 ⟨Nat.le_of_ble_eq_true rfl, Nat.le_of_ble_eq_true rfl⟩) hH hA (fun M31 H locs hw hH => ?_)
                refine s_aload_n hx hb dX10_simple_83 rfl (lv_at hl 0 rfl) ?_
                refine W.st (st' := [.ref p29]) (by rw [ep29]; rfl) ?_
                refine cg_84 hx hb hts hin8 hown hK hH h30 (hts (.fieldLink RX10 135 "IdlCaller$Thing" "text" "LIdlCaller$Text;") (by decide +kernel)) dX10_simple_84 ?_
                refine lv_iload_n hx hb dX10_simple_87 rfl (lv_at hl 3 rfl) ?_
                refine lv_iconst (v := 2) hx hb dX10_simple_88 (by decide) ?_
                refine lv_icmp_ne (tgt := 97) hx hb dX10_simple_89 (by decide) (fun c34 => ?_) (fun c34 => ?_)
                · replace hw := hw.1 c34
                  refine cs_ldc15 hx hb hown hSt dX10_simple_97 ?_
                  exact b99   a2 r13 15 (cR M31 84 p29) M31 H locs ls hH (lv_sub hl [3, 0] rfl) hw
                · replace hw := hw.2 c34
                  refine cs_ldc14 hx hb hown hSt dX10_simple_92 ?_
                  refine lv_goto (tgt := 99) hx hb dX10_simple_94 (by decide) ?_
                  exact b99   a2 r13 14 (cR M31 84 p29) M31 H locs ls hH (lv_sub hl [3, 0] rfl) hw
            · replace hw := hw.2 c19
              refine s_aload_n hx hb dX10_simple_52 rfl (lv_at hl 0 rfl) ?_
              refine lv_bipush (v := 8) hx hb dX10_simple_53 (by decide) ?_
              refine cs_ldc13 hx hb hown hSt dX10_simple_55 ?_
              obtain ⟨p35, ep35, hw⟩ := hw
              refine W.st (st' := [.ref (sa 13), .int 8, .ref p35]) (by rw [ep35]; rfl) ?_
              obtain ⟨h36, hw⟩ := hw
              refine c_callv (va_runV (As := [.int 8, .ref (sa 13)]) (rest := []) ⟨hx, hb, hml, hown, hts⟩ (tc_X8_becomeNamed l D kA nm na sa sv H.size T p35 8 13 M12 _ hw) (cwV 2 hts gX10_simple_X8_becomeNamed rfl rfl rfl (by decide +kernel) ⟨(show (5 : Nat) + 1 ≤ 6 from Nat.le_of_ble_eq_true rfl), (show 8 + (3 + 11) + (107 : Nat) ≤ 129 from Nat.le_of_ble_eq_true rfl)⟩) (c_preV hK hH hA hSt (c_recv8 hK hH h36)) rfl rfl hl.1 rfl (lv_room (by first | exact Nat.le_of_ble_eq_true rfl | simp [va_rf_cat, cat_ref, cat_int, cat_long, cat_double, cat_null])) dX10_simple_57 ⟨Nat.le_of_ble_eq_true rfl, Nat.le_of_ble_eq_true rfl⟩) hH hA (fun M37 H locs hw hH => ?_)
              refine s_aload_n hx hb dX10_simple_60 rfl (lv_at hl 0 rfl) ?_
              refine lv_iconst (v := 1) hx hb dX10_simple_61 (by decide) ?_
              refine lv_dconst0 hx hb dX10_simple_62 ?_
              refine W.st (st' := [.double FP.dconst0, .int 1, .ref p35]) (by rw [ep35]; rfl) ?_
              refine c_callv (va_runV (As := [.int 1, .double FP.dconst0]) (rest := []) ⟨hx, hb, hml, hown, hts⟩ (tc_X8_knowNumber l D kA nm na sa sv H.size T p35 1 FP.dconst0 M37 _ hw) (cwV 2 hts gX10_simple_X8_knowNumber rfl rfl rfl (by decide +kernel) ⟨(show (0 : Nat) + 1 ≤ 6 from Nat.le_of_ble_eq_true rfl), (show 8 + (4 + 11) + (0 : Nat) ≤ 129 from Nat.le_of_ble_eq_true rfl)⟩) (c_preV hK hH hA hSt (c_recv8 hK hH h36)) rfl rfl hl.1 rfl (lv_room (by first | exact Nat.le_of_ble_eq_true rfl | simp [va_rf_cat, cat_ref, cat_int, cat_long, cat_double, cat_null])) dX10_simple_63 ⟨Nat.le_of_ble_eq_true rfl, Nat.le_of_ble_eq_true rfl⟩) hH hA (fun M40 H locs hw hH => ?_)
              refine lv_goto (tgt := 125) hx hb dX10_simple_66 (by decide) ?_
              exact b125    M40 H locs ls hH (lv_sub hl [] rfl) hw
          · replace hw := hw.2 c18
            refine s_aload_n hx hb dX10_simple_36 rfl (lv_at hl 0 rfl) ?_
            refine lv_bipush (v := 7) hx hb dX10_simple_37 (by decide) ?_
            refine cs_ldc12 hx hb hown hSt dX10_simple_39 ?_
            obtain ⟨p43, ep43, hw⟩ := hw
            refine W.st (st' := [.ref (sa 12), .int 7, .ref p43]) (by rw [ep43]; rfl) ?_
            obtain ⟨h44, hw⟩ := hw
            refine c_callv (va_runV (As := [.int 7, .ref (sa 12)]) (rest := []) ⟨hx, hb, hml, hown, hts⟩ (tc_X8_becomeNamed l D kA nm na sa sv H.size T p43 7 12 M12 _ hw) (cwV 2 hts gX10_simple_X8_becomeNamed rfl rfl rfl (by decide +kernel) ⟨(show (5 : Nat) + 1 ≤ 6 from Nat.le_of_ble_eq_true rfl), (show 8 + (3 + 11) + (107 : Nat) ≤ 129 from Nat.le_of_ble_eq_true rfl)⟩) (c_preV hK hH hA hSt (c_recv8 hK hH h44)) rfl rfl hl.1 rfl (lv_room (by first | exact Nat.le_of_ble_eq_true rfl | simp [va_rf_cat, cat_ref, cat_int, cat_long, cat_double, cat_null])) dX10_simple_41 ⟨Nat.le_of_ble_eq_true rfl, Nat.le_of_ble_eq_true rfl⟩) hH hA (fun M45 H locs hw hH => ?_)
            refine lv_goto (tgt := 125) hx hb dX10_simple_44 (by decide) ?_
            exact b125    M45 H locs ls hH (lv_sub hl [] rfl) hw
        · replace hw := hw.2 c17
          exact b22    M12 H locs ls hH (lv_sub hl [] rfl) hw
  exact hst M s.heap [] ls hH hl hw
def fc_X10_canBeTold_b36 (T : LY) (Q : Int32 → CM → Prop) (M : CM) : Prop := Q 0 M
def fc_X10_canBeTold_b35 (T : LY) (Q : Int32 → CM → Prop) (s0 : Int32) (M : CM) : Prop := (nZ s0 ∧ Q s0 M)
def fc_X10_canBeTold (T : LY)  (a1 : UInt64) (M : CM) (Q : Int32 → CM → Prop) : Prop := (((Op.cmpValue (FP.dcmp a1 13970166044103278592) .l) < 0 → fc_X10_canBeTold_b36 T Q   M) ∧ (¬ (Op.cmpValue (FP.dcmp a1 13970166044103278592) .l) < 0 → ((0 < (Op.cmpValue (FP.dcmp a1 4746794007248502784) .g) → fc_X10_canBeTold_b36 T Q   M) ∧ (¬ 0 < (Op.cmpValue (FP.dcmp a1 4746794007248502784) .g) → (vf_n64 (FP.dmul a1 4620693217682128896) ∧ (∀ x4 : UInt64, x4 = FP.dmul a1 4620693217682128896 → ((¬ (Op.cmpValue (FP.dcmp (FP.l2d (FP.d2l x4)) x4) .l) = 0 → fc_X10_canBeTold_b35 T Q  0 M) ∧ ((Op.cmpValue (FP.dcmp (FP.l2d (FP.d2l x4)) x4) .l) = 0 → fc_X10_canBeTold_b35 T Q  1 M))))))))
abbrev rmX10_canBeTold : Room := { frames := 0, cells := 0, slots := 0, locals := 0 }
set_option maxHeartbeats 4000000 in
set_option maxRecDepth 100000 in
theorem tc_X10_canBeTold (l : Launch) (D : va_G) (kA : Nat → ClassId) (nm : Nat → Nat) (na : Nat) (sa sv : Nat → Nat) (sz : Nat) (T : LY) (a1 : UInt64) (M : CM) (Q : Int32 → CM → Prop) (hw : fc_X10_canBeTold T a1 M Q) : Met l yX10_canBeTold wsX10_canBeTold rmX10_canBeTold (va_Pc [.double a1] (cPc nm na sa sv D kA T M sz)) (va_Qi Q (cB D kA (cF T sz) T) (cF T sz)) 0 0 (cF T sz) := by
  refine Met.ofW (cc := cX10_canBeTold) (maxL := 4) (ret := (some .boolean)) (by decide) rfl ?_
  intro p e s m args below meth c s₁ B hml hv
  obtain ⟨rfl, hsz, hP, hK, hSt⟩ := hv
  have hx := B.exec
  have hb := B.bytes
  have hr := B.returns
  have hts := atoms_spec (ws := wsX10_canBeTold) B.pre
  have hown : s.vm.findClass RX10 = some m.cls := findClass_of_methodNamed B.named
  have hlocks : meth.locks = false := B.notSynchronized
  subst hsz
  have hH : cH D kA (cF T s.heap.size) s.heap T M s.heap [] := ⟨hP.self, va_S.rf⟩
  have hA : ∀ q : Nat, s.heap.size ≤ q → cF T s.heap.size q := fun q z => Or.inr z
  generalize cF T s.heap.size = A at hH hA hSt ⊢
  have hl := lv_entry ([.double a1]) (n := 4) (by first | exact Nat.le_of_ble_eq_true rfl | simp [lg_sl, va_rf_cat, cat_ref, cat_int, cat_long, cat_double])
  rw [lg_entry_eq]
  generalize (lg_sl ([.double a1]) ++ List.replicate (4 - (lg_sl ([.double a1])).length) Slot.unset).toArray = ls at hl ⊢
  generalize ([.double a1] : List Value).toArray = args at hts ⊢
  have hl : lv_has ls 4 [(0, .double a1)] := hl
  have b36 : ∀ (M : CM) (H : Heap) (locs : List Loc) (ls : Array Slot), cH D kA A s.heap T M H locs → lv_has ls 4 [] → fc_X10_canBeTold_b36 T Q   M → W p l e (headSpec wsX10_canBeTold rmX10_canBeTold).room s m args below meth c H locs 0 0 (MQ below (va_Qi Q (cB D kA A T) A) args s 0 0 A) (F0 m 36 ls []) := by
    intro    M H locs ls hH hl hw
    unfold fc_X10_canBeTold_b36 at hw
    refine lv_iconst (v := 0) hx hb dX10_canBeTold_36 (by decide) ?_
    exact c_retz hx hb hr rfl hlocks hK hH hw dX10_canBeTold_37
  have b35 : ∀ (s0 : Int32) (M : CM) (H : Heap) (locs : List Loc) (ls : Array Slot), cH D kA A s.heap T M H locs → lv_has ls 4 [] → fc_X10_canBeTold_b35 T Q  s0 M → W p l e (headSpec wsX10_canBeTold rmX10_canBeTold).room s m args below meth c H locs 0 0 (MQ below (va_Qi Q (cB D kA A T) A) args s 0 0 A) (F0 m 35 ls [.int s0]) := by
    intro   s0 M H locs ls hH hl hw
    unfold fc_X10_canBeTold_b35 at hw
    exact c_retz hx hb hr hw.1.1 hlocks hK hH hw.2 dX10_canBeTold_35
  clear hP
  unfold fc_X10_canBeTold at hw
  have hst : ∀ (M : CM) (H : Heap) (locs : List Loc) (ls : Array Slot), cH D kA A s.heap T M H locs → lv_has ls 4 [(0, .double a1)] → (((Op.cmpValue (FP.dcmp a1 13970166044103278592) .l) < 0 → fc_X10_canBeTold_b36 T Q   M) ∧ (¬ (Op.cmpValue (FP.dcmp a1 13970166044103278592) .l) < 0 → ((0 < (Op.cmpValue (FP.dcmp a1 4746794007248502784) .g) → fc_X10_canBeTold_b36 T Q   M) ∧ (¬ 0 < (Op.cmpValue (FP.dcmp a1 4746794007248502784) .g) → (vf_n64 (FP.dmul a1 4620693217682128896) ∧ (∀ x4 : UInt64, x4 = FP.dmul a1 4620693217682128896 → ((¬ (Op.cmpValue (FP.dcmp (FP.l2d (FP.d2l x4)) x4) .l) = 0 → fc_X10_canBeTold_b35 T Q  0 M) ∧ ((Op.cmpValue (FP.dcmp (FP.l2d (FP.d2l x4)) x4) .l) = 0 → fc_X10_canBeTold_b35 T Q  1 M)))))))) → W p l e (headSpec wsX10_canBeTold rmX10_canBeTold).room s m args below meth c H locs 0 0 (MQ below (va_Qi Q (cB D kA A T) A) args s 0 0 A) (F0 m 0 ls []) := by
    intro M H locs ls hH hl hw
    refine lv_dload_n hx hb dX10_canBeTold_0 rfl (lv_at hl 0 rfl) ?_
    refine lv_ldc2d (v := 13970166044103278592) hx hb hown (hts (.constantDouble RX10 250 13970166044103278592) (by decide +kernel)) dX10_canBeTold_1 ?_
    refine lv_dcmp hx hb dX10_canBeTold_4 ?_
    refine lv_if_lt (tgt := 36) hx hb dX10_canBeTold_5 (by decide) (fun c1 => ?_) (fun c1 => ?_)
    · replace hw := hw.1 c1
      exact b36    M H locs ls hH (lv_sub hl [] rfl) hw
    · replace hw := hw.2 c1
      refine lv_dload_n hx hb dX10_canBeTold_8 rfl (lv_at hl 0 rfl) ?_
      refine lv_ldc2d (v := 4746794007248502784) hx hb hown (hts (.constantDouble RX10 252 4746794007248502784) (by decide +kernel)) dX10_canBeTold_9 ?_
      refine lv_dcmp hx hb dX10_canBeTold_12 ?_
      refine lv_if_gt (tgt := 36) hx hb dX10_canBeTold_13 (by decide) (fun c2 => ?_) (fun c2 => ?_)
      · replace hw := hw.1 c2
        exact b36    M H locs ls hH (lv_sub hl [] rfl) hw
      · replace hw := hw.2 c2
        refine lv_dload_n hx hb dX10_canBeTold_16 rfl (lv_at hl 0 rfl) ?_
        refine lv_ldc2d (v := 4620693217682128896) hx hb hown (hts (.constantDouble RX10 254 4620693217682128896) (by decide +kernel)) dX10_canBeTold_17 ?_
        obtain ⟨h3, hw⟩ := hw
        refine lv_dmul hx hb dX10_canBeTold_20 h3 ?_
        refine lv_topd (fun x4 ex4 => ?_)
        replace hw := hw x4 ex4
        refine lv_dstore_n (i := 2) (lv' := [(2, .double x4), (0, .double a1)]) hx hb dX10_canBeTold_21 rfl hl (by decide) rfl (fun ls hl => ?_)
        refine lv_dload_n hx hb dX10_canBeTold_22 rfl (lv_at hl 0 rfl) ?_
        refine lv_d2l hx hb dX10_canBeTold_23 ?_
        refine lv_l2d hx hb dX10_canBeTold_24 ?_
        refine lv_dload_n hx hb dX10_canBeTold_25 rfl (lv_at hl 0 rfl) ?_
        refine lv_dcmp hx hb dX10_canBeTold_26 ?_
        refine lv_if_ne (tgt := 34) hx hb dX10_canBeTold_27 (by decide) (fun c5 => ?_) (fun c5 => ?_)
        · replace hw := hw.1 c5
          refine lv_iconst (v := 0) hx hb dX10_canBeTold_34 (by decide) ?_
          exact b35   0 M H locs ls hH (lv_sub hl [] rfl) hw
        · replace hw := hw.2 c5
          refine lv_iconst (v := 1) hx hb dX10_canBeTold_30 (by decide) ?_
          refine lv_goto (tgt := 35) hx hb dX10_canBeTold_31 (by decide) ?_
          exact b35   1 M H locs ls hH (lv_sub hl [] rfl) hw
  exact hst M s.heap [] ls hH hl hw
def fc_X10_number_b22 (T : LY) (X : Nat → CM → Prop) (h : Nat) (Q : CM → Prop) (M : CM) : Prop := X 1 M
def fc_X10_number (T : LY) (X : Nat → CM → Prop) (h : Nat)  (a1 : Int32) (a2 : UInt64) (M : CM) (Q : CM → Prop) : Prop := (tg T h = 11 ∧ fc_X10_thingAt T (cR M 103 h) a1 M (fun (r3 : Option Nat) (M2 : CM) => ((r3 = none → fc_X10_number_b22 T X h Q   M2) ∧ (¬ r3 = none → fc_X10_canBeTold T a2 M2 (fun (r7 : Int32) (M6 : CM) => ((¬ r7 = 0 → (∃ p10 : Nat, r3 = some p10 ∧ (tg T p10 = 9 ∧ fc_X8_becomeDouble T p10 a2 M6 (fun (M12 : CM) => (∃ p15 : Nat, cR M12 84 p10 = some p15 ∧ (tg T p15 = 8 ∧ fc_X7_appendNumber T p15 a2 M12 (fun (M17 : CM) => Q M17))))))) ∧ (r7 = 0 → fc_X10_number_b22 T X h Q   M6)))))))
abbrev rmX10_number : Room := { frames := 6, cells := 1, slots := 6, locals := 82 }
set_option maxHeartbeats 4000000 in
set_option maxRecDepth 100000 in
theorem tc_X10_number (l : Launch) (hst0 : l.stackTraces = false) (D : va_G) (kA : Nat → ClassId) (nm : Nat → Nat) (na : Nat) (sa sv : Nat → Nat) (sz : Nat) (T : LY) (X : Nat → CM → Prop) (h : Nat) (a1 : Int32) (a2 : UInt64) (M : CM) (Q : CM → Prop) (hw : fc_X10_number T X h a1 a2 M Q) : vx_Met l yX10_number wsX10_number rmX10_number (va_Pc [.ref h, .int a1, .double a2] (cPc nm na sa sv D kA T M sz)) (va_Qv Q (cB D kA (cF T sz) T) (cF T sz)) (vx_X (fun (u : Nat × CM) => X u.1 u.2) (cBX D kA (cF T sz) T) (cF T sz)) 1 6 (cF T sz) := by
  refine vx_ofW (cc := cX10_number) (maxL := 5) (ret := none) (by decide) rfl ?_
  intro p e s m args below meth c s₁ B hml htab hv
  obtain ⟨rfl, hsz, hP, hK, hSt⟩ := hv
  have hx := B.exec
  have hb := B.bytes
  have hr := B.returns
  have hts := atoms_spec (ws := wsX10_number) B.pre
  have hown : s.vm.findClass RX10 = some m.cls := findClass_of_methodNamed B.named
  have hlocks : meth.locks = false := B.notSynchronized
  subst hsz
  have hH : cH D kA (cF T s.heap.size) s.heap T M s.heap [] := ⟨hP.self, va_S.rf⟩
  have hA : ∀ q : Nat, s.heap.size ≤ q → cF T s.heap.size q := fun q z => Or.inr z
  generalize cF T s.heap.size = A at hH hA hSt ⊢
  have hl := lv_entry ([.ref h, .int a1, .double a2]) (n := 5) (by first | exact Nat.le_of_ble_eq_true rfl | simp [lg_sl, va_rf_cat, cat_ref, cat_int, cat_long, cat_double])
  rw [lg_entry_eq]
  generalize (lg_sl ([.ref h, .int a1, .double a2]) ++ List.replicate (5 - (lg_sl ([.ref h, .int a1, .double a2])).length) Slot.unset).toArray = ls at hl ⊢
  generalize ([.ref h, .int a1, .double a2] : List Value).toArray = args at hts ⊢
  have hl : lv_has ls 5 [(0, .ref h), (1, .int a1), (2, .double a2)] := hl
  have hin8 : ∀ w ∈ wsX80, w ∈ wsX10_number := by decide +kernel
  have hin10 : ∀ w ∈ wsX100, w ∈ wsX10_number := by decide +kernel
  have hat104 : ∀ w ∈ (vx_atS RX10 104 (exN 1) exS).filter goodWord, w ∈ wsX10_number := by decide +kernel
  have b22 : ∀ (M : CM) (H : Heap) (locs : List Loc) (ls : Array Slot), cH D kA A s.heap T M H locs → lv_has ls 5 [] → fc_X10_number_b22 T X h Q   M → W p l e (headSpec wsX10_number rmX10_number).room s m args below meth c H locs 0 0 (vx_MQ below (va_Qv Q (cB D kA A T) A) (vx_X (fun (u : Nat × CM) => X u.1 u.2) (cBX D kA A T) A) args s 1 6 A) (F0 m 22 ls []) := by
    intro    M H locs ls hH hl hw
    unfold fc_X10_number_b22 at hw
    exact c_throw (k := 1) (ik := 100) (is := 156) (ic := 104) hx hb hst0 hown (by decide +kernel) (hts (.classLink RX10 100 "java/lang/IllegalArgumentException") (by decide +kernel)) (hts (.initialized "java/lang/IllegalArgumentException") (by decide +kernel)) (hSt.2.2.2.2.2.2.2.2.2.2.2.2.2.2.2.2.2.2.2.2.2.2.2.2.2.2.2.2.2.2.2.2.2.2.2.2.2.2.1) (fun w z => hts w (hat104 w z)) (by decide +kernel) (hSt.2.2.2.2.2.2.2.2.2.2.2.2.2.2.2.2.2.2.2.2.2.2.2.2.2.2.2.2.2.1) (by decide +kernel) hSt hK hH (by rw [hml]; exact hl.1) dX10_number_22 dX10_number_25 dX10_number_26 dX10_number_28 dX10_number_31 htab (show 6 ≤ (6 : Nat) from Nat.le_of_ble_eq_true rfl) (show _ ≤ (82 : Nat) from by first | exact Nat.le_of_ble_eq_true rfl | simp [va_rf_cat, cat_ref, cat_int, cat_long, cat_double, cat_null]) (Nat.le_of_ble_eq_true rfl) (Nat.le_of_ble_eq_true rfl) (Nat.le_of_ble_eq_true rfl) (Nat.le_of_ble_eq_true rfl) hlocks hw
  clear hP
  unfold fc_X10_number at hw
  have hst : ∀ (M : CM) (H : Heap) (locs : List Loc) (ls : Array Slot), cH D kA A s.heap T M H locs → lv_has ls 5 [(0, .ref h), (1, .int a1), (2, .double a2)] → (tg T h = 11 ∧ fc_X10_thingAt T (cR M 103 h) a1 M (fun (r3 : Option Nat) (M2 : CM) => ((r3 = none → fc_X10_number_b22 T X h Q   M2) ∧ (¬ r3 = none → fc_X10_canBeTold T a2 M2 (fun (r7 : Int32) (M6 : CM) => ((¬ r7 = 0 → (∃ p10 : Nat, r3 = some p10 ∧ (tg T p10 = 9 ∧ fc_X8_becomeDouble T p10 a2 M6 (fun (M12 : CM) => (∃ p15 : Nat, cR M12 84 p10 = some p15 ∧ (tg T p15 = 8 ∧ fc_X7_appendNumber T p15 a2 M12 (fun (M17 : CM) => Q M17))))))) ∧ (r7 = 0 → fc_X10_number_b22 T X h Q   M6))))))) → W p l e (headSpec wsX10_number rmX10_number).room s m args below meth c H locs 0 0 (vx_MQ below (va_Qv Q (cB D kA A T) A) (vx_X (fun (u : Nat × CM) => X u.1 u.2) (cBX D kA A T) A) args s 1 6 A) (F0 m 0 ls []) := by
    intro M H locs ls hH hl hw
    refine lv_aload_n hx hb dX10_number_0 rfl (lv_at hl 0 rfl) ?_
    obtain ⟨h1, hw⟩ := hw
    refine cg_103 hx hb hts hin10 hown hK hH h1 (hts (.fieldLink RX10 35 "IdlCaller" "slots" "[LIdlCaller$Thing;") (by decide +kernel)) dX10_number_1 ?_
    refine lv_iload_n hx hb dX10_number_4 rfl (lv_at hl 1 rfl) ?_
    refine c_callq (va_runS (As := [va_rf (cR M 103 h), .int a1]) (rest := []) ⟨hx, hb, hml, hown, hts⟩ (tc_X10_thingAt l D kA nm na sa sv H.size T (cR M 103 h) a1 M _ hw) (va_cwS 2 hts gX10_number_X10_thingAt rfl rfl rfl (by decide +kernel) ⟨(show (0 : Nat) + 1 ≤ 6 from Nat.le_of_ble_eq_true rfl), (show 8 + (2 + 11) + (0 : Nat) ≤ 82 from Nat.le_of_ble_eq_true rfl)⟩) (c_preS hK hH hA hSt) rfl rfl hl.1 rfl (lv_room (by first | exact Nat.le_of_ble_eq_true rfl | simp [va_rf_cat, cat_ref, cat_int, cat_long, cat_double, cat_null])) dX10_number_5 ⟨Nat.le_of_ble_eq_true rfl, Nat.le_of_ble_eq_true rfl⟩) hH hA (fun r3 M2 H locs hw hH => ?_)
    refine s_astore (i := 4) (lv' := [(4, va_rf r3), (0, .ref h), (1, .int a1), (2, .double a2)]) hx hb dX10_number_8 hl (by decide) (by first | rfl | simp [va_rf_cat, cat_ref, cat_int, cat_long, cat_double, cat_null]) (fun ls hl => ?_)
    refine s_aload hx hb dX10_number_10 (lv_at hl 0 rfl) ?_
    refine s_ifnull (tgt := 22) hx hb dX10_number_12 (by decide) (fun c5 => ?_) (fun c5 => ?_)
    · replace hw := hw.1 c5
      exact b22    M2 H locs ls hH (lv_sub hl [] rfl) hw
    · replace hw := hw.2 c5
      refine lv_dload_n hx hb dX10_number_15 rfl (lv_at hl 3 rfl) ?_
      refine c_calli (va_runS (As := [.double a2]) (rest := []) ⟨hx, hb, hml, hown, hts⟩ (tc_X10_canBeTold l D kA nm na sa sv H.size T a2 M2 _ hw) (va_cwS 1 hts gX10_number_X10_canBeTold rfl rfl rfl (by decide +kernel) ⟨(show (0 : Nat) + 1 ≤ 6 from Nat.le_of_ble_eq_true rfl), (show 8 + (4 + 11) + (0 : Nat) ≤ 82 from Nat.le_of_ble_eq_true rfl)⟩) (c_preS hK hH hA hSt) rfl rfl hl.1 rfl (lv_room (by first | exact Nat.le_of_ble_eq_true rfl | simp [va_rf_cat, cat_ref, cat_int, cat_long, cat_double, cat_null])) dX10_number_16 ⟨Nat.le_of_ble_eq_true rfl, Nat.le_of_ble_eq_true rfl⟩) hH hA (fun r7 M6 H locs hw hH => ?_)
      refine lv_if_ne (tgt := 32) hx hb dX10_number_19 (by decide) (fun c9 => ?_) (fun c9 => ?_)
      · replace hw := hw.1 c9
        refine s_aload hx hb dX10_number_32 (lv_at hl 0 rfl) ?_
        refine lv_dload_n hx hb dX10_number_34 rfl (lv_at hl 3 rfl) ?_
        obtain ⟨p10, ep10, hw⟩ := hw
        refine W.st (st' := [.double a2, .ref p10]) (by rw [ep10]; rfl) ?_
        obtain ⟨h11, hw⟩ := hw
        refine c_callv (va_runV (As := [.double a2]) (rest := []) ⟨hx, hb, hml, hown, hts⟩ (tc_X8_becomeDouble l D kA nm na sa sv H.size T p10 a2 M6 _ hw) (cwV 1 hts gX10_number_X8_becomeDouble rfl rfl rfl (by decide +kernel) ⟨(show (1 : Nat) + 1 ≤ 6 from Nat.le_of_ble_eq_true rfl), (show 8 + (3 + 11) + (23 : Nat) ≤ 82 from Nat.le_of_ble_eq_true rfl)⟩) (c_preV hK hH hA hSt (c_recv8 hK hH h11)) rfl rfl hl.1 rfl (lv_room (by first | exact Nat.le_of_ble_eq_true rfl | simp [va_rf_cat, cat_ref, cat_int, cat_long, cat_double, cat_null])) dX10_number_35 ⟨Nat.le_of_ble_eq_true rfl, Nat.le_of_ble_eq_true rfl⟩) hH hA (fun M12 H locs hw hH => ?_)
        refine s_aload hx hb dX10_number_38 (lv_at hl 0 rfl) ?_
        refine W.st (st' := [.ref p10]) (by rw [ep10]; rfl) ?_
        refine cg_84 hx hb hts hin8 hown hK hH h11 (hts (.fieldLink RX10 135 "IdlCaller$Thing" "text" "LIdlCaller$Text;") (by decide +kernel)) dX10_number_40 ?_
        refine lv_dload_n hx hb dX10_number_43 rfl (lv_at hl 3 rfl) ?_
        obtain ⟨p15, ep15, hw⟩ := hw
        refine W.st (st' := [.double a2, .ref p15]) (by rw [ep15]; rfl) ?_
        obtain ⟨h16, hw⟩ := hw
        refine c_callv (va_runV (As := [.double a2]) (rest := []) ⟨hx, hb, hml, hown, hts⟩ (tc_X7_appendNumber l D kA nm na sa sv H.size T p15 a2 M12 _ hw) (cwV 1 hts gX10_number_X7_appendNumber rfl rfl rfl (by decide +kernel) ⟨(show (2 : Nat) + 1 ≤ 6 from Nat.le_of_ble_eq_true rfl), (show 8 + (8 + 11) + (48 : Nat) ≤ 82 from Nat.le_of_ble_eq_true rfl)⟩) (c_preV hK hH hA hSt (c_recv7 hK hH h16)) rfl rfl hl.1 rfl (lv_room (by first | exact Nat.le_of_ble_eq_true rfl | simp [va_rf_cat, cat_ref, cat_int, cat_long, cat_double, cat_null])) dX10_number_44 ⟨Nat.le_of_ble_eq_true rfl, Nat.le_of_ble_eq_true rfl⟩) hH hA (fun M17 H locs hw hH => ?_)
        exact vx_ret (W.widen (k := 1) (n := 6) (Nat.le_of_ble_eq_true rfl) (Nat.le_of_ble_eq_true rfl) (c_retv hx hb hr hlocks hK hH hw dX10_number_47))
      · replace hw := hw.2 c9
        exact b22    M6 H locs ls hH (lv_sub hl [] rfl) hw
  exact hst M s.heap [] ls hH hl hw
def fc_X10_text (T : LY) (X : Nat → CM → Prop) (h : Nat)  (a1 : Int32) (a2 : Int32) (a3 : Int32) (a4 : Int32) (M : CM) (Q : Int32 → CM → Prop) : Prop := (tg T h = 11 ∧ fc_X10_thingAt T (cR M 103 h) a1 M (fun (r3 : Option Nat) (M2 : CM) => ((¬ r3 = none → (∃ p6 : Nat, r3 = some p6 ∧ (tg T p6 = 9 ∧ fc_X8_become T p6 5 M2 (fun (M8 : CM) => (∃ p11 : Nat, cR M8 84 p6 = some p11 ∧ (tg T p11 = 8 ∧ fc_X7_appendSigns T p11 a2 M8 (fun (M13 : CM) => (∃ p16 : Nat, cR M13 84 p6 = some p16 ∧ (tg T p16 = 8 ∧ fc_X7_appendSigns T p16 a3 M13 (fun (M18 : CM) => (∃ p21 : Nat, cR M18 84 p6 = some p21 ∧ (tg T p21 = 8 ∧ fc_X7_appendSigns T p21 a4 M18 (fun (M23 : CM) => fc_X10_findNumber T h r3 M23 (fun (M26 : CM) => (∃ p29 : Nat, cR M26 84 p6 = some p29 ∧ (tg T p29 = 8 ∧ Q (cI M26 71 p29) M26)))))))))))))))) ∧ (r3 = none → X 1 M2))))
abbrev rmX10_text : Room := { frames := 6, cells := 1, slots := 6, locals := 114 }
set_option maxHeartbeats 4000000 in
set_option maxRecDepth 100000 in
theorem tc_X10_text (l : Launch) (hst0 : l.stackTraces = false) (D : va_G) (kA : Nat → ClassId) (nm : Nat → Nat) (na : Nat) (sa sv : Nat → Nat) (sz : Nat) (T : LY) (X : Nat → CM → Prop) (h : Nat) (a1 : Int32) (a2 : Int32) (a3 : Int32) (a4 : Int32) (M : CM) (Q : Int32 → CM → Prop) (hw : fc_X10_text T X h a1 a2 a3 a4 M Q) : vx_Met l yX10_text wsX10_text rmX10_text (va_Pc [.ref h, .int a1, .int a2, .int a3, .int a4] (cPc nm na sa sv D kA T M sz)) (va_Qi Q (cB D kA (cF T sz) T) (cF T sz)) (vx_X (fun (u : Nat × CM) => X u.1 u.2) (cBX D kA (cF T sz) T) (cF T sz)) 1 6 (cF T sz) := by
  refine vx_ofW (cc := cX10_text) (maxL := 6) (ret := (some .int)) (by decide) rfl ?_
  intro p e s m args below meth c s₁ B hml htab hv
  obtain ⟨rfl, hsz, hP, hK, hSt⟩ := hv
  have hx := B.exec
  have hb := B.bytes
  have hr := B.returns
  have hts := atoms_spec (ws := wsX10_text) B.pre
  have hown : s.vm.findClass RX10 = some m.cls := findClass_of_methodNamed B.named
  have hlocks : meth.locks = false := B.notSynchronized
  subst hsz
  have hH : cH D kA (cF T s.heap.size) s.heap T M s.heap [] := ⟨hP.self, va_S.rf⟩
  have hA : ∀ q : Nat, s.heap.size ≤ q → cF T s.heap.size q := fun q z => Or.inr z
  generalize cF T s.heap.size = A at hH hA hSt ⊢
  have hl := lv_entry ([.ref h, .int a1, .int a2, .int a3, .int a4]) (n := 6) (by first | exact Nat.le_of_ble_eq_true rfl | simp [lg_sl, va_rf_cat, cat_ref, cat_int, cat_long, cat_double])
  rw [lg_entry_eq]
  generalize (lg_sl ([.ref h, .int a1, .int a2, .int a3, .int a4]) ++ List.replicate (6 - (lg_sl ([.ref h, .int a1, .int a2, .int a3, .int a4])).length) Slot.unset).toArray = ls at hl ⊢
  generalize ([.ref h, .int a1, .int a2, .int a3, .int a4] : List Value).toArray = args at hts ⊢
  have hl : lv_has ls 6 [(0, .ref h), (1, .int a1), (2, .int a2), (3, .int a3), (4, .int a4)] := hl
  have hin7 : ∀ w ∈ wsX70, w ∈ wsX10_text := by decide +kernel
  have hin8 : ∀ w ∈ wsX80, w ∈ wsX10_text := by decide +kernel
  have hin10 : ∀ w ∈ wsX100, w ∈ wsX10_text := by decide +kernel
  have hat104 : ∀ w ∈ (vx_atS RX10 104 (exN 1) exS).filter goodWord, w ∈ wsX10_text := by decide +kernel
  clear hP
  unfold fc_X10_text at hw
  have hst : ∀ (M : CM) (H : Heap) (locs : List Loc) (ls : Array Slot), cH D kA A s.heap T M H locs → lv_has ls 6 [(0, .ref h), (1, .int a1), (2, .int a2), (3, .int a3), (4, .int a4)] → (tg T h = 11 ∧ fc_X10_thingAt T (cR M 103 h) a1 M (fun (r3 : Option Nat) (M2 : CM) => ((¬ r3 = none → (∃ p6 : Nat, r3 = some p6 ∧ (tg T p6 = 9 ∧ fc_X8_become T p6 5 M2 (fun (M8 : CM) => (∃ p11 : Nat, cR M8 84 p6 = some p11 ∧ (tg T p11 = 8 ∧ fc_X7_appendSigns T p11 a2 M8 (fun (M13 : CM) => (∃ p16 : Nat, cR M13 84 p6 = some p16 ∧ (tg T p16 = 8 ∧ fc_X7_appendSigns T p16 a3 M13 (fun (M18 : CM) => (∃ p21 : Nat, cR M18 84 p6 = some p21 ∧ (tg T p21 = 8 ∧ fc_X7_appendSigns T p21 a4 M18 (fun (M23 : CM) => fc_X10_findNumber T h r3 M23 (fun (M26 : CM) => (∃ p29 : Nat, cR M26 84 p6 = some p29 ∧ (tg T p29 = 8 ∧ Q (cI M26 71 p29) M26)))))))))))))))) ∧ (r3 = none → X 1 M2)))) → W p l e (headSpec wsX10_text rmX10_text).room s m args below meth c H locs 0 0 (vx_MQ below (va_Qi Q (cB D kA A T) A) (vx_X (fun (u : Nat × CM) => X u.1 u.2) (cBX D kA A T) A) args s 1 6 A) (F0 m 0 ls []) := by
    intro M H locs ls hH hl hw
    refine lv_aload_n hx hb dX10_text_0 rfl (lv_at hl 0 rfl) ?_
    obtain ⟨h1, hw⟩ := hw
    refine cg_103 hx hb hts hin10 hown hK hH h1 (hts (.fieldLink RX10 35 "IdlCaller" "slots" "[LIdlCaller$Thing;") (by decide +kernel)) dX10_text_1 ?_
    refine lv_iload_n hx hb dX10_text_4 rfl (lv_at hl 1 rfl) ?_
    refine c_callq (va_runS (As := [va_rf (cR M 103 h), .int a1]) (rest := []) ⟨hx, hb, hml, hown, hts⟩ (tc_X10_thingAt l D kA nm na sa sv H.size T (cR M 103 h) a1 M _ hw) (va_cwS 2 hts gX10_text_X10_thingAt rfl rfl rfl (by decide +kernel) ⟨(show (0 : Nat) + 1 ≤ 6 from Nat.le_of_ble_eq_true rfl), (show 8 + (2 + 11) + (0 : Nat) ≤ 114 from Nat.le_of_ble_eq_true rfl)⟩) (c_preS hK hH hA hSt) rfl rfl hl.1 rfl (lv_room (by first | exact Nat.le_of_ble_eq_true rfl | simp [va_rf_cat, cat_ref, cat_int, cat_long, cat_double, cat_null])) dX10_text_5 ⟨Nat.le_of_ble_eq_true rfl, Nat.le_of_ble_eq_true rfl⟩) hH hA (fun r3 M2 H locs hw hH => ?_)
    refine s_astore (i := 5) (lv' := [(5, va_rf r3), (0, .ref h), (1, .int a1), (2, .int a2), (3, .int a3), (4, .int a4)]) hx hb dX10_text_8 hl (by decide) (by first | rfl | simp [va_rf_cat, cat_ref, cat_int, cat_long, cat_double, cat_null]) (fun ls hl => ?_)
    refine s_aload hx hb dX10_text_10 (lv_at hl 0 rfl) ?_
    refine s_ifnonnull (tgt := 25) hx hb dX10_text_12 (by decide) (fun c5 => ?_) (fun c5 => ?_)
    · replace hw := hw.1 c5
      refine s_aload hx hb dX10_text_25 (lv_at hl 0 rfl) ?_
      refine lv_iconst (v := 5) hx hb dX10_text_27 (by decide) ?_
      obtain ⟨p6, ep6, hw⟩ := hw
      refine W.st (st' := [.int 5, .ref p6]) (by rw [ep6]; rfl) ?_
      obtain ⟨h7, hw⟩ := hw
      refine c_callv (va_runV (As := [.int 5]) (rest := []) ⟨hx, hb, hml, hown, hts⟩ (tc_X8_become l D kA nm na sa sv H.size T p6 5 M2 _ hw) (cwV 1 hts gX10_text_X8_become rfl rfl rfl (by decide +kernel) ⟨(show (0 : Nat) + 1 ≤ 6 from Nat.le_of_ble_eq_true rfl), (show 8 + (2 + 11) + (0 : Nat) ≤ 114 from Nat.le_of_ble_eq_true rfl)⟩) (c_preV hK hH hA hSt (c_recv8 hK hH h7)) rfl rfl hl.1 rfl (lv_room (by first | exact Nat.le_of_ble_eq_true rfl | simp [va_rf_cat, cat_ref, cat_int, cat_long, cat_double, cat_null])) dX10_text_28 ⟨Nat.le_of_ble_eq_true rfl, Nat.le_of_ble_eq_true rfl⟩) hH hA (fun M8 H locs hw hH => ?_)
      refine s_aload hx hb dX10_text_31 (lv_at hl 0 rfl) ?_
      refine W.st (st' := [.ref p6]) (by rw [ep6]; rfl) ?_
      refine cg_84 hx hb hts hin8 hown hK hH h7 (hts (.fieldLink RX10 135 "IdlCaller$Thing" "text" "LIdlCaller$Text;") (by decide +kernel)) dX10_text_33 ?_
      refine lv_iload_n hx hb dX10_text_36 rfl (lv_at hl 3 rfl) ?_
      obtain ⟨p11, ep11, hw⟩ := hw
      refine W.st (st' := [.int a2, .ref p11]) (by rw [ep11]; rfl) ?_
      obtain ⟨h12, hw⟩ := hw
      refine c_callv (va_runV (As := [.int a2]) (rest := []) ⟨hx, hb, hml, hown, hts⟩ (tc_X7_appendSigns l D kA nm na sa sv H.size T p11 a2 M8 _ hw) (cwV 1 hts gX10_text_X7_appendSigns rfl rfl rfl (by decide +kernel) ⟨(show (1 : Nat) + 1 ≤ 6 from Nat.le_of_ble_eq_true rfl), (show 8 + (4 + 11) + (21 : Nat) ≤ 114 from Nat.le_of_ble_eq_true rfl)⟩) (c_preV hK hH hA hSt (c_recv7 hK hH h12)) rfl rfl hl.1 rfl (lv_room (by first | exact Nat.le_of_ble_eq_true rfl | simp [va_rf_cat, cat_ref, cat_int, cat_long, cat_double, cat_null])) dX10_text_37 ⟨Nat.le_of_ble_eq_true rfl, Nat.le_of_ble_eq_true rfl⟩) hH hA (fun M13 H locs hw hH => ?_)
      refine s_aload hx hb dX10_text_40 (lv_at hl 0 rfl) ?_
      refine W.st (st' := [.ref p6]) (by rw [ep6]; rfl) ?_
      refine cg_84 hx hb hts hin8 hown hK hH h7 (hts (.fieldLink RX10 135 "IdlCaller$Thing" "text" "LIdlCaller$Text;") (by decide +kernel)) dX10_text_42 ?_
      refine lv_iload_n hx hb dX10_text_45 rfl (lv_at hl 4 rfl) ?_
      obtain ⟨p16, ep16, hw⟩ := hw
      refine W.st (st' := [.int a3, .ref p16]) (by rw [ep16]; rfl) ?_
      obtain ⟨h17, hw⟩ := hw
      refine c_callv (va_runV (As := [.int a3]) (rest := []) ⟨hx, hb, hml, hown, hts⟩ (tc_X7_appendSigns l D kA nm na sa sv H.size T p16 a3 M13 _ hw) (cwV 1 hts gX10_text_X7_appendSigns rfl rfl rfl (by decide +kernel) ⟨(show (1 : Nat) + 1 ≤ 6 from Nat.le_of_ble_eq_true rfl), (show 8 + (4 + 11) + (21 : Nat) ≤ 114 from Nat.le_of_ble_eq_true rfl)⟩) (c_preV hK hH hA hSt (c_recv7 hK hH h17)) rfl rfl hl.1 rfl (lv_room (by first | exact Nat.le_of_ble_eq_true rfl | simp [va_rf_cat, cat_ref, cat_int, cat_long, cat_double, cat_null])) dX10_text_46 ⟨Nat.le_of_ble_eq_true rfl, Nat.le_of_ble_eq_true rfl⟩) hH hA (fun M18 H locs hw hH => ?_)
      refine s_aload hx hb dX10_text_49 (lv_at hl 0 rfl) ?_
      refine W.st (st' := [.ref p6]) (by rw [ep6]; rfl) ?_
      refine cg_84 hx hb hts hin8 hown hK hH h7 (hts (.fieldLink RX10 135 "IdlCaller$Thing" "text" "LIdlCaller$Text;") (by decide +kernel)) dX10_text_51 ?_
      refine lv_iload hx hb dX10_text_54 (lv_at hl 5 rfl) ?_
      obtain ⟨p21, ep21, hw⟩ := hw
      refine W.st (st' := [.int a4, .ref p21]) (by rw [ep21]; rfl) ?_
      obtain ⟨h22, hw⟩ := hw
      refine c_callv (va_runV (As := [.int a4]) (rest := []) ⟨hx, hb, hml, hown, hts⟩ (tc_X7_appendSigns l D kA nm na sa sv H.size T p21 a4 M18 _ hw) (cwV 1 hts gX10_text_X7_appendSigns rfl rfl rfl (by decide +kernel) ⟨(show (1 : Nat) + 1 ≤ 6 from Nat.le_of_ble_eq_true rfl), (show 8 + (4 + 11) + (21 : Nat) ≤ 114 from Nat.le_of_ble_eq_true rfl)⟩) (c_preV hK hH hA hSt (c_recv7 hK hH h22)) rfl rfl hl.1 rfl (lv_room (by first | exact Nat.le_of_ble_eq_true rfl | simp [va_rf_cat, cat_ref, cat_int, cat_long, cat_double, cat_null])) dX10_text_56 ⟨Nat.le_of_ble_eq_true rfl, Nat.le_of_ble_eq_true rfl⟩) hH hA (fun M23 H locs hw hH => ?_)
      refine lv_aload_n hx hb dX10_text_59 rfl (lv_at hl 1 rfl) ?_
      refine s_aload hx hb dX10_text_60 (lv_at hl 0 rfl) ?_
      refine c_callv (va_runV (As := [va_rf r3]) (rest := []) ⟨hx, hb, hml, hown, hts⟩ (tc_X10_findNumber l D kA nm na sa sv H.size T h r3 M23 _ hw) (cwV 1 hts gX10_text_X10_findNumber rfl rfl rfl (by decide +kernel) ⟨(show (4 : Nat) + 1 ≤ 6 from Nat.le_of_ble_eq_true rfl), (show 8 + (3 + 11) + (92 : Nat) ≤ 114 from Nat.le_of_ble_eq_true rfl)⟩) (c_preV hK hH hA hSt (c_recv10 hK hH h1)) rfl rfl hl.1 rfl (lv_room (by first | exact Nat.le_of_ble_eq_true rfl | simp [va_rf_cat, cat_ref, cat_int, cat_long, cat_double, cat_null])) dX10_text_62 ⟨Nat.le_of_ble_eq_true rfl, Nat.le_of_ble_eq_true rfl⟩) hH hA (fun M26 H locs hw hH => ?_)
      refine s_aload hx hb dX10_text_65 (lv_at hl 0 rfl) ?_
      refine W.st (st' := [.ref p6]) (by rw [ep6]; rfl) ?_
      refine cg_84 hx hb hts hin8 hown hK hH h7 (hts (.fieldLink RX10 135 "IdlCaller$Thing" "text" "LIdlCaller$Text;") (by decide +kernel)) dX10_text_67 ?_
      obtain ⟨p29, ep29, hw⟩ := hw
      refine W.st (st' := [.ref p29]) (by rw [ep29]; rfl) ?_
      obtain ⟨h30, hw⟩ := hw
      refine cg_71 hx hb hts hin7 hown hK hH h30 (hts (.fieldLink RX10 64 "IdlCaller$Text" "length" "I") (by decide +kernel)) dX10_text_70 ?_
      exact vx_ret (W.widen (k := 1) (n := 6) (Nat.le_of_ble_eq_true rfl) (Nat.le_of_ble_eq_true rfl) (c_reti hx hb hr hlocks hK hH hw dX10_text_73))
    · replace hw := hw.2 c5
      exact c_throw (k := 1) (ik := 100) (is := 165) (ic := 104) hx hb hst0 hown (by decide +kernel) (hts (.classLink RX10 100 "java/lang/IllegalArgumentException") (by decide +kernel)) (hts (.initialized "java/lang/IllegalArgumentException") (by decide +kernel)) (hSt.2.2.2.2.2.2.2.2.2.2.2.2.2.2.2.2.2.2.2.2.2.2.2.2.2.2.2.2.2.2.2.2.2.2.2.2.2.2.2.1) (fun w z => hts w (hat104 w z)) (by decide +kernel) (hSt.2.2.2.2.2.2.2.2.2.2.2.2.2.2.2.2.2.2.2.2.2.2.2.2.2.2.2.2.2.1) (by decide +kernel) hSt hK hH (by rw [hml]; exact hl.1) dX10_text_15 dX10_text_18 dX10_text_19 dX10_text_21 dX10_text_24 htab (show 6 ≤ (6 : Nat) from Nat.le_of_ble_eq_true rfl) (show _ ≤ (114 : Nat) from by first | exact Nat.le_of_ble_eq_true rfl | simp [va_rf_cat, cat_ref, cat_int, cat_long, cat_double, cat_null]) (Nat.le_of_ble_eq_true rfl) (Nat.le_of_ble_eq_true rfl) (Nat.le_of_ble_eq_true rfl) (Nat.le_of_ble_eq_true rfl) hlocks hw
  exact hst M s.heap [] ls hH hl hw
def fc_X10_add_b65 (T : LY) (X : Nat → CM → Prop) (h : Nat) (Q : Int32 → CM → Prop) (M : CM) : Prop := X 2 M
def fc_X10_add_b28 (T : LY) (X : Nat → CM → Prop) (h : Nat) (Q : Int32 → CM → Prop) (M : CM) : Prop := X 1 M
def fc_X10_add (T : LY) (X : Nat → CM → Prop) (h : Nat)  (a1 : Int32) (a2 : Int32) (M : CM) (Q : Int32 → CM → Prop) : Prop := (tg T h = 11 ∧ fc_X10_thingAt T (cR M 103 h) a1 M (fun (r3 : Option Nat) (M2 : CM) => fc_X10_thingAt T (cR M2 103 h) a2 M2 (fun (r6 : Option Nat) (M5 : CM) => ((r3 = none → fc_X10_add_b28 T X h Q   M5) ∧ (¬ r3 = none → ((¬ r6 = none → (∃ p10 : Nat, r3 = some p10 ∧ (tg T p10 = 9 ∧ ((¬ (cI M5 80 p10) = 6 → fc_X10_add_b65 T X h Q   M5) ∧ ((cI M5 80 p10) = 6 → (∃ p13 : Nat, r6 = some p13 ∧ (tg T p13 = 9 ∧ (((cI M5 80 p13) = 6 → fc_X10_add_b65 T X h Q   M5) ∧ (¬ (cI M5 80 p13) = 6 → (((cI M5 85 p10) < 5 → fc_X8_appendItem T p10 r6 M5 (fun (M17 : CM) => fc_X10_findNumber T h r3 M17 (fun (M20 : CM) => Q (cI M20 85 p10) M20))) ∧ (¬ (cI M5 85 p10) < 5 → fc_X10_add_b65 T X h Q   M5))))))))))) ∧ (r6 = none → fc_X10_add_b28 T X h Q   M5)))))))
abbrev rmX10_add : Room := { frames := 6, cells := 1, slots := 6, locals := 114 }
set_option maxHeartbeats 4000000 in
set_option maxRecDepth 100000 in
theorem tc_X10_add (l : Launch) (hst0 : l.stackTraces = false) (D : va_G) (kA : Nat → ClassId) (nm : Nat → Nat) (na : Nat) (sa sv : Nat → Nat) (sz : Nat) (T : LY) (X : Nat → CM → Prop) (h : Nat) (a1 : Int32) (a2 : Int32) (M : CM) (Q : Int32 → CM → Prop) (hw : fc_X10_add T X h a1 a2 M Q) : vx_Met l yX10_add wsX10_add rmX10_add (va_Pc [.ref h, .int a1, .int a2] (cPc nm na sa sv D kA T M sz)) (va_Qi Q (cB D kA (cF T sz) T) (cF T sz)) (vx_X (fun (u : Nat × CM) => X u.1 u.2) (cBX D kA (cF T sz) T) (cF T sz)) 1 6 (cF T sz) := by
  refine vx_ofW (cc := cX10_add) (maxL := 5) (ret := (some .int)) (by decide) rfl ?_
  intro p e s m args below meth c s₁ B hml htab hv
  obtain ⟨rfl, hsz, hP, hK, hSt⟩ := hv
  have hx := B.exec
  have hb := B.bytes
  have hr := B.returns
  have hts := atoms_spec (ws := wsX10_add) B.pre
  have hown : s.vm.findClass RX10 = some m.cls := findClass_of_methodNamed B.named
  have hlocks : meth.locks = false := B.notSynchronized
  subst hsz
  have hH : cH D kA (cF T s.heap.size) s.heap T M s.heap [] := ⟨hP.self, va_S.rf⟩
  have hA : ∀ q : Nat, s.heap.size ≤ q → cF T s.heap.size q := fun q z => Or.inr z
  generalize cF T s.heap.size = A at hH hA hSt ⊢
  have hl := lv_entry ([.ref h, .int a1, .int a2]) (n := 5) (by first | exact Nat.le_of_ble_eq_true rfl | simp [lg_sl, va_rf_cat, cat_ref, cat_int, cat_long, cat_double])
  rw [lg_entry_eq]
  generalize (lg_sl ([.ref h, .int a1, .int a2]) ++ List.replicate (5 - (lg_sl ([.ref h, .int a1, .int a2])).length) Slot.unset).toArray = ls at hl ⊢
  generalize ([.ref h, .int a1, .int a2] : List Value).toArray = args at hts ⊢
  have hl : lv_has ls 5 [(0, .ref h), (1, .int a1), (2, .int a2)] := hl
  have hin8 : ∀ w ∈ wsX80, w ∈ wsX10_add := by decide +kernel
  have hin10 : ∀ w ∈ wsX100, w ∈ wsX10_add := by decide +kernel
  have hat71 : ∀ w ∈ (vx_atS RX10 71 (exN 2) exS).filter goodWord, w ∈ wsX10_add := by decide +kernel
  have hat104 : ∀ w ∈ (vx_atS RX10 104 (exN 1) exS).filter goodWord, w ∈ wsX10_add := by decide +kernel
  have b65 : ∀ (M : CM) (H : Heap) (locs : List Loc) (ls : Array Slot), cH D kA A s.heap T M H locs → lv_has ls 5 [] → fc_X10_add_b65 T X h Q   M → W p l e (headSpec wsX10_add rmX10_add).room s m args below meth c H locs 0 0 (vx_MQ below (va_Qi Q (cB D kA A T) A) (vx_X (fun (u : Nat × CM) => X u.1 u.2) (cBX D kA A T) A) args s 1 6 A) (F0 m 65 ls []) := by
    intro    M H locs ls hH hl hw
    unfold fc_X10_add_b65 at hw
    exact c_throw (k := 2) (ik := 67) (is := 175) (ic := 71) hx hb hst0 hown (by decide +kernel) (hts (.classLink RX10 67 "java/lang/IllegalStateException") (by decide +kernel)) (hts (.initialized "java/lang/IllegalStateException") (by decide +kernel)) (hSt.2.2.2.2.2.2.2.2.2.2.2.2.2.2.2.2.2.2.2.2.2.2.2.2.2.2.2.2.2.2.2.2.2.2.2.2.2.2.2.2.2.1) (fun w z => hts w (hat71 w z)) (by decide +kernel) (hSt.2.2.2.2.2.2.2.2.2.2.2.2.2.2.2.2.2.2.2.2.2.2.2.2.2.2.2.2.2.2.1) (by decide +kernel) hSt hK hH (by rw [hml]; exact hl.1) dX10_add_65 dX10_add_68 dX10_add_69 dX10_add_71 dX10_add_74 htab (show 6 ≤ (6 : Nat) from Nat.le_of_ble_eq_true rfl) (show _ ≤ (114 : Nat) from by first | exact Nat.le_of_ble_eq_true rfl | simp [va_rf_cat, cat_ref, cat_int, cat_long, cat_double, cat_null]) (Nat.le_of_ble_eq_true rfl) (Nat.le_of_ble_eq_true rfl) (Nat.le_of_ble_eq_true rfl) (Nat.le_of_ble_eq_true rfl) hlocks hw
  have b28 : ∀ (M : CM) (H : Heap) (locs : List Loc) (ls : Array Slot), cH D kA A s.heap T M H locs → lv_has ls 5 [] → fc_X10_add_b28 T X h Q   M → W p l e (headSpec wsX10_add rmX10_add).room s m args below meth c H locs 0 0 (vx_MQ below (va_Qi Q (cB D kA A T) A) (vx_X (fun (u : Nat × CM) => X u.1 u.2) (cBX D kA A T) A) args s 1 6 A) (F0 m 28 ls []) := by
    intro    M H locs ls hH hl hw
    unfold fc_X10_add_b28 at hw
    exact c_throw (k := 1) (ik := 100) (is := 167) (ic := 104) hx hb hst0 hown (by decide +kernel) (hts (.classLink RX10 100 "java/lang/IllegalArgumentException") (by decide +kernel)) (hts (.initialized "java/lang/IllegalArgumentException") (by decide +kernel)) (hSt.2.2.2.2.2.2.2.2.2.2.2.2.2.2.2.2.2.2.2.2.2.2.2.2.2.2.2.2.2.2.2.2.2.2.2.2.2.2.2.2.1) (fun w z => hts w (hat104 w z)) (by decide +kernel) (hSt.2.2.2.2.2.2.2.2.2.2.2.2.2.2.2.2.2.2.2.2.2.2.2.2.2.2.2.2.2.1) (by decide +kernel) hSt hK hH (by rw [hml]; exact hl.1) dX10_add_28 dX10_add_31 dX10_add_32 dX10_add_34 dX10_add_37 htab (show 6 ≤ (6 : Nat) from Nat.le_of_ble_eq_true rfl) (show _ ≤ (114 : Nat) from by first | exact Nat.le_of_ble_eq_true rfl | simp [va_rf_cat, cat_ref, cat_int, cat_long, cat_double, cat_null]) (Nat.le_of_ble_eq_true rfl) (Nat.le_of_ble_eq_true rfl) (Nat.le_of_ble_eq_true rfl) (Nat.le_of_ble_eq_true rfl) hlocks hw
  clear hP
  unfold fc_X10_add at hw
  have hst : ∀ (M : CM) (H : Heap) (locs : List Loc) (ls : Array Slot), cH D kA A s.heap T M H locs → lv_has ls 5 [(0, .ref h), (1, .int a1), (2, .int a2)] → (tg T h = 11 ∧ fc_X10_thingAt T (cR M 103 h) a1 M (fun (r3 : Option Nat) (M2 : CM) => fc_X10_thingAt T (cR M2 103 h) a2 M2 (fun (r6 : Option Nat) (M5 : CM) => ((r3 = none → fc_X10_add_b28 T X h Q   M5) ∧ (¬ r3 = none → ((¬ r6 = none → (∃ p10 : Nat, r3 = some p10 ∧ (tg T p10 = 9 ∧ ((¬ (cI M5 80 p10) = 6 → fc_X10_add_b65 T X h Q   M5) ∧ ((cI M5 80 p10) = 6 → (∃ p13 : Nat, r6 = some p13 ∧ (tg T p13 = 9 ∧ (((cI M5 80 p13) = 6 → fc_X10_add_b65 T X h Q   M5) ∧ (¬ (cI M5 80 p13) = 6 → (((cI M5 85 p10) < 5 → fc_X8_appendItem T p10 r6 M5 (fun (M17 : CM) => fc_X10_findNumber T h r3 M17 (fun (M20 : CM) => Q (cI M20 85 p10) M20))) ∧ (¬ (cI M5 85 p10) < 5 → fc_X10_add_b65 T X h Q   M5))))))))))) ∧ (r6 = none → fc_X10_add_b28 T X h Q   M5))))))) → W p l e (headSpec wsX10_add rmX10_add).room s m args below meth c H locs 0 0 (vx_MQ below (va_Qi Q (cB D kA A T) A) (vx_X (fun (u : Nat × CM) => X u.1 u.2) (cBX D kA A T) A) args s 1 6 A) (F0 m 0 ls []) := by
    intro M H locs ls hH hl hw
    refine lv_aload_n hx hb dX10_add_0 rfl (lv_at hl 0 rfl) ?_
    obtain ⟨h1, hw⟩ := hw
    refine cg_103 hx hb hts hin10 hown hK hH h1 (hts (.fieldLink RX10 35 "IdlCaller" "slots" "[LIdlCaller$Thing;") (by decide +kernel)) dX10_add_1 ?_
    refine lv_iload_n hx hb dX10_add_4 rfl (lv_at hl 1 rfl) ?_
    refine c_callq (va_runS (As := [va_rf (cR M 103 h), .int a1]) (rest := []) ⟨hx, hb, hml, hown, hts⟩ (tc_X10_thingAt l D kA nm na sa sv H.size T (cR M 103 h) a1 M _ hw) (va_cwS 2 hts gX10_add_X10_thingAt rfl rfl rfl (by decide +kernel) ⟨(show (0 : Nat) + 1 ≤ 6 from Nat.le_of_ble_eq_true rfl), (show 8 + (2 + 11) + (0 : Nat) ≤ 114 from Nat.le_of_ble_eq_true rfl)⟩) (c_preS hK hH hA hSt) rfl rfl hl.1 rfl (lv_room (by first | exact Nat.le_of_ble_eq_true rfl | simp [va_rf_cat, cat_ref, cat_int, cat_long, cat_double, cat_null])) dX10_add_5 ⟨Nat.le_of_ble_eq_true rfl, Nat.le_of_ble_eq_true rfl⟩) hH hA (fun r3 M2 H locs hw hH => ?_)
    refine s_astore_n (i := 3) (lv' := [(3, va_rf r3), (0, .ref h), (1, .int a1), (2, .int a2)]) hx hb dX10_add_8 rfl hl (by decide) (by first | rfl | simp [va_rf_cat, cat_ref, cat_int, cat_long, cat_double, cat_null]) (fun ls hl => ?_)
    refine lv_aload_n hx hb dX10_add_9 rfl (lv_at hl 1 rfl) ?_
    refine cg_103 hx hb hts hin10 hown hK hH h1 (hts (.fieldLink RX10 35 "IdlCaller" "slots" "[LIdlCaller$Thing;") (by decide +kernel)) dX10_add_10 ?_
    refine lv_iload_n hx hb dX10_add_13 rfl (lv_at hl 3 rfl) ?_
    refine c_callq (va_runS (As := [va_rf (cR M2 103 h), .int a2]) (rest := []) ⟨hx, hb, hml, hown, hts⟩ (tc_X10_thingAt l D kA nm na sa sv H.size T (cR M2 103 h) a2 M2 _ hw) (va_cwS 2 hts gX10_add_X10_thingAt rfl rfl rfl (by decide +kernel) ⟨(show (0 : Nat) + 1 ≤ 6 from Nat.le_of_ble_eq_true rfl), (show 8 + (2 + 11) + (0 : Nat) ≤ 114 from Nat.le_of_ble_eq_true rfl)⟩) (c_preS hK hH hA hSt) rfl rfl hl.1 rfl (lv_room (by first | exact Nat.le_of_ble_eq_true rfl | simp [va_rf_cat, cat_ref, cat_int, cat_long, cat_double, cat_null])) dX10_add_14 ⟨Nat.le_of_ble_eq_true rfl, Nat.le_of_ble_eq_true rfl⟩) hH hA (fun r6 M5 H locs hw hH => ?_)
    refine s_astore (i := 4) (lv' := [(4, va_rf r6), (3, va_rf r3), (0, .ref h), (1, .int a1), (2, .int a2)]) hx hb dX10_add_17 hl (by decide) (by first | rfl | simp [va_rf_cat, cat_ref, cat_int, cat_long, cat_double, cat_null]) (fun ls hl => ?_)
    refine s_aload_n hx hb dX10_add_19 rfl (lv_at hl 1 rfl) ?_
    refine s_ifnull (tgt := 28) hx hb dX10_add_20 (by decide) (fun c8 => ?_) (fun c8 => ?_)
    · replace hw := hw.1 c8
      exact b28    M5 H locs ls hH (lv_sub hl [] rfl) hw
    · replace hw := hw.2 c8
      refine s_aload hx hb dX10_add_23 (lv_at hl 0 rfl) ?_
      refine s_ifnonnull (tgt := 38) hx hb dX10_add_25 (by decide) (fun c9 => ?_) (fun c9 => ?_)
      · replace hw := hw.1 c9
        refine s_aload_n hx hb dX10_add_38 rfl (lv_at hl 1 rfl) ?_
        obtain ⟨p10, ep10, hw⟩ := hw
        refine W.st (st' := [.ref p10]) (by rw [ep10]; rfl) ?_
        obtain ⟨h11, hw⟩ := hw
        refine cg_80 hx hb hts hin8 hown hK hH h11 (hts (.fieldLink RX10 169 "IdlCaller$Thing" "kind" "I") (by decide +kernel)) dX10_add_39 ?_
        refine lv_bipush (v := 6) hx hb dX10_add_42 (by decide) ?_
        refine lv_icmp_ne (tgt := 65) hx hb dX10_add_44 (by decide) (fun c12 => ?_) (fun c12 => ?_)
        · replace hw := hw.1 c12
          exact b65    M5 H locs ls hH (lv_sub hl [] rfl) hw
        · replace hw := hw.2 c12
          refine s_aload hx hb dX10_add_47 (lv_at hl 0 rfl) ?_
          obtain ⟨p13, ep13, hw⟩ := hw
          refine W.st (st' := [.ref p13]) (by rw [ep13]; rfl) ?_
          obtain ⟨h14, hw⟩ := hw
          refine cg_80 hx hb hts hin8 hown hK hH h14 (hts (.fieldLink RX10 169 "IdlCaller$Thing" "kind" "I") (by decide +kernel)) dX10_add_49 ?_
          refine lv_bipush (v := 6) hx hb dX10_add_52 (by decide) ?_
          refine lv_icmp_eq (tgt := 65) hx hb dX10_add_54 (by decide) (fun c15 => ?_) (fun c15 => ?_)
          · replace hw := hw.1 c15
            exact b65    M5 H locs ls hH (lv_sub hl [] rfl) hw
          · replace hw := hw.2 c15
            refine s_aload_n hx hb dX10_add_57 rfl (lv_at hl 1 rfl) ?_
            refine W.st (st' := [.ref p10]) (by rw [ep10]; rfl) ?_
            refine cg_85 hx hb hts hin8 hown hK hH h11 (hts (.fieldLink RX10 172 "IdlCaller$Thing" "size" "I") (by decide +kernel)) dX10_add_58 ?_
            refine lv_iconst (v := 5) hx hb dX10_add_61 (by decide) ?_
            refine lv_icmp_lt (tgt := 75) hx hb dX10_add_62 (by decide) (fun c16 => ?_) (fun c16 => ?_)
            · replace hw := hw.1 c16
              refine s_aload_n hx hb dX10_add_75 rfl (lv_at hl 1 rfl) ?_
              refine s_aload hx hb dX10_add_76 (lv_at hl 0 rfl) ?_
              refine W.st (st' := [va_rf r6, .ref p10]) (by rw [ep10]; rfl) ?_
              refine c_callv (va_runV (As := [va_rf r6]) (rest := []) ⟨hx, hb, hml, hown, hts⟩ (tc_X8_appendItem l D kA nm na sa sv H.size T p10 r6 M5 _ hw) (cwV 1 hts gX10_add_X8_appendItem rfl rfl rfl (by decide +kernel) ⟨(show (2 : Nat) + 1 ≤ 6 from Nat.le_of_ble_eq_true rfl), (show 8 + (4 + 11) + (44 : Nat) ≤ 114 from Nat.le_of_ble_eq_true rfl)⟩) (c_preV hK hH hA hSt (c_recv8 hK hH h11)) rfl rfl hl.1 rfl (lv_room (by first | exact Nat.le_of_ble_eq_true rfl | simp [va_rf_cat, cat_ref, cat_int, cat_long, cat_double, cat_null])) dX10_add_78 ⟨Nat.le_of_ble_eq_true rfl, Nat.le_of_ble_eq_true rfl⟩) hH hA (fun M17 H locs hw hH => ?_)
              refine lv_aload_n hx hb dX10_add_81 rfl (lv_at hl 2 rfl) ?_
              refine s_aload_n hx hb dX10_add_82 rfl (lv_at hl 1 rfl) ?_
              refine c_callv (va_runV (As := [va_rf r3]) (rest := []) ⟨hx, hb, hml, hown, hts⟩ (tc_X10_findNumber l D kA nm na sa sv H.size T h r3 M17 _ hw) (cwV 1 hts gX10_add_X10_findNumber rfl rfl rfl (by decide +kernel) ⟨(show (4 : Nat) + 1 ≤ 6 from Nat.le_of_ble_eq_true rfl), (show 8 + (3 + 11) + (92 : Nat) ≤ 114 from Nat.le_of_ble_eq_true rfl)⟩) (c_preV hK hH hA hSt (c_recv10 hK hH h1)) rfl rfl hl.1 rfl (lv_room (by first | exact Nat.le_of_ble_eq_true rfl | simp [va_rf_cat, cat_ref, cat_int, cat_long, cat_double, cat_null])) dX10_add_83 ⟨Nat.le_of_ble_eq_true rfl, Nat.le_of_ble_eq_true rfl⟩) hH hA (fun M20 H locs hw hH => ?_)
              refine s_aload_n hx hb dX10_add_86 rfl (lv_at hl 1 rfl) ?_
              refine W.st (st' := [.ref p10]) (by rw [ep10]; rfl) ?_
              refine cg_85 hx hb hts hin8 hown hK hH h11 (hts (.fieldLink RX10 172 "IdlCaller$Thing" "size" "I") (by decide +kernel)) dX10_add_87 ?_
              exact vx_ret (W.widen (k := 1) (n := 6) (Nat.le_of_ble_eq_true rfl) (Nat.le_of_ble_eq_true rfl) (c_reti hx hb hr hlocks hK hH hw dX10_add_90))
            · replace hw := hw.2 c16
              exact b65    M5 H locs ls hH (lv_sub hl [] rfl) hw
      · replace hw := hw.2 c9
        exact b28    M5 H locs ls hH (lv_sub hl [] rfl) hw
  exact hst M s.heap [] ls hH hl hw
