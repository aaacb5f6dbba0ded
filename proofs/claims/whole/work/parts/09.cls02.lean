def fc_X7_wordCode_c15 (T : LY) (h : Nat) (Q : Int64 → CM → Prop) (k15 : Int64 → Int32 → CM → Prop) (v1 : Int64) (v3 : Int32) (M : CM) : Prop := (tg T h = 8 ∧ (((cI M 71 h) ≤ v3 → Q v1 M) ∧ (¬ (cI M 71 h) ≤ v3 → fc_X7_at T h v3 M (fun (r4 : Int32) (M3 : CM) => fc_X7_isLetter T r4 M3 (fun (r7 : Int32) (M6 : CM) => ((¬ r7 = 0 → fc_X7_withLetter T v1 r4 M6 (fun (r11 : Int64) (M10 : CM) => (∀ x13 : Int32, x13 = v3 + 1 → k15 r11 x13 M10))) ∧ (r7 = 0 → Q 0 M6)))))))
def fc_X7_wordCode_l15 (T : LY) (h : Nat) (Q : Int64 → CM → Prop) : Nat → Int64 → Int32 → CM → Prop := lit (τ := Int64 → Int32 → CM → Prop) (fun _ _ _ => False) (fun k => fc_X7_wordCode_c15 T h Q  k)
def fc_X7_wordCode (T : LY) (h : Nat)  (M : CM) (Q : Int64 → CM → Prop) : Prop := (tg T h = 8 ∧ (((cI M 71 h) ≤ 8 → (∃ nn : Nat, fc_X7_wordCode_l15 T h Q  nn 0 0 M)) ∧ (¬ (cI M 71 h) ≤ 8 → Q 0 M)))
abbrev rmX7_wordCode : Room := { frames := 1, cells := 0, slots := 0, locals := 22 }
set_option maxHeartbeats 4000000 in
set_option maxRecDepth 100000 in
theorem tc_X7_wordCode (l : Launch) (D : va_G) (kA : Nat → ClassId) (nm : Nat → Nat) (na : Nat) (sa sv : Nat → Nat) (sz : Nat) (T : LY) (h : Nat) (M : CM) (Q : Int64 → CM → Prop) (hw : fc_X7_wordCode T h  M Q) : Met l yX7_wordCode wsX7_wordCode rmX7_wordCode (va_Pc [.ref h] (cPc nm na sa sv D kA T M sz)) (va_Ql Q (cB D kA (cF T sz) T) (cF T sz)) 0 0 (cF T sz) := by
  refine Met.ofW (cc := cX7_wordCode) (maxL := 5) (ret := (some .long)) (by decide) rfl ?_
  intro p e s m args below meth c s₁ B hml hv
  obtain ⟨rfl, hsz, hP, hK, hSt⟩ := hv
  have hx := B.exec
  have hb := B.bytes
  have hr := B.returns
  have hts := atoms_spec (ws := wsX7_wordCode) B.pre
  have hown : s.vm.findClass RX7 = some m.cls := findClass_of_methodNamed B.named
  have hlocks : meth.locks = false := B.notSynchronized
  subst hsz
  have hH : cH D kA (cF T s.heap.size) s.heap T M s.heap [] := ⟨hP.self, va_S.rf⟩
  have hA : ∀ q : Nat, s.heap.size ≤ q → cF T s.heap.size q := fun q z => Or.inr z
  generalize cF T s.heap.size = A at hH hA hSt ⊢
  have hl := lv_entry ([.ref h]) (n := 5) (by first | exact Nat.le_of_ble_eq_true rfl | simp [lg_sl, va_rf_cat, cat_ref, cat_int, cat_long, cat_double])
  rw [lg_entry_eq]
  generalize (lg_sl ([.ref h]) ++ List.replicate (5 - (lg_sl ([.ref h])).length) Slot.unset).toArray = ls at hl ⊢
  generalize ([.ref h] : List Value).toArray = args at hts ⊢
  have hl : lv_has ls 5 [(0, .ref h)] := hl
  have hin7 : ∀ w ∈ wsX70, w ∈ wsX7_wordCode := by decide +kernel
  have l15 : ∀ (nn : Nat) (v1 : Int64) (v3 : Int32) (M : CM) (H : Heap) (locs : List Loc) (ls : Array Slot), cH D kA A s.heap T M H locs → lv_has ls 5 [(0, .ref h), (1, .long v1), (3, .int v3)] → fc_X7_wordCode_l15 T h Q  nn v1 v3 M → W p l e (headSpec wsX7_wordCode rmX7_wordCode).room s m args below meth c H locs 0 0 (MQ below (va_Ql Q (cB D kA A T) A) args s 0 0 A) (F0 m 15 ls []) := by
    intro   nn
    induction nn with
    | zero => intro v1 v3 M H locs ls hH hl hw; exact False.elim hw
    | succ nn hk15 =>
      intro v1 v3 M H locs ls hH hl hw
      replace hw : fc_X7_wordCode_c15 T h Q  (fc_X7_wordCode_l15 T h Q  nn) v1 v3 M := hw
      unfold fc_X7_wordCode_c15 at hw
      refine lv_iload_n hx hb dX7_wordCode_15 rfl (lv_at hl 2 rfl) ?_
      refine lv_aload_n hx hb dX7_wordCode_16 rfl (lv_at hl 0 rfl) ?_
      obtain ⟨h1, hw⟩ := hw
      refine cg_71 hx hb hts hin7 hown hK hH h1 (hts (.fieldLink RX7 9 "IdlCaller$Text" "length" "I") (by decide +kernel)) dX7_wordCode_17 ?_
      refine lv_icmp_ge (tgt := 53) hx hb dX7_wordCode_20 (by decide) (fun c2 => ?_) (fun c2 => ?_)
      · replace hw := hw.1 c2
        refine lv_lload_n hx hb dX7_wordCode_53 rfl (lv_at hl 1 rfl) ?_
        exact c_retl hx hb hr hlocks hK hH hw dX7_wordCode_54
      · replace hw := hw.2 c2
        refine lv_aload_n hx hb dX7_wordCode_23 rfl (lv_at hl 0 rfl) ?_
        refine lv_iload_n hx hb dX7_wordCode_24 rfl (lv_at hl 2 rfl) ?_
        refine c_calli (va_runV (As := [.int v3]) (rest := []) ⟨hx, hb, hml, hown, hts⟩ (tc_X7_at l D kA nm na sa sv H.size T h v3 M _ hw) (cwV 1 hts gX7_wordCode_X7_at rfl rfl rfl (by decide +kernel) ⟨(show (0 : Nat) + 1 ≤ 1 from Nat.le_of_ble_eq_true rfl), (show 8 + (2 + 11) + (0 : Nat) ≤ 22 from Nat.le_of_ble_eq_true rfl)⟩) (c_preV hK hH hA hSt (c_recv7 hK hH h1)) rfl rfl hl.1 rfl (lv_room (by first | exact Nat.le_of_ble_eq_true rfl | simp [va_rf_cat, cat_ref, cat_int, cat_long, cat_double, cat_null])) dX7_wordCode_25 ⟨Nat.le_of_ble_eq_true rfl, Nat.le_of_ble_eq_true rfl⟩) hH hA (fun r4 M3 H locs hw hH => ?_)
        refine lv_istore (i := 4) (lv' := [(4, .int r4), (0, .ref h), (1, .long v1), (3, .int v3)]) hx hb dX7_wordCode_28 hl (by decide) rfl (fun ls hl => ?_)
        refine lv_iload hx hb dX7_wordCode_30 (lv_at hl 0 rfl) ?_
        refine c_calli (va_runS (As := [.int r4]) (rest := []) ⟨hx, hb, hml, hown, hts⟩ (tc_X7_isLetter l D kA nm na sa sv H.size T r4 M3 _ hw) (va_cwS 1 hts gX7_wordCode_X7_isLetter rfl rfl rfl (by decide +kernel) ⟨(show (0 : Nat) + 1 ≤ 1 from Nat.le_of_ble_eq_true rfl), (show 8 + (1 + 11) + (0 : Nat) ≤ 22 from Nat.le_of_ble_eq_true rfl)⟩) (c_preS hK hH hA hSt) rfl rfl hl.1 rfl (lv_room (by first | exact Nat.le_of_ble_eq_true rfl | simp [va_rf_cat, cat_ref, cat_int, cat_long, cat_double, cat_null])) dX7_wordCode_32 ⟨Nat.le_of_ble_eq_true rfl, Nat.le_of_ble_eq_true rfl⟩) hH hA (fun r7 M6 H locs hw hH => ?_)
        refine lv_if_ne (tgt := 40) hx hb dX7_wordCode_35 (by decide) (fun c9 => ?_) (fun c9 => ?_)
        · replace hw := hw.1 c9
          refine lv_lload_n hx hb dX7_wordCode_40 rfl (lv_at hl 2 rfl) ?_
          refine lv_iload hx hb dX7_wordCode_41 (lv_at hl 0 rfl) ?_
          refine c_calll (va_runS (As := [.long v1, .int r4]) (rest := []) ⟨hx, hb, hml, hown, hts⟩ (tc_X7_withLetter l D kA nm na sa sv H.size T v1 r4 M6 _ hw) (va_cwS 2 hts gX7_wordCode_X7_withLetter rfl rfl rfl (by decide +kernel) ⟨(show (0 : Nat) + 1 ≤ 1 from Nat.le_of_ble_eq_true rfl), (show 8 + (3 + 11) + (0 : Nat) ≤ 22 from Nat.le_of_ble_eq_true rfl)⟩) (c_preS hK hH hA hSt) rfl rfl hl.1 rfl (lv_room (by first | exact Nat.le_of_ble_eq_true rfl | simp [va_rf_cat, cat_ref, cat_int, cat_long, cat_double, cat_null])) dX7_wordCode_43 ⟨Nat.le_of_ble_eq_true rfl, Nat.le_of_ble_eq_true rfl⟩) hH hA (fun r11 M10 H locs hw hH => ?_)
          refine lv_lstore_n (i := 1) (lv' := [(1, .long r11), (4, .int r4), (0, .ref h), (3, .int v3)]) hx hb dX7_wordCode_46 rfl hl (by decide) rfl (fun ls hl => ?_)
          obtain ⟨x13, ex13⟩ : ∃ y : Int32, y = v3 + 1 := ⟨_, rfl⟩
          replace hw := hw x13 ex13
          refine lv_iinc (v := x13) (lv' := [(3, .int x13), (1, .long r11), (4, .int r4), (0, .ref h)]) hx hb dX7_wordCode_47 hl (k := 3) rfl (by rw [ex13]; rfl) (by decide) rfl (fun ls hl => ?_)
          refine lv_goto (tgt := 15) hx hb dX7_wordCode_50 (by decide) ?_
          exact hk15 r11 x13 M10 H locs ls hH (lv_sub hl [3, 1, 0] rfl) hw
        · replace hw := hw.2 c9
          refine lv_lconst (v := 0) hx hb dX7_wordCode_38 (by decide) ?_
          exact c_retl hx hb hr hlocks hK hH hw dX7_wordCode_39
  clear hP
  unfold fc_X7_wordCode at hw
  have hst : ∀ (M : CM) (H : Heap) (locs : List Loc) (ls : Array Slot), cH D kA A s.heap T M H locs → lv_has ls 5 [(0, .ref h)] → (tg T h = 8 ∧ (((cI M 71 h) ≤ 8 → (∃ nn : Nat, fc_X7_wordCode_l15 T h Q  nn 0 0 M)) ∧ (¬ (cI M 71 h) ≤ 8 → Q 0 M))) → W p l e (headSpec wsX7_wordCode rmX7_wordCode).room s m args below meth c H locs 0 0 (MQ below (va_Ql Q (cB D kA A T) A) args s 0 0 A) (F0 m 0 ls []) := by
    intro M H locs ls hH hl hw
    refine lv_aload_n hx hb dX7_wordCode_0 rfl (lv_at hl 0 rfl) ?_
    obtain ⟨h14, hw⟩ := hw
    refine cg_71 hx hb hts hin7 hown hK hH h14 (hts (.fieldLink RX7 9 "IdlCaller$Text" "length" "I") (by decide +kernel)) dX7_wordCode_1 ?_
    refine lv_bipush (v := 8) hx hb dX7_wordCode_4 (by decide) ?_
    refine lv_icmp_le (tgt := 11) hx hb dX7_wordCode_6 (by decide) (fun c15 => ?_) (fun c15 => ?_)
    · replace hw := hw.1 c15
      refine lv_lconst (v := 0) hx hb dX7_wordCode_11 (by decide) ?_
      refine lv_lstore_n (i := 1) (lv' := [(1, .long 0), (0, .ref h)]) hx hb dX7_wordCode_12 rfl hl (by decide) rfl (fun ls hl => ?_)
      refine lv_iconst (v := 0) hx hb dX7_wordCode_13 (by decide) ?_
      refine lv_istore_n (i := 3) (lv' := [(3, .int 0), (1, .long 0), (0, .ref h)]) hx hb dX7_wordCode_14 rfl hl (by decide) rfl (fun ls hl => ?_)
      obtain ⟨nn, hw⟩ := hw
      exact l15   nn 0 0 M H locs ls hH (lv_sub hl [2, 1, 0] rfl) hw
    · replace hw := hw.2 c15
      refine lv_lconst (v := 0) hx hb dX7_wordCode_9 (by decide) ?_
      exact c_retl hx hb hr hlocks hK hH hw dX7_wordCode_10
  exact hst M s.heap [] ls hH hl hw
def fc_X7_codeOf_c4 (T : LY) (Q : Int64 → CM → Prop) (k4 : Nat → Int64 → Int32 → CM → Prop) (v0 : Nat) (v1 : Int64) (v3 : Int32) (M : CM) : Prop := (v0 < 16 ∧ fc_J0_length_8abf5 T v0 M (fun (r3 : Int32) (M2 : CM) => ((r3 ≤ v3 → Q v1 M2) ∧ (¬ r3 ≤ v3 → fc_J0_charAt_5068e T v0 v3 M2 (fun (r7 : Int32) (M6 : CM) => fc_X7_withLetter T v1 r7 M6 (fun (r10 : Int64) (M9 : CM) => (∀ x12 : Int32, x12 = v3 + 1 → k4 v0 r10 x12 M9)))))))
def fc_X7_codeOf_l4 (T : LY) (Q : Int64 → CM → Prop) : Nat → Nat → Int64 → Int32 → CM → Prop := lit (τ := Nat → Int64 → Int32 → CM → Prop) (fun _ _ _ _ => False) (fun k => fc_X7_codeOf_c4 T Q  k)
def fc_X7_codeOf (T : LY)  (a1 : Nat) (M : CM) (Q : Int64 → CM → Prop) : Prop := (∃ nn : Nat, fc_X7_codeOf_l4 T Q  nn a1 0 0 M)
abbrev rmX7_codeOf : Room := { frames := 4, cells := 0, slots := 0, locals := 85 }
set_option maxHeartbeats 4000000 in
set_option maxRecDepth 100000 in
theorem tc_X7_codeOf (l : Launch) (D : va_G) (kA : Nat → ClassId) (nm : Nat → Nat) (na : Nat) (sa sv : Nat → Nat) (sz : Nat) (T : LY) (a1 : Nat) (M : CM) (Q : Int64 → CM → Prop) (hw : fc_X7_codeOf T a1 M Q) : Met l yX7_codeOf wsX7_codeOf rmX7_codeOf (va_Pc [.ref (sa a1)] (cPc nm na sa sv D kA T M sz)) (va_Ql Q (cB D kA (cF T sz) T) (cF T sz)) 0 0 (cF T sz) := by
  refine Met.ofW (cc := cX7_codeOf) (maxL := 4) (ret := (some .long)) (by decide) rfl ?_
  intro p e s m args below meth c s₁ B hml hv
  obtain ⟨rfl, hsz, hP, hK, hSt⟩ := hv
  have hx := B.exec
  have hb := B.bytes
  have hr := B.returns
  have hts := atoms_spec (ws := wsX7_codeOf) B.pre
  have hown : s.vm.findClass RX7 = some m.cls := findClass_of_methodNamed B.named
  have hlocks : meth.locks = false := B.notSynchronized
  subst hsz
  have hH : cH D kA (cF T s.heap.size) s.heap T M s.heap [] := ⟨hP.self, va_S.rf⟩
  have hA : ∀ q : Nat, s.heap.size ≤ q → cF T s.heap.size q := fun q z => Or.inr z
  generalize cF T s.heap.size = A at hH hA hSt ⊢
  have hl := lv_entry ([.ref (sa a1)]) (n := 4) (by first | exact Nat.le_of_ble_eq_true rfl | simp [lg_sl, va_rf_cat, cat_ref, cat_int, cat_long, cat_double])
  rw [lg_entry_eq]
  generalize (lg_sl ([.ref (sa a1)]) ++ List.replicate (4 - (lg_sl ([.ref (sa a1)])).length) Slot.unset).toArray = ls at hl ⊢
  generalize ([.ref (sa a1)] : List Value).toArray = args at hts ⊢
  have hl : lv_has ls 4 [(0, .ref (sa a1))] := hl
  have l4 : ∀ (nn : Nat) (v0 : Nat) (v1 : Int64) (v3 : Int32) (M : CM) (H : Heap) (locs : List Loc) (ls : Array Slot), cH D kA A s.heap T M H locs → lv_has ls 4 [(0, .ref (sa v0)), (1, .long v1), (3, .int v3)] → fc_X7_codeOf_l4 T Q  nn v0 v1 v3 M → W p l e (headSpec wsX7_codeOf rmX7_codeOf).room s m args below meth c H locs 0 0 (MQ below (va_Ql Q (cB D kA A T) A) args s 0 0 A) (F0 m 4 ls []) := by
    intro   nn
    induction nn with
    | zero => intro v0 v1 v3 M H locs ls hH hl hw; exact False.elim hw
    | succ nn hk4 =>
      intro v0 v1 v3 M H locs ls hH hl hw
      replace hw : fc_X7_codeOf_c4 T Q  (fc_X7_codeOf_l4 T Q  nn) v0 v1 v3 M := hw
      unfold fc_X7_codeOf_c4 at hw
      refine lv_iload_n hx hb dX7_codeOf_4 rfl (lv_at hl 2 rfl) ?_
      refine lv_aload_n hx hb dX7_codeOf_5 rfl (lv_at hl 0 rfl) ?_
      obtain ⟨h1, hw⟩ := hw
      refine c_calli (va_runV (As := []) (rest := [.int v3]) ⟨hx, hb, hml, hown, hts⟩ (tc_J0_length_8abf5 l D kA nm na sa sv H.size T v0 M _ hw) (cwV 0 hts gX7_codeOf_J0_length_8abf5 rfl rfl rfl (by decide +kernel) ⟨(show (1 : Nat) + 1 ≤ 4 from Nat.le_of_ble_eq_true rfl), (show 8 + (1 + 11) + (20 : Nat) ≤ 85 from Nat.le_of_ble_eq_true rfl)⟩) (c_preV hK hH hA hSt (c_recvS hSt hH h1)) rfl rfl hl.1 rfl (lv_room (by first | exact Nat.le_of_ble_eq_true rfl | simp [va_rf_cat, cat_ref, cat_int, cat_long, cat_double, cat_null])) dX7_codeOf_6 ⟨Nat.le_of_ble_eq_true rfl, Nat.le_of_ble_eq_true rfl⟩) hH hA (fun r3 M2 H locs hw hH => ?_)
      refine lv_icmp_ge (tgt := 28) hx hb dX7_codeOf_9 (by decide) (fun c5 => ?_) (fun c5 => ?_)
      · replace hw := hw.1 c5
        refine lv_lload_n hx hb dX7_codeOf_28 rfl (lv_at hl 1 rfl) ?_
        exact c_retl hx hb hr hlocks hK hH hw dX7_codeOf_29
      · replace hw := hw.2 c5
        refine lv_lload_n hx hb dX7_codeOf_12 rfl (lv_at hl 1 rfl) ?_
        refine lv_aload_n hx hb dX7_codeOf_13 rfl (lv_at hl 0 rfl) ?_
        refine lv_iload_n hx hb dX7_codeOf_14 rfl (lv_at hl 2 rfl) ?_
        refine c_calli (va_runV (As := [.int v3]) (rest := [.long v1]) ⟨hx, hb, hml, hown, hts⟩ (tc_J0_charAt_5068e l D kA nm na sa sv H.size T v0 v3 M2 _ hw) (cwV 1 hts gX7_codeOf_J0_charAt_5068e rfl rfl rfl (by decide +kernel) ⟨(show (3 : Nat) + 1 ≤ 4 from Nat.le_of_ble_eq_true rfl), (show 8 + (2 + 11) + (64 : Nat) ≤ 85 from Nat.le_of_ble_eq_true rfl)⟩) (c_preV hK hH hA hSt (c_recvS hSt hH h1)) rfl rfl hl.1 rfl (lv_room (by first | exact Nat.le_of_ble_eq_true rfl | simp [va_rf_cat, cat_ref, cat_int, cat_long, cat_double, cat_null])) dX7_codeOf_15 ⟨Nat.le_of_ble_eq_true rfl, Nat.le_of_ble_eq_true rfl⟩) hH hA (fun r7 M6 H locs hw hH => ?_)
        refine c_calll (va_runS (As := [.long v1, .int r7]) (rest := []) ⟨hx, hb, hml, hown, hts⟩ (tc_X7_withLetter l D kA nm na sa sv H.size T v1 r7 M6 _ hw) (va_cwS 2 hts gX7_codeOf_X7_withLetter rfl rfl rfl (by decide +kernel) ⟨(show (0 : Nat) + 1 ≤ 4 from Nat.le_of_ble_eq_true rfl), (show 8 + (3 + 11) + (0 : Nat) ≤ 85 from Nat.le_of_ble_eq_true rfl)⟩) (c_preS hK hH hA hSt) rfl rfl hl.1 rfl (lv_room (by first | exact Nat.le_of_ble_eq_true rfl | simp [va_rf_cat, cat_ref, cat_int, cat_long, cat_double, cat_null])) dX7_codeOf_18 ⟨Nat.le_of_ble_eq_true rfl, Nat.le_of_ble_eq_true rfl⟩) hH hA (fun r10 M9 H locs hw hH => ?_)
        refine lv_lstore_n (i := 1) (lv' := [(1, .long r10), (0, .ref (sa v0)), (3, .int v3)]) hx hb dX7_codeOf_21 rfl hl (by decide) rfl (fun ls hl => ?_)
        obtain ⟨x12, ex12⟩ : ∃ y : Int32, y = v3 + 1 := ⟨_, rfl⟩
        replace hw := hw x12 ex12
        refine lv_iinc (v := x12) (lv' := [(3, .int x12), (1, .long r10), (0, .ref (sa v0))]) hx hb dX7_codeOf_22 hl (k := 2) rfl (by rw [ex12]; rfl) (by decide) rfl (fun ls hl => ?_)
        refine lv_goto (tgt := 4) hx hb dX7_codeOf_25 (by decide) ?_
        exact hk4 v0 r10 x12 M9 H locs ls hH (lv_sub hl [2, 1, 0] rfl) hw
  clear hP
  unfold fc_X7_codeOf at hw
  have hst : ∀ (M : CM) (H : Heap) (locs : List Loc) (ls : Array Slot), cH D kA A s.heap T M H locs → lv_has ls 4 [(0, .ref (sa a1))] → (∃ nn : Nat, fc_X7_codeOf_l4 T Q  nn a1 0 0 M) → W p l e (headSpec wsX7_codeOf rmX7_codeOf).room s m args below meth c H locs 0 0 (MQ below (va_Ql Q (cB D kA A T) A) args s 0 0 A) (F0 m 0 ls []) := by
    intro M H locs ls hH hl hw
    refine lv_lconst (v := 0) hx hb dX7_codeOf_0 (by decide) ?_
    refine lv_lstore_n (i := 1) (lv' := [(1, .long 0), (0, .ref (sa a1))]) hx hb dX7_codeOf_1 rfl hl (by decide) rfl (fun ls hl => ?_)
    refine lv_iconst (v := 0) hx hb dX7_codeOf_2 (by decide) ?_
    refine lv_istore_n (i := 3) (lv' := [(3, .int 0), (1, .long 0), (0, .ref (sa a1))]) hx hb dX7_codeOf_3 rfl hl (by decide) rfl (fun ls hl => ?_)
    obtain ⟨nn, hw⟩ := hw
    exact l4   nn a1 0 0 M H locs ls hH (lv_sub hl [2, 1, 0] rfl) hw
  exact hst M s.heap [] ls hH hl hw
def fc_X8_init (mc ms : Nat) (h : Nat)  (a1 : Int32) (a2 : Option Nat) (T : LY) (M : CM) (Q : LY → CM → Prop) : Prop := (tg T h = 9 ∧ (∀ M2 : CM, M2 = sI M 80 h 7 → (∀ M3 : CM, M3 = sJ M2 81 h 0 → (∀ M4 : CM, M4 = sD M3 82 h FP.dconst0 → (nZ (0 : Int32) ∧ (∀ M6 : CM, M6 = sI M4 83 h 0 → (∀ M7 : CM, M7 = sI M6 85 h 0 → (0 + 1 ≤ mc ∧ (0 + 2 ≤ ms ∧ (∀ (q8 : Nat) (T9 : LY) (M10 : CM), tg T q8 = 0 → T9 = mkT T 8 0 q8 → M10 = mkM M7 q8 → (tg T9 q8 = 8 ∧ (∃ cc17 nn18 : Nat, (0 + 1) + cc17 ≤ mc ∧ (0 + 2) + nn18 ≤ ms ∧ fc_X7_init cc17 nn18 q8 a1 T9 M10 (fun (T16 : LY) (M14 : CM) => (tg T16 h = 9 ∧ (∀ M20 : CM, M20 = sR M14 84 h (some q8) → (∀ M21 : CM, M21 = sR M20 86 h a2 → ((0 + 1) + cc17 ≤ mc ∧ (0 + 2) + nn18 ≤ ms ∧ Q T16 M21)))))))))))))))))
abbrev rmX8_init (mc ms : Nat) : Room := { frames := 2, cells := mc, slots := ms, locals := 35 }
set_option maxHeartbeats 4000000 in
set_option maxRecDepth 100000 in
theorem tc_X8_init (l : Launch) (D : va_G) (kA : Nat → ClassId) (nm : Nat → Nat) (na : Nat) (sa sv : Nat → Nat) (sz : Nat) (mc ms : Nat) (h : Nat) (a1 : Int32) (a2 : Option Nat) (T : LY) (M : CM) (Q : LY → CM → Prop) (hw : fc_X8_init mc ms h a1 a2 T M Q) : Met l yX8_init wsX8_init (rmX8_init mc ms) (va_Pc [.ref h, .int a1, va_rf a2] (cPc nm na sa sv D kA T M sz)) (va_Qv (fun (u : LY × CM) => Q u.1 u.2) (cBT D kA (cF T sz)) (cF T sz)) mc ms (cF T sz) := by
  refine Met.ofW (cc := cX8_init) (maxL := 3) (ret := none) (by decide) rfl ?_
  intro p e s m args below meth c s₁ B hml hv
  obtain ⟨rfl, hsz, hP, hK, hSt⟩ := hv
  have hx := B.exec
  have hb := B.bytes
  have hr := B.returns
  have hts := atoms_spec (ws := wsX8_init) B.pre
  have hown : s.vm.findClass RX8 = some m.cls := findClass_of_methodNamed B.named
  have hlocks : meth.locks = false := B.notSynchronized
  have hini : meth.name = "<init>" := (name_of_methodNamed B.named B.method).1
  subst hsz
  have hH : cH D kA (cF T s.heap.size) s.heap T M s.heap [] := ⟨hP.self, va_S.rf⟩
  have hA : ∀ q : Nat, s.heap.size ≤ q → cF T s.heap.size q := fun q z => Or.inr z
  generalize cF T s.heap.size = A at hH hA hSt ⊢
  have hl := lv_entry ([.ref h, .int a1, va_rf a2]) (n := 3) (by first | exact Nat.le_of_ble_eq_true rfl | simp [lg_sl, va_rf_cat, cat_ref, cat_int, cat_long, cat_double])
  rw [lg_entry_eq]
  generalize (lg_sl ([.ref h, .int a1, va_rf a2]) ++ List.replicate (3 - (lg_sl ([.ref h, .int a1, va_rf a2])).length) Slot.unset).toArray = ls at hl ⊢
  generalize ([.ref h, .int a1, va_rf a2] : List Value).toArray = args at hts ⊢
  have hl : lv_has ls 3 [(0, .ref h), (1, .int a1), (2, va_rf a2)] := by simpa [lv_args, va_rf_cat, cat_ref, cat_int, cat_long, cat_double] using hl
  have hin7 : ∀ w ∈ wsX70, w ∈ wsX8_init := by decide +kernel
  have hin8 : ∀ w ∈ wsX80, w ∈ wsX8_init := by decide +kernel
  clear hP
  unfold fc_X8_init at hw
  have hst : ∀ (T : LY) (M : CM) (H : Heap) (locs : List Loc) (ls : Array Slot), cH D kA A s.heap T M H locs → lv_has ls 3 [(0, .ref h), (1, .int a1), (2, va_rf a2)] → (tg T h = 9 ∧ (∀ M2 : CM, M2 = sI M 80 h 7 → (∀ M3 : CM, M3 = sJ M2 81 h 0 → (∀ M4 : CM, M4 = sD M3 82 h FP.dconst0 → (nZ (0 : Int32) ∧ (∀ M6 : CM, M6 = sI M4 83 h 0 → (∀ M7 : CM, M7 = sI M6 85 h 0 → (0 + 1 ≤ mc ∧ (0 + 2 ≤ ms ∧ (∀ (q8 : Nat) (T9 : LY) (M10 : CM), tg T q8 = 0 → T9 = mkT T 8 0 q8 → M10 = mkM M7 q8 → (tg T9 q8 = 8 ∧ (∃ cc17 nn18 : Nat, (0 + 1) + cc17 ≤ mc ∧ (0 + 2) + nn18 ≤ ms ∧ fc_X7_init cc17 nn18 q8 a1 T9 M10 (fun (T16 : LY) (M14 : CM) => (tg T16 h = 9 ∧ (∀ M20 : CM, M20 = sR M14 84 h (some q8) → (∀ M21 : CM, M21 = sR M20 86 h a2 → ((0 + 1) + cc17 ≤ mc ∧ (0 + 2) + nn18 ≤ ms ∧ Q T16 M21))))))))))))))))) → W p l e (headSpec wsX8_init (rmX8_init mc ms)).room s m args below meth c H locs 0 0 (MQ below (va_Qv (fun (u : LY × CM) => Q u.1 u.2) (cBT D kA A) A) args s mc ms A) (F0 m 0 ls []) := by
    intro T M H locs ls hH hl hw
    refine lv_aload_n hx hb dX8_init_0 rfl (lv_at hl 0 rfl) ?_
    refine W.objInit hx hb hown (hts (.methodLink RX8 3 objectInit) (by decide +kernel)) (hts (.instanceMethod objectInit) (by decide +kernel)) (hts (.code objectInit ⟨#[0xb1]⟩ 1 none) (by decide +kernel)) rfl (by rw [hml]; exact hl.1) rfl dX8_init_1 ((show _ ≤ (2 : Nat) from by first | exact Nat.le_of_ble_eq_true rfl | simp [va_rf_cat, cat_ref, cat_int, cat_long, cat_double, cat_null])) ((show _ ≤ (35 : Nat) from by first | exact Nat.le_of_ble_eq_true rfl | simp [va_rf_cat, cat_ref, cat_int, cat_long, cat_double, cat_null])) ?_
    refine W.eq (g2 := F0 m 4 ls []) rfl ?_
    refine lv_aload_n hx hb dX8_init_4 rfl (lv_at hl 0 rfl) ?_
    refine lv_bipush (v := 7) hx hb dX8_init_5 (by decide) ?_
    obtain ⟨h1, hw⟩ := hw
    refine cp_80 (x := 7) hx hb hts hin8 hown hK hH h1 (hts (.fieldLink RX8 9 "IdlCaller$Thing" "kind" "I") (by decide +kernel)) dX8_init_7 (fun M2 H locs eM2 hH => ?_)
    replace hw := hw M2 eM2
    refine lv_aload_n hx hb dX8_init_10 rfl (lv_at hl 0 rfl) ?_
    refine lv_lconst (v := 0) hx hb dX8_init_11 (by decide) ?_
    refine cp_81 (x := 0) hx hb hts hin8 hown hK hH h1 (hts (.fieldLink RX8 15 "IdlCaller$Thing" "whole" "J") (by decide +kernel)) dX8_init_12 (fun M3 H locs eM3 hH => ?_)
    replace hw := hw M3 eM3
    refine lv_aload_n hx hb dX8_init_15 rfl (lv_at hl 0 rfl) ?_
    refine lv_dconst0 hx hb dX8_init_16 ?_
    refine cp_82 (x := FP.dconst0) hx hb hts hin8 hown hK hH h1 (hts (.fieldLink RX8 19 "IdlCaller$Thing" "real" "D") (by decide +kernel)) dX8_init_17 (fun M4 H locs eM4 hH => ?_)
    replace hw := hw M4 eM4
    refine lv_aload_n hx hb dX8_init_20 rfl (lv_at hl 0 rfl) ?_
    refine lv_iconst (v := 0) hx hb dX8_init_21 (by decide) ?_
    obtain ⟨h5, hw⟩ := hw
    refine cp_83 (x := 0) hx hb hts hin8 hown hK hH h1 (hts (.fieldLink RX8 23 "IdlCaller$Thing" "hasNumber" "Z") (by decide +kernel)) h5 dX8_init_22 (fun M6 H locs eM6 hH => ?_)
    replace hw := hw M6 eM6
    refine lv_aload_n hx hb dX8_init_25 rfl (lv_at hl 0 rfl) ?_
    refine lv_iconst (v := 0) hx hb dX8_init_26 (by decide) ?_
    refine cp_85 (x := 0) hx hb hts hin8 hown hK hH h1 (hts (.fieldLink RX8 27 "IdlCaller$Thing" "size" "I") (by decide +kernel)) dX8_init_27 (fun M7 H locs eM7 hH => ?_)
    replace hw := hw M7 eM7
    refine lv_aload_n hx hb dX8_init_30 rfl (lv_at hl 0 rfl) ?_
    obtain ⟨h11, hw⟩ := hw
    obtain ⟨h12, hw⟩ := hw
    refine cnew_7 hx hb hts hin7 hown (hts (.classLink RX8 30 RX7) (by decide +kernel)) (hts (.instantiable RX7 2) (by decide +kernel)) (hts (.initialized RX7) (by decide +kernel)) hK hH hA h11 h12 dX8_init_31 (fun q8 H zq8 hH => ?_)
    obtain ⟨T9, eT9⟩ : ∃ z, z = mkT T 8 0 q8 := ⟨_, rfl⟩
    obtain ⟨M10, eM10⟩ : ∃ z, z = mkM M7 q8 := ⟨_, rfl⟩
    replace hw := hw q8 T9 M10 zq8 eT9 eM10
    rw [← eT9, ← eM10] at hH
    refine lv_dup hx hb dX8_init_34 rfl ?_
    refine lv_iload_n hx hb dX8_init_35 rfl (lv_at hl 1 rfl) ?_
    obtain ⟨h13, hw⟩ := hw
    obtain ⟨cc17, nn18, hcc17, hnn18, hw⟩ := hw
    refine c_callTv (va_runI (As := [.int a1]) (rest := [.ref q8, .ref h]) ⟨hx, hb, hml, hown, hts⟩ (tc_X7_init l D kA nm na sa sv H.size cc17 nn18 q8 a1 T9 M10 _ hw) (cwI 1 hts gX8_init_X7_init rfl rfl rfl (hts (.initialized RX7) (by decide +kernel)) (hts (.methodLink RX8 32 yX7_init) (by decide +kernel)) (hts (.instanceMethod yX7_init) (by decide +kernel)) rfl (by decide +kernel) ⟨(show (1 : Nat) + 1 ≤ 2 from Nat.le_of_ble_eq_true rfl), (show 8 + (2 + 11) + (14 : Nat) ≤ 35 from Nat.le_of_ble_eq_true rfl)⟩) (c_preS hK hH hA hSt) rfl rfl hl.1 rfl (lv_room (by first | exact Nat.le_of_ble_eq_true rfl | simp [va_rf_cat, cat_ref, cat_int, cat_long, cat_double, cat_null])) dX8_init_36 ⟨hcc17, hnn18⟩) hH hA (fun T16 M14 H locs hw hH => ?_)
    obtain ⟨h19, hw⟩ := hw
    refine cp_84 (x := (some q8)) hx hb hts hin8 hown hK hH h19 rfl hini (hts (.fieldLink RX8 35 "IdlCaller$Thing" "text" "LIdlCaller$Text;") (by decide +kernel)) dX8_init_39 (fun M20 H locs eM20 hH => ?_)
    replace hw := hw M20 eM20
    refine lv_aload_n hx hb dX8_init_42 rfl (lv_at hl 0 rfl) ?_
    refine s_aload_n hx hb dX8_init_43 rfl (lv_at hl 2 rfl) ?_
    refine cp_86 (x := a2) hx hb hts hin8 hown hK hH h19 rfl hini (hts (.fieldLink RX8 39 "IdlCaller$Thing" "items" "[LIdlCaller$Thing;") (by decide +kernel)) dX8_init_44 (fun M21 H locs eM21 hH => ?_)
    replace hw := hw M21 eM21
    exact c_retTv hw.1 hw.2.1 hx hb hr hlocks hK hH hw.2.2 dX8_init_47
  exact hst T M s.heap [] ls hH hl hw
def fc_X8_become (T : LY) (h : Nat)  (a1 : Int32) (M : CM) (Q : CM → Prop) : Prop := (tg T h = 9 ∧ (∀ M2 : CM, M2 = sI M 80 h a1 → (∀ M3 : CM, M3 = sJ M2 81 h 0 → (∀ M4 : CM, M4 = sD M3 82 h FP.dconst0 → (nZ (0 : Int32) ∧ (∀ M6 : CM, M6 = sI M4 83 h 0 → (∀ M7 : CM, M7 = sI M6 85 h 0 → (∃ p8 : Nat, cR M7 84 h = some p8 ∧ (tg T p8 = 8 ∧ (∀ M10 : CM, M10 = sI M7 71 p8 0 → Q M10))))))))))
abbrev rmX8_become : Room := { frames := 0, cells := 0, slots := 0, locals := 0 }
set_option maxHeartbeats 4000000 in
set_option maxRecDepth 100000 in
theorem tc_X8_become (l : Launch) (D : va_G) (kA : Nat → ClassId) (nm : Nat → Nat) (na : Nat) (sa sv : Nat → Nat) (sz : Nat) (T : LY) (h : Nat) (a1 : Int32) (M : CM) (Q : CM → Prop) (hw : fc_X8_become T h a1 M Q) : Met l yX8_become wsX8_become rmX8_become (va_Pc [.ref h, .int a1] (cPc nm na sa sv D kA T M sz)) (va_Qv Q (cB D kA (cF T sz) T) (cF T sz)) 0 0 (cF T sz) := by
  refine Met.ofW (cc := cX8_become) (maxL := 2) (ret := none) (by decide) rfl ?_
  intro p e s m args below meth c s₁ B hml hv
  obtain ⟨rfl, hsz, hP, hK, hSt⟩ := hv
  have hx := B.exec
  have hb := B.bytes
  have hr := B.returns
  have hts := atoms_spec (ws := wsX8_become) B.pre
  have hown : s.vm.findClass RX8 = some m.cls := findClass_of_methodNamed B.named
  have hlocks : meth.locks = false := B.notSynchronized
  subst hsz
  have hH : cH D kA (cF T s.heap.size) s.heap T M s.heap [] := ⟨hP.self, va_S.rf⟩
  have hA : ∀ q : Nat, s.heap.size ≤ q → cF T s.heap.size q := fun q z => Or.inr z
  generalize cF T s.heap.size = A at hH hA hSt ⊢
  have hl := lv_entry ([.ref h, .int a1]) (n := 2) (by first | exact Nat.le_of_ble_eq_true rfl | simp [lg_sl, va_rf_cat, cat_ref, cat_int, cat_long, cat_double])
  rw [lg_entry_eq]
  generalize (lg_sl ([.ref h, .int a1]) ++ List.replicate (2 - (lg_sl ([.ref h, .int a1])).length) Slot.unset).toArray = ls at hl ⊢
  generalize ([.ref h, .int a1] : List Value).toArray = args at hts ⊢
  have hl : lv_has ls 2 [(0, .ref h), (1, .int a1)] := hl
  have hin7 : ∀ w ∈ wsX70, w ∈ wsX8_become := by decide +kernel
  have hin8 : ∀ w ∈ wsX80, w ∈ wsX8_become := by decide +kernel
  clear hP
  unfold fc_X8_become at hw
  have hst : ∀ (M : CM) (H : Heap) (locs : List Loc) (ls : Array Slot), cH D kA A s.heap T M H locs → lv_has ls 2 [(0, .ref h), (1, .int a1)] → (tg T h = 9 ∧ (∀ M2 : CM, M2 = sI M 80 h a1 → (∀ M3 : CM, M3 = sJ M2 81 h 0 → (∀ M4 : CM, M4 = sD M3 82 h FP.dconst0 → (nZ (0 : Int32) ∧ (∀ M6 : CM, M6 = sI M4 83 h 0 → (∀ M7 : CM, M7 = sI M6 85 h 0 → (∃ p8 : Nat, cR M7 84 h = some p8 ∧ (tg T p8 = 8 ∧ (∀ M10 : CM, M10 = sI M7 71 p8 0 → Q M10)))))))))) → W p l e (headSpec wsX8_become rmX8_become).room s m args below meth c H locs 0 0 (MQ below (va_Qv Q (cB D kA A T) A) args s 0 0 A) (F0 m 0 ls []) := by
    intro M H locs ls hH hl hw
    refine lv_aload_n hx hb dX8_become_0 rfl (lv_at hl 0 rfl) ?_
    refine lv_iload_n hx hb dX8_become_1 rfl (lv_at hl 1 rfl) ?_
    obtain ⟨h1, hw⟩ := hw
    refine cp_80 (x := a1) hx hb hts hin8 hown hK hH h1 (hts (.fieldLink RX8 9 "IdlCaller$Thing" "kind" "I") (by decide +kernel)) dX8_become_2 (fun M2 H locs eM2 hH => ?_)
    replace hw := hw M2 eM2
    refine lv_aload_n hx hb dX8_become_5 rfl (lv_at hl 0 rfl) ?_
    refine lv_lconst (v := 0) hx hb dX8_become_6 (by decide) ?_
    refine cp_81 (x := 0) hx hb hts hin8 hown hK hH h1 (hts (.fieldLink RX8 15 "IdlCaller$Thing" "whole" "J") (by decide +kernel)) dX8_become_7 (fun M3 H locs eM3 hH => ?_)
    replace hw := hw M3 eM3
    refine lv_aload_n hx hb dX8_become_10 rfl (lv_at hl 0 rfl) ?_
    refine lv_dconst0 hx hb dX8_become_11 ?_
    refine cp_82 (x := FP.dconst0) hx hb hts hin8 hown hK hH h1 (hts (.fieldLink RX8 19 "IdlCaller$Thing" "real" "D") (by decide +kernel)) dX8_become_12 (fun M4 H locs eM4 hH => ?_)
    replace hw := hw M4 eM4
    refine lv_aload_n hx hb dX8_become_15 rfl (lv_at hl 0 rfl) ?_
    refine lv_iconst (v := 0) hx hb dX8_become_16 (by decide) ?_
    obtain ⟨h5, hw⟩ := hw
    refine cp_83 (x := 0) hx hb hts hin8 hown hK hH h1 (hts (.fieldLink RX8 23 "IdlCaller$Thing" "hasNumber" "Z") (by decide +kernel)) h5 dX8_become_17 (fun M6 H locs eM6 hH => ?_)
    replace hw := hw M6 eM6
    refine lv_aload_n hx hb dX8_become_20 rfl (lv_at hl 0 rfl) ?_
    refine lv_iconst (v := 0) hx hb dX8_become_21 (by decide) ?_
    refine cp_85 (x := 0) hx hb hts hin8 hown hK hH h1 (hts (.fieldLink RX8 27 "IdlCaller$Thing" "size" "I") (by decide +kernel)) dX8_become_22 (fun M7 H locs eM7 hH => ?_)
    replace hw := hw M7 eM7
    refine lv_aload_n hx hb dX8_become_25 rfl (lv_at hl 0 rfl) ?_
    refine cg_84 hx hb hts hin8 hown hK hH h1 (hts (.fieldLink RX8 35 "IdlCaller$Thing" "text" "LIdlCaller$Text;") (by decide +kernel)) dX8_become_26 ?_
    refine lv_iconst (v := 0) hx hb dX8_become_29 (by decide) ?_
    obtain ⟨p8, ep8, hw⟩ := hw
    refine W.st (st' := [.int 0, .ref p8]) (by rw [ep8]; rfl) ?_
    obtain ⟨h9, hw⟩ := hw
    refine cp_71 (x := 0) hx hb hts hin7 hown hK hH h9 (hts (.fieldLink RX8 68 "IdlCaller$Text" "length" "I") (by decide +kernel)) dX8_become_30 (fun M10 H locs eM10 hH => ?_)
    replace hw := hw M10 eM10
    exact c_retv hx hb hr hlocks hK hH hw dX8_become_33
  exact hst M s.heap [] ls hH hl hw
def fc_X8_becomeNamed (T : LY) (h : Nat)  (a1 : Int32) (a2 : Nat) (M : CM) (Q : CM → Prop) : Prop := (tg T h = 9 ∧ fc_X8_become T h a1 M (fun (M2 : CM) => (∃ p5 : Nat, cR M2 84 h = some p5 ∧ (tg T p5 = 8 ∧ fc_X7_appendLetters T p5 a2 M2 (fun (M7 : CM) => Q M7)))))
abbrev rmX8_becomeNamed : Room := { frames := 5, cells := 0, slots := 0, locals := 107 }
set_option maxHeartbeats 4000000 in
set_option maxRecDepth 100000 in
theorem tc_X8_becomeNamed (l : Launch) (D : va_G) (kA : Nat → ClassId) (nm : Nat → Nat) (na : Nat) (sa sv : Nat → Nat) (sz : Nat) (T : LY) (h : Nat) (a1 : Int32) (a2 : Nat) (M : CM) (Q : CM → Prop) (hw : fc_X8_becomeNamed T h a1 a2 M Q) : Met l yX8_becomeNamed wsX8_becomeNamed rmX8_becomeNamed (va_Pc [.ref h, .int a1, .ref (sa a2)] (cPc nm na sa sv D kA T M sz)) (va_Qv Q (cB D kA (cF T sz) T) (cF T sz)) 0 0 (cF T sz) := by
  refine Met.ofW (cc := cX8_becomeNamed) (maxL := 3) (ret := none) (by decide) rfl ?_
  intro p e s m args below meth c s₁ B hml hv
  obtain ⟨rfl, hsz, hP, hK, hSt⟩ := hv
  have hx := B.exec
  have hb := B.bytes
  have hr := B.returns
  have hts := atoms_spec (ws := wsX8_becomeNamed) B.pre
  have hown : s.vm.findClass RX8 = some m.cls := findClass_of_methodNamed B.named
  have hlocks : meth.locks = false := B.notSynchronized
  subst hsz
  have hH : cH D kA (cF T s.heap.size) s.heap T M s.heap [] := ⟨hP.self, va_S.rf⟩
  have hA : ∀ q : Nat, s.heap.size ≤ q → cF T s.heap.size q := fun q z => Or.inr z
  generalize cF T s.heap.size = A at hH hA hSt ⊢
  have hl := lv_entry ([.ref h, .int a1, .ref (sa a2)]) (n := 3) (by first | exact Nat.le_of_ble_eq_true rfl | simp [lg_sl, va_rf_cat, cat_ref, cat_int, cat_long, cat_double])
  rw [lg_entry_eq]
  generalize (lg_sl ([.ref h, .int a1, .ref (sa a2)]) ++ List.replicate (3 - (lg_sl ([.ref h, .int a1, .ref (sa a2)])).length) Slot.unset).toArray = ls at hl ⊢
  generalize ([.ref h, .int a1, .ref (sa a2)] : List Value).toArray = args at hts ⊢
  have hl : lv_has ls 3 [(0, .ref h), (1, .int a1), (2, .ref (sa a2))] := hl
  have hin8 : ∀ w ∈ wsX80, w ∈ wsX8_becomeNamed := by decide +kernel
  clear hP
  unfold fc_X8_becomeNamed at hw
  have hst : ∀ (M : CM) (H : Heap) (locs : List Loc) (ls : Array Slot), cH D kA A s.heap T M H locs → lv_has ls 3 [(0, .ref h), (1, .int a1), (2, .ref (sa a2))] → (tg T h = 9 ∧ fc_X8_become T h a1 M (fun (M2 : CM) => (∃ p5 : Nat, cR M2 84 h = some p5 ∧ (tg T p5 = 8 ∧ fc_X7_appendLetters T p5 a2 M2 (fun (M7 : CM) => Q M7))))) → W p l e (headSpec wsX8_becomeNamed rmX8_becomeNamed).room s m args below meth c H locs 0 0 (MQ below (va_Qv Q (cB D kA A T) A) args s 0 0 A) (F0 m 0 ls []) := by
    intro M H locs ls hH hl hw
    refine lv_aload_n hx hb dX8_becomeNamed_0 rfl (lv_at hl 0 rfl) ?_
    refine lv_iload_n hx hb dX8_becomeNamed_1 rfl (lv_at hl 1 rfl) ?_
    obtain ⟨h1, hw⟩ := hw
    refine c_callv (va_runV (As := [.int a1]) (rest := []) ⟨hx, hb, hml, hown, hts⟩ (tc_X8_become l D kA nm na sa sv H.size T h a1 M _ hw) (cwV 1 hts gX8_becomeNamed_X8_become rfl rfl rfl (by decide +kernel) ⟨(show (0 : Nat) + 1 ≤ 5 from Nat.le_of_ble_eq_true rfl), (show 8 + (2 + 11) + (0 : Nat) ≤ 107 from Nat.le_of_ble_eq_true rfl)⟩) (c_preV hK hH hA hSt (c_recv8 hK hH h1)) rfl rfl hl.1 rfl (lv_room (by first | exact Nat.le_of_ble_eq_true rfl | simp [va_rf_cat, cat_ref, cat_int, cat_long, cat_double, cat_null])) dX8_becomeNamed_2 ⟨Nat.le_of_ble_eq_true rfl, Nat.le_of_ble_eq_true rfl⟩) hH hA (fun M2 H locs hw hH => ?_)
    refine lv_aload_n hx hb dX8_becomeNamed_5 rfl (lv_at hl 0 rfl) ?_
    refine cg_84 hx hb hts hin8 hown hK hH h1 (hts (.fieldLink RX8 35 "IdlCaller$Thing" "text" "LIdlCaller$Text;") (by decide +kernel)) dX8_becomeNamed_6 ?_
    refine lv_aload_n hx hb dX8_becomeNamed_9 rfl (lv_at hl 2 rfl) ?_
    obtain ⟨p5, ep5, hw⟩ := hw
    refine W.st (st' := [.ref (sa a2), .ref p5]) (by rw [ep5]; rfl) ?_
    obtain ⟨h6, hw⟩ := hw
    refine c_callv (va_runV (As := [.ref (sa a2)]) (rest := []) ⟨hx, hb, hml, hown, hts⟩ (tc_X7_appendLetters l D kA nm na sa sv H.size T p5 a2 M2 _ hw) (cwV 1 hts gX8_becomeNamed_X7_appendLetters rfl rfl rfl (by decide +kernel) ⟨(show (4 : Nat) + 1 ≤ 5 from Nat.le_of_ble_eq_true rfl), (show 8 + (3 + 11) + (85 : Nat) ≤ 107 from Nat.le_of_ble_eq_true rfl)⟩) (c_preV hK hH hA hSt (c_recv7 hK hH h6)) rfl rfl hl.1 rfl (lv_room (by first | exact Nat.le_of_ble_eq_true rfl | simp [va_rf_cat, cat_ref, cat_int, cat_long, cat_double, cat_null])) dX8_becomeNamed_10 ⟨Nat.le_of_ble_eq_true rfl, Nat.le_of_ble_eq_true rfl⟩) hH hA (fun M7 H locs hw hH => ?_)
    exact c_retv hx hb hr hlocks hK hH hw dX8_becomeNamed_13
  exact hst M s.heap [] ls hH hl hw
def fc_X8_withItems_c12 (mc ms : Nat) (Q : Option Nat → LY → CM → Prop) (k12 : Nat → Nat → Int32 → LY → CM → Nat → Nat → Prop) (v0 : Nat) (v1 : Nat) (v2 : Int32) (T : LY) (M : CM) (K N : Nat) : Prop := (tg T v1 = 28 ∧ (((nI (ln T v1)) ≤ v2 → (K + 1 ≤ mc ∧ (N + 7 ≤ ms ∧ (∀ (q3 : Nat) (T4 : LY) (M5 : CM), tg T q3 = 0 → T4 = mkT T 9 0 q3 → M5 = mkM M q3 → (tg T4 q3 = 9 ∧ (∃ cc12 nn13 : Nat, (K + 1) + cc12 ≤ mc ∧ (N + 7) + nn13 ≤ ms ∧ fc_X8_init cc12 nn13 q3 84 (some v1) T4 M5 (fun (T11 : LY) (M9 : CM) => (tg T11 q3 = 9 ∧ ((K + 1) + cc12 ≤ mc ∧ ((N + 7) + nn13 ≤ ms ∧ fc_X8_becomeNamed T11 q3 7 11 M9 (fun (M15 : CM) => ((K + 1) + cc12 ≤ mc ∧ (N + 7) + nn13 ≤ ms ∧ Q (some q3) T11 M15)))))))))))) ∧ (¬ (nI (ln T v1)) ≤ v2 → (K + 1 ≤ mc ∧ (N + 7 ≤ ms ∧ (∀ (q20 : Nat) (T21 : LY) (M22 : CM), tg T q20 = 0 → T21 = mkT T 9 0 q20 → M22 = mkM M q20 → (tg T21 q20 = 9 ∧ (∃ cc29 nn30 : Nat, (K + 1) + cc29 ≤ mc ∧ (N + 7) + nn30 ≤ ms ∧ fc_X8_init cc29 nn30 q20 16 (some v0) T21 M22 (fun (T28 : LY) (M26 : CM) => (tg T28 v1 = 28 ∧ (tg T28 q20 = 9 ∧ (vp_in v2 (ln T28 v1) ∧ (∀ M32 : CM, M32 = yR M26 v1 v2.toNatClampNeg (some q20) → (∀ x35 : Int32, x35 = v2 + 1 → k12 v0 v1 x35 T28 M32 ((K + 1) + cc29) ((N + 7) + nn30)))))))))))))))
def fc_X8_withItems_l12 (mc ms : Nat) (Q : Option Nat → LY → CM → Prop) : Nat → Nat → Nat → Int32 → LY → CM → Nat → Nat → Prop := lit (τ := Nat → Nat → Int32 → LY → CM → Nat → Nat → Prop) (fun _ _ _ _ _ _ _ => False) (fun k => fc_X8_withItems_c12 mc ms Q  k)
def fc_X8_withItems (mc ms : Nat)  (T : LY) (M : CM) (Q : Option Nat → LY → CM → Prop) : Prop := (¬ (0 : Int32) < 0 ∧ ((0 : Int32).toNatClampNeg ≤ 60000000 ∧ (0 + 1 ≤ mc ∧ (0 + (0 : Int32).toNatClampNeg ≤ ms ∧ (∀ (q36 : Nat) (T37 : LY) (M38 : CM), tg T q36 = 0 → T37 = mkT T 28 ((0 : Int32).toNatClampNeg) q36 → M38 = mkM M q36 → (¬ (5 : Int32) < 0 ∧ ((5 : Int32).toNatClampNeg ≤ 60000000 ∧ ((0 + 1) + 1 ≤ mc ∧ ((0 + (0 : Int32).toNatClampNeg) + (5 : Int32).toNatClampNeg ≤ ms ∧ (∀ (q43 : Nat) (T44 : LY) (M45 : CM), tg T37 q43 = 0 → T44 = mkT T37 28 ((5 : Int32).toNatClampNeg) q43 → M45 = mkM M38 q43 → (∃ nn : Nat, fc_X8_withItems_l12 mc ms Q  nn q36 q43 0 T44 M45 ((0 + 1) + 1) ((0 + (0 : Int32).toNatClampNeg) + (5 : Int32).toNatClampNeg))))))))))))
abbrev rmX8_withItems (mc ms : Nat) : Room := { frames := 6, cells := mc, slots := ms, locals := 129 }
set_option maxHeartbeats 4000000 in
set_option maxRecDepth 100000 in
theorem tc_X8_withItems (l : Launch) (D : va_G) (kA : Nat → ClassId) (nm : Nat → Nat) (na : Nat) (sa sv : Nat → Nat) (sz : Nat) (mc ms : Nat) (T : LY) (M : CM) (Q : Option Nat → LY → CM → Prop) (hw : fc_X8_withItems mc ms  T M Q) : Met l yX8_withItems wsX8_withItems (rmX8_withItems mc ms) (va_Pc [] (cPc nm na sa sv D kA T M sz)) (va_Qq (fun r (u : LY × CM) => Q r u.1 u.2) (cBT D kA (cF T sz)) (cF T sz)) mc ms (cF T sz) := by
  refine Met.ofW (cc := cX8_withItems) (maxL := 3) (ret := (some (.object "IdlCaller$Thing"))) (by decide) rfl ?_
  intro p e s m args below meth c s₁ B hml hv
  obtain ⟨rfl, hsz, hP, hK, hSt⟩ := hv
  have hx := B.exec
  have hb := B.bytes
  have hr := B.returns
  have hts := atoms_spec (ws := wsX8_withItems) B.pre
  have hown : s.vm.findClass RX8 = some m.cls := findClass_of_methodNamed B.named
  have hlocks : meth.locks = false := B.notSynchronized
  subst hsz
  have hH : cH D kA (cF T s.heap.size) s.heap T M s.heap [] := ⟨hP.self, va_S.rf⟩
  have hA : ∀ q : Nat, s.heap.size ≤ q → cF T s.heap.size q := fun q z => Or.inr z
  generalize cF T s.heap.size = A at hH hA hSt ⊢
  have hl := lv_entry ([]) (n := 3) (by first | exact Nat.le_of_ble_eq_true rfl | simp [lg_sl, va_rf_cat, cat_ref, cat_int, cat_long, cat_double])
  rw [lg_entry_eq]
  generalize (lg_sl ([]) ++ List.replicate (3 - (lg_sl ([])).length) Slot.unset).toArray = ls at hl ⊢
  generalize ([] : List Value).toArray = args at hts ⊢
  have hl : lv_has ls 3 [] := hl
  have hin8 : ∀ w ∈ wsX80, w ∈ wsX8_withItems := by decide +kernel
  have l12 : ∀ (nn : Nat) (v0 : Nat) (v1 : Nat) (v2 : Int32) (T : LY) (M : CM) (K N : Nat) (H : Heap) (locs : List Loc) (ls : Array Slot), cH D kA A s.heap T M H locs → lv_has ls 3 [(0, .ref v0), (1, .ref v1), (2, .int v2)] → fc_X8_withItems_l12 mc ms Q  nn v0 v1 v2 T M K N → W p l e (headSpec wsX8_withItems (rmX8_withItems mc ms)).room s m args below meth c H locs K N (MQ below (va_Qq (fun r (u : LY × CM) => Q r u.1 u.2) (cBT D kA A) A) args s mc ms A) (F0 m 12 ls []) := by
    intro   nn
    induction nn with
    | zero => intro v0 v1 v2 T M K N H locs ls hH hl hw; exact False.elim hw
    | succ nn hk12 =>
      intro v0 v1 v2 T M K N H locs ls hH hl hw
      replace hw : fc_X8_withItems_c12 mc ms Q  (fc_X8_withItems_l12 mc ms Q  nn) v0 v1 v2 T M K N := hw
      unfold fc_X8_withItems_c12 at hw
      refine lv_iload_n hx hb dX8_withItems_12 rfl (lv_at hl 2 rfl) ?_
      refine lv_aload_n hx hb dX8_withItems_13 rfl (lv_at hl 1 rfl) ?_
      obtain ⟨h1, hw⟩ := hw
      refine cn_8 hx hb hK hH h1 dX8_withItems_14 ?_
      refine lv_icmp_ge (tgt := 37) hx hb dX8_withItems_15 (by decide) (fun c2 => ?_) (fun c2 => ?_)
      · replace hw := hw.1 c2
        obtain ⟨h6, hw⟩ := hw
        obtain ⟨h7, hw⟩ := hw
        refine cnew_8 hx hb hts hin8 hown (hts (.classLink RX8 10 RX8) (by decide +kernel)) (hts (.instantiable RX8 7) (by decide +kernel)) (hts (.initialized RX8) (by decide +kernel)) hK hH hA h6 h7 dX8_withItems_37 (fun q3 H zq3 hH => ?_)
        obtain ⟨T4, eT4⟩ : ∃ z, z = mkT T 9 0 q3 := ⟨_, rfl⟩
        obtain ⟨M5, eM5⟩ : ∃ z, z = mkM M q3 := ⟨_, rfl⟩
        replace hw := hw q3 T4 M5 zq3 eT4 eM5
        rw [← eT4, ← eM5] at hH
        refine lv_dup hx hb dX8_withItems_40 rfl ?_
        refine lv_bipush (v := 84) hx hb dX8_withItems_41 (by decide) ?_
        refine lv_aload_n hx hb dX8_withItems_43 rfl (lv_at hl 1 rfl) ?_
        obtain ⟨h8, hw⟩ := hw
        obtain ⟨cc12, nn13, hcc12, hnn13, hw⟩ := hw
        refine c_callTv (va_runI (As := [.int 84, va_rf (some v1)]) (rest := [.ref q3]) ⟨hx, hb, hml, hown, hts⟩ (tc_X8_init l D kA nm na sa sv H.size cc12 nn13 q3 84 (some v1) T4 M5 _ hw) (cwI 2 hts gX8_withItems_X8_init rfl rfl rfl (hts (.initialized RX8) (by decide +kernel)) (hts (.methodLink RX8 43 yX8_init) (by decide +kernel)) (hts (.instanceMethod yX8_init) (by decide +kernel)) rfl (by decide +kernel) ⟨(show (2 : Nat) + 1 ≤ 6 from Nat.le_of_ble_eq_true rfl), (show 8 + (3 + 11) + (35 : Nat) ≤ 129 from Nat.le_of_ble_eq_true rfl)⟩) (c_preS hK hH hA hSt) rfl rfl hl.1 rfl (lv_room (by first | exact Nat.le_of_ble_eq_true rfl | simp [va_rf_cat, cat_ref, cat_int, cat_long, cat_double, cat_null])) dX8_withItems_44 ⟨hcc12, hnn13⟩) hH hA (fun T11 M9 H locs hw hH => ?_)
        refine lv_astore_n (i := 2) (lv' := [(2, .ref q3), (0, .ref v0), (1, .ref v1)]) hx hb dX8_withItems_47 rfl hl (by decide) rfl (fun ls hl => ?_)
        refine lv_aload_n hx hb dX8_withItems_48 rfl (lv_at hl 0 rfl) ?_
        refine lv_bipush (v := 7) hx hb dX8_withItems_49 (by decide) ?_
        refine cs_ldc11 hx hb hown hSt dX8_withItems_51 ?_
        obtain ⟨h14, hw⟩ := hw
        obtain ⟨h18, hw⟩ := hw
        obtain ⟨h19, hw⟩ := hw
        refine c_callv (va_runV (As := [.int 7, .ref (sa 11)]) (rest := []) ⟨hx, hb, hml, hown, hts⟩ (tc_X8_becomeNamed l D kA nm na sa sv H.size T11 q3 7 11 M9 _ hw) (cwV 2 hts gX8_withItems_X8_becomeNamed rfl rfl rfl (by decide +kernel) ⟨(show (5 : Nat) + 1 ≤ 6 from Nat.le_of_ble_eq_true rfl), (show 8 + (3 + 11) + (107 : Nat) ≤ 129 from Nat.le_of_ble_eq_true rfl)⟩) (c_preV hK hH hA hSt (c_recv8 hK hH h14)) rfl rfl hl.1 rfl (lv_room (by first | exact Nat.le_of_ble_eq_true rfl | simp [va_rf_cat, cat_ref, cat_int, cat_long, cat_double, cat_null])) dX8_withItems_53 ⟨h18, h19⟩) hH hA (fun M15 H locs hw hH => ?_)
        refine lv_aload_n hx hb dX8_withItems_56 rfl (lv_at hl 0 rfl) ?_
        exact c_retTq (v := (some q3)) hw.1 hw.2.1 hx hb hr (Or.inl ⟨_, rfl⟩) hlocks hK hH hw.2.2 dX8_withItems_57
      · replace hw := hw.2 c2
        refine lv_aload_n hx hb dX8_withItems_18 rfl (lv_at hl 1 rfl) ?_
        refine lv_iload_n hx hb dX8_withItems_19 rfl (lv_at hl 2 rfl) ?_
        obtain ⟨h23, hw⟩ := hw
        obtain ⟨h24, hw⟩ := hw
        refine cnew_8 hx hb hts hin8 hown (hts (.classLink RX8 10 RX8) (by decide +kernel)) (hts (.instantiable RX8 7) (by decide +kernel)) (hts (.initialized RX8) (by decide +kernel)) hK hH hA h23 h24 dX8_withItems_20 (fun q20 H zq20 hH => ?_)
        obtain ⟨T21, eT21⟩ : ∃ z, z = mkT T 9 0 q20 := ⟨_, rfl⟩
        obtain ⟨M22, eM22⟩ : ∃ z, z = mkM M q20 := ⟨_, rfl⟩
        replace hw := hw q20 T21 M22 zq20 eT21 eM22
        rw [← eT21, ← eM22] at hH
        refine lv_dup hx hb dX8_withItems_23 rfl ?_
        refine lv_bipush (v := 16) hx hb dX8_withItems_24 (by decide) ?_
        refine lv_aload_n hx hb dX8_withItems_26 rfl (lv_at hl 0 rfl) ?_
        obtain ⟨h25, hw⟩ := hw
        obtain ⟨cc29, nn30, hcc29, hnn30, hw⟩ := hw
        refine c_callTv (va_runI (As := [.int 16, va_rf (some v0)]) (rest := [.ref q20, .int v2, .ref v1]) ⟨hx, hb, hml, hown, hts⟩ (tc_X8_init l D kA nm na sa sv H.size cc29 nn30 q20 16 (some v0) T21 M22 _ hw) (cwI 2 hts gX8_withItems_X8_init rfl rfl rfl (hts (.initialized RX8) (by decide +kernel)) (hts (.methodLink RX8 43 yX8_init) (by decide +kernel)) (hts (.instanceMethod yX8_init) (by decide +kernel)) rfl (by decide +kernel) ⟨(show (2 : Nat) + 1 ≤ 6 from Nat.le_of_ble_eq_true rfl), (show 8 + (3 + 11) + (35 : Nat) ≤ 129 from Nat.le_of_ble_eq_true rfl)⟩) (c_preS hK hH hA hSt) rfl rfl hl.1 rfl (lv_room (by first | exact Nat.le_of_ble_eq_true rfl | simp [va_rf_cat, cat_ref, cat_int, cat_long, cat_double, cat_null])) dX8_withItems_27 ⟨hcc29, hnn30⟩) hH hA (fun T28 M26 H locs hw hH => ?_)
        obtain ⟨h31, hw⟩ := hw
        obtain ⟨h33, hw⟩ := hw
        obtain ⟨h34, hw⟩ := hw
        refine cs_8 hx hb hK hH h31 h33 h34 dX8_withItems_30 (fun M32 H locs eM32 hH => ?_)
        replace hw := hw M32 eM32
        obtain ⟨x35, ex35⟩ : ∃ y : Int32, y = v2 + 1 := ⟨_, rfl⟩
        replace hw := hw x35 ex35
        refine lv_iinc (v := x35) (lv' := [(2, .int x35), (0, .ref v0), (1, .ref v1)]) hx hb dX8_withItems_31 hl (k := 2) rfl (by rw [ex35]; rfl) (by decide) rfl (fun ls hl => ?_)
        refine lv_goto (tgt := 12) hx hb dX8_withItems_34 (by decide) ?_
        exact hk12 v0 v1 x35 T28 M32 ((K + 1) + cc29) ((N + 7) + nn30) H locs ls hH (lv_sub hl [1, 2, 0] rfl) hw
  clear hP
  unfold fc_X8_withItems at hw
  have hst : ∀ (T : LY) (M : CM) (H : Heap) (locs : List Loc) (ls : Array Slot), cH D kA A s.heap T M H locs → lv_has ls 3 [] → (¬ (0 : Int32) < 0 ∧ ((0 : Int32).toNatClampNeg ≤ 60000000 ∧ (0 + 1 ≤ mc ∧ (0 + (0 : Int32).toNatClampNeg ≤ ms ∧ (∀ (q36 : Nat) (T37 : LY) (M38 : CM), tg T q36 = 0 → T37 = mkT T 28 ((0 : Int32).toNatClampNeg) q36 → M38 = mkM M q36 → (¬ (5 : Int32) < 0 ∧ ((5 : Int32).toNatClampNeg ≤ 60000000 ∧ ((0 + 1) + 1 ≤ mc ∧ ((0 + (0 : Int32).toNatClampNeg) + (5 : Int32).toNatClampNeg ≤ ms ∧ (∀ (q43 : Nat) (T44 : LY) (M45 : CM), tg T37 q43 = 0 → T44 = mkT T37 28 ((5 : Int32).toNatClampNeg) q43 → M45 = mkM M38 q43 → (∃ nn : Nat, fc_X8_withItems_l12 mc ms Q  nn q36 q43 0 T44 M45 ((0 + 1) + 1) ((0 + (0 : Int32).toNatClampNeg) + (5 : Int32).toNatClampNeg)))))))))))) → W p l e (headSpec wsX8_withItems (rmX8_withItems mc ms)).room s m args below meth c H locs 0 0 (MQ below (va_Qq (fun r (u : LY × CM) => Q r u.1 u.2) (cBT D kA A) A) args s mc ms A) (F0 m 0 ls []) := by
    intro T M H locs ls hH hl hw
    refine lv_iconst (v := 0) hx hb dX8_withItems_0 (by decide) ?_
    obtain ⟨h39, hw⟩ := hw
    obtain ⟨h40, hw⟩ := hw
    obtain ⟨h41, hw⟩ := hw
    obtain ⟨h42, hw⟩ := hw
    refine cnewa_8 hx hb hown (hts (.classLink RX8 10 "IdlCaller$Thing") (by decide +kernel)) (hSt.2.2.2.2.2.2.2.2.2.2.2.2.2.2.2.2.2.2.2.2.2.2.2.2.2.2.2.2.1) hK hH hA h39 rfl h40 h41 h42 dX8_withItems_1 (fun q36 H zq36 hH => ?_)
    obtain ⟨T37, eT37⟩ : ∃ z, z = mkT T 28 ((0 : Int32).toNatClampNeg) q36 := ⟨_, rfl⟩
    obtain ⟨M38, eM38⟩ : ∃ z, z = mkM M q36 := ⟨_, rfl⟩
    replace hw := hw q36 T37 M38 zq36 eT37 eM38
    rw [← eT37, ← eM38] at hH
    refine lv_astore_n (i := 0) (lv' := [(0, .ref q36)]) hx hb dX8_withItems_4 rfl hl (by decide) rfl (fun ls hl => ?_)
    refine lv_iconst (v := 5) hx hb dX8_withItems_5 (by decide) ?_
    obtain ⟨h46, hw⟩ := hw
    obtain ⟨h47, hw⟩ := hw
    obtain ⟨h48, hw⟩ := hw
    obtain ⟨h49, hw⟩ := hw
    refine cnewa_8 hx hb hown (hts (.classLink RX8 10 "IdlCaller$Thing") (by decide +kernel)) (hSt.2.2.2.2.2.2.2.2.2.2.2.2.2.2.2.2.2.2.2.2.2.2.2.2.2.2.2.2.1) hK hH hA h46 rfl h47 h48 h49 dX8_withItems_6 (fun q43 H zq43 hH => ?_)
    obtain ⟨T44, eT44⟩ : ∃ z, z = mkT T37 28 ((5 : Int32).toNatClampNeg) q43 := ⟨_, rfl⟩
    obtain ⟨M45, eM45⟩ : ∃ z, z = mkM M38 q43 := ⟨_, rfl⟩
    replace hw := hw q43 T44 M45 zq43 eT44 eM45
    rw [← eT44, ← eM45] at hH
    refine lv_astore_n (i := 1) (lv' := [(1, .ref q43), (0, .ref q36)]) hx hb dX8_withItems_9 rfl hl (by decide) rfl (fun ls hl => ?_)
    refine lv_iconst (v := 0) hx hb dX8_withItems_10 (by decide) ?_
    refine lv_istore_n (i := 2) (lv' := [(2, .int 0), (1, .ref q43), (0, .ref q36)]) hx hb dX8_withItems_11 rfl hl (by decide) rfl (fun ls hl => ?_)
    obtain ⟨nn, hw⟩ := hw
    exact l12   nn q36 q43 0 T44 M45 ((0 + 1) + 1) ((0 + (0 : Int32).toNatClampNeg) + (5 : Int32).toNatClampNeg) H locs ls hH (lv_sub hl [2, 1, 0] rfl) hw
  exact hst T M s.heap [] ls hH hl hw
def fc_X10_thingAt_b21 (T : LY) (Q : Option Nat → CM → Prop) (s0 : Option Nat) (M : CM) : Prop := Q s0 M
def fc_X10_thingAt_b20 (T : LY) (Q : Option Nat → CM → Prop) (M : CM) : Prop := fc_X10_thingAt_b21 T Q  none M
def fc_X10_thingAt (T : LY)  (a1 : Option Nat) (a2 : Int32) (M : CM) (Q : Option Nat → CM → Prop) : Prop := ((a1 = none → fc_X10_thingAt_b20 T Q   M) ∧ (¬ a1 = none → ((a2 < 0 → fc_X10_thingAt_b20 T Q   M) ∧ (¬ a2 < 0 → (∃ p3 : Nat, a1 = some p3 ∧ (tg T p3 = 28 ∧ (((nI (ln T p3)) ≤ a2 → fc_X10_thingAt_b20 T Q   M) ∧ (¬ (nI (ln T p3)) ≤ a2 → (vp_in a2 (ln T p3) ∧ fc_X10_thingAt_b21 T Q  (xR M p3 a2.toNatClampNeg) M)))))))))
abbrev rmX10_thingAt : Room := { frames := 0, cells := 0, slots := 0, locals := 0 }
set_option maxHeartbeats 4000000 in
set_option maxRecDepth 100000 in
theorem tc_X10_thingAt (l : Launch) (D : va_G) (kA : Nat → ClassId) (nm : Nat → Nat) (na : Nat) (sa sv : Nat → Nat) (sz : Nat) (T : LY) (a1 : Option Nat) (a2 : Int32) (M : CM) (Q : Option Nat → CM → Prop) (hw : fc_X10_thingAt T a1 a2 M Q) : Met l yX10_thingAt wsX10_thingAt rmX10_thingAt (va_Pc [va_rf a1, .int a2] (cPc nm na sa sv D kA T M sz)) (va_Qq Q (cB D kA (cF T sz) T) (cF T sz)) 0 0 (cF T sz) := by
  refine Met.ofW (cc := cX10_thingAt) (maxL := 2) (ret := (some (.object "IdlCaller$Thing"))) (by decide) rfl ?_
  intro p e s m args below meth c s₁ B hml hv
  obtain ⟨rfl, hsz, hP, hK, hSt⟩ := hv
  have hx := B.exec
  have hb := B.bytes
  have hr := B.returns
  have hts := atoms_spec (ws := wsX10_thingAt) B.pre
  have hown : s.vm.findClass RX10 = some m.cls := findClass_of_methodNamed B.named
  have hlocks : meth.locks = false := B.notSynchronized
  subst hsz
  have hH : cH D kA (cF T s.heap.size) s.heap T M s.heap [] := ⟨hP.self, va_S.rf⟩
  have hA : ∀ q : Nat, s.heap.size ≤ q → cF T s.heap.size q := fun q z => Or.inr z
  generalize cF T s.heap.size = A at hH hA hSt ⊢
  have hl := lv_entry ([va_rf a1, .int a2]) (n := 2) (by first | exact Nat.le_of_ble_eq_true rfl | simp [lg_sl, va_rf_cat, cat_ref, cat_int, cat_long, cat_double])
  rw [lg_entry_eq]
  generalize (lg_sl ([va_rf a1, .int a2]) ++ List.replicate (2 - (lg_sl ([va_rf a1, .int a2])).length) Slot.unset).toArray = ls at hl ⊢
  generalize ([va_rf a1, .int a2] : List Value).toArray = args at hts ⊢
  have hl : lv_has ls 2 [(0, va_rf a1), (1, .int a2)] := by simpa [lv_args, va_rf_cat, cat_ref, cat_int, cat_long, cat_double] using hl
  have b21 : ∀ (s0 : Option Nat) (M : CM) (H : Heap) (locs : List Loc) (ls : Array Slot), cH D kA A s.heap T M H locs → lv_has ls 2 [] → fc_X10_thingAt_b21 T Q  s0 M → W p l e (headSpec wsX10_thingAt rmX10_thingAt).room s m args below meth c H locs 0 0 (MQ below (va_Qq Q (cB D kA A T) A) args s 0 0 A) (F0 m 21 ls [va_rf s0]) := by
    intro   s0 M H locs ls hH hl hw
    unfold fc_X10_thingAt_b21 at hw
    exact c_retq (v := s0) hx hb hr (Or.inl ⟨_, rfl⟩) hlocks hK hH hw dX10_thingAt_21
  have b20 : ∀ (M : CM) (H : Heap) (locs : List Loc) (ls : Array Slot), cH D kA A s.heap T M H locs → lv_has ls 2 [] → fc_X10_thingAt_b20 T Q   M → W p l e (headSpec wsX10_thingAt rmX10_thingAt).room s m args below meth c H locs 0 0 (MQ below (va_Qq Q (cB D kA A T) A) args s 0 0 A) (F0 m 20 ls []) := by
    intro    M H locs ls hH hl hw
    unfold fc_X10_thingAt_b20 at hw
    refine lv_null hx hb dX10_thingAt_20 ?_
    exact b21   none M H locs ls hH (lv_sub hl [] rfl) hw
  clear hP
  unfold fc_X10_thingAt at hw
  have hst : ∀ (M : CM) (H : Heap) (locs : List Loc) (ls : Array Slot), cH D kA A s.heap T M H locs → lv_has ls 2 [(0, va_rf a1), (1, .int a2)] → ((a1 = none → fc_X10_thingAt_b20 T Q   M) ∧ (¬ a1 = none → ((a2 < 0 → fc_X10_thingAt_b20 T Q   M) ∧ (¬ a2 < 0 → (∃ p3 : Nat, a1 = some p3 ∧ (tg T p3 = 28 ∧ (((nI (ln T p3)) ≤ a2 → fc_X10_thingAt_b20 T Q   M) ∧ (¬ (nI (ln T p3)) ≤ a2 → (vp_in a2 (ln T p3) ∧ fc_X10_thingAt_b21 T Q  (xR M p3 a2.toNatClampNeg) M))))))))) → W p l e (headSpec wsX10_thingAt rmX10_thingAt).room s m args below meth c H locs 0 0 (MQ below (va_Qq Q (cB D kA A T) A) args s 0 0 A) (F0 m 0 ls []) := by
    intro M H locs ls hH hl hw
    refine s_aload_n hx hb dX10_thingAt_0 rfl (lv_at hl 0 rfl) ?_
    refine s_ifnull (tgt := 20) hx hb dX10_thingAt_1 (by decide) (fun c1 => ?_) (fun c1 => ?_)
    · replace hw := hw.1 c1
      exact b20    M H locs ls hH (lv_sub hl [] rfl) hw
    · replace hw := hw.2 c1
      refine lv_iload_n hx hb dX10_thingAt_4 rfl (lv_at hl 1 rfl) ?_
      refine lv_if_lt (tgt := 20) hx hb dX10_thingAt_5 (by decide) (fun c2 => ?_) (fun c2 => ?_)
      · replace hw := hw.1 c2
        exact b20    M H locs ls hH (lv_sub hl [] rfl) hw
      · replace hw := hw.2 c2
        refine lv_iload_n hx hb dX10_thingAt_8 rfl (lv_at hl 1 rfl) ?_
        refine s_aload_n hx hb dX10_thingAt_9 rfl (lv_at hl 0 rfl) ?_
        obtain ⟨p3, ep3, hw⟩ := hw
        refine W.st (st' := [.ref p3, .int a2]) (by rw [ep3]; rfl) ?_
        obtain ⟨h4, hw⟩ := hw
        refine cn_8 hx hb hK hH h4 dX10_thingAt_10 ?_
        refine lv_icmp_ge (tgt := 20) hx hb dX10_thingAt_11 (by decide) (fun c5 => ?_) (fun c5 => ?_)
        · replace hw := hw.1 c5
          exact b20    M H locs ls hH (lv_sub hl [] rfl) hw
        · replace hw := hw.2 c5
          refine s_aload_n hx hb dX10_thingAt_14 rfl (lv_at hl 0 rfl) ?_
          refine lv_iload_n hx hb dX10_thingAt_15 rfl (lv_at hl 1 rfl) ?_
          refine W.st (st' := [.int a2, .ref p3]) (by rw [ep3]; rfl) ?_
          obtain ⟨h6, hw⟩ := hw
          refine cl_8 hx hb hK hH h4 h6 dX10_thingAt_16 ?_
          refine lv_goto (tgt := 21) hx hb dX10_thingAt_17 (by decide) ?_
          exact b21   (xR M p3 a2.toNatClampNeg) M H locs ls hH (lv_sub hl [] rfl) hw
  exact hst M s.heap [] ls hH hl hw
def fc_X8_itemAt_b20 (T : LY) (h : Nat) (Q : Option Nat → CM → Prop) (s0 : Option Nat) (M : CM) : Prop := Q s0 M
def fc_X8_itemAt (T : LY) (h : Nat)  (a1 : Int32) (M : CM) (Q : Option Nat → CM → Prop) : Prop := (tg T h = 9 ∧ (((cI M 85 h) ≤ a1 → fc_X8_itemAt_b20 T h Q  none M) ∧ (¬ (cI M 85 h) ≤ a1 → fc_X10_thingAt T (cR M 86 h) a1 M (fun (r4 : Option Nat) (M3 : CM) => fc_X8_itemAt_b20 T h Q  r4 M3))))
abbrev rmX8_itemAt : Room := { frames := 1, cells := 0, slots := 0, locals := 21 }
set_option maxHeartbeats 4000000 in
set_option maxRecDepth 100000 in
theorem tc_X8_itemAt (l : Launch) (D : va_G) (kA : Nat → ClassId) (nm : Nat → Nat) (na : Nat) (sa sv : Nat → Nat) (sz : Nat) (T : LY) (h : Nat) (a1 : Int32) (M : CM) (Q : Option Nat → CM → Prop) (hw : fc_X8_itemAt T h a1 M Q) : Met l yX8_itemAt wsX8_itemAt rmX8_itemAt (va_Pc [.ref h, .int a1] (cPc nm na sa sv D kA T M sz)) (va_Qq Q (cB D kA (cF T sz) T) (cF T sz)) 0 0 (cF T sz) := by
  refine Met.ofW (cc := cX8_itemAt) (maxL := 2) (ret := (some (.object "IdlCaller$Thing"))) (by decide) rfl ?_
  intro p e s m args below meth c s₁ B hml hv
  obtain ⟨rfl, hsz, hP, hK, hSt⟩ := hv
  have hx := B.exec
  have hb := B.bytes
  have hr := B.returns
  have hts := atoms_spec (ws := wsX8_itemAt) B.pre
  have hown : s.vm.findClass RX8 = some m.cls := findClass_of_methodNamed B.named
  have hlocks : meth.locks = false := B.notSynchronized
  subst hsz
  have hH : cH D kA (cF T s.heap.size) s.heap T M s.heap [] := ⟨hP.self, va_S.rf⟩
  have hA : ∀ q : Nat, s.heap.size ≤ q → cF T s.heap.size q := fun q z => Or.inr z
  generalize cF T s.heap.size = A at hH hA hSt ⊢
  have hl := lv_entry ([.ref h, .int a1]) (n := 2) (by first | exact Nat.le_of_ble_eq_true rfl | simp [lg_sl, va_rf_cat, cat_ref, cat_int, cat_long, cat_double])
  rw [lg_entry_eq]
  generalize (lg_sl ([.ref h, .int a1]) ++ List.replicate (2 - (lg_sl ([.ref h, .int a1])).length) Slot.unset).toArray = ls at hl ⊢
  generalize ([.ref h, .int a1] : List Value).toArray = args at hts ⊢
  have hl : lv_has ls 2 [(0, .ref h), (1, .int a1)] := hl
  have hin8 : ∀ w ∈ wsX80, w ∈ wsX8_itemAt := by decide +kernel
  have b20 : ∀ (s0 : Option Nat) (M : CM) (H : Heap) (locs : List Loc) (ls : Array Slot), cH D kA A s.heap T M H locs → lv_has ls 2 [] → fc_X8_itemAt_b20 T h Q  s0 M → W p l e (headSpec wsX8_itemAt rmX8_itemAt).room s m args below meth c H locs 0 0 (MQ below (va_Qq Q (cB D kA A T) A) args s 0 0 A) (F0 m 20 ls [va_rf s0]) := by
    intro   s0 M H locs ls hH hl hw
    unfold fc_X8_itemAt_b20 at hw
    exact c_retq (v := s0) hx hb hr (Or.inl ⟨_, rfl⟩) hlocks hK hH hw dX8_itemAt_20
  clear hP
  unfold fc_X8_itemAt at hw
  have hst : ∀ (M : CM) (H : Heap) (locs : List Loc) (ls : Array Slot), cH D kA A s.heap T M H locs → lv_has ls 2 [(0, .ref h), (1, .int a1)] → (tg T h = 9 ∧ (((cI M 85 h) ≤ a1 → fc_X8_itemAt_b20 T h Q  none M) ∧ (¬ (cI M 85 h) ≤ a1 → fc_X10_thingAt T (cR M 86 h) a1 M (fun (r4 : Option Nat) (M3 : CM) => fc_X8_itemAt_b20 T h Q  r4 M3)))) → W p l e (headSpec wsX8_itemAt rmX8_itemAt).room s m args below meth c H locs 0 0 (MQ below (va_Qq Q (cB D kA A T) A) args s 0 0 A) (F0 m 0 ls []) := by
    intro M H locs ls hH hl hw
    refine lv_iload_n hx hb dX8_itemAt_0 rfl (lv_at hl 1 rfl) ?_
    refine lv_aload_n hx hb dX8_itemAt_1 rfl (lv_at hl 0 rfl) ?_
    obtain ⟨h1, hw⟩ := hw
    refine cg_85 hx hb hts hin8 hown hK hH h1 (hts (.fieldLink RX8 27 "IdlCaller$Thing" "size" "I") (by decide +kernel)) dX8_itemAt_2 ?_
    refine lv_icmp_ge (tgt := 19) hx hb dX8_itemAt_5 (by decide) (fun c2 => ?_) (fun c2 => ?_)
    · replace hw := hw.1 c2
      refine lv_null hx hb dX8_itemAt_19 ?_
      exact b20   none M H locs ls hH (lv_sub hl [] rfl) hw
    · replace hw := hw.2 c2
      refine lv_aload_n hx hb dX8_itemAt_8 rfl (lv_at hl 0 rfl) ?_
      refine cg_86 hx hb hts hin8 hown hK hH h1 (hts (.fieldLink RX8 39 "IdlCaller$Thing" "items" "[LIdlCaller$Thing;") (by decide +kernel)) dX8_itemAt_9 ?_
      refine lv_iload_n hx hb dX8_itemAt_12 rfl (lv_at hl 1 rfl) ?_
      refine c_callq (va_runSN (As := [va_rf (cR M 86 h), .int a1]) (rest := []) ⟨hx, hb, hml, hown, hts⟩ (tc_X10_thingAt l D kA nm na sa sv H.size T (cR M 86 h) a1 M _ hw) ⟨va_cnB 2 hts gX8_itemAt_X10_thingAt_n52 rfl rfl rfl (hSt.2.2.2.2.2.2.2.2.2.2.2.2.2.2.2.2.2.1) (hts (.initialized RX10) (by decide +kernel)) (by decide +kernel) ⟨(show (0 : Nat) + 1 ≤ 1 from Nat.le_of_ble_eq_true rfl), (show 8 + (2 + 11) + (0 : Nat) ≤ 21 from Nat.le_of_ble_eq_true rfl)⟩, hts (.static yX10_thingAt) (by decide +kernel), trivial⟩ (c_preS hK hH hA hSt) rfl rfl hl.1 rfl (lv_room (by first | exact Nat.le_of_ble_eq_true rfl | simp [va_rf_cat, cat_ref, cat_int, cat_long, cat_double, cat_null])) dX8_itemAt_13 ⟨Nat.le_of_ble_eq_true rfl, Nat.le_of_ble_eq_true rfl⟩) hH hA (fun r4 M3 H locs hw hH => ?_)
      refine lv_goto (tgt := 20) hx hb dX8_itemAt_16 (by decide) ?_
      exact b20   r4 M3 H locs ls hH (lv_sub hl [] rfl) hw
  exact hst M s.heap [] ls hH hl hw
def fc_X8_nextItem_b26 (T : LY) (h : Nat) (Q : Option Nat → CM → Prop) (v1 : Option Nat) (M : CM) : Prop := Q v1 M
def fc_X8_nextItem (T : LY) (h : Nat)  (M : CM) (Q : Option Nat → CM → Prop) : Prop := (tg T h = 9 ∧ fc_X10_thingAt T (cR M 86 h) (cI M 85 h) M (fun (r3 : Option Nat) (M2 : CM) => ((r3 = none → fc_X8_nextItem_b26 T h Q  r3 M2) ∧ (¬ r3 = none → (∀ M6 : CM, M6 = sI M2 85 h ((cI M2 85 h) + 1) → fc_X8_nextItem_b26 T h Q  r3 M6)))))
abbrev rmX8_nextItem : Room := { frames := 1, cells := 0, slots := 0, locals := 21 }
set_option maxHeartbeats 4000000 in
set_option maxRecDepth 100000 in
theorem tc_X8_nextItem (l : Launch) (D : va_G) (kA : Nat → ClassId) (nm : Nat → Nat) (na : Nat) (sa sv : Nat → Nat) (sz : Nat) (T : LY) (h : Nat) (M : CM) (Q : Option Nat → CM → Prop) (hw : fc_X8_nextItem T h  M Q) : Met l yX8_nextItem wsX8_nextItem rmX8_nextItem (va_Pc [.ref h] (cPc nm na sa sv D kA T M sz)) (va_Qq Q (cB D kA (cF T sz) T) (cF T sz)) 0 0 (cF T sz) := by
  refine Met.ofW (cc := cX8_nextItem) (maxL := 2) (ret := (some (.object "IdlCaller$Thing"))) (by decide) rfl ?_
  intro p e s m args below meth c s₁ B hml hv
  obtain ⟨rfl, hsz, hP, hK, hSt⟩ := hv
  have hx := B.exec
  have hb := B.bytes
  have hr := B.returns
  have hts := atoms_spec (ws := wsX8_nextItem) B.pre
  have hown : s.vm.findClass RX8 = some m.cls := findClass_of_methodNamed B.named
  have hlocks : meth.locks = false := B.notSynchronized
  subst hsz
  have hH : cH D kA (cF T s.heap.size) s.heap T M s.heap [] := ⟨hP.self, va_S.rf⟩
  have hA : ∀ q : Nat, s.heap.size ≤ q → cF T s.heap.size q := fun q z => Or.inr z
  generalize cF T s.heap.size = A at hH hA hSt ⊢
  have hl := lv_entry ([.ref h]) (n := 2) (by first | exact Nat.le_of_ble_eq_true rfl | simp [lg_sl, va_rf_cat, cat_ref, cat_int, cat_long, cat_double])
  rw [lg_entry_eq]
  generalize (lg_sl ([.ref h]) ++ List.replicate (2 - (lg_sl ([.ref h])).length) Slot.unset).toArray = ls at hl ⊢
  generalize ([.ref h] : List Value).toArray = args at hts ⊢
  have hl : lv_has ls 2 [(0, .ref h)] := hl
  have hin8 : ∀ w ∈ wsX80, w ∈ wsX8_nextItem := by decide +kernel
  have b26 : ∀ (v1 : Option Nat) (M : CM) (H : Heap) (locs : List Loc) (ls : Array Slot), cH D kA A s.heap T M H locs → lv_has ls 2 [(1, va_rf v1)] → fc_X8_nextItem_b26 T h Q  v1 M → W p l e (headSpec wsX8_nextItem rmX8_nextItem).room s m args below meth c H locs 0 0 (MQ below (va_Qq Q (cB D kA A T) A) args s 0 0 A) (F0 m 26 ls []) := by
    intro   v1 M H locs ls hH hl hw
    unfold fc_X8_nextItem_b26 at hw
    refine s_aload_n hx hb dX8_nextItem_26 rfl (lv_at hl 0 rfl) ?_
    exact c_retq (v := v1) hx hb hr (Or.inl ⟨_, rfl⟩) hlocks hK hH hw dX8_nextItem_27
  clear hP
  unfold fc_X8_nextItem at hw
  have hst : ∀ (M : CM) (H : Heap) (locs : List Loc) (ls : Array Slot), cH D kA A s.heap T M H locs → lv_has ls 2 [(0, .ref h)] → (tg T h = 9 ∧ fc_X10_thingAt T (cR M 86 h) (cI M 85 h) M (fun (r3 : Option Nat) (M2 : CM) => ((r3 = none → fc_X8_nextItem_b26 T h Q  r3 M2) ∧ (¬ r3 = none → (∀ M6 : CM, M6 = sI M2 85 h ((cI M2 85 h) + 1) → fc_X8_nextItem_b26 T h Q  r3 M6))))) → W p l e (headSpec wsX8_nextItem rmX8_nextItem).room s m args below meth c H locs 0 0 (MQ below (va_Qq Q (cB D kA A T) A) args s 0 0 A) (F0 m 0 ls []) := by
    intro M H locs ls hH hl hw
    refine lv_aload_n hx hb dX8_nextItem_0 rfl (lv_at hl 0 rfl) ?_
    obtain ⟨h1, hw⟩ := hw
    refine cg_86 hx hb hts hin8 hown hK hH h1 (hts (.fieldLink RX8 39 "IdlCaller$Thing" "items" "[LIdlCaller$Thing;") (by decide +kernel)) dX8_nextItem_1 ?_
    refine lv_aload_n hx hb dX8_nextItem_4 rfl (lv_at hl 0 rfl) ?_
    refine cg_85 hx hb hts hin8 hown hK hH h1 (hts (.fieldLink RX8 27 "IdlCaller$Thing" "size" "I") (by decide +kernel)) dX8_nextItem_5 ?_
    refine c_callq (va_runSN (As := [va_rf (cR M 86 h), .int (cI M 85 h)]) (rest := []) ⟨hx, hb, hml, hown, hts⟩ (tc_X10_thingAt l D kA nm na sa sv H.size T (cR M 86 h) (cI M 85 h) M _ hw) ⟨va_cnB 2 hts gX8_nextItem_X10_thingAt_n52 rfl rfl rfl (hSt.2.2.2.2.2.2.2.2.2.2.2.2.2.2.2.2.2.1) (hts (.initialized RX10) (by decide +kernel)) (by decide +kernel) ⟨(show (0 : Nat) + 1 ≤ 1 from Nat.le_of_ble_eq_true rfl), (show 8 + (2 + 11) + (0 : Nat) ≤ 21 from Nat.le_of_ble_eq_true rfl)⟩, hts (.static yX10_thingAt) (by decide +kernel), trivial⟩ (c_preS hK hH hA hSt) rfl rfl hl.1 rfl (lv_room (by first | exact Nat.le_of_ble_eq_true rfl | simp [va_rf_cat, cat_ref, cat_int, cat_long, cat_double, cat_null])) dX8_nextItem_8 ⟨Nat.le_of_ble_eq_true rfl, Nat.le_of_ble_eq_true rfl⟩) hH hA (fun r3 M2 H locs hw hH => ?_)
    refine s_astore_n (i := 1) (lv' := [(1, va_rf r3), (0, .ref h)]) hx hb dX8_nextItem_11 rfl hl (by decide) (by first | rfl | simp [va_rf_cat, cat_ref, cat_int, cat_long, cat_double, cat_null]) (fun ls hl => ?_)
    refine s_aload_n hx hb dX8_nextItem_12 rfl (lv_at hl 0 rfl) ?_
    refine s_ifnull (tgt := 26) hx hb dX8_nextItem_13 (by decide) (fun c5 => ?_) (fun c5 => ?_)
    · replace hw := hw.1 c5
      exact b26   r3 M2 H locs ls hH (lv_sub hl [0] rfl) hw
    · replace hw := hw.2 c5
      refine lv_aload_n hx hb dX8_nextItem_16 rfl (lv_at hl 1 rfl) ?_
      refine lv_dup hx hb dX8_nextItem_17 rfl ?_
      refine cg_85 hx hb hts hin8 hown hK hH h1 (hts (.fieldLink RX8 27 "IdlCaller$Thing" "size" "I") (by decide +kernel)) dX8_nextItem_18 ?_
      refine lv_iconst (v := 1) hx hb dX8_nextItem_21 (by decide) ?_
      refine lv_iadd hx hb dX8_nextItem_22 ?_
      refine cp_85 (x := (cI M2 85 h) + 1) hx hb hts hin8 hown hK hH h1 (hts (.fieldLink RX8 27 "IdlCaller$Thing" "size" "I") (by decide +kernel)) dX8_nextItem_23 (fun M6 H locs eM6 hH => ?_)
      replace hw := hw M6 eM6
      exact b26   r3 M6 H locs ls hH (lv_sub hl [0] rfl) hw
  exact hst M s.heap [] ls hH hl hw
def fc_X8_knowNumber (T : LY) (h : Nat)  (a1 : Int32) (a2 : UInt64) (M : CM) (Q : CM → Prop) : Prop := (tg T h = 9 ∧ (nZ a1 ∧ (∀ M3 : CM, M3 = sI M 83 h a1 → (∀ M4 : CM, M4 = sD M3 82 h a2 → Q M4))))
abbrev rmX8_knowNumber : Room := { frames := 0, cells := 0, slots := 0, locals := 0 }
set_option maxHeartbeats 4000000 in
set_option maxRecDepth 100000 in
theorem tc_X8_knowNumber (l : Launch) (D : va_G) (kA : Nat → ClassId) (nm : Nat → Nat) (na : Nat) (sa sv : Nat → Nat) (sz : Nat) (T : LY) (h : Nat) (a1 : Int32) (a2 : UInt64) (M : CM) (Q : CM → Prop) (hw : fc_X8_knowNumber T h a1 a2 M Q) : Met l yX8_knowNumber wsX8_knowNumber rmX8_knowNumber (va_Pc [.ref h, .int a1, .double a2] (cPc nm na sa sv D kA T M sz)) (va_Qv Q (cB D kA (cF T sz) T) (cF T sz)) 0 0 (cF T sz) := by
  refine Met.ofW (cc := cX8_knowNumber) (maxL := 4) (ret := none) (by decide) rfl ?_
  intro p e s m args below meth c s₁ B hml hv
  obtain ⟨rfl, hsz, hP, hK, hSt⟩ := hv
  have hx := B.exec
  have hb := B.bytes
  have hr := B.returns
  have hts := atoms_spec (ws := wsX8_knowNumber) B.pre
  have hown : s.vm.findClass RX8 = some m.cls := findClass_of_methodNamed B.named
  have hlocks : meth.locks = false := B.notSynchronized
  subst hsz
  have hH : cH D kA (cF T s.heap.size) s.heap T M s.heap [] := ⟨hP.self, va_S.rf⟩
  have hA : ∀ q : Nat, s.heap.size ≤ q → cF T s.heap.size q := fun q z => Or.inr z
  generalize cF T s.heap.size = A at hH hA hSt ⊢
  have hl := lv_entry ([.ref h, .int a1, .double a2]) (n := 4) (by first | exact Nat.le_of_ble_eq_true rfl | simp [lg_sl, va_rf_cat, cat_ref, cat_int, cat_long, cat_double])
  rw [lg_entry_eq]
  generalize (lg_sl ([.ref h, .int a1, .double a2]) ++ List.replicate (4 - (lg_sl ([.ref h, .int a1, .double a2])).length) Slot.unset).toArray = ls at hl ⊢
  generalize ([.ref h, .int a1, .double a2] : List Value).toArray = args at hts ⊢
  have hl : lv_has ls 4 [(0, .ref h), (1, .int a1), (2, .double a2)] := hl
  have hin8 : ∀ w ∈ wsX80, w ∈ wsX8_knowNumber := by decide +kernel
  clear hP
  unfold fc_X8_knowNumber at hw
  have hst : ∀ (M : CM) (H : Heap) (locs : List Loc) (ls : Array Slot), cH D kA A s.heap T M H locs → lv_has ls 4 [(0, .ref h), (1, .int a1), (2, .double a2)] → (tg T h = 9 ∧ (nZ a1 ∧ (∀ M3 : CM, M3 = sI M 83 h a1 → (∀ M4 : CM, M4 = sD M3 82 h a2 → Q M4)))) → W p l e (headSpec wsX8_knowNumber rmX8_knowNumber).room s m args below meth c H locs 0 0 (MQ below (va_Qv Q (cB D kA A T) A) args s 0 0 A) (F0 m 0 ls []) := by
    intro M H locs ls hH hl hw
    refine lv_aload_n hx hb dX8_knowNumber_0 rfl (lv_at hl 0 rfl) ?_
    refine lv_iload_n hx hb dX8_knowNumber_1 rfl (lv_at hl 1 rfl) ?_
    obtain ⟨h1, hw⟩ := hw
    obtain ⟨h2, hw⟩ := hw
    refine cp_83 (x := a1) hx hb hts hin8 hown hK hH h1 (hts (.fieldLink RX8 23 "IdlCaller$Thing" "hasNumber" "Z") (by decide +kernel)) h2 dX8_knowNumber_2 (fun M3 H locs eM3 hH => ?_)
    replace hw := hw M3 eM3
    refine lv_aload_n hx hb dX8_knowNumber_5 rfl (lv_at hl 0 rfl) ?_
    refine lv_dload_n hx hb dX8_knowNumber_6 rfl (lv_at hl 2 rfl) ?_
    refine cp_82 (x := a2) hx hb hts hin8 hown hK hH h1 (hts (.fieldLink RX8 19 "IdlCaller$Thing" "real" "D") (by decide +kernel)) dX8_knowNumber_7 (fun M4 H locs eM4 hH => ?_)
    replace hw := hw M4 eM4
    exact c_retv hx hb hr hlocks hK hH hw dX8_knowNumber_10
  exact hst M s.heap [] ls hH hl hw
def fc_X8_copyPlain (T : LY) (h : Nat)  (a1 : Option Nat) (M : CM) (Q : CM → Prop) : Prop := (∃ p1 : Nat, a1 = some p1 ∧ (tg T p1 = 9 ∧ (tg T h = 9 ∧ fc_X8_become T h (cI M 80 p1) M (fun (M4 : CM) => (∀ M7 : CM, M7 = sJ M4 81 h (cJ M4 81 p1) → fc_X8_knowNumber T h (cI M7 83 p1) (cD M7 82 p1) M7 (fun (M8 : CM) => (∃ p11 : Nat, cR M8 84 h = some p11 ∧ (tg T p11 = 8 ∧ fc_X7_copy T p11 (cR M8 84 p1) M8 (fun (M13 : CM) => Q M13)))))))))
abbrev rmX8_copyPlain : Room := { frames := 1, cells := 0, slots := 0, locals := 23 }
set_option maxHeartbeats 4000000 in
set_option maxRecDepth 100000 in
theorem tc_X8_copyPlain (l : Launch) (D : va_G) (kA : Nat → ClassId) (nm : Nat → Nat) (na : Nat) (sa sv : Nat → Nat) (sz : Nat) (T : LY) (h : Nat) (a1 : Option Nat) (M : CM) (Q : CM → Prop) (hw : fc_X8_copyPlain T h a1 M Q) : Met l yX8_copyPlain wsX8_copyPlain rmX8_copyPlain (va_Pc [.ref h, va_rf a1] (cPc nm na sa sv D kA T M sz)) (va_Qv Q (cB D kA (cF T sz) T) (cF T sz)) 0 0 (cF T sz) := by
  refine Met.ofW (cc := cX8_copyPlain) (maxL := 2) (ret := none) (by decide) rfl ?_
  intro p e s m args below meth c s₁ B hml hv
  obtain ⟨rfl, hsz, hP, hK, hSt⟩ := hv
  have hx := B.exec
  have hb := B.bytes
  have hr := B.returns
  have hts := atoms_spec (ws := wsX8_copyPlain) B.pre
  have hown : s.vm.findClass RX8 = some m.cls := findClass_of_methodNamed B.named
  have hlocks : meth.locks = false := B.notSynchronized
  subst hsz
  have hH : cH D kA (cF T s.heap.size) s.heap T M s.heap [] := ⟨hP.self, va_S.rf⟩
  have hA : ∀ q : Nat, s.heap.size ≤ q → cF T s.heap.size q := fun q z => Or.inr z
  generalize cF T s.heap.size = A at hH hA hSt ⊢
  have hl := lv_entry ([.ref h, va_rf a1]) (n := 2) (by first | exact Nat.le_of_ble_eq_true rfl | simp [lg_sl, va_rf_cat, cat_ref, cat_int, cat_long, cat_double])
  rw [lg_entry_eq]
  generalize (lg_sl ([.ref h, va_rf a1]) ++ List.replicate (2 - (lg_sl ([.ref h, va_rf a1])).length) Slot.unset).toArray = ls at hl ⊢
  generalize ([.ref h, va_rf a1] : List Value).toArray = args at hts ⊢
  have hl : lv_has ls 2 [(0, .ref h), (1, va_rf a1)] := by simpa [lv_args, va_rf_cat, cat_ref, cat_int, cat_long, cat_double] using hl
  have hin8 : ∀ w ∈ wsX80, w ∈ wsX8_copyPlain := by decide +kernel
  clear hP
  unfold fc_X8_copyPlain at hw
  have hst : ∀ (M : CM) (H : Heap) (locs : List Loc) (ls : Array Slot), cH D kA A s.heap T M H locs → lv_has ls 2 [(0, .ref h), (1, va_rf a1)] → (∃ p1 : Nat, a1 = some p1 ∧ (tg T p1 = 9 ∧ (tg T h = 9 ∧ fc_X8_become T h (cI M 80 p1) M (fun (M4 : CM) => (∀ M7 : CM, M7 = sJ M4 81 h (cJ M4 81 p1) → fc_X8_knowNumber T h (cI M7 83 p1) (cD M7 82 p1) M7 (fun (M8 : CM) => (∃ p11 : Nat, cR M8 84 h = some p11 ∧ (tg T p11 = 8 ∧ fc_X7_copy T p11 (cR M8 84 p1) M8 (fun (M13 : CM) => Q M13))))))))) → W p l e (headSpec wsX8_copyPlain rmX8_copyPlain).room s m args below meth c H locs 0 0 (MQ below (va_Qv Q (cB D kA A T) A) args s 0 0 A) (F0 m 0 ls []) := by
    intro M H locs ls hH hl hw
    refine lv_aload_n hx hb dX8_copyPlain_0 rfl (lv_at hl 0 rfl) ?_
    refine s_aload_n hx hb dX8_copyPlain_1 rfl (lv_at hl 1 rfl) ?_
    obtain ⟨p1, ep1, hw⟩ := hw
    refine W.st (st' := [.ref p1, .ref h]) (by rw [ep1]; rfl) ?_
    obtain ⟨h2, hw⟩ := hw
    refine cg_80 hx hb hts hin8 hown hK hH h2 (hts (.fieldLink RX8 9 "IdlCaller$Thing" "kind" "I") (by decide +kernel)) dX8_copyPlain_2 ?_
    obtain ⟨h3, hw⟩ := hw
    refine c_callv (va_runV (As := [.int (cI M 80 p1)]) (rest := []) ⟨hx, hb, hml, hown, hts⟩ (tc_X8_become l D kA nm na sa sv H.size T h (cI M 80 p1) M _ hw) (cwV 1 hts gX8_copyPlain_X8_become rfl rfl rfl (by decide +kernel) ⟨(show (0 : Nat) + 1 ≤ 1 from Nat.le_of_ble_eq_true rfl), (show 8 + (2 + 11) + (0 : Nat) ≤ 23 from Nat.le_of_ble_eq_true rfl)⟩) (c_preV hK hH hA hSt (c_recv8 hK hH h3)) rfl rfl hl.1 rfl (lv_room (by first | exact Nat.le_of_ble_eq_true rfl | simp [va_rf_cat, cat_ref, cat_int, cat_long, cat_double, cat_null])) dX8_copyPlain_5 ⟨Nat.le_of_ble_eq_true rfl, Nat.le_of_ble_eq_true rfl⟩) hH hA (fun M4 H locs hw hH => ?_)
    refine lv_aload_n hx hb dX8_copyPlain_8 rfl (lv_at hl 0 rfl) ?_
    refine s_aload_n hx hb dX8_copyPlain_9 rfl (lv_at hl 1 rfl) ?_
    refine W.st (st' := [.ref p1, .ref h]) (by rw [ep1]; rfl) ?_
    refine cg_81 hx hb hts hin8 hown hK hH h2 (hts (.fieldLink RX8 15 "IdlCaller$Thing" "whole" "J") (by decide +kernel)) dX8_copyPlain_10 ?_
    refine cp_81 (x := cJ M4 81 p1) hx hb hts hin8 hown hK hH h3 (hts (.fieldLink RX8 15 "IdlCaller$Thing" "whole" "J") (by decide +kernel)) dX8_copyPlain_13 (fun M7 H locs eM7 hH => ?_)
    replace hw := hw M7 eM7
    refine lv_aload_n hx hb dX8_copyPlain_16 rfl (lv_at hl 0 rfl) ?_
    refine s_aload_n hx hb dX8_copyPlain_17 rfl (lv_at hl 1 rfl) ?_
    refine W.st (st' := [.ref p1, .ref h]) (by rw [ep1]; rfl) ?_
    refine cg_83 hx hb hts hin8 hown hK hH h2 (hts (.fieldLink RX8 23 "IdlCaller$Thing" "hasNumber" "Z") (by decide +kernel)) dX8_copyPlain_18 ?_
    refine s_aload_n hx hb dX8_copyPlain_21 rfl (lv_at hl 1 rfl) ?_
    refine W.st (st' := [.ref p1, .int (cI M7 83 p1), .ref h]) (by rw [ep1]; rfl) ?_
    refine cg_82 hx hb hts hin8 hown hK hH h2 (hts (.fieldLink RX8 19 "IdlCaller$Thing" "real" "D") (by decide +kernel)) dX8_copyPlain_22 ?_
    refine c_callv (va_runV (As := [.int (cI M7 83 p1), .double (cD M7 82 p1)]) (rest := []) ⟨hx, hb, hml, hown, hts⟩ (tc_X8_knowNumber l D kA nm na sa sv H.size T h (cI M7 83 p1) (cD M7 82 p1) M7 _ hw) (cwV 2 hts gX8_copyPlain_X8_knowNumber rfl rfl rfl (by decide +kernel) ⟨(show (0 : Nat) + 1 ≤ 1 from Nat.le_of_ble_eq_true rfl), (show 8 + (4 + 11) + (0 : Nat) ≤ 23 from Nat.le_of_ble_eq_true rfl)⟩) (c_preV hK hH hA hSt (c_recv8 hK hH h3)) rfl rfl hl.1 rfl (lv_room (by first | exact Nat.le_of_ble_eq_true rfl | simp [va_rf_cat, cat_ref, cat_int, cat_long, cat_double, cat_null])) dX8_copyPlain_25 ⟨Nat.le_of_ble_eq_true rfl, Nat.le_of_ble_eq_true rfl⟩) hH hA (fun M8 H locs hw hH => ?_)
    refine lv_aload_n hx hb dX8_copyPlain_28 rfl (lv_at hl 0 rfl) ?_
    refine cg_84 hx hb hts hin8 hown hK hH h3 (hts (.fieldLink RX8 35 "IdlCaller$Thing" "text" "LIdlCaller$Text;") (by decide +kernel)) dX8_copyPlain_29 ?_
    refine s_aload_n hx hb dX8_copyPlain_32 rfl (lv_at hl 1 rfl) ?_
    refine W.st (st' := [.ref p1, va_rf (cR M8 84 h)]) (by rw [ep1]; rfl) ?_
    refine cg_84 hx hb hts hin8 hown hK hH h2 (hts (.fieldLink RX8 35 "IdlCaller$Thing" "text" "LIdlCaller$Text;") (by decide +kernel)) dX8_copyPlain_33 ?_
    obtain ⟨p11, ep11, hw⟩ := hw
    refine W.st (st' := [va_rf (cR M8 84 p1), .ref p11]) (by rw [ep11]; rfl) ?_
    obtain ⟨h12, hw⟩ := hw
    refine c_callv (va_runV (As := [va_rf (cR M8 84 p1)]) (rest := []) ⟨hx, hb, hml, hown, hts⟩ (tc_X7_copy l D kA nm na sa sv H.size T p11 (cR M8 84 p1) M8 _ hw) (cwV 1 hts gX8_copyPlain_X7_copy rfl rfl rfl (by decide +kernel) ⟨(show (0 : Nat) + 1 ≤ 1 from Nat.le_of_ble_eq_true rfl), (show 8 + (3 + 11) + (0 : Nat) ≤ 23 from Nat.le_of_ble_eq_true rfl)⟩) (c_preV hK hH hA hSt (c_recv7 hK hH h12)) rfl rfl hl.1 rfl (lv_room (by first | exact Nat.le_of_ble_eq_true rfl | simp [va_rf_cat, cat_ref, cat_int, cat_long, cat_double, cat_null])) dX8_copyPlain_36 ⟨Nat.le_of_ble_eq_true rfl, Nat.le_of_ble_eq_true rfl⟩) hH hA (fun M13 H locs hw hH => ?_)
    exact c_retv hx hb hr hlocks hK hH hw dX8_copyPlain_39
  exact hst M s.heap [] ls hH hl hw
def fc_X8_isUndefinedOrNull_b23 (T : LY) (h : Nat) (Q : Int32 → CM → Prop) (s0 : Int32) (M : CM) : Prop := (nZ s0 ∧ Q s0 M)
def fc_X8_isUndefinedOrNull_b18 (T : LY) (h : Nat) (Q : Int32 → CM → Prop) (M : CM) : Prop := fc_X8_isUndefinedOrNull_b23 T h Q  1 M
def fc_X8_isUndefinedOrNull (T : LY) (h : Nat)  (M : CM) (Q : Int32 → CM → Prop) : Prop := (tg T h = 9 ∧ (((cI M 80 h) = 7 → fc_X8_isUndefinedOrNull_b18 T h Q   M) ∧ (¬ (cI M 80 h) = 7 → ((¬ (cI M 80 h) = 8 → fc_X8_isUndefinedOrNull_b23 T h Q  0 M) ∧ ((cI M 80 h) = 8 → fc_X8_isUndefinedOrNull_b18 T h Q   M)))))
abbrev rmX8_isUndefinedOrNull : Room := { frames := 0, cells := 0, slots := 0, locals := 0 }
set_option maxHeartbeats 4000000 in
set_option maxRecDepth 100000 in
theorem tc_X8_isUndefinedOrNull (l : Launch) (D : va_G) (kA : Nat → ClassId) (nm : Nat → Nat) (na : Nat) (sa sv : Nat → Nat) (sz : Nat) (T : LY) (h : Nat) (M : CM) (Q : Int32 → CM → Prop) (hw : fc_X8_isUndefinedOrNull T h  M Q) : Met l yX8_isUndefinedOrNull wsX8_isUndefinedOrNull rmX8_isUndefinedOrNull (va_Pc [.ref h] (cPc nm na sa sv D kA T M sz)) (va_Qi Q (cB D kA (cF T sz) T) (cF T sz)) 0 0 (cF T sz) := by
  refine Met.ofW (cc := cX8_isUndefinedOrNull) (maxL := 1) (ret := (some .boolean)) (by decide) rfl ?_
  intro p e s m args below meth c s₁ B hml hv
  obtain ⟨rfl, hsz, hP, hK, hSt⟩ := hv
  have hx := B.exec
  have hb := B.bytes
  have hr := B.returns
  have hts := atoms_spec (ws := wsX8_isUndefinedOrNull) B.pre
  have hown : s.vm.findClass RX8 = some m.cls := findClass_of_methodNamed B.named
  have hlocks : meth.locks = false := B.notSynchronized
  subst hsz
  have hH : cH D kA (cF T s.heap.size) s.heap T M s.heap [] := ⟨hP.self, va_S.rf⟩
  have hA : ∀ q : Nat, s.heap.size ≤ q → cF T s.heap.size q := fun q z => Or.inr z
  generalize cF T s.heap.size = A at hH hA hSt ⊢
  have hl := lv_entry ([.ref h]) (n := 1) (by first | exact Nat.le_of_ble_eq_true rfl | simp [lg_sl, va_rf_cat, cat_ref, cat_int, cat_long, cat_double])
  rw [lg_entry_eq]
  generalize (lg_sl ([.ref h]) ++ List.replicate (1 - (lg_sl ([.ref h])).length) Slot.unset).toArray = ls at hl ⊢
  generalize ([.ref h] : List Value).toArray = args at hts ⊢
  have hl : lv_has ls 1 [(0, .ref h)] := hl
  have hin8 : ∀ w ∈ wsX80, w ∈ wsX8_isUndefinedOrNull := by decide +kernel
  have b23 : ∀ (s0 : Int32) (M : CM) (H : Heap) (locs : List Loc) (ls : Array Slot), cH D kA A s.heap T M H locs → lv_has ls 1 [] → fc_X8_isUndefinedOrNull_b23 T h Q  s0 M → W p l e (headSpec wsX8_isUndefinedOrNull rmX8_isUndefinedOrNull).room s m args below meth c H locs 0 0 (MQ below (va_Qi Q (cB D kA A T) A) args s 0 0 A) (F0 m 23 ls [.int s0]) := by
    intro   s0 M H locs ls hH hl hw
    unfold fc_X8_isUndefinedOrNull_b23 at hw
    exact c_retz hx hb hr hw.1.1 hlocks hK hH hw.2 dX8_isUndefinedOrNull_23
  have b18 : ∀ (M : CM) (H : Heap) (locs : List Loc) (ls : Array Slot), cH D kA A s.heap T M H locs → lv_has ls 1 [] → fc_X8_isUndefinedOrNull_b18 T h Q   M → W p l e (headSpec wsX8_isUndefinedOrNull rmX8_isUndefinedOrNull).room s m args below meth c H locs 0 0 (MQ below (va_Qi Q (cB D kA A T) A) args s 0 0 A) (F0 m 18 ls []) := by
    intro    M H locs ls hH hl hw
    unfold fc_X8_isUndefinedOrNull_b18 at hw
    refine lv_iconst (v := 1) hx hb dX8_isUndefinedOrNull_18 (by decide) ?_
    refine lv_goto (tgt := 23) hx hb dX8_isUndefinedOrNull_19 (by decide) ?_
    exact b23   1 M H locs ls hH (lv_sub hl [] rfl) hw
  clear hP
  unfold fc_X8_isUndefinedOrNull at hw
  have hst : ∀ (M : CM) (H : Heap) (locs : List Loc) (ls : Array Slot), cH D kA A s.heap T M H locs → lv_has ls 1 [(0, .ref h)] → (tg T h = 9 ∧ (((cI M 80 h) = 7 → fc_X8_isUndefinedOrNull_b18 T h Q   M) ∧ (¬ (cI M 80 h) = 7 → ((¬ (cI M 80 h) = 8 → fc_X8_isUndefinedOrNull_b23 T h Q  0 M) ∧ ((cI M 80 h) = 8 → fc_X8_isUndefinedOrNull_b18 T h Q   M))))) → W p l e (headSpec wsX8_isUndefinedOrNull rmX8_isUndefinedOrNull).room s m args below meth c H locs 0 0 (MQ below (va_Qi Q (cB D kA A T) A) args s 0 0 A) (F0 m 0 ls []) := by
    intro M H locs ls hH hl hw
    refine lv_aload_n hx hb dX8_isUndefinedOrNull_0 rfl (lv_at hl 0 rfl) ?_
    obtain ⟨h1, hw⟩ := hw
    refine cg_80 hx hb hts hin8 hown hK hH h1 (hts (.fieldLink RX8 9 "IdlCaller$Thing" "kind" "I") (by decide +kernel)) dX8_isUndefinedOrNull_1 ?_
    refine lv_bipush (v := 7) hx hb dX8_isUndefinedOrNull_4 (by decide) ?_
    refine lv_icmp_eq (tgt := 18) hx hb dX8_isUndefinedOrNull_6 (by decide) (fun c2 => ?_) (fun c2 => ?_)
    · replace hw := hw.1 c2
      exact b18    M H locs ls hH (lv_sub hl [] rfl) hw
    · replace hw := hw.2 c2
      refine lv_aload_n hx hb dX8_isUndefinedOrNull_9 rfl (lv_at hl 0 rfl) ?_
      refine cg_80 hx hb hts hin8 hown hK hH h1 (hts (.fieldLink RX8 9 "IdlCaller$Thing" "kind" "I") (by decide +kernel)) dX8_isUndefinedOrNull_10 ?_
      refine lv_bipush (v := 8) hx hb dX8_isUndefinedOrNull_13 (by decide) ?_
      refine lv_icmp_ne (tgt := 22) hx hb dX8_isUndefinedOrNull_15 (by decide) (fun c3 => ?_) (fun c3 => ?_)
      · replace hw := hw.1 c3
        refine lv_iconst (v := 0) hx hb dX8_isUndefinedOrNull_22 (by decide) ?_
        exact b23   0 M H locs ls hH (lv_sub hl [] rfl) hw
      · replace hw := hw.2 c3
        exact b18    M H locs ls hH (lv_sub hl [] rfl) hw
  exact hst M s.heap [] ls hH hl hw
def fc_X8_appendItem_b73 (T : LY) (h : Nat) (Q : CM → Prop) (M : CM) : Prop := Q M
def fc_X8_appendItem_c34 (T : LY) (h : Nat) (Q : CM → Prop) (k34 : Option Nat → Int32 → CM → Prop) (v1 : Option Nat) (v3 : Int32) (M : CM) : Prop := (∃ p1 : Nat, v1 = some p1 ∧ (tg T p1 = 9 ∧ (∃ p3 : Nat, cR M 84 p1 = some p3 ∧ (tg T p3 = 8 ∧ (((cI M 71 p3) ≤ v3 → fc_X8_appendItem_b73 T h Q   M) ∧ (¬ (cI M 71 p3) ≤ v3 → fc_X8_isUndefinedOrNull T p1 M (fun (r7 : Int32) (M6 : CM) => ((¬ r7 = 0 → fc_X8_appendItem_b73 T h Q   M6) ∧ (r7 = 0 → (tg T h = 9 ∧ (∃ p11 : Nat, cR M6 84 p1 = some p11 ∧ (tg T p11 = 8 ∧ fc_X7_at T p11 v3 M6 (fun (r14 : Int32) (M13 : CM) => (∃ p16 : Nat, cR M6 84 h = some p16 ∧ (tg T p16 = 8 ∧ fc_X7_append T p16 r14 M13 (fun (M18 : CM) => (∀ x21 : Int32, x21 = v3 + 1 → k34 v1 x21 M18)))))))))))))))))
def fc_X8_appendItem_l34 (T : LY) (h : Nat) (Q : CM → Prop) : Nat → Option Nat → Int32 → CM → Prop := lit (τ := Option Nat → Int32 → CM → Prop) (fun _ _ _ => False) (fun k => fc_X8_appendItem_c34 T h Q  k)
def fc_X8_appendItem_b32 (T : LY) (h : Nat) (Q : CM → Prop) (v1 : Option Nat) (M : CM) : Prop := (∃ nn : Nat, fc_X8_appendItem_l34 T h Q  nn v1 0 M)
def fc_X8_appendItem (T : LY) (h : Nat)  (a1 : Option Nat) (M : CM) (Q : CM → Prop) : Prop := (tg T h = 9 ∧ fc_X8_nextItem T h M (fun (r24 : Option Nat) (M23 : CM) => ((¬ r24 = none → (∃ p27 : Nat, r24 = some p27 ∧ (tg T p27 = 9 ∧ fc_X8_copyPlain T p27 a1 M23 (fun (M29 : CM) => (((cI M29 85 h) ≤ 1 → fc_X8_appendItem_b32 T h Q  a1 M29) ∧ (¬ (cI M29 85 h) ≤ 1 → (∃ p33 : Nat, cR M29 84 h = some p33 ∧ (tg T p33 = 8 ∧ fc_X7_append T p33 44 M29 (fun (M35 : CM) => fc_X8_appendItem_b32 T h Q  a1 M35))))))))) ∧ (r24 = none → Q M23))))
abbrev rmX8_appendItem : Room := { frames := 2, cells := 0, slots := 0, locals := 44 }
set_option maxHeartbeats 4000000 in
set_option maxRecDepth 100000 in
theorem tc_X8_appendItem (l : Launch) (D : va_G) (kA : Nat → ClassId) (nm : Nat → Nat) (na : Nat) (sa sv : Nat → Nat) (sz : Nat) (T : LY) (h : Nat) (a1 : Option Nat) (M : CM) (Q : CM → Prop) (hw : fc_X8_appendItem T h a1 M Q) : Met l yX8_appendItem wsX8_appendItem rmX8_appendItem (va_Pc [.ref h, va_rf a1] (cPc nm na sa sv D kA T M sz)) (va_Qv Q (cB D kA (cF T sz) T) (cF T sz)) 0 0 (cF T sz) := by
  refine Met.ofW (cc := cX8_appendItem) (maxL := 4) (ret := none) (by decide) rfl ?_
  intro p e s m args below meth c s₁ B hml hv
  obtain ⟨rfl, hsz, hP, hK, hSt⟩ := hv
  have hx := B.exec
  have hb := B.bytes
  have hr := B.returns
  have hts := atoms_spec (ws := wsX8_appendItem) B.pre
  have hown : s.vm.findClass RX8 = some m.cls := findClass_of_methodNamed B.named
  have hlocks : meth.locks = false := B.notSynchronized
  subst hsz
  have hH : cH D kA (cF T s.heap.size) s.heap T M s.heap [] := ⟨hP.self, va_S.rf⟩
  have hA : ∀ q : Nat, s.heap.size ≤ q → cF T s.heap.size q := fun q z => Or.inr z
  generalize cF T s.heap.size = A at hH hA hSt ⊢
  have hl := lv_entry ([.ref h, va_rf a1]) (n := 4) (by first | exact Nat.le_of_ble_eq_true rfl | simp [lg_sl, va_rf_cat, cat_ref, cat_int, cat_long, cat_double])
  rw [lg_entry_eq]
  generalize (lg_sl ([.ref h, va_rf a1]) ++ List.replicate (4 - (lg_sl ([.ref h, va_rf a1])).length) Slot.unset).toArray = ls at hl ⊢
  generalize ([.ref h, va_rf a1] : List Value).toArray = args at hts ⊢
  have hl : lv_has ls 4 [(0, .ref h), (1, va_rf a1)] := by simpa [lv_args, va_rf_cat, cat_ref, cat_int, cat_long, cat_double] using hl
  have hin7 : ∀ w ∈ wsX70, w ∈ wsX8_appendItem := by decide +kernel
  have hin8 : ∀ w ∈ wsX80, w ∈ wsX8_appendItem := by decide +kernel
  have b73 : ∀ (M : CM) (H : Heap) (locs : List Loc) (ls : Array Slot), cH D kA A s.heap T M H locs → lv_has ls 4 [] → fc_X8_appendItem_b73 T h Q   M → W p l e (headSpec wsX8_appendItem rmX8_appendItem).room s m args below meth c H locs 0 0 (MQ below (va_Qv Q (cB D kA A T) A) args s 0 0 A) (F0 m 73 ls []) := by
    intro    M H locs ls hH hl hw
    unfold fc_X8_appendItem_b73 at hw
    exact c_retv hx hb hr hlocks hK hH hw dX8_appendItem_73
  have l34 : ∀ (nn : Nat) (v1 : Option Nat) (v3 : Int32) (M : CM) (H : Heap) (locs : List Loc) (ls : Array Slot), cH D kA A s.heap T M H locs → lv_has ls 4 [(0, .ref h), (1, va_rf v1), (3, .int v3)] → fc_X8_appendItem_l34 T h Q  nn v1 v3 M → W p l e (headSpec wsX8_appendItem rmX8_appendItem).room s m args below meth c H locs 0 0 (MQ below (va_Qv Q (cB D kA A T) A) args s 0 0 A) (F0 m 34 ls []) := by
    intro   nn
    induction nn with
    | zero => intro v1 v3 M H locs ls hH hl hw; exact False.elim hw
    | succ nn hk34 =>
      intro v1 v3 M H locs ls hH hl hw
      replace hw : fc_X8_appendItem_c34 T h Q  (fc_X8_appendItem_l34 T h Q  nn) v1 v3 M := hw
      unfold fc_X8_appendItem_c34 at hw
      refine lv_iload_n hx hb dX8_appendItem_34 rfl (lv_at hl 2 rfl) ?_
      refine s_aload_n hx hb dX8_appendItem_35 rfl (lv_at hl 1 rfl) ?_
      obtain ⟨p1, ep1, hw⟩ := hw
      refine W.st (st' := [.ref p1, .int v3]) (by rw [ep1]; rfl) ?_
      obtain ⟨h2, hw⟩ := hw
      refine cg_84 hx hb hts hin8 hown hK hH h2 (hts (.fieldLink RX8 35 "IdlCaller$Thing" "text" "LIdlCaller$Text;") (by decide +kernel)) dX8_appendItem_36 ?_
      obtain ⟨p3, ep3, hw⟩ := hw
      refine W.st (st' := [.ref p3, .int v3]) (by rw [ep3]; rfl) ?_
      obtain ⟨h4, hw⟩ := hw
      refine cg_71 hx hb hts hin7 hown hK hH h4 (hts (.fieldLink RX8 68 "IdlCaller$Text" "length" "I") (by decide +kernel)) dX8_appendItem_39 ?_
      refine lv_icmp_ge (tgt := 73) hx hb dX8_appendItem_42 (by decide) (fun c5 => ?_) (fun c5 => ?_)
      · replace hw := hw.1 c5
        exact b73    M H locs ls hH (lv_sub hl [] rfl) hw
      · replace hw := hw.2 c5
        refine s_aload_n hx hb dX8_appendItem_45 rfl (lv_at hl 1 rfl) ?_
        refine W.st (st' := [.ref p1]) (by rw [ep1]; rfl) ?_
        refine c_calli (va_runV (As := []) (rest := []) ⟨hx, hb, hml, hown, hts⟩ (tc_X8_isUndefinedOrNull l D kA nm na sa sv H.size T p1 M _ hw) (cwV 0 hts gX8_appendItem_X8_isUndefinedOrNull rfl rfl rfl (by decide +kernel) ⟨(show (0 : Nat) + 1 ≤ 2 from Nat.le_of_ble_eq_true rfl), (show 8 + (1 + 11) + (0 : Nat) ≤ 44 from Nat.le_of_ble_eq_true rfl)⟩) (c_preV hK hH hA hSt (c_recv8 hK hH h2)) rfl rfl hl.1 rfl (lv_room (by first | exact Nat.le_of_ble_eq_true rfl | simp [va_rf_cat, cat_ref, cat_int, cat_long, cat_double, cat_null])) dX8_appendItem_46 ⟨Nat.le_of_ble_eq_true rfl, Nat.le_of_ble_eq_true rfl⟩) hH hA (fun r7 M6 H locs hw hH => ?_)
        refine lv_if_ne (tgt := 73) hx hb dX8_appendItem_49 (by decide) (fun c9 => ?_) (fun c9 => ?_)
        · replace hw := hw.1 c9
          exact b73    M6 H locs ls hH (lv_sub hl [] rfl) hw
        · replace hw := hw.2 c9
          refine lv_aload_n hx hb dX8_appendItem_52 rfl (lv_at hl 0 rfl) ?_
          obtain ⟨h10, hw⟩ := hw
          refine cg_84 hx hb hts hin8 hown hK hH h10 (hts (.fieldLink RX8 35 "IdlCaller$Thing" "text" "LIdlCaller$Text;") (by decide +kernel)) dX8_appendItem_53 ?_
          refine s_aload_n hx hb dX8_appendItem_56 rfl (lv_at hl 1 rfl) ?_
          refine W.st (st' := [.ref p1, va_rf (cR M6 84 h)]) (by rw [ep1]; rfl) ?_
          refine cg_84 hx hb hts hin8 hown hK hH h2 (hts (.fieldLink RX8 35 "IdlCaller$Thing" "text" "LIdlCaller$Text;") (by decide +kernel)) dX8_appendItem_57 ?_
          refine lv_iload_n hx hb dX8_appendItem_60 rfl (lv_at hl 2 rfl) ?_
          obtain ⟨p11, ep11, hw⟩ := hw
          refine W.st (st' := [.int v3, .ref p11, va_rf (cR M6 84 h)]) (by rw [ep11]; rfl) ?_
          obtain ⟨h12, hw⟩ := hw
          refine c_calli (va_runV (As := [.int v3]) (rest := [va_rf (cR M6 84 h)]) ⟨hx, hb, hml, hown, hts⟩ (tc_X7_at l D kA nm na sa sv H.size T p11 v3 M6 _ hw) (cwV 1 hts gX8_appendItem_X7_at rfl rfl rfl (by decide +kernel) ⟨(show (0 : Nat) + 1 ≤ 2 from Nat.le_of_ble_eq_true rfl), (show 8 + (2 + 11) + (0 : Nat) ≤ 44 from Nat.le_of_ble_eq_true rfl)⟩) (c_preV hK hH hA hSt (c_recv7 hK hH h12)) rfl rfl hl.1 rfl (lv_room (by first | exact Nat.le_of_ble_eq_true rfl | simp [va_rf_cat, cat_ref, cat_int, cat_long, cat_double, cat_null])) dX8_appendItem_61 ⟨Nat.le_of_ble_eq_true rfl, Nat.le_of_ble_eq_true rfl⟩) hH hA (fun r14 M13 H locs hw hH => ?_)
          obtain ⟨p16, ep16, hw⟩ := hw
          refine W.st (st' := [.int r14, .ref p16]) (by rw [ep16]; rfl) ?_
          obtain ⟨h17, hw⟩ := hw
          refine c_callv (va_runV (As := [.int r14]) (rest := []) ⟨hx, hb, hml, hown, hts⟩ (tc_X7_append l D kA nm na sa sv H.size T p16 r14 M13 _ hw) (cwV 1 hts gX8_appendItem_X7_append rfl rfl rfl (by decide +kernel) ⟨(show (0 : Nat) + 1 ≤ 2 from Nat.le_of_ble_eq_true rfl), (show 8 + (2 + 11) + (0 : Nat) ≤ 44 from Nat.le_of_ble_eq_true rfl)⟩) (c_preV hK hH hA hSt (c_recv7 hK hH h17)) rfl rfl hl.1 rfl (lv_room (by first | exact Nat.le_of_ble_eq_true rfl | simp [va_rf_cat, cat_ref, cat_int, cat_long, cat_double, cat_null])) dX8_appendItem_64 ⟨Nat.le_of_ble_eq_true rfl, Nat.le_of_ble_eq_true rfl⟩) hH hA (fun M18 H locs hw hH => ?_)
          obtain ⟨x21, ex21⟩ : ∃ y : Int32, y = v3 + 1 := ⟨_, rfl⟩
          replace hw := hw x21 ex21
          refine lv_iinc (v := x21) (lv' := [(3, .int x21), (0, .ref h), (1, va_rf v1)]) hx hb dX8_appendItem_67 hl (k := 2) rfl (by rw [ex21]; rfl) (by decide) (by first | rfl | simp [va_rf_cat, cat_ref, cat_int, cat_long, cat_double, cat_null]) (fun ls hl => ?_)
          refine lv_goto (tgt := 34) hx hb dX8_appendItem_70 (by decide) ?_
          exact hk34 v1 x21 M18 H locs ls hH (lv_sub hl [1, 2, 0] rfl) hw
  have b32 : ∀ (v1 : Option Nat) (M : CM) (H : Heap) (locs : List Loc) (ls : Array Slot), cH D kA A s.heap T M H locs → lv_has ls 4 [(0, .ref h), (1, va_rf v1)] → fc_X8_appendItem_b32 T h Q  v1 M → W p l e (headSpec wsX8_appendItem rmX8_appendItem).room s m args below meth c H locs 0 0 (MQ below (va_Qv Q (cB D kA A T) A) args s 0 0 A) (F0 m 32 ls []) := by
    intro   v1 M H locs ls hH hl hw
    unfold fc_X8_appendItem_b32 at hw
    refine lv_iconst (v := 0) hx hb dX8_appendItem_32 (by decide) ?_
    refine lv_istore_n (i := 3) (lv' := [(3, .int 0), (0, .ref h), (1, va_rf v1)]) hx hb dX8_appendItem_33 rfl hl (by decide) (by first | rfl | simp [va_rf_cat, cat_ref, cat_int, cat_long, cat_double, cat_null]) (fun ls hl => ?_)
    obtain ⟨nn, hw⟩ := hw
    exact l34   nn v1 0 M H locs ls hH (lv_sub hl [1, 2, 0] rfl) hw
  clear hP
  unfold fc_X8_appendItem at hw
  have hst : ∀ (M : CM) (H : Heap) (locs : List Loc) (ls : Array Slot), cH D kA A s.heap T M H locs → lv_has ls 4 [(0, .ref h), (1, va_rf a1)] → (tg T h = 9 ∧ fc_X8_nextItem T h M (fun (r24 : Option Nat) (M23 : CM) => ((¬ r24 = none → (∃ p27 : Nat, r24 = some p27 ∧ (tg T p27 = 9 ∧ fc_X8_copyPlain T p27 a1 M23 (fun (M29 : CM) => (((cI M29 85 h) ≤ 1 → fc_X8_appendItem_b32 T h Q  a1 M29) ∧ (¬ (cI M29 85 h) ≤ 1 → (∃ p33 : Nat, cR M29 84 h = some p33 ∧ (tg T p33 = 8 ∧ fc_X7_append T p33 44 M29 (fun (M35 : CM) => fc_X8_appendItem_b32 T h Q  a1 M35))))))))) ∧ (r24 = none → Q M23)))) → W p l e (headSpec wsX8_appendItem rmX8_appendItem).room s m args below meth c H locs 0 0 (MQ below (va_Qv Q (cB D kA A T) A) args s 0 0 A) (F0 m 0 ls []) := by
    intro M H locs ls hH hl hw
    refine lv_aload_n hx hb dX8_appendItem_0 rfl (lv_at hl 0 rfl) ?_
    obtain ⟨h22, hw⟩ := hw
    refine c_callq (va_runV (As := []) (rest := []) ⟨hx, hb, hml, hown, hts⟩ (tc_X8_nextItem l D kA nm na sa sv H.size T h M _ hw) (cwV 0 hts gX8_appendItem_X8_nextItem rfl rfl rfl (by decide +kernel) ⟨(show (1 : Nat) + 1 ≤ 2 from Nat.le_of_ble_eq_true rfl), (show 8 + (2 + 11) + (21 : Nat) ≤ 44 from Nat.le_of_ble_eq_true rfl)⟩) (c_preV hK hH hA hSt (c_recv8 hK hH h22)) rfl rfl hl.1 rfl (lv_room (by first | exact Nat.le_of_ble_eq_true rfl | simp [va_rf_cat, cat_ref, cat_int, cat_long, cat_double, cat_null])) dX8_appendItem_1 ⟨Nat.le_of_ble_eq_true rfl, Nat.le_of_ble_eq_true rfl⟩) hH hA (fun r24 M23 H locs hw hH => ?_)
    refine s_astore_n (i := 2) (lv' := [(2, va_rf r24), (0, .ref h), (1, va_rf a1)]) hx hb dX8_appendItem_4 rfl hl (by decide) (by first | rfl | simp [va_rf_cat, cat_ref, cat_int, cat_long, cat_double, cat_null]) (fun ls hl => ?_)
    refine s_aload_n hx hb dX8_appendItem_5 rfl (lv_at hl 0 rfl) ?_
    refine s_ifnonnull (tgt := 10) hx hb dX8_appendItem_6 (by decide) (fun c26 => ?_) (fun c26 => ?_)
    · replace hw := hw.1 c26
      refine s_aload_n hx hb dX8_appendItem_10 rfl (lv_at hl 0 rfl) ?_
      refine s_aload_n hx hb dX8_appendItem_11 rfl (lv_at hl 2 rfl) ?_
      obtain ⟨p27, ep27, hw⟩ := hw
      refine W.st (st' := [va_rf a1, .ref p27]) (by rw [ep27]; rfl) ?_
      obtain ⟨h28, hw⟩ := hw
      refine c_callv (va_runV (As := [va_rf a1]) (rest := []) ⟨hx, hb, hml, hown, hts⟩ (tc_X8_copyPlain l D kA nm na sa sv H.size T p27 a1 M23 _ hw) (cwV 1 hts gX8_appendItem_X8_copyPlain rfl rfl rfl (by decide +kernel) ⟨(show (1 : Nat) + 1 ≤ 2 from Nat.le_of_ble_eq_true rfl), (show 8 + (2 + 11) + (23 : Nat) ≤ 44 from Nat.le_of_ble_eq_true rfl)⟩) (c_preV hK hH hA hSt (c_recv8 hK hH h28)) rfl rfl hl.1 rfl (lv_room (by first | exact Nat.le_of_ble_eq_true rfl | simp [va_rf_cat, cat_ref, cat_int, cat_long, cat_double, cat_null])) dX8_appendItem_12 ⟨Nat.le_of_ble_eq_true rfl, Nat.le_of_ble_eq_true rfl⟩) hH hA (fun M29 H locs hw hH => ?_)
      refine lv_aload_n hx hb dX8_appendItem_15 rfl (lv_at hl 1 rfl) ?_
      refine cg_85 hx hb hts hin8 hown hK hH h22 (hts (.fieldLink RX8 27 "IdlCaller$Thing" "size" "I") (by decide +kernel)) dX8_appendItem_16 ?_
      refine lv_iconst (v := 1) hx hb dX8_appendItem_19 (by decide) ?_
      refine lv_icmp_le (tgt := 32) hx hb dX8_appendItem_20 (by decide) (fun c32 => ?_) (fun c32 => ?_)
      · replace hw := hw.1 c32
        exact b32   a1 M29 H locs ls hH (lv_sub hl [1, 2] rfl) hw
      · replace hw := hw.2 c32
        refine lv_aload_n hx hb dX8_appendItem_23 rfl (lv_at hl 1 rfl) ?_
        refine cg_84 hx hb hts hin8 hown hK hH h22 (hts (.fieldLink RX8 35 "IdlCaller$Thing" "text" "LIdlCaller$Text;") (by decide +kernel)) dX8_appendItem_24 ?_
        refine lv_bipush (v := 44) hx hb dX8_appendItem_27 (by decide) ?_
        obtain ⟨p33, ep33, hw⟩ := hw
        refine W.st (st' := [.int 44, .ref p33]) (by rw [ep33]; rfl) ?_
        obtain ⟨h34, hw⟩ := hw
        refine c_callv (va_runV (As := [.int 44]) (rest := []) ⟨hx, hb, hml, hown, hts⟩ (tc_X7_append l D kA nm na sa sv H.size T p33 44 M29 _ hw) (cwV 1 hts gX8_appendItem_X7_append rfl rfl rfl (by decide +kernel) ⟨(show (0 : Nat) + 1 ≤ 2 from Nat.le_of_ble_eq_true rfl), (show 8 + (2 + 11) + (0 : Nat) ≤ 44 from Nat.le_of_ble_eq_true rfl)⟩) (c_preV hK hH hA hSt (c_recv7 hK hH h34)) rfl rfl hl.1 rfl (lv_room (by first | exact Nat.le_of_ble_eq_true rfl | simp [va_rf_cat, cat_ref, cat_int, cat_long, cat_double, cat_null])) dX8_appendItem_29 ⟨Nat.le_of_ble_eq_true rfl, Nat.le_of_ble_eq_true rfl⟩) hH hA (fun M35 H locs hw hH => ?_)
        exact b32   a1 M35 H locs ls hH (lv_sub hl [1, 2] rfl) hw
    · replace hw := hw.2 c26
      exact c_retv hx hb hr hlocks hK hH hw dX8_appendItem_9
  exact hst M s.heap [] ls hH hl hw
def fc_X8_becomeWhole (T : LY) (h : Nat)  (a1 : Int32) (a2 : Int64) (M : CM) (Q : CM → Prop) : Prop := (tg T h = 9 ∧ fc_X8_become T h a1 M (fun (M2 : CM) => (∀ M5 : CM, M5 = sJ M2 81 h a2 → Q M5)))
abbrev rmX8_becomeWhole : Room := { frames := 1, cells := 0, slots := 0, locals := 21 }
set_option maxHeartbeats 4000000 in
set_option maxRecDepth 100000 in
theorem tc_X8_becomeWhole (l : Launch) (D : va_G) (kA : Nat → ClassId) (nm : Nat → Nat) (na : Nat) (sa sv : Nat → Nat) (sz : Nat) (T : LY) (h : Nat) (a1 : Int32) (a2 : Int64) (M : CM) (Q : CM → Prop) (hw : fc_X8_becomeWhole T h a1 a2 M Q) : Met l yX8_becomeWhole wsX8_becomeWhole rmX8_becomeWhole (va_Pc [.ref h, .int a1, .long a2] (cPc nm na sa sv D kA T M sz)) (va_Qv Q (cB D kA (cF T sz) T) (cF T sz)) 0 0 (cF T sz) := by
  refine Met.ofW (cc := cX8_becomeWhole) (maxL := 4) (ret := none) (by decide) rfl ?_
  intro p e s m args below meth c s₁ B hml hv
  obtain ⟨rfl, hsz, hP, hK, hSt⟩ := hv
  have hx := B.exec
  have hb := B.bytes
  have hr := B.returns
  have hts := atoms_spec (ws := wsX8_becomeWhole) B.pre
  have hown : s.vm.findClass RX8 = some m.cls := findClass_of_methodNamed B.named
  have hlocks : meth.locks = false := B.notSynchronized
  subst hsz
  have hH : cH D kA (cF T s.heap.size) s.heap T M s.heap [] := ⟨hP.self, va_S.rf⟩
  have hA : ∀ q : Nat, s.heap.size ≤ q → cF T s.heap.size q := fun q z => Or.inr z
  generalize cF T s.heap.size = A at hH hA hSt ⊢
  have hl := lv_entry ([.ref h, .int a1, .long a2]) (n := 4) (by first | exact Nat.le_of_ble_eq_true rfl | simp [lg_sl, va_rf_cat, cat_ref, cat_int, cat_long, cat_double])
  rw [lg_entry_eq]
  generalize (lg_sl ([.ref h, .int a1, .long a2]) ++ List.replicate (4 - (lg_sl ([.ref h, .int a1, .long a2])).length) Slot.unset).toArray = ls at hl ⊢
  generalize ([.ref h, .int a1, .long a2] : List Value).toArray = args at hts ⊢
  have hl : lv_has ls 4 [(0, .ref h), (1, .int a1), (2, .long a2)] := hl
  have hin8 : ∀ w ∈ wsX80, w ∈ wsX8_becomeWhole := by decide +kernel
  clear hP
  unfold fc_X8_becomeWhole at hw
  have hst : ∀ (M : CM) (H : Heap) (locs : List Loc) (ls : Array Slot), cH D kA A s.heap T M H locs → lv_has ls 4 [(0, .ref h), (1, .int a1), (2, .long a2)] → (tg T h = 9 ∧ fc_X8_become T h a1 M (fun (M2 : CM) => (∀ M5 : CM, M5 = sJ M2 81 h a2 → Q M5))) → W p l e (headSpec wsX8_becomeWhole rmX8_becomeWhole).room s m args below meth c H locs 0 0 (MQ below (va_Qv Q (cB D kA A T) A) args s 0 0 A) (F0 m 0 ls []) := by
    intro M H locs ls hH hl hw
    refine lv_aload_n hx hb dX8_becomeWhole_0 rfl (lv_at hl 0 rfl) ?_
    refine lv_iload_n hx hb dX8_becomeWhole_1 rfl (lv_at hl 1 rfl) ?_
    obtain ⟨h1, hw⟩ := hw
    refine c_callv (va_runV (As := [.int a1]) (rest := []) ⟨hx, hb, hml, hown, hts⟩ (tc_X8_become l D kA nm na sa sv H.size T h a1 M _ hw) (cwV 1 hts gX8_becomeWhole_X8_become rfl rfl rfl (by decide +kernel) ⟨(show (0 : Nat) + 1 ≤ 1 from Nat.le_of_ble_eq_true rfl), (show 8 + (2 + 11) + (0 : Nat) ≤ 21 from Nat.le_of_ble_eq_true rfl)⟩) (c_preV hK hH hA hSt (c_recv8 hK hH h1)) rfl rfl hl.1 rfl (lv_room (by first | exact Nat.le_of_ble_eq_true rfl | simp [va_rf_cat, cat_ref, cat_int, cat_long, cat_double, cat_null])) dX8_becomeWhole_2 ⟨Nat.le_of_ble_eq_true rfl, Nat.le_of_ble_eq_true rfl⟩) hH hA (fun M2 H locs hw hH => ?_)
    refine lv_aload_n hx hb dX8_becomeWhole_5 rfl (lv_at hl 0 rfl) ?_
    refine lv_lload_n hx hb dX8_becomeWhole_6 rfl (lv_at hl 2 rfl) ?_
    refine cp_81 (x := a2) hx hb hts hin8 hown hK hH h1 (hts (.fieldLink RX8 15 "IdlCaller$Thing" "whole" "J") (by decide +kernel)) dX8_becomeWhole_7 (fun M5 H locs eM5 hH => ?_)
    replace hw := hw M5 eM5
    exact c_retv hx hb hr hlocks hK hH hw dX8_becomeWhole_10
  exact hst M s.heap [] ls hH hl hw
def fc_X8_becomeDouble (T : LY) (h : Nat)  (a1 : UInt64) (M : CM) (Q : CM → Prop) : Prop := (tg T h = 9 ∧ fc_X8_become T h 4 M (fun (M2 : CM) => fc_X8_knowNumber T h 1 a1 M2 (fun (M5 : CM) => Q M5)))
abbrev rmX8_becomeDouble : Room := { frames := 1, cells := 0, slots := 0, locals := 23 }
set_option maxHeartbeats 4000000 in
set_option maxRecDepth 100000 in
theorem tc_X8_becomeDouble (l : Launch) (D : va_G) (kA : Nat → ClassId) (nm : Nat → Nat) (na : Nat) (sa sv : Nat → Nat) (sz : Nat) (T : LY) (h : Nat) (a1 : UInt64) (M : CM) (Q : CM → Prop) (hw : fc_X8_becomeDouble T h a1 M Q) : Met l yX8_becomeDouble wsX8_becomeDouble rmX8_becomeDouble (va_Pc [.ref h, .double a1] (cPc nm na sa sv D kA T M sz)) (va_Qv Q (cB D kA (cF T sz) T) (cF T sz)) 0 0 (cF T sz) := by
  refine Met.ofW (cc := cX8_becomeDouble) (maxL := 3) (ret := none) (by decide) rfl ?_
  intro p e s m args below meth c s₁ B hml hv
  obtain ⟨rfl, hsz, hP, hK, hSt⟩ := hv
  have hx := B.exec
  have hb := B.bytes
  have hr := B.returns
  have hts := atoms_spec (ws := wsX8_becomeDouble) B.pre
  have hown : s.vm.findClass RX8 = some m.cls := findClass_of_methodNamed B.named
  have hlocks : meth.locks = false := B.notSynchronized
  subst hsz
  have hH : cH D kA (cF T s.heap.size) s.heap T M s.heap [] := ⟨hP.self, va_S.rf⟩
  have hA : ∀ q : Nat, s.heap.size ≤ q → cF T s.heap.size q := fun q z => Or.inr z
  generalize cF T s.heap.size = A at hH hA hSt ⊢
  have hl := lv_entry ([.ref h, .double a1]) (n := 3) (by first | exact Nat.le_of_ble_eq_true rfl | simp [lg_sl, va_rf_cat, cat_ref, cat_int, cat_long, cat_double])
  rw [lg_entry_eq]
  generalize (lg_sl ([.ref h, .double a1]) ++ List.replicate (3 - (lg_sl ([.ref h, .double a1])).length) Slot.unset).toArray = ls at hl ⊢
  generalize ([.ref h, .double a1] : List Value).toArray = args at hts ⊢
  have hl : lv_has ls 3 [(0, .ref h), (1, .double a1)] := hl
  clear hP
  unfold fc_X8_becomeDouble at hw
  have hst : ∀ (M : CM) (H : Heap) (locs : List Loc) (ls : Array Slot), cH D kA A s.heap T M H locs → lv_has ls 3 [(0, .ref h), (1, .double a1)] → (tg T h = 9 ∧ fc_X8_become T h 4 M (fun (M2 : CM) => fc_X8_knowNumber T h 1 a1 M2 (fun (M5 : CM) => Q M5))) → W p l e (headSpec wsX8_becomeDouble rmX8_becomeDouble).room s m args below meth c H locs 0 0 (MQ below (va_Qv Q (cB D kA A T) A) args s 0 0 A) (F0 m 0 ls []) := by
    intro M H locs ls hH hl hw
    refine lv_aload_n hx hb dX8_becomeDouble_0 rfl (lv_at hl 0 rfl) ?_
    refine lv_iconst (v := 4) hx hb dX8_becomeDouble_1 (by decide) ?_
    obtain ⟨h1, hw⟩ := hw
    refine c_callv (va_runV (As := [.int 4]) (rest := []) ⟨hx, hb, hml, hown, hts⟩ (tc_X8_become l D kA nm na sa sv H.size T h 4 M _ hw) (cwV 1 hts gX8_becomeDouble_X8_become rfl rfl rfl (by decide +kernel) ⟨(show (0 : Nat) + 1 ≤ 1 from Nat.le_of_ble_eq_true rfl), (show 8 + (2 + 11) + (0 : Nat) ≤ 23 from Nat.le_of_ble_eq_true rfl)⟩) (c_preV hK hH hA hSt (c_recv8 hK hH h1)) rfl rfl hl.1 rfl (lv_room (by first | exact Nat.le_of_ble_eq_true rfl | simp [va_rf_cat, cat_ref, cat_int, cat_long, cat_double, cat_null])) dX8_becomeDouble_2 ⟨Nat.le_of_ble_eq_true rfl, Nat.le_of_ble_eq_true rfl⟩) hH hA (fun M2 H locs hw hH => ?_)
    refine lv_aload_n hx hb dX8_becomeDouble_5 rfl (lv_at hl 0 rfl) ?_
    refine lv_iconst (v := 1) hx hb dX8_becomeDouble_6 (by decide) ?_
    refine lv_dload_n hx hb dX8_becomeDouble_7 rfl (lv_at hl 1 rfl) ?_
    refine c_callv (va_runV (As := [.int 1, .double a1]) (rest := []) ⟨hx, hb, hml, hown, hts⟩ (tc_X8_knowNumber l D kA nm na sa sv H.size T h 1 a1 M2 _ hw) (cwV 2 hts gX8_becomeDouble_X8_knowNumber rfl rfl rfl (by decide +kernel) ⟨(show (0 : Nat) + 1 ≤ 1 from Nat.le_of_ble_eq_true rfl), (show 8 + (4 + 11) + (0 : Nat) ≤ 23 from Nat.le_of_ble_eq_true rfl)⟩) (c_preV hK hH hA hSt (c_recv8 hK hH h1)) rfl rfl hl.1 rfl (lv_room (by first | exact Nat.le_of_ble_eq_true rfl | simp [va_rf_cat, cat_ref, cat_int, cat_long, cat_double, cat_null])) dX8_becomeDouble_8 ⟨Nat.le_of_ble_eq_true rfl, Nat.le_of_ble_eq_true rfl⟩) hH hA (fun M5 H locs hw hH => ?_)
    exact c_retv hx hb hr hlocks hK hH hw dX8_becomeDouble_11
  exact hst M s.heap [] ls hH hl hw
def fc_X8_becomeText (T : LY) (h : Nat)  (a1 : Option Nat) (M : CM) (Q : CM → Prop) : Prop := (tg T h = 9 ∧ fc_X8_become T h 5 M (fun (M2 : CM) => (∃ p5 : Nat, cR M2 84 h = some p5 ∧ (tg T p5 = 8 ∧ fc_X7_copy T p5 a1 M2 (fun (M7 : CM) => Q M7)))))
abbrev rmX8_becomeText : Room := { frames := 1, cells := 0, slots := 0, locals := 22 }
set_option maxHeartbeats 4000000 in
set_option maxRecDepth 100000 in
theorem tc_X8_becomeText (l : Launch) (D : va_G) (kA : Nat → ClassId) (nm : Nat → Nat) (na : Nat) (sa sv : Nat → Nat) (sz : Nat) (T : LY) (h : Nat) (a1 : Option Nat) (M : CM) (Q : CM → Prop) (hw : fc_X8_becomeText T h a1 M Q) : Met l yX8_becomeText wsX8_becomeText rmX8_becomeText (va_Pc [.ref h, va_rf a1] (cPc nm na sa sv D kA T M sz)) (va_Qv Q (cB D kA (cF T sz) T) (cF T sz)) 0 0 (cF T sz) := by
  refine Met.ofW (cc := cX8_becomeText) (maxL := 2) (ret := none) (by decide) rfl ?_
  intro p e s m args below meth c s₁ B hml hv
  obtain ⟨rfl, hsz, hP, hK, hSt⟩ := hv
  have hx := B.exec
  have hb := B.bytes
  have hr := B.returns
  have hts := atoms_spec (ws := wsX8_becomeText) B.pre
  have hown : s.vm.findClass RX8 = some m.cls := findClass_of_methodNamed B.named
  have hlocks : meth.locks = false := B.notSynchronized
  subst hsz
  have hH : cH D kA (cF T s.heap.size) s.heap T M s.heap [] := ⟨hP.self, va_S.rf⟩
  have hA : ∀ q : Nat, s.heap.size ≤ q → cF T s.heap.size q := fun q z => Or.inr z
  generalize cF T s.heap.size = A at hH hA hSt ⊢
  have hl := lv_entry ([.ref h, va_rf a1]) (n := 2) (by first | exact Nat.le_of_ble_eq_true rfl | simp [lg_sl, va_rf_cat, cat_ref, cat_int, cat_long, cat_double])
  rw [lg_entry_eq]
  generalize (lg_sl ([.ref h, va_rf a1]) ++ List.replicate (2 - (lg_sl ([.ref h, va_rf a1])).length) Slot.unset).toArray = ls at hl ⊢
  generalize ([.ref h, va_rf a1] : List Value).toArray = args at hts ⊢
  have hl : lv_has ls 2 [(0, .ref h), (1, va_rf a1)] := by simpa [lv_args, va_rf_cat, cat_ref, cat_int, cat_long, cat_double] using hl
  have hin8 : ∀ w ∈ wsX80, w ∈ wsX8_becomeText := by decide +kernel
  clear hP
  unfold fc_X8_becomeText at hw
  have hst : ∀ (M : CM) (H : Heap) (locs : List Loc) (ls : Array Slot), cH D kA A s.heap T M H locs → lv_has ls 2 [(0, .ref h), (1, va_rf a1)] → (tg T h = 9 ∧ fc_X8_become T h 5 M (fun (M2 : CM) => (∃ p5 : Nat, cR M2 84 h = some p5 ∧ (tg T p5 = 8 ∧ fc_X7_copy T p5 a1 M2 (fun (M7 : CM) => Q M7))))) → W p l e (headSpec wsX8_becomeText rmX8_becomeText).room s m args below meth c H locs 0 0 (MQ below (va_Qv Q (cB D kA A T) A) args s 0 0 A) (F0 m 0 ls []) := by
    intro M H locs ls hH hl hw
    refine lv_aload_n hx hb dX8_becomeText_0 rfl (lv_at hl 0 rfl) ?_
    refine lv_iconst (v := 5) hx hb dX8_becomeText_1 (by decide) ?_
    obtain ⟨h1, hw⟩ := hw
    refine c_callv (va_runV (As := [.int 5]) (rest := []) ⟨hx, hb, hml, hown, hts⟩ (tc_X8_become l D kA nm na sa sv H.size T h 5 M _ hw) (cwV 1 hts gX8_becomeText_X8_become rfl rfl rfl (by decide +kernel) ⟨(show (0 : Nat) + 1 ≤ 1 from Nat.le_of_ble_eq_true rfl), (show 8 + (2 + 11) + (0 : Nat) ≤ 22 from Nat.le_of_ble_eq_true rfl)⟩) (c_preV hK hH hA hSt (c_recv8 hK hH h1)) rfl rfl hl.1 rfl (lv_room (by first | exact Nat.le_of_ble_eq_true rfl | simp [va_rf_cat, cat_ref, cat_int, cat_long, cat_double, cat_null])) dX8_becomeText_2 ⟨Nat.le_of_ble_eq_true rfl, Nat.le_of_ble_eq_true rfl⟩) hH hA (fun M2 H locs hw hH => ?_)
    refine lv_aload_n hx hb dX8_becomeText_5 rfl (lv_at hl 0 rfl) ?_
    refine cg_84 hx hb hts hin8 hown hK hH h1 (hts (.fieldLink RX8 35 "IdlCaller$Thing" "text" "LIdlCaller$Text;") (by decide +kernel)) dX8_becomeText_6 ?_
    refine s_aload_n hx hb dX8_becomeText_9 rfl (lv_at hl 1 rfl) ?_
    obtain ⟨p5, ep5, hw⟩ := hw
    refine W.st (st' := [va_rf a1, .ref p5]) (by rw [ep5]; rfl) ?_
    obtain ⟨h6, hw⟩ := hw
    refine c_callv (va_runV (As := [va_rf a1]) (rest := []) ⟨hx, hb, hml, hown, hts⟩ (tc_X7_copy l D kA nm na sa sv H.size T p5 a1 M2 _ hw) (cwV 1 hts gX8_becomeText_X7_copy rfl rfl rfl (by decide +kernel) ⟨(show (0 : Nat) + 1 ≤ 1 from Nat.le_of_ble_eq_true rfl), (show 8 + (3 + 11) + (0 : Nat) ≤ 22 from Nat.le_of_ble_eq_true rfl)⟩) (c_preV hK hH hA hSt (c_recv7 hK hH h6)) rfl rfl hl.1 rfl (lv_room (by first | exact Nat.le_of_ble_eq_true rfl | simp [va_rf_cat, cat_ref, cat_int, cat_long, cat_double, cat_null])) dX8_becomeText_10 ⟨Nat.le_of_ble_eq_true rfl, Nat.le_of_ble_eq_true rfl⟩) hH hA (fun M7 H locs hw hH => ?_)
    exact c_retv hx hb hr hlocks hK hH hw dX8_becomeText_13
  exact hst M s.heap [] ls hH hl hw
def fc_X8_copyAll_b42 (T : LY) (h : Nat) (Q : CM → Prop) (k7 : Option Nat → Int32 → CM → Prop) (v1 : Option Nat) (v2 : Int32) (M : CM) : Prop := (∀ x1 : Int32, x1 = v2 + 1 → k7 v1 x1 M)
def fc_X8_copyAll_c7 (T : LY) (h : Nat) (Q : CM → Prop) (k7 : Option Nat → Int32 → CM → Prop) (v1 : Option Nat) (v2 : Int32) (M : CM) : Prop := (∃ p2 : Nat, v1 = some p2 ∧ (tg T p2 = 9 ∧ (((cI M 85 p2) ≤ v2 → Q M) ∧ (¬ (cI M 85 p2) ≤ v2 → fc_X8_itemAt T p2 v2 M (fun (r6 : Option Nat) (M5 : CM) => (tg T h = 9 ∧ fc_X8_nextItem T h M5 (fun (r10 : Option Nat) (M9 : CM) => ((r6 = none → fc_X8_copyAll_b42 T h Q k7 v1 v2 M9) ∧ (¬ r6 = none → ((r10 = none → fc_X8_copyAll_b42 T h Q k7 v1 v2 M9) ∧ (¬ r10 = none → (∃ p14 : Nat, r10 = some p14 ∧ (tg T p14 = 9 ∧ fc_X8_copyPlain T p14 r6 M9 (fun (M16 : CM) => fc_X8_copyAll_b42 T h Q k7 v1 v2 M16))))))))))))))
def fc_X8_copyAll_l7 (T : LY) (h : Nat) (Q : CM → Prop) : Nat → Option Nat → Int32 → CM → Prop := lit (τ := Option Nat → Int32 → CM → Prop) (fun _ _ _ => False) (fun k => fc_X8_copyAll_c7 T h Q  k)
def fc_X8_copyAll (T : LY) (h : Nat)  (a1 : Option Nat) (M : CM) (Q : CM → Prop) : Prop := (tg T h = 9 ∧ fc_X8_copyPlain T h a1 M (fun (M20 : CM) => (∃ nn : Nat, fc_X8_copyAll_l7 T h Q  nn a1 0 M20)))
abbrev rmX8_copyAll : Room := { frames := 2, cells := 0, slots := 0, locals := 44 }
set_option maxHeartbeats 4000000 in
set_option maxRecDepth 100000 in
theorem tc_X8_copyAll (l : Launch) (D : va_G) (kA : Nat → ClassId) (nm : Nat → Nat) (na : Nat) (sa sv : Nat → Nat) (sz : Nat) (T : LY) (h : Nat) (a1 : Option Nat) (M : CM) (Q : CM → Prop) (hw : fc_X8_copyAll T h a1 M Q) : Met l yX8_copyAll wsX8_copyAll rmX8_copyAll (va_Pc [.ref h, va_rf a1] (cPc nm na sa sv D kA T M sz)) (va_Qv Q (cB D kA (cF T sz) T) (cF T sz)) 0 0 (cF T sz) := by
  refine Met.ofW (cc := cX8_copyAll) (maxL := 5) (ret := none) (by decide) rfl ?_
  intro p e s m args below meth c s₁ B hml hv
  obtain ⟨rfl, hsz, hP, hK, hSt⟩ := hv
  have hx := B.exec
  have hb := B.bytes
  have hr := B.returns
  have hts := atoms_spec (ws := wsX8_copyAll) B.pre
  have hown : s.vm.findClass RX8 = some m.cls := findClass_of_methodNamed B.named
  have hlocks : meth.locks = false := B.notSynchronized
  subst hsz
  have hH : cH D kA (cF T s.heap.size) s.heap T M s.heap [] := ⟨hP.self, va_S.rf⟩
  have hA : ∀ q : Nat, s.heap.size ≤ q → cF T s.heap.size q := fun q z => Or.inr z
  generalize cF T s.heap.size = A at hH hA hSt ⊢
  have hl := lv_entry ([.ref h, va_rf a1]) (n := 5) (by first | exact Nat.le_of_ble_eq_true rfl | simp [lg_sl, va_rf_cat, cat_ref, cat_int, cat_long, cat_double])
  rw [lg_entry_eq]
  generalize (lg_sl ([.ref h, va_rf a1]) ++ List.replicate (5 - (lg_sl ([.ref h, va_rf a1])).length) Slot.unset).toArray = ls at hl ⊢
  generalize ([.ref h, va_rf a1] : List Value).toArray = args at hts ⊢
  have hl : lv_has ls 5 [(0, .ref h), (1, va_rf a1)] := by simpa [lv_args, va_rf_cat, cat_ref, cat_int, cat_long, cat_double] using hl
  have hin8 : ∀ w ∈ wsX80, w ∈ wsX8_copyAll := by decide +kernel
  have b42 : ∀ (k7 : Option Nat → Int32 → CM → Prop) (hk7 : ∀ (v1 : Option Nat) (v2 : Int32) (M : CM) (H : Heap) (locs : List Loc) (ls : Array Slot), cH D kA A s.heap T M H locs → lv_has ls 5 [(0, .ref h), (1, va_rf v1), (2, .int v2)] → k7 v1 v2 M → W p l e (headSpec wsX8_copyAll rmX8_copyAll).room s m args below meth c H locs 0 0 (MQ below (va_Qv Q (cB D kA A T) A) args s 0 0 A) (F0 m 7 ls [])) (v1 : Option Nat) (v2 : Int32) (M : CM) (H : Heap) (locs : List Loc) (ls : Array Slot), cH D kA A s.heap T M H locs → lv_has ls 5 [(0, .ref h), (1, va_rf v1), (2, .int v2)] → fc_X8_copyAll_b42 T h Q k7 v1 v2 M → W p l e (headSpec wsX8_copyAll rmX8_copyAll).room s m args below meth c H locs 0 0 (MQ below (va_Qv Q (cB D kA A T) A) args s 0 0 A) (F0 m 42 ls []) := by
    intro k7 hk7 v1 v2 M H locs ls hH hl hw
    unfold fc_X8_copyAll_b42 at hw
    obtain ⟨x1, ex1⟩ : ∃ y : Int32, y = v2 + 1 := ⟨_, rfl⟩
    replace hw := hw x1 ex1
    refine lv_iinc (v := x1) (lv' := [(2, .int x1), (0, .ref h), (1, va_rf v1)]) hx hb dX8_copyAll_42 hl (k := 2) rfl (by rw [ex1]; rfl) (by decide) (by first | rfl | simp [va_rf_cat, cat_ref, cat_int, cat_long, cat_double, cat_null]) (fun ls hl => ?_)
    refine lv_goto (tgt := 7) hx hb dX8_copyAll_45 (by decide) ?_
    exact hk7 v1 x1 M H locs ls hH (lv_sub hl [1, 2, 0] rfl) hw
  have l7 : ∀ (nn : Nat) (v1 : Option Nat) (v2 : Int32) (M : CM) (H : Heap) (locs : List Loc) (ls : Array Slot), cH D kA A s.heap T M H locs → lv_has ls 5 [(0, .ref h), (1, va_rf v1), (2, .int v2)] → fc_X8_copyAll_l7 T h Q  nn v1 v2 M → W p l e (headSpec wsX8_copyAll rmX8_copyAll).room s m args below meth c H locs 0 0 (MQ below (va_Qv Q (cB D kA A T) A) args s 0 0 A) (F0 m 7 ls []) := by
    intro   nn
    induction nn with
    | zero => intro v1 v2 M H locs ls hH hl hw; exact False.elim hw
    | succ nn hk7 =>
      intro v1 v2 M H locs ls hH hl hw
      replace hw : fc_X8_copyAll_c7 T h Q  (fc_X8_copyAll_l7 T h Q  nn) v1 v2 M := hw
      unfold fc_X8_copyAll_c7 at hw
      refine lv_iload_n hx hb dX8_copyAll_7 rfl (lv_at hl 2 rfl) ?_
      refine s_aload_n hx hb dX8_copyAll_8 rfl (lv_at hl 1 rfl) ?_
      obtain ⟨p2, ep2, hw⟩ := hw
      refine W.st (st' := [.ref p2, .int v2]) (by rw [ep2]; rfl) ?_
      obtain ⟨h3, hw⟩ := hw
      refine cg_85 hx hb hts hin8 hown hK hH h3 (hts (.fieldLink RX8 27 "IdlCaller$Thing" "size" "I") (by decide +kernel)) dX8_copyAll_9 ?_
      refine lv_icmp_ge (tgt := 48) hx hb dX8_copyAll_12 (by decide) (fun c4 => ?_) (fun c4 => ?_)
      · replace hw := hw.1 c4
        exact c_retv hx hb hr hlocks hK hH hw dX8_copyAll_48
      · replace hw := hw.2 c4
        refine s_aload_n hx hb dX8_copyAll_15 rfl (lv_at hl 1 rfl) ?_
        refine lv_iload_n hx hb dX8_copyAll_16 rfl (lv_at hl 2 rfl) ?_
        refine W.st (st' := [.int v2, .ref p2]) (by rw [ep2]; rfl) ?_
        refine c_callq (va_runV (As := [.int v2]) (rest := []) ⟨hx, hb, hml, hown, hts⟩ (tc_X8_itemAt l D kA nm na sa sv H.size T p2 v2 M _ hw) (cwV 1 hts gX8_copyAll_X8_itemAt rfl rfl rfl (by decide +kernel) ⟨(show (1 : Nat) + 1 ≤ 2 from Nat.le_of_ble_eq_true rfl), (show 8 + (2 + 11) + (21 : Nat) ≤ 44 from Nat.le_of_ble_eq_true rfl)⟩) (c_preV hK hH hA hSt (c_recv8 hK hH h3)) rfl rfl hl.1 rfl (lv_room (by first | exact Nat.le_of_ble_eq_true rfl | simp [va_rf_cat, cat_ref, cat_int, cat_long, cat_double, cat_null])) dX8_copyAll_17 ⟨Nat.le_of_ble_eq_true rfl, Nat.le_of_ble_eq_true rfl⟩) hH hA (fun r6 M5 H locs hw hH => ?_)
        refine s_astore_n (i := 3) (lv' := [(3, va_rf r6), (0, .ref h), (1, va_rf v1), (2, .int v2)]) hx hb dX8_copyAll_20 rfl hl (by decide) (by first | rfl | simp [va_rf_cat, cat_ref, cat_int, cat_long, cat_double, cat_null]) (fun ls hl => ?_)
        refine lv_aload_n hx hb dX8_copyAll_21 rfl (lv_at hl 1 rfl) ?_
        obtain ⟨h8, hw⟩ := hw
        refine c_callq (va_runV (As := []) (rest := []) ⟨hx, hb, hml, hown, hts⟩ (tc_X8_nextItem l D kA nm na sa sv H.size T h M5 _ hw) (cwV 0 hts gX8_copyAll_X8_nextItem rfl rfl rfl (by decide +kernel) ⟨(show (1 : Nat) + 1 ≤ 2 from Nat.le_of_ble_eq_true rfl), (show 8 + (2 + 11) + (21 : Nat) ≤ 44 from Nat.le_of_ble_eq_true rfl)⟩) (c_preV hK hH hA hSt (c_recv8 hK hH h8)) rfl rfl hl.1 rfl (lv_room (by first | exact Nat.le_of_ble_eq_true rfl | simp [va_rf_cat, cat_ref, cat_int, cat_long, cat_double, cat_null])) dX8_copyAll_22 ⟨Nat.le_of_ble_eq_true rfl, Nat.le_of_ble_eq_true rfl⟩) hH hA (fun r10 M9 H locs hw hH => ?_)
        refine s_astore (i := 4) (lv' := [(4, va_rf r10), (3, va_rf r6), (0, .ref h), (1, va_rf v1), (2, .int v2)]) hx hb dX8_copyAll_25 hl (by decide) (by first | rfl | simp [va_rf_cat, cat_ref, cat_int, cat_long, cat_double, cat_null]) (fun ls hl => ?_)
        refine s_aload_n hx hb dX8_copyAll_27 rfl (lv_at hl 1 rfl) ?_
        refine s_ifnull (tgt := 42) hx hb dX8_copyAll_28 (by decide) (fun c12 => ?_) (fun c12 => ?_)
        · replace hw := hw.1 c12
          exact b42 _ hk7 v1 v2 M9 H locs ls hH (lv_sub hl [2, 3, 4] rfl) hw
        · replace hw := hw.2 c12
          refine s_aload hx hb dX8_copyAll_31 (lv_at hl 0 rfl) ?_
          refine s_ifnull (tgt := 42) hx hb dX8_copyAll_33 (by decide) (fun c13 => ?_) (fun c13 => ?_)
          · replace hw := hw.1 c13
            exact b42 _ hk7 v1 v2 M9 H locs ls hH (lv_sub hl [2, 3, 4] rfl) hw
          · replace hw := hw.2 c13
            refine s_aload hx hb dX8_copyAll_36 (lv_at hl 0 rfl) ?_
            refine s_aload_n hx hb dX8_copyAll_38 rfl (lv_at hl 1 rfl) ?_
            obtain ⟨p14, ep14, hw⟩ := hw
            refine W.st (st' := [va_rf r6, .ref p14]) (by rw [ep14]; rfl) ?_
            obtain ⟨h15, hw⟩ := hw
            refine c_callv (va_runV (As := [va_rf r6]) (rest := []) ⟨hx, hb, hml, hown, hts⟩ (tc_X8_copyPlain l D kA nm na sa sv H.size T p14 r6 M9 _ hw) (cwV 1 hts gX8_copyAll_X8_copyPlain rfl rfl rfl (by decide +kernel) ⟨(show (1 : Nat) + 1 ≤ 2 from Nat.le_of_ble_eq_true rfl), (show 8 + (2 + 11) + (23 : Nat) ≤ 44 from Nat.le_of_ble_eq_true rfl)⟩) (c_preV hK hH hA hSt (c_recv8 hK hH h15)) rfl rfl hl.1 rfl (lv_room (by first | exact Nat.le_of_ble_eq_true rfl | simp [va_rf_cat, cat_ref, cat_int, cat_long, cat_double, cat_null])) dX8_copyAll_39 ⟨Nat.le_of_ble_eq_true rfl, Nat.le_of_ble_eq_true rfl⟩) hH hA (fun M16 H locs hw hH => ?_)
            exact b42 _ hk7 v1 v2 M16 H locs ls hH (lv_sub hl [2, 3, 4] rfl) hw
  clear hP
  unfold fc_X8_copyAll at hw
  have hst : ∀ (M : CM) (H : Heap) (locs : List Loc) (ls : Array Slot), cH D kA A s.heap T M H locs → lv_has ls 5 [(0, .ref h), (1, va_rf a1)] → (tg T h = 9 ∧ fc_X8_copyPlain T h a1 M (fun (M20 : CM) => (∃ nn : Nat, fc_X8_copyAll_l7 T h Q  nn a1 0 M20))) → W p l e (headSpec wsX8_copyAll rmX8_copyAll).room s m args below meth c H locs 0 0 (MQ below (va_Qv Q (cB D kA A T) A) args s 0 0 A) (F0 m 0 ls []) := by
    intro M H locs ls hH hl hw
    refine lv_aload_n hx hb dX8_copyAll_0 rfl (lv_at hl 0 rfl) ?_
    refine s_aload_n hx hb dX8_copyAll_1 rfl (lv_at hl 1 rfl) ?_
    obtain ⟨h19, hw⟩ := hw
    refine c_callv (va_runV (As := [va_rf a1]) (rest := []) ⟨hx, hb, hml, hown, hts⟩ (tc_X8_copyPlain l D kA nm na sa sv H.size T h a1 M _ hw) (cwV 1 hts gX8_copyAll_X8_copyPlain rfl rfl rfl (by decide +kernel) ⟨(show (1 : Nat) + 1 ≤ 2 from Nat.le_of_ble_eq_true rfl), (show 8 + (2 + 11) + (23 : Nat) ≤ 44 from Nat.le_of_ble_eq_true rfl)⟩) (c_preV hK hH hA hSt (c_recv8 hK hH h19)) rfl rfl hl.1 rfl (lv_room (by first | exact Nat.le_of_ble_eq_true rfl | simp [va_rf_cat, cat_ref, cat_int, cat_long, cat_double, cat_null])) dX8_copyAll_2 ⟨Nat.le_of_ble_eq_true rfl, Nat.le_of_ble_eq_true rfl⟩) hH hA (fun M20 H locs hw hH => ?_)
    refine lv_iconst (v := 0) hx hb dX8_copyAll_5 (by decide) ?_
    refine lv_istore_n (i := 2) (lv' := [(2, .int 0), (0, .ref h), (1, va_rf a1)]) hx hb dX8_copyAll_6 rfl hl (by decide) (by first | rfl | simp [va_rf_cat, cat_ref, cat_int, cat_long, cat_double, cat_null]) (fun ls hl => ?_)
    obtain ⟨nn, hw⟩ := hw
    exact l7   nn a1 0 M20 H locs ls hH (lv_sub hl [1, 2, 0] rfl) hw
  exact hst M s.heap [] ls hH hl hw
def fc_X8_isTrue_b63 (T : LY) (h : Nat) (Q : Int32 → CM → Prop) (s0 : Int32) (M : CM) : Prop := (nZ s0 ∧ Q s0 M)
def fc_X8_isTrue_b62 (T : LY) (h : Nat) (Q : Int32 → CM → Prop) (M : CM) : Prop := fc_X8_isTrue_b63 T h Q  0 M
def fc_X8_isTrue_b58 (T : LY) (h : Nat) (Q : Int32 → CM → Prop) (M : CM) : Prop := fc_X8_isTrue_b63 T h Q  1 M
def fc_X8_isTrue_b30 (T : LY) (h : Nat) (Q : Int32 → CM → Prop) (s0 : Int32) (M : CM) : Prop := (nZ s0 ∧ Q s0 M)
def fc_X8_isTrue_b16 (T : LY) (h : Nat) (Q : Int32 → CM → Prop) (M : CM) : Prop := (tg T h = 9 ∧ (((Op.cmpValue (FP.dcmp (cD M 82 h) FP.dconst0) .l) = 0 → fc_X8_isTrue_b30 T h Q  0 M) ∧ (¬ (Op.cmpValue (FP.dcmp (cD M 82 h) FP.dconst0) .l) = 0 → fc_X8_isTrue_b30 T h Q  1 M)))
def fc_X8_isTrue (T : LY) (h : Nat)  (M : CM) (Q : Int32 → CM → Prop) : Prop := (tg T h = 9 ∧ (((cI M 80 h) = 2 → fc_X8_isTrue_b16 T h Q   M) ∧ (¬ (cI M 80 h) = 2 → ((¬ (cI M 80 h) = 4 → (((cI M 80 h) = 6 → fc_X8_isTrue_b58 T h Q   M) ∧ (¬ (cI M 80 h) = 6 → ((¬ (cI M 80 h) = 5 → fc_X8_isTrue_b62 T h Q   M) ∧ ((cI M 80 h) = 5 → (∃ p8 : Nat, cR M 84 h = some p8 ∧ (tg T p8 = 8 ∧ (((cI M 71 p8) ≤ 0 → fc_X8_isTrue_b62 T h Q   M) ∧ (¬ (cI M 71 p8) ≤ 0 → fc_X8_isTrue_b58 T h Q   M))))))))) ∧ ((cI M 80 h) = 4 → fc_X8_isTrue_b16 T h Q   M)))))
abbrev rmX8_isTrue : Room := { frames := 0, cells := 0, slots := 0, locals := 0 }
set_option maxHeartbeats 4000000 in
set_option maxRecDepth 100000 in
theorem tc_X8_isTrue (l : Launch) (D : va_G) (kA : Nat → ClassId) (nm : Nat → Nat) (na : Nat) (sa sv : Nat → Nat) (sz : Nat) (T : LY) (h : Nat) (M : CM) (Q : Int32 → CM → Prop) (hw : fc_X8_isTrue T h  M Q) : Met l yX8_isTrue wsX8_isTrue rmX8_isTrue (va_Pc [.ref h] (cPc nm na sa sv D kA T M sz)) (va_Qi Q (cB D kA (cF T sz) T) (cF T sz)) 0 0 (cF T sz) := by
  refine Met.ofW (cc := cX8_isTrue) (maxL := 1) (ret := (some .boolean)) (by decide) rfl ?_
  intro p e s m args below meth c s₁ B hml hv
  obtain ⟨rfl, hsz, hP, hK, hSt⟩ := hv
  have hx := B.exec
  have hb := B.bytes
  have hr := B.returns
  have hts := atoms_spec (ws := wsX8_isTrue) B.pre
  have hown : s.vm.findClass RX8 = some m.cls := findClass_of_methodNamed B.named
  have hlocks : meth.locks = false := B.notSynchronized
  subst hsz
  have hH : cH D kA (cF T s.heap.size) s.heap T M s.heap [] := ⟨hP.self, va_S.rf⟩
  have hA : ∀ q : Nat, s.heap.size ≤ q → cF T s.heap.size q := fun q z => Or.inr z
  generalize cF T s.heap.size = A at hH hA hSt ⊢
  have hl := lv_entry ([.ref h]) (n := 1) (by first | exact Nat.le_of_ble_eq_true rfl | simp [lg_sl, va_rf_cat, cat_ref, cat_int, cat_long, cat_double])
  rw [lg_entry_eq]
  generalize (lg_sl ([.ref h]) ++ List.replicate (1 - (lg_sl ([.ref h])).length) Slot.unset).toArray = ls at hl ⊢
  generalize ([.ref h] : List Value).toArray = args at hts ⊢
  have hl : lv_has ls 1 [(0, .ref h)] := hl
  have hin7 : ∀ w ∈ wsX70, w ∈ wsX8_isTrue := by decide +kernel
  have hin8 : ∀ w ∈ wsX80, w ∈ wsX8_isTrue := by decide +kernel
  have b63 : ∀ (s0 : Int32) (M : CM) (H : Heap) (locs : List Loc) (ls : Array Slot), cH D kA A s.heap T M H locs → lv_has ls 1 [] → fc_X8_isTrue_b63 T h Q  s0 M → W p l e (headSpec wsX8_isTrue rmX8_isTrue).room s m args below meth c H locs 0 0 (MQ below (va_Qi Q (cB D kA A T) A) args s 0 0 A) (F0 m 63 ls [.int s0]) := by
    intro   s0 M H locs ls hH hl hw
    unfold fc_X8_isTrue_b63 at hw
    exact c_retz hx hb hr hw.1.1 hlocks hK hH hw.2 dX8_isTrue_63
  have b62 : ∀ (M : CM) (H : Heap) (locs : List Loc) (ls : Array Slot), cH D kA A s.heap T M H locs → lv_has ls 1 [] → fc_X8_isTrue_b62 T h Q   M → W p l e (headSpec wsX8_isTrue rmX8_isTrue).room s m args below meth c H locs 0 0 (MQ below (va_Qi Q (cB D kA A T) A) args s 0 0 A) (F0 m 62 ls []) := by
    intro    M H locs ls hH hl hw
    unfold fc_X8_isTrue_b62 at hw
    refine lv_iconst (v := 0) hx hb dX8_isTrue_62 (by decide) ?_
    exact b63   0 M H locs ls hH (lv_sub hl [] rfl) hw
  have b58 : ∀ (M : CM) (H : Heap) (locs : List Loc) (ls : Array Slot), cH D kA A s.heap T M H locs → lv_has ls 1 [] → fc_X8_isTrue_b58 T h Q   M → W p l e (headSpec wsX8_isTrue rmX8_isTrue).room s m args below meth c H locs 0 0 (MQ below (va_Qi Q (cB D kA A T) A) args s 0 0 A) (F0 m 58 ls []) := by
    intro    M H locs ls hH hl hw
    unfold fc_X8_isTrue_b58 at hw
    refine lv_iconst (v := 1) hx hb dX8_isTrue_58 (by decide) ?_
    refine lv_goto (tgt := 63) hx hb dX8_isTrue_59 (by decide) ?_
    exact b63   1 M H locs ls hH (lv_sub hl [] rfl) hw
  have b30 : ∀ (s0 : Int32) (M : CM) (H : Heap) (locs : List Loc) (ls : Array Slot), cH D kA A s.heap T M H locs → lv_has ls 1 [] → fc_X8_isTrue_b30 T h Q  s0 M → W p l e (headSpec wsX8_isTrue rmX8_isTrue).room s m args below meth c H locs 0 0 (MQ below (va_Qi Q (cB D kA A T) A) args s 0 0 A) (F0 m 30 ls [.int s0]) := by
    intro   s0 M H locs ls hH hl hw
    unfold fc_X8_isTrue_b30 at hw
    exact c_retz hx hb hr hw.1.1 hlocks hK hH hw.2 dX8_isTrue_30
  have b16 : ∀ (M : CM) (H : Heap) (locs : List Loc) (ls : Array Slot), cH D kA A s.heap T M H locs → lv_has ls 1 [(0, .ref h)] → fc_X8_isTrue_b16 T h Q   M → W p l e (headSpec wsX8_isTrue rmX8_isTrue).room s m args below meth c H locs 0 0 (MQ below (va_Qi Q (cB D kA A T) A) args s 0 0 A) (F0 m 16 ls []) := by
    intro    M H locs ls hH hl hw
    unfold fc_X8_isTrue_b16 at hw
    refine lv_aload_n hx hb dX8_isTrue_16 rfl (lv_at hl 0 rfl) ?_
    obtain ⟨h1, hw⟩ := hw
    refine cg_82 hx hb hts hin8 hown hK hH h1 (hts (.fieldLink RX8 19 "IdlCaller$Thing" "real" "D") (by decide +kernel)) dX8_isTrue_17 ?_
    refine lv_dconst0 hx hb dX8_isTrue_20 ?_
    refine lv_dcmp hx hb dX8_isTrue_21 ?_
    refine lv_if_eq (tgt := 29) hx hb dX8_isTrue_22 (by decide) (fun c2 => ?_) (fun c2 => ?_)
    · replace hw := hw.1 c2
      refine lv_iconst (v := 0) hx hb dX8_isTrue_29 (by decide) ?_
      exact b30   0 M H locs ls hH (lv_sub hl [] rfl) hw
    · replace hw := hw.2 c2
      refine lv_iconst (v := 1) hx hb dX8_isTrue_25 (by decide) ?_
      refine lv_goto (tgt := 30) hx hb dX8_isTrue_26 (by decide) ?_
      exact b30   1 M H locs ls hH (lv_sub hl [] rfl) hw
  clear hP
  unfold fc_X8_isTrue at hw
  have hst : ∀ (M : CM) (H : Heap) (locs : List Loc) (ls : Array Slot), cH D kA A s.heap T M H locs → lv_has ls 1 [(0, .ref h)] → (tg T h = 9 ∧ (((cI M 80 h) = 2 → fc_X8_isTrue_b16 T h Q   M) ∧ (¬ (cI M 80 h) = 2 → ((¬ (cI M 80 h) = 4 → (((cI M 80 h) = 6 → fc_X8_isTrue_b58 T h Q   M) ∧ (¬ (cI M 80 h) = 6 → ((¬ (cI M 80 h) = 5 → fc_X8_isTrue_b62 T h Q   M) ∧ ((cI M 80 h) = 5 → (∃ p8 : Nat, cR M 84 h = some p8 ∧ (tg T p8 = 8 ∧ (((cI M 71 p8) ≤ 0 → fc_X8_isTrue_b62 T h Q   M) ∧ (¬ (cI M 71 p8) ≤ 0 → fc_X8_isTrue_b58 T h Q   M))))))))) ∧ ((cI M 80 h) = 4 → fc_X8_isTrue_b16 T h Q   M))))) → W p l e (headSpec wsX8_isTrue rmX8_isTrue).room s m args below meth c H locs 0 0 (MQ below (va_Qi Q (cB D kA A T) A) args s 0 0 A) (F0 m 0 ls []) := by
    intro M H locs ls hH hl hw
    refine lv_aload_n hx hb dX8_isTrue_0 rfl (lv_at hl 0 rfl) ?_
    obtain ⟨h3, hw⟩ := hw
    refine cg_80 hx hb hts hin8 hown hK hH h3 (hts (.fieldLink RX8 9 "IdlCaller$Thing" "kind" "I") (by decide +kernel)) dX8_isTrue_1 ?_
    refine lv_iconst (v := 2) hx hb dX8_isTrue_4 (by decide) ?_
    refine lv_icmp_eq (tgt := 16) hx hb dX8_isTrue_5 (by decide) (fun c4 => ?_) (fun c4 => ?_)
    · replace hw := hw.1 c4
      exact b16    M H locs ls hH (lv_sub hl [0] rfl) hw
    · replace hw := hw.2 c4
      refine lv_aload_n hx hb dX8_isTrue_8 rfl (lv_at hl 0 rfl) ?_
      refine cg_80 hx hb hts hin8 hown hK hH h3 (hts (.fieldLink RX8 9 "IdlCaller$Thing" "kind" "I") (by decide +kernel)) dX8_isTrue_9 ?_
      refine lv_iconst (v := 4) hx hb dX8_isTrue_12 (by decide) ?_
      refine lv_icmp_ne (tgt := 31) hx hb dX8_isTrue_13 (by decide) (fun c5 => ?_) (fun c5 => ?_)
      · replace hw := hw.1 c5
        refine lv_aload_n hx hb dX8_isTrue_31 rfl (lv_at hl 0 rfl) ?_
        refine cg_80 hx hb hts hin8 hown hK hH h3 (hts (.fieldLink RX8 9 "IdlCaller$Thing" "kind" "I") (by decide +kernel)) dX8_isTrue_32 ?_
        refine lv_bipush (v := 6) hx hb dX8_isTrue_35 (by decide) ?_
        refine lv_icmp_eq (tgt := 58) hx hb dX8_isTrue_37 (by decide) (fun c6 => ?_) (fun c6 => ?_)
        · replace hw := hw.1 c6
          exact b58    M H locs ls hH (lv_sub hl [] rfl) hw
        · replace hw := hw.2 c6
          refine lv_aload_n hx hb dX8_isTrue_40 rfl (lv_at hl 0 rfl) ?_
          refine cg_80 hx hb hts hin8 hown hK hH h3 (hts (.fieldLink RX8 9 "IdlCaller$Thing" "kind" "I") (by decide +kernel)) dX8_isTrue_41 ?_
          refine lv_iconst (v := 5) hx hb dX8_isTrue_44 (by decide) ?_
          refine lv_icmp_ne (tgt := 62) hx hb dX8_isTrue_45 (by decide) (fun c7 => ?_) (fun c7 => ?_)
          · replace hw := hw.1 c7
            exact b62    M H locs ls hH (lv_sub hl [] rfl) hw
          · replace hw := hw.2 c7
            refine lv_aload_n hx hb dX8_isTrue_48 rfl (lv_at hl 0 rfl) ?_
            refine cg_84 hx hb hts hin8 hown hK hH h3 (hts (.fieldLink RX8 35 "IdlCaller$Thing" "text" "LIdlCaller$Text;") (by decide +kernel)) dX8_isTrue_49 ?_
            obtain ⟨p8, ep8, hw⟩ := hw
            refine W.st (st' := [.ref p8]) (by rw [ep8]; rfl) ?_
            obtain ⟨h9, hw⟩ := hw
            refine cg_71 hx hb hts hin7 hown hK hH h9 (hts (.fieldLink RX8 68 "IdlCaller$Text" "length" "I") (by decide +kernel)) dX8_isTrue_52 ?_
            refine lv_if_le (tgt := 62) hx hb dX8_isTrue_55 (by decide) (fun c10 => ?_) (fun c10 => ?_)
            · replace hw := hw.1 c10
              exact b62    M H locs ls hH (lv_sub hl [] rfl) hw
            · replace hw := hw.2 c10
              exact b58    M H locs ls hH (lv_sub hl [] rfl) hw
      · replace hw := hw.2 c5
        exact b16    M H locs ls hH (lv_sub hl [0] rfl) hw
  exact hst M s.heap [] ls hH hl hw
