def fc_X5_firstThatMayMiss_b34 (T : LY) (h : Nat) (Q : Option Nat → CM → Prop) (k2 : Int32 → Int32 → CM → Prop) (v1 : Int32) (v2 : Int32) (M : CM) : Prop := (∀ x1 : Int32, x1 = v2 + 1 → k2 v1 x1 M)
def fc_X5_firstThatMayMiss_c2 (T : LY) (h : Nat) (Q : Option Nat → CM → Prop) (k2 : Int32 → Int32 → CM → Prop) (v1 : Int32) (v2 : Int32) (M : CM) : Prop := (tg T h = 6 ∧ (((cI M 53 h) ≤ v2 → Q none M) ∧ (¬ (cI M 53 h) ≤ v2 → fc_X5_argumentAt T h v2 v1 M (fun (r5 : Option Nat) (M4 : CM) => ((r5 = none → fc_X5_firstThatMayMiss_b34 T h Q k2 v1 v2 M4) ∧ (¬ r5 = none → (∃ p8 : Nat, r5 = some p8 ∧ (tg T p8 = 1 ∧ fc_X0_canBeMissing T p8 M4 (fun (r11 : Int32) (M10 : CM) => ((r11 = 0 → fc_X5_firstThatMayMiss_b34 T h Q k2 v1 v2 M10) ∧ (¬ r11 = 0 → fc_X5_ableAt T h v2 M10 (fun (r15 : Option Nat) (M14 : CM) => Q r15 M14))))))))))))
def fc_X5_firstThatMayMiss_l2 (T : LY) (h : Nat) (Q : Option Nat → CM → Prop) : Nat → Int32 → Int32 → CM → Prop := lit (τ := Int32 → Int32 → CM → Prop) (fun _ _ _ => False) (fun k => fc_X5_firstThatMayMiss_c2 T h Q  k)
def fc_X5_firstThatMayMiss (T : LY) (h : Nat)  (a1 : Int32) (M : CM) (Q : Option Nat → CM → Prop) : Prop := (∃ nn : Nat, fc_X5_firstThatMayMiss_l2 T h Q  nn a1 0 M)
abbrev rmX5_firstThatMayMiss : Room := { frames := 3, cells := 0, slots := 0, locals := 58 }
set_option maxHeartbeats 4000000 in
set_option maxRecDepth 100000 in
theorem tc_X5_firstThatMayMiss (l : Launch) (D : va_G) (kA : Nat → ClassId) (nm : Nat → Nat) (na : Nat) (sa sv : Nat → Nat) (sz : Nat) (T : LY) (h : Nat) (a1 : Int32) (M : CM) (Q : Option Nat → CM → Prop) (hw : fc_X5_firstThatMayMiss T h a1 M Q) : Met l yX5_firstThatMayMiss wsX5_firstThatMayMiss rmX5_firstThatMayMiss (va_Pc [.ref h, .int a1] (cPc nm na sa sv D kA T M sz)) (va_Qq Q (cB D kA (cF T sz) T) (cF T sz)) 0 0 (cF T sz) := by
  refine Met.ofW (cc := cX5_firstThatMayMiss) (maxL := 4) (ret := (some (.object "IdlCaller$Form"))) (by decide) rfl ?_
  intro p e s m args below meth c s₁ B hml hv
  obtain ⟨rfl, hsz, hP, hK, hSt⟩ := hv
  have hx := B.exec
  have hb := B.bytes
  have hr := B.returns
  have hts := atoms_spec (ws := wsX5_firstThatMayMiss) B.pre
  have hown : s.vm.findClass RX5 = some m.cls := findClass_of_methodNamed B.named
  have hlocks : meth.locks = false := B.notSynchronized
  subst hsz
  have hH : cH D kA (cF T s.heap.size) s.heap T M s.heap [] := ⟨hP.self, va_S.rf⟩
  have hA : ∀ q : Nat, s.heap.size ≤ q → cF T s.heap.size q := fun q z => Or.inr z
  generalize cF T s.heap.size = A at hH hA hSt ⊢
  have hl := lv_entry ([.ref h, .int a1]) (n := 4) (by first | exact Nat.le_of_ble_eq_true rfl | simp [lg_sl, va_rf_cat, cat_ref, cat_int, cat_long, cat_double])
  rw [lg_entry_eq]
  generalize (lg_sl ([.ref h, .int a1]) ++ List.replicate (4 - (lg_sl ([.ref h, .int a1])).length) Slot.unset).toArray = ls at hl ⊢
  generalize ([.ref h, .int a1] : List Value).toArray = args at hts ⊢
  have hl : lv_has ls 4 [(0, .ref h), (1, .int a1)] := hl
  have hin5 : ∀ w ∈ wsX50, w ∈ wsX5_firstThatMayMiss := by decide +kernel
  have b34 : ∀ (k2 : Int32 → Int32 → CM → Prop) (hk2 : ∀ (v1 : Int32) (v2 : Int32) (M : CM) (H : Heap) (locs : List Loc) (ls : Array Slot), cH D kA A s.heap T M H locs → lv_has ls 4 [(0, .ref h), (1, .int v1), (2, .int v2)] → k2 v1 v2 M → W p l e (headSpec wsX5_firstThatMayMiss rmX5_firstThatMayMiss).room s m args below meth c H locs 0 0 (MQ below (va_Qq Q (cB D kA A T) A) args s 0 0 A) (F0 m 2 ls [])) (v1 : Int32) (v2 : Int32) (M : CM) (H : Heap) (locs : List Loc) (ls : Array Slot), cH D kA A s.heap T M H locs → lv_has ls 4 [(0, .ref h), (1, .int v1), (2, .int v2)] → fc_X5_firstThatMayMiss_b34 T h Q k2 v1 v2 M → W p l e (headSpec wsX5_firstThatMayMiss rmX5_firstThatMayMiss).room s m args below meth c H locs 0 0 (MQ below (va_Qq Q (cB D kA A T) A) args s 0 0 A) (F0 m 34 ls []) := by
    intro k2 hk2 v1 v2 M H locs ls hH hl hw
    unfold fc_X5_firstThatMayMiss_b34 at hw
    obtain ⟨x1, ex1⟩ : ∃ y : Int32, y = v2 + 1 := ⟨_, rfl⟩
    replace hw := hw x1 ex1
    refine lv_iinc (v := x1) (lv' := [(2, .int x1), (0, .ref h), (1, .int v1)]) hx hb dX5_firstThatMayMiss_34 hl (k := 2) rfl (by rw [ex1]; rfl) (by decide) rfl (fun ls hl => ?_)
    refine lv_goto (tgt := 2) hx hb dX5_firstThatMayMiss_37 (by decide) ?_
    exact hk2 v1 x1 M H locs ls hH (lv_sub hl [1, 2, 0] rfl) hw
  have l2 : ∀ (nn : Nat) (v1 : Int32) (v2 : Int32) (M : CM) (H : Heap) (locs : List Loc) (ls : Array Slot), cH D kA A s.heap T M H locs → lv_has ls 4 [(0, .ref h), (1, .int v1), (2, .int v2)] → fc_X5_firstThatMayMiss_l2 T h Q  nn v1 v2 M → W p l e (headSpec wsX5_firstThatMayMiss rmX5_firstThatMayMiss).room s m args below meth c H locs 0 0 (MQ below (va_Qq Q (cB D kA A T) A) args s 0 0 A) (F0 m 2 ls []) := by
    intro   nn
    induction nn with
    | zero => intro v1 v2 M H locs ls hH hl hw; exact False.elim hw
    | succ nn hk2 =>
      intro v1 v2 M H locs ls hH hl hw
      replace hw : fc_X5_firstThatMayMiss_c2 T h Q  (fc_X5_firstThatMayMiss_l2 T h Q  nn) v1 v2 M := hw
      unfold fc_X5_firstThatMayMiss_c2 at hw
      refine lv_iload_n hx hb dX5_firstThatMayMiss_2 rfl (lv_at hl 2 rfl) ?_
      refine lv_aload_n hx hb dX5_firstThatMayMiss_3 rfl (lv_at hl 0 rfl) ?_
      obtain ⟨h2, hw⟩ := hw
      refine cg_53 hx hb hts hin5 hown hK hH h2 (hts (.fieldLink RX5 24 "IdlCaller$Operation" "ables" "I") (by decide +kernel)) dX5_firstThatMayMiss_4 ?_
      refine lv_icmp_ge (tgt := 40) hx hb dX5_firstThatMayMiss_7 (by decide) (fun c3 => ?_) (fun c3 => ?_)
      · replace hw := hw.1 c3
        refine lv_null hx hb dX5_firstThatMayMiss_40 ?_
        exact c_retq (v := none) hx hb hr (Or.inl ⟨_, rfl⟩) hlocks hK hH hw dX5_firstThatMayMiss_41
      · replace hw := hw.2 c3
        refine lv_aload_n hx hb dX5_firstThatMayMiss_10 rfl (lv_at hl 0 rfl) ?_
        refine lv_iload_n hx hb dX5_firstThatMayMiss_11 rfl (lv_at hl 2 rfl) ?_
        refine lv_iload_n hx hb dX5_firstThatMayMiss_12 rfl (lv_at hl 1 rfl) ?_
        refine c_callq (va_runV (As := [.int v2, .int v1]) (rest := []) ⟨hx, hb, hml, hown, hts⟩ (tc_X5_argumentAt l D kA nm na sa sv H.size T h v2 v1 M _ hw) (cwV 2 hts gX5_firstThatMayMiss_X5_argumentAt rfl rfl rfl (by decide +kernel) ⟨(show (2 : Nat) + 1 ≤ 3 from Nat.le_of_ble_eq_true rfl), (show 8 + (4 + 11) + (35 : Nat) ≤ 58 from Nat.le_of_ble_eq_true rfl)⟩) (c_preV hK hH hA hSt (c_recv5 hK hH h2)) rfl rfl hl.1 rfl (lv_room (by first | exact Nat.le_of_ble_eq_true rfl | simp [va_rf_cat, cat_ref, cat_int, cat_long, cat_double, cat_null])) dX5_firstThatMayMiss_13 ⟨Nat.le_of_ble_eq_true rfl, Nat.le_of_ble_eq_true rfl⟩) hH hA (fun r5 M4 H locs hw hH => ?_)
        refine s_astore_n (i := 3) (lv' := [(3, va_rf r5), (0, .ref h), (1, .int v1), (2, .int v2)]) hx hb dX5_firstThatMayMiss_16 rfl hl (by decide) (by first | rfl | simp [va_rf_cat, cat_ref, cat_int, cat_long, cat_double, cat_null]) (fun ls hl => ?_)
        refine s_aload_n hx hb dX5_firstThatMayMiss_17 rfl (lv_at hl 0 rfl) ?_
        refine s_ifnull (tgt := 34) hx hb dX5_firstThatMayMiss_18 (by decide) (fun c7 => ?_) (fun c7 => ?_)
        · replace hw := hw.1 c7
          exact b34 _ hk2 v1 v2 M4 H locs ls hH (lv_sub hl [1, 2, 3] rfl) hw
        · replace hw := hw.2 c7
          refine s_aload_n hx hb dX5_firstThatMayMiss_21 rfl (lv_at hl 0 rfl) ?_
          obtain ⟨p8, ep8, hw⟩ := hw
          refine W.st (st' := [.ref p8]) (by rw [ep8]; rfl) ?_
          obtain ⟨h9, hw⟩ := hw
          refine c_calli (va_runV (As := []) (rest := []) ⟨hx, hb, hml, hown, hts⟩ (tc_X0_canBeMissing l D kA nm na sa sv H.size T p8 M4 _ hw) (cwV 0 hts gX5_firstThatMayMiss_X0_canBeMissing rfl rfl rfl (by decide +kernel) ⟨(show (0 : Nat) + 1 ≤ 3 from Nat.le_of_ble_eq_true rfl), (show 8 + (1 + 11) + (0 : Nat) ≤ 58 from Nat.le_of_ble_eq_true rfl)⟩) (c_preV hK hH hA hSt (c_recv0 hK hH h9)) rfl rfl hl.1 rfl (lv_room (by first | exact Nat.le_of_ble_eq_true rfl | simp [va_rf_cat, cat_ref, cat_int, cat_long, cat_double, cat_null])) dX5_firstThatMayMiss_22 ⟨Nat.le_of_ble_eq_true rfl, Nat.le_of_ble_eq_true rfl⟩) hH hA (fun r11 M10 H locs hw hH => ?_)
          refine lv_if_eq (tgt := 34) hx hb dX5_firstThatMayMiss_25 (by decide) (fun c13 => ?_) (fun c13 => ?_)
          · replace hw := hw.1 c13
            exact b34 _ hk2 v1 v2 M10 H locs ls hH (lv_sub hl [1, 2, 3] rfl) hw
          · replace hw := hw.2 c13
            refine lv_aload_n hx hb dX5_firstThatMayMiss_28 rfl (lv_at hl 1 rfl) ?_
            refine lv_iload_n hx hb dX5_firstThatMayMiss_29 rfl (lv_at hl 3 rfl) ?_
            refine c_callq (va_runV (As := [.int v2]) (rest := []) ⟨hx, hb, hml, hown, hts⟩ (tc_X5_ableAt l D kA nm na sa sv H.size T h v2 M10 _ hw) (cwV 1 hts gX5_firstThatMayMiss_X5_ableAt rfl rfl rfl (by decide +kernel) ⟨(show (0 : Nat) + 1 ≤ 3 from Nat.le_of_ble_eq_true rfl), (show 8 + (2 + 11) + (0 : Nat) ≤ 58 from Nat.le_of_ble_eq_true rfl)⟩) (c_preV hK hH hA hSt (c_recv5 hK hH h2)) rfl rfl hl.1 rfl (lv_room (by first | exact Nat.le_of_ble_eq_true rfl | simp [va_rf_cat, cat_ref, cat_int, cat_long, cat_double, cat_null])) dX5_firstThatMayMiss_30 ⟨Nat.le_of_ble_eq_true rfl, Nat.le_of_ble_eq_true rfl⟩) hH hA (fun r15 M14 H locs hw hH => ?_)
            exact c_retq (v := r15) hx hb hr (Or.inl ⟨_, rfl⟩) hlocks hK hH hw dX5_firstThatMayMiss_33
  clear hP
  unfold fc_X5_firstThatMayMiss at hw
  have hst : ∀ (M : CM) (H : Heap) (locs : List Loc) (ls : Array Slot), cH D kA A s.heap T M H locs → lv_has ls 4 [(0, .ref h), (1, .int a1)] → (∃ nn : Nat, fc_X5_firstThatMayMiss_l2 T h Q  nn a1 0 M) → W p l e (headSpec wsX5_firstThatMayMiss rmX5_firstThatMayMiss).room s m args below meth c H locs 0 0 (MQ below (va_Qq Q (cB D kA A T) A) args s 0 0 A) (F0 m 0 ls []) := by
    intro M H locs ls hH hl hw
    refine lv_iconst (v := 0) hx hb dX5_firstThatMayMiss_0 (by decide) ?_
    refine lv_istore_n (i := 2) (lv' := [(2, .int 0), (0, .ref h), (1, .int a1)]) hx hb dX5_firstThatMayMiss_1 rfl hl (by decide) rfl (fun ls hl => ?_)
    obtain ⟨nn, hw⟩ := hw
    exact l2   nn a1 0 M H locs ls hH (lv_sub hl [1, 2, 0] rfl) hw
  exact hst M s.heap [] ls hH hl hw
def fc_X5_firstNullable_b34 (T : LY) (h : Nat) (Q : Option Nat → CM → Prop) (k2 : Int32 → Int32 → CM → Prop) (v1 : Int32) (v2 : Int32) (M : CM) : Prop := (∀ x1 : Int32, x1 = v2 + 1 → k2 v1 x1 M)
def fc_X5_firstNullable_c2 (T : LY) (h : Nat) (Q : Option Nat → CM → Prop) (k2 : Int32 → Int32 → CM → Prop) (v1 : Int32) (v2 : Int32) (M : CM) : Prop := (tg T h = 6 ∧ (((cI M 53 h) ≤ v2 → Q none M) ∧ (¬ (cI M 53 h) ≤ v2 → fc_X5_typeAt T h v2 v1 M (fun (r5 : Option Nat) (M4 : CM) => ((r5 = none → fc_X5_firstNullable_b34 T h Q k2 v1 v2 M4) ∧ (¬ r5 = none → (∃ p8 : Nat, r5 = some p8 ∧ (tg T p8 = 10 ∧ (((cI M4 92 p8) = 0 → fc_X5_firstNullable_b34 T h Q k2 v1 v2 M4) ∧ (¬ (cI M4 92 p8) = 0 → fc_X5_ableAt T h v2 M4 (fun (r12 : Option Nat) (M11 : CM) => Q r12 M11)))))))))))
def fc_X5_firstNullable_l2 (T : LY) (h : Nat) (Q : Option Nat → CM → Prop) : Nat → Int32 → Int32 → CM → Prop := lit (τ := Int32 → Int32 → CM → Prop) (fun _ _ _ => False) (fun k => fc_X5_firstNullable_c2 T h Q  k)
def fc_X5_firstNullable (T : LY) (h : Nat)  (a1 : Int32) (M : CM) (Q : Option Nat → CM → Prop) : Prop := (∃ nn : Nat, fc_X5_firstNullable_l2 T h Q  nn a1 0 M)
abbrev rmX5_firstNullable : Room := { frames := 4, cells := 0, slots := 0, locals := 81 }
set_option maxHeartbeats 4000000 in
set_option maxRecDepth 100000 in
theorem tc_X5_firstNullable (l : Launch) (D : va_G) (kA : Nat → ClassId) (nm : Nat → Nat) (na : Nat) (sa sv : Nat → Nat) (sz : Nat) (T : LY) (h : Nat) (a1 : Int32) (M : CM) (Q : Option Nat → CM → Prop) (hw : fc_X5_firstNullable T h a1 M Q) : Met l yX5_firstNullable wsX5_firstNullable rmX5_firstNullable (va_Pc [.ref h, .int a1] (cPc nm na sa sv D kA T M sz)) (va_Qq Q (cB D kA (cF T sz) T) (cF T sz)) 0 0 (cF T sz) := by
  refine Met.ofW (cc := cX5_firstNullable) (maxL := 4) (ret := (some (.object "IdlCaller$Form"))) (by decide) rfl ?_
  intro p e s m args below meth c s₁ B hml hv
  obtain ⟨rfl, hsz, hP, hK, hSt⟩ := hv
  have hx := B.exec
  have hb := B.bytes
  have hr := B.returns
  have hts := atoms_spec (ws := wsX5_firstNullable) B.pre
  have hown : s.vm.findClass RX5 = some m.cls := findClass_of_methodNamed B.named
  have hlocks : meth.locks = false := B.notSynchronized
  subst hsz
  have hH : cH D kA (cF T s.heap.size) s.heap T M s.heap [] := ⟨hP.self, va_S.rf⟩
  have hA : ∀ q : Nat, s.heap.size ≤ q → cF T s.heap.size q := fun q z => Or.inr z
  generalize cF T s.heap.size = A at hH hA hSt ⊢
  have hl := lv_entry ([.ref h, .int a1]) (n := 4) (by first | exact Nat.le_of_ble_eq_true rfl | simp [lg_sl, va_rf_cat, cat_ref, cat_int, cat_long, cat_double])
  rw [lg_entry_eq]
  generalize (lg_sl ([.ref h, .int a1]) ++ List.replicate (4 - (lg_sl ([.ref h, .int a1])).length) Slot.unset).toArray = ls at hl ⊢
  generalize ([.ref h, .int a1] : List Value).toArray = args at hts ⊢
  have hl : lv_has ls 4 [(0, .ref h), (1, .int a1)] := hl
  have hin5 : ∀ w ∈ wsX50, w ∈ wsX5_firstNullable := by decide +kernel
  have hin9 : ∀ w ∈ wsX90, w ∈ wsX5_firstNullable := by decide +kernel
  have b34 : ∀ (k2 : Int32 → Int32 → CM → Prop) (hk2 : ∀ (v1 : Int32) (v2 : Int32) (M : CM) (H : Heap) (locs : List Loc) (ls : Array Slot), cH D kA A s.heap T M H locs → lv_has ls 4 [(0, .ref h), (1, .int v1), (2, .int v2)] → k2 v1 v2 M → W p l e (headSpec wsX5_firstNullable rmX5_firstNullable).room s m args below meth c H locs 0 0 (MQ below (va_Qq Q (cB D kA A T) A) args s 0 0 A) (F0 m 2 ls [])) (v1 : Int32) (v2 : Int32) (M : CM) (H : Heap) (locs : List Loc) (ls : Array Slot), cH D kA A s.heap T M H locs → lv_has ls 4 [(0, .ref h), (1, .int v1), (2, .int v2)] → fc_X5_firstNullable_b34 T h Q k2 v1 v2 M → W p l e (headSpec wsX5_firstNullable rmX5_firstNullable).room s m args below meth c H locs 0 0 (MQ below (va_Qq Q (cB D kA A T) A) args s 0 0 A) (F0 m 34 ls []) := by
    intro k2 hk2 v1 v2 M H locs ls hH hl hw
    unfold fc_X5_firstNullable_b34 at hw
    obtain ⟨x1, ex1⟩ : ∃ y : Int32, y = v2 + 1 := ⟨_, rfl⟩
    replace hw := hw x1 ex1
    refine lv_iinc (v := x1) (lv' := [(2, .int x1), (0, .ref h), (1, .int v1)]) hx hb dX5_firstNullable_34 hl (k := 2) rfl (by rw [ex1]; rfl) (by decide) rfl (fun ls hl => ?_)
    refine lv_goto (tgt := 2) hx hb dX5_firstNullable_37 (by decide) ?_
    exact hk2 v1 x1 M H locs ls hH (lv_sub hl [1, 2, 0] rfl) hw
  have l2 : ∀ (nn : Nat) (v1 : Int32) (v2 : Int32) (M : CM) (H : Heap) (locs : List Loc) (ls : Array Slot), cH D kA A s.heap T M H locs → lv_has ls 4 [(0, .ref h), (1, .int v1), (2, .int v2)] → fc_X5_firstNullable_l2 T h Q  nn v1 v2 M → W p l e (headSpec wsX5_firstNullable rmX5_firstNullable).room s m args below meth c H locs 0 0 (MQ below (va_Qq Q (cB D kA A T) A) args s 0 0 A) (F0 m 2 ls []) := by
    intro   nn
    induction nn with
    | zero => intro v1 v2 M H locs ls hH hl hw; exact False.elim hw
    | succ nn hk2 =>
      intro v1 v2 M H locs ls hH hl hw
      replace hw : fc_X5_firstNullable_c2 T h Q  (fc_X5_firstNullable_l2 T h Q  nn) v1 v2 M := hw
      unfold fc_X5_firstNullable_c2 at hw
      refine lv_iload_n hx hb dX5_firstNullable_2 rfl (lv_at hl 2 rfl) ?_
      refine lv_aload_n hx hb dX5_firstNullable_3 rfl (lv_at hl 0 rfl) ?_
      obtain ⟨h2, hw⟩ := hw
      refine cg_53 hx hb hts hin5 hown hK hH h2 (hts (.fieldLink RX5 24 "IdlCaller$Operation" "ables" "I") (by decide +kernel)) dX5_firstNullable_4 ?_
      refine lv_icmp_ge (tgt := 40) hx hb dX5_firstNullable_7 (by decide) (fun c3 => ?_) (fun c3 => ?_)
      · replace hw := hw.1 c3
        refine lv_null hx hb dX5_firstNullable_40 ?_
        exact c_retq (v := none) hx hb hr (Or.inl ⟨_, rfl⟩) hlocks hK hH hw dX5_firstNullable_41
      · replace hw := hw.2 c3
        refine lv_aload_n hx hb dX5_firstNullable_10 rfl (lv_at hl 0 rfl) ?_
        refine lv_iload_n hx hb dX5_firstNullable_11 rfl (lv_at hl 2 rfl) ?_
        refine lv_iload_n hx hb dX5_firstNullable_12 rfl (lv_at hl 1 rfl) ?_
        refine c_callq (va_runV (As := [.int v2, .int v1]) (rest := []) ⟨hx, hb, hml, hown, hts⟩ (tc_X5_typeAt l D kA nm na sa sv H.size T h v2 v1 M _ hw) (cwV 2 hts gX5_firstNullable_X5_typeAt rfl rfl rfl (by decide +kernel) ⟨(show (3 : Nat) + 1 ≤ 4 from Nat.le_of_ble_eq_true rfl), (show 8 + (4 + 11) + (58 : Nat) ≤ 81 from Nat.le_of_ble_eq_true rfl)⟩) (c_preV hK hH hA hSt (c_recv5 hK hH h2)) rfl rfl hl.1 rfl (lv_room (by first | exact Nat.le_of_ble_eq_true rfl | simp [va_rf_cat, cat_ref, cat_int, cat_long, cat_double, cat_null])) dX5_firstNullable_13 ⟨Nat.le_of_ble_eq_true rfl, Nat.le_of_ble_eq_true rfl⟩) hH hA (fun r5 M4 H locs hw hH => ?_)
        refine s_astore_n (i := 3) (lv' := [(3, va_rf r5), (0, .ref h), (1, .int v1), (2, .int v2)]) hx hb dX5_firstNullable_16 rfl hl (by decide) (by first | rfl | simp [va_rf_cat, cat_ref, cat_int, cat_long, cat_double, cat_null]) (fun ls hl => ?_)
        refine s_aload_n hx hb dX5_firstNullable_17 rfl (lv_at hl 0 rfl) ?_
        refine s_ifnull (tgt := 34) hx hb dX5_firstNullable_18 (by decide) (fun c7 => ?_) (fun c7 => ?_)
        · replace hw := hw.1 c7
          exact b34 _ hk2 v1 v2 M4 H locs ls hH (lv_sub hl [1, 2, 3] rfl) hw
        · replace hw := hw.2 c7
          refine s_aload_n hx hb dX5_firstNullable_21 rfl (lv_at hl 0 rfl) ?_
          obtain ⟨p8, ep8, hw⟩ := hw
          refine W.st (st' := [.ref p8]) (by rw [ep8]; rfl) ?_
          obtain ⟨h9, hw⟩ := hw
          refine cg_92 hx hb hts hin9 hown hK hH h9 (hts (.fieldLink RX5 127 "IdlCaller$Type" "nullable" "Z") (by decide +kernel)) dX5_firstNullable_22 ?_
          refine lv_if_eq (tgt := 34) hx hb dX5_firstNullable_25 (by decide) (fun c10 => ?_) (fun c10 => ?_)
          · replace hw := hw.1 c10
            exact b34 _ hk2 v1 v2 M4 H locs ls hH (lv_sub hl [1, 2, 3] rfl) hw
          · replace hw := hw.2 c10
            refine lv_aload_n hx hb dX5_firstNullable_28 rfl (lv_at hl 1 rfl) ?_
            refine lv_iload_n hx hb dX5_firstNullable_29 rfl (lv_at hl 3 rfl) ?_
            refine c_callq (va_runV (As := [.int v2]) (rest := []) ⟨hx, hb, hml, hown, hts⟩ (tc_X5_ableAt l D kA nm na sa sv H.size T h v2 M4 _ hw) (cwV 1 hts gX5_firstNullable_X5_ableAt rfl rfl rfl (by decide +kernel) ⟨(show (0 : Nat) + 1 ≤ 4 from Nat.le_of_ble_eq_true rfl), (show 8 + (2 + 11) + (0 : Nat) ≤ 81 from Nat.le_of_ble_eq_true rfl)⟩) (c_preV hK hH hA hSt (c_recv5 hK hH h2)) rfl rfl hl.1 rfl (lv_room (by first | exact Nat.le_of_ble_eq_true rfl | simp [va_rf_cat, cat_ref, cat_int, cat_long, cat_double, cat_null])) dX5_firstNullable_30 ⟨Nat.le_of_ble_eq_true rfl, Nat.le_of_ble_eq_true rfl⟩) hH hA (fun r12 M11 H locs hw hH => ?_)
            exact c_retq (v := r12) hx hb hr (Or.inl ⟨_, rfl⟩) hlocks hK hH hw dX5_firstNullable_33
  clear hP
  unfold fc_X5_firstNullable at hw
  have hst : ∀ (M : CM) (H : Heap) (locs : List Loc) (ls : Array Slot), cH D kA A s.heap T M H locs → lv_has ls 4 [(0, .ref h), (1, .int a1)] → (∃ nn : Nat, fc_X5_firstNullable_l2 T h Q  nn a1 0 M) → W p l e (headSpec wsX5_firstNullable rmX5_firstNullable).room s m args below meth c H locs 0 0 (MQ below (va_Qq Q (cB D kA A T) A) args s 0 0 A) (F0 m 0 ls []) := by
    intro M H locs ls hH hl hw
    refine lv_iconst (v := 0) hx hb dX5_firstNullable_0 (by decide) ?_
    refine lv_istore_n (i := 2) (lv' := [(2, .int 0), (0, .ref h), (1, .int a1)]) hx hb dX5_firstNullable_1 rfl hl (by decide) rfl (fun ls hl => ?_)
    obtain ⟨nn, hw⟩ := hw
    exact l2   nn a1 0 M H locs ls hH (lv_sub hl [1, 2, 0] rfl) hw
  exact hst M s.heap [] ls hH hl hw
def fc_X5_sortOf_b34 (T : LY) (Q : Int32 → CM → Prop) (s0 : Int32) (M : CM) : Prop := Q s0 M
def fc_X5_sortOf (T : LY)  (a1 : Option Nat) (M : CM) (Q : Int32 → CM → Prop) : Prop := (∃ p1 : Nat, a1 = some p1 ∧ (tg T p1 = 9 ∧ ((¬ (cI M 80 p1) = 6 → ((¬ (cI M 80 p1) = 2 → ((¬ (cI M 80 p1) = 4 → fc_X5_sortOf_b34 T Q  3 M) ∧ ((cI M 80 p1) = 4 → fc_X5_sortOf_b34 T Q  2 M))) ∧ ((cI M 80 p1) = 2 → Q 1 M))) ∧ ((cI M 80 p1) = 6 → Q 4 M))))
abbrev rmX5_sortOf : Room := { frames := 0, cells := 0, slots := 0, locals := 0 }
set_option maxHeartbeats 4000000 in
set_option maxRecDepth 100000 in
theorem tc_X5_sortOf (l : Launch) (D : va_G) (kA : Nat → ClassId) (nm : Nat → Nat) (na : Nat) (sa sv : Nat → Nat) (sz : Nat) (T : LY) (a1 : Option Nat) (M : CM) (Q : Int32 → CM → Prop) (hw : fc_X5_sortOf T a1 M Q) : Met l yX5_sortOf wsX5_sortOf rmX5_sortOf (va_Pc [va_rf a1] (cPc nm na sa sv D kA T M sz)) (va_Qi Q (cB D kA (cF T sz) T) (cF T sz)) 0 0 (cF T sz) := by
  refine Met.ofW (cc := cX5_sortOf) (maxL := 1) (ret := (some .int)) (by decide) rfl ?_
  intro p e s m args below meth c s₁ B hml hv
  obtain ⟨rfl, hsz, hP, hK, hSt⟩ := hv
  have hx := B.exec
  have hb := B.bytes
  have hr := B.returns
  have hts := atoms_spec (ws := wsX5_sortOf) B.pre
  have hown : s.vm.findClass RX5 = some m.cls := findClass_of_methodNamed B.named
  have hlocks : meth.locks = false := B.notSynchronized
  subst hsz
  have hH : cH D kA (cF T s.heap.size) s.heap T M s.heap [] := ⟨hP.self, va_S.rf⟩
  have hA : ∀ q : Nat, s.heap.size ≤ q → cF T s.heap.size q := fun q z => Or.inr z
  generalize cF T s.heap.size = A at hH hA hSt ⊢
  have hl := lv_entry ([va_rf a1]) (n := 1) (by first | exact Nat.le_of_ble_eq_true rfl | simp [lg_sl, va_rf_cat, cat_ref, cat_int, cat_long, cat_double])
  rw [lg_entry_eq]
  generalize (lg_sl ([va_rf a1]) ++ List.replicate (1 - (lg_sl ([va_rf a1])).length) Slot.unset).toArray = ls at hl ⊢
  generalize ([va_rf a1] : List Value).toArray = args at hts ⊢
  have hl : lv_has ls 1 [(0, va_rf a1)] := by simpa [lv_args, va_rf_cat, cat_ref, cat_int, cat_long, cat_double] using hl
  have hin8 : ∀ w ∈ wsX80, w ∈ wsX5_sortOf := by decide +kernel
  have b34 : ∀ (s0 : Int32) (M : CM) (H : Heap) (locs : List Loc) (ls : Array Slot), cH D kA A s.heap T M H locs → lv_has ls 1 [] → fc_X5_sortOf_b34 T Q  s0 M → W p l e (headSpec wsX5_sortOf rmX5_sortOf).room s m args below meth c H locs 0 0 (MQ below (va_Qi Q (cB D kA A T) A) args s 0 0 A) (F0 m 34 ls [.int s0]) := by
    intro   s0 M H locs ls hH hl hw
    unfold fc_X5_sortOf_b34 at hw
    exact c_reti hx hb hr hlocks hK hH hw dX5_sortOf_34
  clear hP
  unfold fc_X5_sortOf at hw
  have hst : ∀ (M : CM) (H : Heap) (locs : List Loc) (ls : Array Slot), cH D kA A s.heap T M H locs → lv_has ls 1 [(0, va_rf a1)] → (∃ p1 : Nat, a1 = some p1 ∧ (tg T p1 = 9 ∧ ((¬ (cI M 80 p1) = 6 → ((¬ (cI M 80 p1) = 2 → ((¬ (cI M 80 p1) = 4 → fc_X5_sortOf_b34 T Q  3 M) ∧ ((cI M 80 p1) = 4 → fc_X5_sortOf_b34 T Q  2 M))) ∧ ((cI M 80 p1) = 2 → Q 1 M))) ∧ ((cI M 80 p1) = 6 → Q 4 M)))) → W p l e (headSpec wsX5_sortOf rmX5_sortOf).room s m args below meth c H locs 0 0 (MQ below (va_Qi Q (cB D kA A T) A) args s 0 0 A) (F0 m 0 ls []) := by
    intro M H locs ls hH hl hw
    refine s_aload_n hx hb dX5_sortOf_0 rfl (lv_at hl 0 rfl) ?_
    obtain ⟨p1, ep1, hw⟩ := hw
    refine W.st (st' := [.ref p1]) (by rw [ep1]; rfl) ?_
    obtain ⟨h2, hw⟩ := hw
    refine cg_80 hx hb hts hin8 hown hK hH h2 (hts (.fieldLink RX5 101 "IdlCaller$Thing" "kind" "I") (by decide +kernel)) dX5_sortOf_1 ?_
    refine lv_bipush (v := 6) hx hb dX5_sortOf_4 (by decide) ?_
    refine lv_icmp_ne (tgt := 11) hx hb dX5_sortOf_6 (by decide) (fun c3 => ?_) (fun c3 => ?_)
    · replace hw := hw.1 c3
      refine s_aload_n hx hb dX5_sortOf_11 rfl (lv_at hl 0 rfl) ?_
      refine W.st (st' := [.ref p1]) (by rw [ep1]; rfl) ?_
      refine cg_80 hx hb hts hin8 hown hK hH h2 (hts (.fieldLink RX5 101 "IdlCaller$Thing" "kind" "I") (by decide +kernel)) dX5_sortOf_12 ?_
      refine lv_iconst (v := 2) hx hb dX5_sortOf_15 (by decide) ?_
      refine lv_icmp_ne (tgt := 21) hx hb dX5_sortOf_16 (by decide) (fun c4 => ?_) (fun c4 => ?_)
      · replace hw := hw.1 c4
        refine s_aload_n hx hb dX5_sortOf_21 rfl (lv_at hl 0 rfl) ?_
        refine W.st (st' := [.ref p1]) (by rw [ep1]; rfl) ?_
        refine cg_80 hx hb hts hin8 hown hK hH h2 (hts (.fieldLink RX5 101 "IdlCaller$Thing" "kind" "I") (by decide +kernel)) dX5_sortOf_22 ?_
        refine lv_iconst (v := 4) hx hb dX5_sortOf_25 (by decide) ?_
        refine lv_icmp_ne (tgt := 33) hx hb dX5_sortOf_26 (by decide) (fun c5 => ?_) (fun c5 => ?_)
        · replace hw := hw.1 c5
          refine lv_iconst (v := 3) hx hb dX5_sortOf_33 (by decide) ?_
          exact b34   3 M H locs ls hH (lv_sub hl [] rfl) hw
        · replace hw := hw.2 c5
          refine lv_iconst (v := 2) hx hb dX5_sortOf_29 (by decide) ?_
          refine lv_goto (tgt := 34) hx hb dX5_sortOf_30 (by decide) ?_
          exact b34   2 M H locs ls hH (lv_sub hl [] rfl) hw
      · replace hw := hw.2 c4
        refine lv_iconst (v := 1) hx hb dX5_sortOf_19 (by decide) ?_
        exact c_reti hx hb hr hlocks hK hH hw dX5_sortOf_20
    · replace hw := hw.2 c3
      refine lv_iconst (v := 4) hx hb dX5_sortOf_9 (by decide) ?_
      exact c_reti hx hb hr hlocks hK hH hw dX5_sortOf_10
  exact hst M s.heap [] ls hH hl hw
def fc_X5_firstOfSort_b41 (nm : Nat → Nat) (T : LY) (h : Nat) (Q : Option Nat → CM → Prop) (k2 : Int32 → Int32 → Int32 → CM → Prop) (v1 : Int32) (v2 : Int32) (v3 : Int32) (M : CM) : Prop := (∀ x1 : Int32, x1 = v3 + 1 → k2 v1 v2 x1 M)
def fc_X5_firstOfSort_c2 (nm : Nat → Nat) (T : LY) (h : Nat) (Q : Option Nat → CM → Prop) (k2 : Int32 → Int32 → Int32 → CM → Prop) (v1 : Int32) (v2 : Int32) (v3 : Int32) (M : CM) : Prop := (tg T h = 6 ∧ (((cI M 53 h) ≤ v3 → Q none M) ∧ (¬ (cI M 53 h) ≤ v3 → fc_X5_typeAt T h v3 v1 M (fun (r5 : Option Nat) (M4 : CM) => ((r5 = none → fc_X5_firstOfSort_b41 nm T h Q k2 v1 v2 v3 M4) ∧ (¬ r5 = none → (∃ p8 : Nat, r5 = some p8 ∧ (tg T p8 = 10 ∧ (∃ i10 : Nat, cR M4 90 p8 = some (nm i10) ∧ i10 < 10 ∧ ((¬ (nSort i10) = v2 → fc_X5_firstOfSort_b41 nm T h Q k2 v1 v2 v3 M4) ∧ ((nSort i10) = v2 → fc_X5_ableAt T h v3 M4 (fun (r13 : Option Nat) (M12 : CM) => Q r13 M12))))))))))))
def fc_X5_firstOfSort_l2 (nm : Nat → Nat) (T : LY) (h : Nat) (Q : Option Nat → CM → Prop) : Nat → Int32 → Int32 → Int32 → CM → Prop := lit (τ := Int32 → Int32 → Int32 → CM → Prop) (fun _ _ _ _ => False) (fun k => fc_X5_firstOfSort_c2 nm T h Q  k)
def fc_X5_firstOfSort (nm : Nat → Nat) (T : LY) (h : Nat)  (a1 : Int32) (a2 : Int32) (M : CM) (Q : Option Nat → CM → Prop) : Prop := (∃ nn : Nat, fc_X5_firstOfSort_l2 nm T h Q  nn a1 a2 0 M)
abbrev rmX5_firstOfSort : Room := { frames := 4, cells := 0, slots := 0, locals := 81 }
set_option maxHeartbeats 4000000 in
set_option maxRecDepth 100000 in
theorem tc_X5_firstOfSort (l : Launch) (D : va_G) (kA : Nat → ClassId) (nm : Nat → Nat) (na : Nat) (sa sv : Nat → Nat) (sz : Nat) (T : LY) (h : Nat) (a1 : Int32) (a2 : Int32) (M : CM) (Q : Option Nat → CM → Prop) (hw : fc_X5_firstOfSort nm T h a1 a2 M Q) : Met l yX5_firstOfSort wsX5_firstOfSort rmX5_firstOfSort (va_Pc [.ref h, .int a1, .int a2] (cPc nm na sa sv D kA T M sz)) (va_Qq Q (cB D kA (cF T sz) T) (cF T sz)) 0 0 (cF T sz) := by
  refine Met.ofW (cc := cX5_firstOfSort) (maxL := 5) (ret := (some (.object "IdlCaller$Form"))) (by decide) rfl ?_
  intro p e s m args below meth c s₁ B hml hv
  obtain ⟨rfl, hsz, hP, hK, hSt⟩ := hv
  have hx := B.exec
  have hb := B.bytes
  have hr := B.returns
  have hts := atoms_spec (ws := wsX5_firstOfSort) B.pre
  have hown : s.vm.findClass RX5 = some m.cls := findClass_of_methodNamed B.named
  have hlocks : meth.locks = false := B.notSynchronized
  subst hsz
  have hH : cH D kA (cF T s.heap.size) s.heap T M s.heap [] := ⟨hP.self, va_S.rf⟩
  have hA : ∀ q : Nat, s.heap.size ≤ q → cF T s.heap.size q := fun q z => Or.inr z
  generalize cF T s.heap.size = A at hH hA hSt ⊢
  have hl := lv_entry ([.ref h, .int a1, .int a2]) (n := 5) (by first | exact Nat.le_of_ble_eq_true rfl | simp [lg_sl, va_rf_cat, cat_ref, cat_int, cat_long, cat_double])
  rw [lg_entry_eq]
  generalize (lg_sl ([.ref h, .int a1, .int a2]) ++ List.replicate (5 - (lg_sl ([.ref h, .int a1, .int a2])).length) Slot.unset).toArray = ls at hl ⊢
  generalize ([.ref h, .int a1, .int a2] : List Value).toArray = args at hts ⊢
  have hl : lv_has ls 5 [(0, .ref h), (1, .int a1), (2, .int a2)] := hl
  have hin5 : ∀ w ∈ wsX50, w ∈ wsX5_firstOfSort := by decide +kernel
  have hin9 : ∀ w ∈ wsX90, w ∈ wsX5_firstOfSort := by decide +kernel
  have b41 : ∀ (k2 : Int32 → Int32 → Int32 → CM → Prop) (hk2 : ∀ (v1 : Int32) (v2 : Int32) (v3 : Int32) (M : CM) (H : Heap) (locs : List Loc) (ls : Array Slot), cH D kA A s.heap T M H locs → lv_has ls 5 [(0, .ref h), (1, .int v1), (2, .int v2), (3, .int v3)] → k2 v1 v2 v3 M → W p l e (headSpec wsX5_firstOfSort rmX5_firstOfSort).room s m args below meth c H locs 0 0 (MQ below (va_Qq Q (cB D kA A T) A) args s 0 0 A) (F0 m 2 ls [])) (v1 : Int32) (v2 : Int32) (v3 : Int32) (M : CM) (H : Heap) (locs : List Loc) (ls : Array Slot), cH D kA A s.heap T M H locs → lv_has ls 5 [(0, .ref h), (1, .int v1), (2, .int v2), (3, .int v3)] → fc_X5_firstOfSort_b41 nm T h Q k2 v1 v2 v3 M → W p l e (headSpec wsX5_firstOfSort rmX5_firstOfSort).room s m args below meth c H locs 0 0 (MQ below (va_Qq Q (cB D kA A T) A) args s 0 0 A) (F0 m 41 ls []) := by
    intro k2 hk2 v1 v2 v3 M H locs ls hH hl hw
    unfold fc_X5_firstOfSort_b41 at hw
    obtain ⟨x1, ex1⟩ : ∃ y : Int32, y = v3 + 1 := ⟨_, rfl⟩
    replace hw := hw x1 ex1
    refine lv_iinc (v := x1) (lv' := [(3, .int x1), (0, .ref h), (1, .int v1), (2, .int v2)]) hx hb dX5_firstOfSort_41 hl (k := 3) rfl (by rw [ex1]; rfl) (by decide) rfl (fun ls hl => ?_)
    refine lv_goto (tgt := 2) hx hb dX5_firstOfSort_44 (by decide) ?_
    exact hk2 v1 v2 x1 M H locs ls hH (lv_sub hl [1, 2, 3, 0] rfl) hw
  have l2 : ∀ (nn : Nat) (v1 : Int32) (v2 : Int32) (v3 : Int32) (M : CM) (H : Heap) (locs : List Loc) (ls : Array Slot), cH D kA A s.heap T M H locs → lv_has ls 5 [(0, .ref h), (1, .int v1), (2, .int v2), (3, .int v3)] → fc_X5_firstOfSort_l2 nm T h Q  nn v1 v2 v3 M → W p l e (headSpec wsX5_firstOfSort rmX5_firstOfSort).room s m args below meth c H locs 0 0 (MQ below (va_Qq Q (cB D kA A T) A) args s 0 0 A) (F0 m 2 ls []) := by
    intro   nn
    induction nn with
    | zero => intro v1 v2 v3 M H locs ls hH hl hw; exact False.elim hw
    | succ nn hk2 =>
      intro v1 v2 v3 M H locs ls hH hl hw
      replace hw : fc_X5_firstOfSort_c2 nm T h Q  (fc_X5_firstOfSort_l2 nm T h Q  nn) v1 v2 v3 M := hw
      unfold fc_X5_firstOfSort_c2 at hw
      refine lv_iload_n hx hb dX5_firstOfSort_2 rfl (lv_at hl 3 rfl) ?_
      refine lv_aload_n hx hb dX5_firstOfSort_3 rfl (lv_at hl 0 rfl) ?_
      obtain ⟨h2, hw⟩ := hw
      refine cg_53 hx hb hts hin5 hown hK hH h2 (hts (.fieldLink RX5 24 "IdlCaller$Operation" "ables" "I") (by decide +kernel)) dX5_firstOfSort_4 ?_
      refine lv_icmp_ge (tgt := 47) hx hb dX5_firstOfSort_7 (by decide) (fun c3 => ?_) (fun c3 => ?_)
      · replace hw := hw.1 c3
        refine lv_null hx hb dX5_firstOfSort_47 ?_
        exact c_retq (v := none) hx hb hr (Or.inl ⟨_, rfl⟩) hlocks hK hH hw dX5_firstOfSort_48
      · replace hw := hw.2 c3
        refine lv_aload_n hx hb dX5_firstOfSort_10 rfl (lv_at hl 0 rfl) ?_
        refine lv_iload_n hx hb dX5_firstOfSort_11 rfl (lv_at hl 3 rfl) ?_
        refine lv_iload_n hx hb dX5_firstOfSort_12 rfl (lv_at hl 1 rfl) ?_
        refine c_callq (va_runV (As := [.int v3, .int v1]) (rest := []) ⟨hx, hb, hml, hown, hts⟩ (tc_X5_typeAt l D kA nm na sa sv H.size T h v3 v1 M _ hw) (cwV 2 hts gX5_firstOfSort_X5_typeAt rfl rfl rfl (by decide +kernel) ⟨(show (3 : Nat) + 1 ≤ 4 from Nat.le_of_ble_eq_true rfl), (show 8 + (4 + 11) + (58 : Nat) ≤ 81 from Nat.le_of_ble_eq_true rfl)⟩) (c_preV hK hH hA hSt (c_recv5 hK hH h2)) rfl rfl hl.1 rfl (lv_room (by first | exact Nat.le_of_ble_eq_true rfl | simp [va_rf_cat, cat_ref, cat_int, cat_long, cat_double, cat_null])) dX5_firstOfSort_13 ⟨Nat.le_of_ble_eq_true rfl, Nat.le_of_ble_eq_true rfl⟩) hH hA (fun r5 M4 H locs hw hH => ?_)
        refine s_astore (i := 4) (lv' := [(4, va_rf r5), (0, .ref h), (1, .int v1), (2, .int v2), (3, .int v3)]) hx hb dX5_firstOfSort_16 hl (by decide) (by first | rfl | simp [va_rf_cat, cat_ref, cat_int, cat_long, cat_double, cat_null]) (fun ls hl => ?_)
        refine s_aload hx hb dX5_firstOfSort_18 (lv_at hl 0 rfl) ?_
        refine s_ifnull (tgt := 41) hx hb dX5_firstOfSort_20 (by decide) (fun c7 => ?_) (fun c7 => ?_)
        · replace hw := hw.1 c7
          exact b41 _ hk2 v1 v2 v3 M4 H locs ls hH (lv_sub hl [1, 2, 3, 4] rfl) hw
        · replace hw := hw.2 c7
          refine s_aload hx hb dX5_firstOfSort_23 (lv_at hl 0 rfl) ?_
          obtain ⟨p8, ep8, hw⟩ := hw
          refine W.st (st' := [.ref p8]) (by rw [ep8]; rfl) ?_
          obtain ⟨h9, hw⟩ := hw
          refine cg_90 hx hb hts hin9 hown hK hH h9 (hts (.fieldLink RX5 131 "IdlCaller$Type" "name" "LIdlCaller$Name;") (by decide +kernel)) dX5_firstOfSort_25 ?_
          obtain ⟨i10, ei10, hi10, hw⟩ := hw
          refine W.st (st' := [.ref (nm i10)]) (by first | (rw [ei10]; rfl) | (have z := Option.some.inj ei10; rw [z])) ?_
          refine ce_sort hx hb hown hSt hH hi10 (hts (.fieldLink RX5 135 "IdlCaller$Name" "sort" "I") (by decide +kernel)) dX5_firstOfSort_28 ?_
          refine lv_iload_n hx hb dX5_firstOfSort_31 rfl (lv_at hl 3 rfl) ?_
          refine lv_icmp_ne (tgt := 41) hx hb dX5_firstOfSort_32 (by decide) (fun c11 => ?_) (fun c11 => ?_)
          · replace hw := hw.1 c11
            exact b41 _ hk2 v1 v2 v3 M4 H locs ls hH (lv_sub hl [1, 2, 3, 4] rfl) hw
          · replace hw := hw.2 c11
            refine lv_aload_n hx hb dX5_firstOfSort_35 rfl (lv_at hl 1 rfl) ?_
            refine lv_iload_n hx hb dX5_firstOfSort_36 rfl (lv_at hl 4 rfl) ?_
            refine c_callq (va_runV (As := [.int v3]) (rest := []) ⟨hx, hb, hml, hown, hts⟩ (tc_X5_ableAt l D kA nm na sa sv H.size T h v3 M4 _ hw) (cwV 1 hts gX5_firstOfSort_X5_ableAt rfl rfl rfl (by decide +kernel) ⟨(show (0 : Nat) + 1 ≤ 4 from Nat.le_of_ble_eq_true rfl), (show 8 + (2 + 11) + (0 : Nat) ≤ 81 from Nat.le_of_ble_eq_true rfl)⟩) (c_preV hK hH hA hSt (c_recv5 hK hH h2)) rfl rfl hl.1 rfl (lv_room (by first | exact Nat.le_of_ble_eq_true rfl | simp [va_rf_cat, cat_ref, cat_int, cat_long, cat_double, cat_null])) dX5_firstOfSort_37 ⟨Nat.le_of_ble_eq_true rfl, Nat.le_of_ble_eq_true rfl⟩) hH hA (fun r13 M12 H locs hw hH => ?_)
            exact c_retq (v := r13) hx hb hr (Or.inl ⟨_, rfl⟩) hlocks hK hH hw dX5_firstOfSort_40
  clear hP
  unfold fc_X5_firstOfSort at hw
  have hst : ∀ (M : CM) (H : Heap) (locs : List Loc) (ls : Array Slot), cH D kA A s.heap T M H locs → lv_has ls 5 [(0, .ref h), (1, .int a1), (2, .int a2)] → (∃ nn : Nat, fc_X5_firstOfSort_l2 nm T h Q  nn a1 a2 0 M) → W p l e (headSpec wsX5_firstOfSort rmX5_firstOfSort).room s m args below meth c H locs 0 0 (MQ below (va_Qq Q (cB D kA A T) A) args s 0 0 A) (F0 m 0 ls []) := by
    intro M H locs ls hH hl hw
    refine lv_iconst (v := 0) hx hb dX5_firstOfSort_0 (by decide) ?_
    refine lv_istore_n (i := 3) (lv' := [(3, .int 0), (0, .ref h), (1, .int a1), (2, .int a2)]) hx hb dX5_firstOfSort_1 rfl hl (by decide) rfl (fun ls hl => ?_)
    obtain ⟨nn, hw⟩ := hw
    exact l2   nn a1 a2 0 M H locs ls hH (lv_sub hl [1, 2, 3, 0] rfl) hw
  exact hst M s.heap [] ls hH hl hw
def fc_X5_choose_b92 (nm : Nat → Nat) (T : LY) (h : Nat) (Q : Option Nat → CM → Prop) (s0 : Option Nat) (M : CM) : Prop := Q s0 M
def fc_X5_choose_b78 (nm : Nat → Nat) (T : LY) (h : Nat) (Q : Option Nat → CM → Prop) (v1 : Int32) (v3 : Option Nat) (M : CM) : Prop := ((v3 = none → (tg T h = 6 ∧ fc_X5_firstOfSort nm T h v1 1 M (fun (r4 : Option Nat) (M3 : CM) => fc_X5_choose_b92 nm T h Q  r4 M3))) ∧ (¬ v3 = none → fc_X5_choose_b92 nm T h Q  v3 M))
def fc_X5_choose_b67 (nm : Nat → Nat) (T : LY) (h : Nat) (Q : Option Nat → CM → Prop) (v1 : Int32) (v3 : Option Nat) (M : CM) : Prop := ((¬ v3 = none → fc_X5_choose_b78 nm T h Q  v1 v3 M) ∧ (v3 = none → (tg T h = 6 ∧ fc_X5_firstOfSort nm T h v1 2 M (fun (r9 : Option Nat) (M8 : CM) => fc_X5_choose_b78 nm T h Q  v1 r9 M8))))
def fc_X5_choose_b56 (nm : Nat → Nat) (T : LY) (h : Nat) (Q : Option Nat → CM → Prop) (v1 : Int32) (v3 : Option Nat) (M : CM) : Prop := ((¬ v3 = none → fc_X5_choose_b67 nm T h Q  v1 v3 M) ∧ (v3 = none → (tg T h = 6 ∧ fc_X5_firstOfSort nm T h v1 3 M (fun (r14 : Option Nat) (M13 : CM) => fc_X5_choose_b67 nm T h Q  v1 r14 M13))))
def fc_X5_choose_b42 (nm : Nat → Nat) (T : LY) (h : Nat) (Q : Option Nat → CM → Prop) (v1 : Int32) (v2 : Option Nat) (v3 : Option Nat) (M : CM) : Prop := ((¬ v3 = none → fc_X5_choose_b56 nm T h Q  v1 v3 M) ∧ (v3 = none → fc_X5_sortOf T v2 M (fun (r18 : Int32) (M17 : CM) => (tg T h = 6 ∧ fc_X5_firstOfSort nm T h v1 r18 M17 (fun (r22 : Option Nat) (M21 : CM) => fc_X5_choose_b56 nm T h Q  v1 r22 M21)))))
def fc_X5_choose_b24 (nm : Nat → Nat) (T : LY) (h : Nat) (Q : Option Nat → CM → Prop) (v1 : Int32) (v2 : Option Nat) (s0 : Option Nat) (M : CM) : Prop := ((¬ s0 = none → fc_X5_choose_b42 nm T h Q  v1 v2 s0 M) ∧ (s0 = none → (∃ p25 : Nat, v2 = some p25 ∧ (tg T p25 = 9 ∧ fc_X8_isUndefinedOrNull T p25 M (fun (r28 : Int32) (M27 : CM) => ((r28 = 0 → fc_X5_choose_b42 nm T h Q  v1 v2 s0 M27) ∧ (¬ r28 = 0 → (tg T h = 6 ∧ fc_X5_firstNullable T h v1 M27 (fun (r33 : Option Nat) (M32 : CM) => fc_X5_choose_b42 nm T h Q  v1 v2 r33 M32)))))))))
def fc_X5_choose (nm : Nat → Nat) (T : LY) (h : Nat)  (a1 : Int32) (a2 : Option Nat) (M : CM) (Q : Option Nat → CM → Prop) : Prop := ((¬ a2 = none → (∃ p36 : Nat, a2 = some p36 ∧ (tg T p36 = 9 ∧ ((¬ (cI M 80 p36) = 7 → fc_X5_choose_b24 nm T h Q  a1 a2 none M) ∧ ((cI M 80 p36) = 7 → (tg T h = 6 ∧ fc_X5_firstThatMayMiss T h a1 M (fun (r41 : Option Nat) (M40 : CM) => fc_X5_choose_b24 nm T h Q  a1 a2 r41 M40))))))) ∧ (a2 = none → Q none M))
abbrev rmX5_choose : Room := { frames := 5, cells := 0, slots := 0, locals := 105 }
set_option maxHeartbeats 4000000 in
set_option maxRecDepth 100000 in
theorem tc_X5_choose (l : Launch) (D : va_G) (kA : Nat → ClassId) (nm : Nat → Nat) (na : Nat) (sa sv : Nat → Nat) (sz : Nat) (T : LY) (h : Nat) (a1 : Int32) (a2 : Option Nat) (M : CM) (Q : Option Nat → CM → Prop) (hw : fc_X5_choose nm T h a1 a2 M Q) : Met l yX5_choose wsX5_choose rmX5_choose (va_Pc [.ref h, .int a1, va_rf a2] (cPc nm na sa sv D kA T M sz)) (va_Qq Q (cB D kA (cF T sz) T) (cF T sz)) 0 0 (cF T sz) := by
  refine Met.ofW (cc := cX5_choose) (maxL := 4) (ret := (some (.object "IdlCaller$Form"))) (by decide) rfl ?_
  intro p e s m args below meth c s₁ B hml hv
  obtain ⟨rfl, hsz, hP, hK, hSt⟩ := hv
  have hx := B.exec
  have hb := B.bytes
  have hr := B.returns
  have hts := atoms_spec (ws := wsX5_choose) B.pre
  have hown : s.vm.findClass RX5 = some m.cls := findClass_of_methodNamed B.named
  have hlocks : meth.locks = false := B.notSynchronized
  subst hsz
  have hH : cH D kA (cF T s.heap.size) s.heap T M s.heap [] := ⟨hP.self, va_S.rf⟩
  have hA : ∀ q : Nat, s.heap.size ≤ q → cF T s.heap.size q := fun q z => Or.inr z
  generalize cF T s.heap.size = A at hH hA hSt ⊢
  have hl := lv_entry ([.ref h, .int a1, va_rf a2]) (n := 4) (by first | exact Nat.le_of_ble_eq_true rfl | simp [lg_sl, va_rf_cat, cat_ref, cat_int, cat_long, cat_double])
  rw [lg_entry_eq]
  generalize (lg_sl ([.ref h, .int a1, va_rf a2]) ++ List.replicate (4 - (lg_sl ([.ref h, .int a1, va_rf a2])).length) Slot.unset).toArray = ls at hl ⊢
  generalize ([.ref h, .int a1, va_rf a2] : List Value).toArray = args at hts ⊢
  have hl : lv_has ls 4 [(0, .ref h), (1, .int a1), (2, va_rf a2)] := by simpa [lv_args, va_rf_cat, cat_ref, cat_int, cat_long, cat_double] using hl
  have hin8 : ∀ w ∈ wsX80, w ∈ wsX5_choose := by decide +kernel
  have b92 : ∀ (s0 : Option Nat) (M : CM) (H : Heap) (locs : List Loc) (ls : Array Slot), cH D kA A s.heap T M H locs → lv_has ls 4 [] → fc_X5_choose_b92 nm T h Q  s0 M → W p l e (headSpec wsX5_choose rmX5_choose).room s m args below meth c H locs 0 0 (MQ below (va_Qq Q (cB D kA A T) A) args s 0 0 A) (F0 m 92 ls [va_rf s0]) := by
    intro   s0 M H locs ls hH hl hw
    unfold fc_X5_choose_b92 at hw
    exact c_retq (v := s0) hx hb hr (Or.inl ⟨_, rfl⟩) hlocks hK hH hw dX5_choose_92
  have b78 : ∀ (v1 : Int32) (v3 : Option Nat) (M : CM) (H : Heap) (locs : List Loc) (ls : Array Slot), cH D kA A s.heap T M H locs → lv_has ls 4 [(0, .ref h), (1, .int v1), (3, va_rf v3)] → fc_X5_choose_b78 nm T h Q  v1 v3 M → W p l e (headSpec wsX5_choose rmX5_choose).room s m args below meth c H locs 0 0 (MQ below (va_Qq Q (cB D kA A T) A) args s 0 0 A) (F0 m 78 ls []) := by
    intro   v1 v3 M H locs ls hH hl hw
    unfold fc_X5_choose_b78 at hw
    refine s_aload_n hx hb dX5_choose_78 rfl (lv_at hl 2 rfl) ?_
    refine s_ifnull (tgt := 86) hx hb dX5_choose_79 (by decide) (fun c1 => ?_) (fun c1 => ?_)
    · replace hw := hw.1 c1
      refine lv_aload_n hx hb dX5_choose_86 rfl (lv_at hl 0 rfl) ?_
      refine lv_iload_n hx hb dX5_choose_87 rfl (lv_at hl 1 rfl) ?_
      refine lv_iconst (v := 1) hx hb dX5_choose_88 (by decide) ?_
      obtain ⟨h2, hw⟩ := hw
      refine c_callq (va_runV (As := [.int v1, .int 1]) (rest := []) ⟨hx, hb, hml, hown, hts⟩ (tc_X5_firstOfSort l D kA nm na sa sv H.size T h v1 1 M _ hw) (cwV 2 hts gX5_choose_X5_firstOfSort rfl rfl rfl (by decide +kernel) ⟨(show (4 : Nat) + 1 ≤ 5 from Nat.le_of_ble_eq_true rfl), (show 8 + (5 + 11) + (81 : Nat) ≤ 105 from Nat.le_of_ble_eq_true rfl)⟩) (c_preV hK hH hA hSt (c_recv5 hK hH h2)) rfl rfl hl.1 rfl (lv_room (by first | exact Nat.le_of_ble_eq_true rfl | simp [va_rf_cat, cat_ref, cat_int, cat_long, cat_double, cat_null])) dX5_choose_89 ⟨Nat.le_of_ble_eq_true rfl, Nat.le_of_ble_eq_true rfl⟩) hH hA (fun r4 M3 H locs hw hH => ?_)
      exact b92   r4 M3 H locs ls hH (lv_sub hl [] rfl) hw
    · replace hw := hw.2 c1
      refine s_aload_n hx hb dX5_choose_82 rfl (lv_at hl 2 rfl) ?_
      refine lv_goto (tgt := 92) hx hb dX5_choose_83 (by decide) ?_
      exact b92   v3 M H locs ls hH (lv_sub hl [] rfl) hw
  have b67 : ∀ (v1 : Int32) (v3 : Option Nat) (M : CM) (H : Heap) (locs : List Loc) (ls : Array Slot), cH D kA A s.heap T M H locs → lv_has ls 4 [(0, .ref h), (1, .int v1), (3, va_rf v3)] → fc_X5_choose_b67 nm T h Q  v1 v3 M → W p l e (headSpec wsX5_choose rmX5_choose).room s m args below meth c H locs 0 0 (MQ below (va_Qq Q (cB D kA A T) A) args s 0 0 A) (F0 m 67 ls []) := by
    intro   v1 v3 M H locs ls hH hl hw
    unfold fc_X5_choose_b67 at hw
    refine s_aload_n hx hb dX5_choose_67 rfl (lv_at hl 2 rfl) ?_
    refine s_ifnonnull (tgt := 78) hx hb dX5_choose_68 (by decide) (fun c6 => ?_) (fun c6 => ?_)
    · replace hw := hw.1 c6
      exact b78   v1 v3 M H locs ls hH (lv_sub hl [0, 1, 2] rfl) hw
    · replace hw := hw.2 c6
      refine lv_aload_n hx hb dX5_choose_71 rfl (lv_at hl 0 rfl) ?_
      refine lv_iload_n hx hb dX5_choose_72 rfl (lv_at hl 1 rfl) ?_
      refine lv_iconst (v := 2) hx hb dX5_choose_73 (by decide) ?_
      obtain ⟨h7, hw⟩ := hw
      refine c_callq (va_runV (As := [.int v1, .int 2]) (rest := []) ⟨hx, hb, hml, hown, hts⟩ (tc_X5_firstOfSort l D kA nm na sa sv H.size T h v1 2 M _ hw) (cwV 2 hts gX5_choose_X5_firstOfSort rfl rfl rfl (by decide +kernel) ⟨(show (4 : Nat) + 1 ≤ 5 from Nat.le_of_ble_eq_true rfl), (show 8 + (5 + 11) + (81 : Nat) ≤ 105 from Nat.le_of_ble_eq_true rfl)⟩) (c_preV hK hH hA hSt (c_recv5 hK hH h7)) rfl rfl hl.1 rfl (lv_room (by first | exact Nat.le_of_ble_eq_true rfl | simp [va_rf_cat, cat_ref, cat_int, cat_long, cat_double, cat_null])) dX5_choose_74 ⟨Nat.le_of_ble_eq_true rfl, Nat.le_of_ble_eq_true rfl⟩) hH hA (fun r9 M8 H locs hw hH => ?_)
      refine s_astore_n (i := 3) (lv' := [(3, va_rf r9), (0, .ref h), (1, .int v1)]) hx hb dX5_choose_77 rfl hl (by decide) (by first | rfl | simp [va_rf_cat, cat_ref, cat_int, cat_long, cat_double, cat_null]) (fun ls hl => ?_)
      exact b78   v1 r9 M8 H locs ls hH (lv_sub hl [1, 2, 0] rfl) hw
  have b56 : ∀ (v1 : Int32) (v3 : Option Nat) (M : CM) (H : Heap) (locs : List Loc) (ls : Array Slot), cH D kA A s.heap T M H locs → lv_has ls 4 [(0, .ref h), (1, .int v1), (3, va_rf v3)] → fc_X5_choose_b56 nm T h Q  v1 v3 M → W p l e (headSpec wsX5_choose rmX5_choose).room s m args below meth c H locs 0 0 (MQ below (va_Qq Q (cB D kA A T) A) args s 0 0 A) (F0 m 56 ls []) := by
    intro   v1 v3 M H locs ls hH hl hw
    unfold fc_X5_choose_b56 at hw
    refine s_aload_n hx hb dX5_choose_56 rfl (lv_at hl 2 rfl) ?_
    refine s_ifnonnull (tgt := 67) hx hb dX5_choose_57 (by decide) (fun c11 => ?_) (fun c11 => ?_)
    · replace hw := hw.1 c11
      exact b67   v1 v3 M H locs ls hH (lv_sub hl [0, 1, 2] rfl) hw
    · replace hw := hw.2 c11
      refine lv_aload_n hx hb dX5_choose_60 rfl (lv_at hl 0 rfl) ?_
      refine lv_iload_n hx hb dX5_choose_61 rfl (lv_at hl 1 rfl) ?_
      refine lv_iconst (v := 3) hx hb dX5_choose_62 (by decide) ?_
      obtain ⟨h12, hw⟩ := hw
      refine c_callq (va_runV (As := [.int v1, .int 3]) (rest := []) ⟨hx, hb, hml, hown, hts⟩ (tc_X5_firstOfSort l D kA nm na sa sv H.size T h v1 3 M _ hw) (cwV 2 hts gX5_choose_X5_firstOfSort rfl rfl rfl (by decide +kernel) ⟨(show (4 : Nat) + 1 ≤ 5 from Nat.le_of_ble_eq_true rfl), (show 8 + (5 + 11) + (81 : Nat) ≤ 105 from Nat.le_of_ble_eq_true rfl)⟩) (c_preV hK hH hA hSt (c_recv5 hK hH h12)) rfl rfl hl.1 rfl (lv_room (by first | exact Nat.le_of_ble_eq_true rfl | simp [va_rf_cat, cat_ref, cat_int, cat_long, cat_double, cat_null])) dX5_choose_63 ⟨Nat.le_of_ble_eq_true rfl, Nat.le_of_ble_eq_true rfl⟩) hH hA (fun r14 M13 H locs hw hH => ?_)
      refine s_astore_n (i := 3) (lv' := [(3, va_rf r14), (0, .ref h), (1, .int v1)]) hx hb dX5_choose_66 rfl hl (by decide) (by first | rfl | simp [va_rf_cat, cat_ref, cat_int, cat_long, cat_double, cat_null]) (fun ls hl => ?_)
      exact b67   v1 r14 M13 H locs ls hH (lv_sub hl [1, 2, 0] rfl) hw
  have b42 : ∀ (v1 : Int32) (v2 : Option Nat) (v3 : Option Nat) (M : CM) (H : Heap) (locs : List Loc) (ls : Array Slot), cH D kA A s.heap T M H locs → lv_has ls 4 [(0, .ref h), (1, .int v1), (2, va_rf v2), (3, va_rf v3)] → fc_X5_choose_b42 nm T h Q  v1 v2 v3 M → W p l e (headSpec wsX5_choose rmX5_choose).room s m args below meth c H locs 0 0 (MQ below (va_Qq Q (cB D kA A T) A) args s 0 0 A) (F0 m 42 ls []) := by
    intro   v1 v2 v3 M H locs ls hH hl hw
    unfold fc_X5_choose_b42 at hw
    refine s_aload_n hx hb dX5_choose_42 rfl (lv_at hl 3 rfl) ?_
    refine s_ifnonnull (tgt := 56) hx hb dX5_choose_43 (by decide) (fun c16 => ?_) (fun c16 => ?_)
    · replace hw := hw.1 c16
      exact b56   v1 v3 M H locs ls hH (lv_sub hl [0, 1, 3] rfl) hw
    · replace hw := hw.2 c16
      refine lv_aload_n hx hb dX5_choose_46 rfl (lv_at hl 0 rfl) ?_
      refine lv_iload_n hx hb dX5_choose_47 rfl (lv_at hl 1 rfl) ?_
      refine s_aload_n hx hb dX5_choose_48 rfl (lv_at hl 2 rfl) ?_
      refine c_calli (va_runS (As := [va_rf v2]) (rest := [.int v1, .ref h]) ⟨hx, hb, hml, hown, hts⟩ (tc_X5_sortOf l D kA nm na sa sv H.size T v2 M _ hw) (va_cwS 1 hts gX5_choose_X5_sortOf rfl rfl rfl (by decide +kernel) ⟨(show (0 : Nat) + 1 ≤ 5 from Nat.le_of_ble_eq_true rfl), (show 8 + (1 + 11) + (0 : Nat) ≤ 105 from Nat.le_of_ble_eq_true rfl)⟩) (c_preS hK hH hA hSt) rfl rfl hl.1 rfl (lv_room (by first | exact Nat.le_of_ble_eq_true rfl | simp [va_rf_cat, cat_ref, cat_int, cat_long, cat_double, cat_null])) dX5_choose_49 ⟨Nat.le_of_ble_eq_true rfl, Nat.le_of_ble_eq_true rfl⟩) hH hA (fun r18 M17 H locs hw hH => ?_)
      obtain ⟨h20, hw⟩ := hw
      refine c_callq (va_runV (As := [.int v1, .int r18]) (rest := []) ⟨hx, hb, hml, hown, hts⟩ (tc_X5_firstOfSort l D kA nm na sa sv H.size T h v1 r18 M17 _ hw) (cwV 2 hts gX5_choose_X5_firstOfSort rfl rfl rfl (by decide +kernel) ⟨(show (4 : Nat) + 1 ≤ 5 from Nat.le_of_ble_eq_true rfl), (show 8 + (5 + 11) + (81 : Nat) ≤ 105 from Nat.le_of_ble_eq_true rfl)⟩) (c_preV hK hH hA hSt (c_recv5 hK hH h20)) rfl rfl hl.1 rfl (lv_room (by first | exact Nat.le_of_ble_eq_true rfl | simp [va_rf_cat, cat_ref, cat_int, cat_long, cat_double, cat_null])) dX5_choose_52 ⟨Nat.le_of_ble_eq_true rfl, Nat.le_of_ble_eq_true rfl⟩) hH hA (fun r22 M21 H locs hw hH => ?_)
      refine s_astore_n (i := 3) (lv' := [(3, va_rf r22), (0, .ref h), (1, .int v1), (2, va_rf v2)]) hx hb dX5_choose_55 rfl hl (by decide) (by first | rfl | simp [va_rf_cat, cat_ref, cat_int, cat_long, cat_double, cat_null]) (fun ls hl => ?_)
      exact b56   v1 r22 M21 H locs ls hH (lv_sub hl [1, 2, 0] rfl) hw
  have b24 : ∀ (v1 : Int32) (v2 : Option Nat) (s0 : Option Nat) (M : CM) (H : Heap) (locs : List Loc) (ls : Array Slot), cH D kA A s.heap T M H locs → lv_has ls 4 [(0, .ref h), (1, .int v1), (2, va_rf v2)] → fc_X5_choose_b24 nm T h Q  v1 v2 s0 M → W p l e (headSpec wsX5_choose rmX5_choose).room s m args below meth c H locs 0 0 (MQ below (va_Qq Q (cB D kA A T) A) args s 0 0 A) (F0 m 24 ls [va_rf s0]) := by
    intro   v1 v2 s0 M H locs ls hH hl hw
    unfold fc_X5_choose_b24 at hw
    refine s_astore_n (i := 3) (lv' := [(3, va_rf s0), (0, .ref h), (1, .int v1), (2, va_rf v2)]) hx hb dX5_choose_24 rfl hl (by decide) (by first | rfl | simp [va_rf_cat, cat_ref, cat_int, cat_long, cat_double, cat_null]) (fun ls hl => ?_)
    refine s_aload_n hx hb dX5_choose_25 rfl (lv_at hl 0 rfl) ?_
    refine s_ifnonnull (tgt := 42) hx hb dX5_choose_26 (by decide) (fun c24 => ?_) (fun c24 => ?_)
    · replace hw := hw.1 c24
      exact b42   v1 v2 s0 M H locs ls hH (lv_sub hl [1, 2, 3, 0] rfl) hw
    · replace hw := hw.2 c24
      refine s_aload_n hx hb dX5_choose_29 rfl (lv_at hl 3 rfl) ?_
      obtain ⟨p25, ep25, hw⟩ := hw
      refine W.st (st' := [.ref p25]) (by rw [ep25]; rfl) ?_
      obtain ⟨h26, hw⟩ := hw
      refine c_calli (va_runV (As := []) (rest := []) ⟨hx, hb, hml, hown, hts⟩ (tc_X8_isUndefinedOrNull l D kA nm na sa sv H.size T p25 M _ hw) (cwV 0 hts gX5_choose_X8_isUndefinedOrNull rfl rfl rfl (by decide +kernel) ⟨(show (0 : Nat) + 1 ≤ 5 from Nat.le_of_ble_eq_true rfl), (show 8 + (1 + 11) + (0 : Nat) ≤ 105 from Nat.le_of_ble_eq_true rfl)⟩) (c_preV hK hH hA hSt (c_recv8 hK hH h26)) rfl rfl hl.1 rfl (lv_room (by first | exact Nat.le_of_ble_eq_true rfl | simp [va_rf_cat, cat_ref, cat_int, cat_long, cat_double, cat_null])) dX5_choose_30 ⟨Nat.le_of_ble_eq_true rfl, Nat.le_of_ble_eq_true rfl⟩) hH hA (fun r28 M27 H locs hw hH => ?_)
      refine lv_if_eq (tgt := 42) hx hb dX5_choose_33 (by decide) (fun c30 => ?_) (fun c30 => ?_)
      · replace hw := hw.1 c30
        exact b42   v1 v2 s0 M27 H locs ls hH (lv_sub hl [1, 2, 3, 0] rfl) hw
      · replace hw := hw.2 c30
        refine lv_aload_n hx hb dX5_choose_36 rfl (lv_at hl 1 rfl) ?_
        refine lv_iload_n hx hb dX5_choose_37 rfl (lv_at hl 2 rfl) ?_
        obtain ⟨h31, hw⟩ := hw
        refine c_callq (va_runV (As := [.int v1]) (rest := []) ⟨hx, hb, hml, hown, hts⟩ (tc_X5_firstNullable l D kA nm na sa sv H.size T h v1 M27 _ hw) (cwV 1 hts gX5_choose_X5_firstNullable rfl rfl rfl (by decide +kernel) ⟨(show (4 : Nat) + 1 ≤ 5 from Nat.le_of_ble_eq_true rfl), (show 8 + (4 + 11) + (81 : Nat) ≤ 105 from Nat.le_of_ble_eq_true rfl)⟩) (c_preV hK hH hA hSt (c_recv5 hK hH h31)) rfl rfl hl.1 rfl (lv_room (by first | exact Nat.le_of_ble_eq_true rfl | simp [va_rf_cat, cat_ref, cat_int, cat_long, cat_double, cat_null])) dX5_choose_38 ⟨Nat.le_of_ble_eq_true rfl, Nat.le_of_ble_eq_true rfl⟩) hH hA (fun r33 M32 H locs hw hH => ?_)
        refine s_astore_n (i := 3) (lv' := [(3, va_rf r33), (0, .ref h), (1, .int v1), (2, va_rf v2)]) hx hb dX5_choose_41 rfl hl (by decide) (by first | rfl | simp [va_rf_cat, cat_ref, cat_int, cat_long, cat_double, cat_null]) (fun ls hl => ?_)
        exact b42   v1 v2 r33 M32 H locs ls hH (lv_sub hl [1, 2, 3, 0] rfl) hw
  clear hP
  unfold fc_X5_choose at hw
  have hst : ∀ (M : CM) (H : Heap) (locs : List Loc) (ls : Array Slot), cH D kA A s.heap T M H locs → lv_has ls 4 [(0, .ref h), (1, .int a1), (2, va_rf a2)] → ((¬ a2 = none → (∃ p36 : Nat, a2 = some p36 ∧ (tg T p36 = 9 ∧ ((¬ (cI M 80 p36) = 7 → fc_X5_choose_b24 nm T h Q  a1 a2 none M) ∧ ((cI M 80 p36) = 7 → (tg T h = 6 ∧ fc_X5_firstThatMayMiss T h a1 M (fun (r41 : Option Nat) (M40 : CM) => fc_X5_choose_b24 nm T h Q  a1 a2 r41 M40))))))) ∧ (a2 = none → Q none M)) → W p l e (headSpec wsX5_choose rmX5_choose).room s m args below meth c H locs 0 0 (MQ below (va_Qq Q (cB D kA A T) A) args s 0 0 A) (F0 m 0 ls []) := by
    intro M H locs ls hH hl hw
    refine s_aload_n hx hb dX5_choose_0 rfl (lv_at hl 2 rfl) ?_
    refine s_ifnonnull (tgt := 6) hx hb dX5_choose_1 (by decide) (fun c35 => ?_) (fun c35 => ?_)
    · replace hw := hw.1 c35
      refine s_aload_n hx hb dX5_choose_6 rfl (lv_at hl 2 rfl) ?_
      obtain ⟨p36, ep36, hw⟩ := hw
      refine W.st (st' := [.ref p36]) (by rw [ep36]; rfl) ?_
      obtain ⟨h37, hw⟩ := hw
      refine cg_80 hx hb hts hin8 hown hK hH h37 (hts (.fieldLink RX5 101 "IdlCaller$Thing" "kind" "I") (by decide +kernel)) dX5_choose_7 ?_
      refine lv_bipush (v := 7) hx hb dX5_choose_10 (by decide) ?_
      refine lv_icmp_ne (tgt := 23) hx hb dX5_choose_12 (by decide) (fun c38 => ?_) (fun c38 => ?_)
      · replace hw := hw.1 c38
        refine lv_null hx hb dX5_choose_23 ?_
        exact b24   a1 a2 none M H locs ls hH (lv_sub hl [0, 1, 2] rfl) hw
      · replace hw := hw.2 c38
        refine lv_aload_n hx hb dX5_choose_15 rfl (lv_at hl 0 rfl) ?_
        refine lv_iload_n hx hb dX5_choose_16 rfl (lv_at hl 1 rfl) ?_
        obtain ⟨h39, hw⟩ := hw
        refine c_callq (va_runV (As := [.int a1]) (rest := []) ⟨hx, hb, hml, hown, hts⟩ (tc_X5_firstThatMayMiss l D kA nm na sa sv H.size T h a1 M _ hw) (cwV 1 hts gX5_choose_X5_firstThatMayMiss rfl rfl rfl (by decide +kernel) ⟨(show (3 : Nat) + 1 ≤ 5 from Nat.le_of_ble_eq_true rfl), (show 8 + (4 + 11) + (58 : Nat) ≤ 105 from Nat.le_of_ble_eq_true rfl)⟩) (c_preV hK hH hA hSt (c_recv5 hK hH h39)) rfl rfl hl.1 rfl (lv_room (by first | exact Nat.le_of_ble_eq_true rfl | simp [va_rf_cat, cat_ref, cat_int, cat_long, cat_double, cat_null])) dX5_choose_17 ⟨Nat.le_of_ble_eq_true rfl, Nat.le_of_ble_eq_true rfl⟩) hH hA (fun r41 M40 H locs hw hH => ?_)
        refine lv_goto (tgt := 24) hx hb dX5_choose_20 (by decide) ?_
        exact b24   a1 a2 r41 M40 H locs ls hH (lv_sub hl [0, 1, 2] rfl) hw
    · replace hw := hw.2 c35
      refine lv_null hx hb dX5_choose_4 ?_
      exact c_retq (v := none) hx hb hr (Or.inl ⟨_, rfl⟩) hlocks hK hH hw dX5_choose_5
  exact hst M s.heap [] ls hH hl hw
def fc_X6_init (mc ms : Nat) (h : Nat)  (T : LY) (M : CM) (Q : LY → CM → Prop) : Prop := (¬ (100 : Int32) < 0 ∧ ((100 : Int32).toNatClampNeg ≤ 60000000 ∧ (0 + 1 ≤ mc ∧ (0 + (100 : Int32).toNatClampNeg ≤ ms ∧ (∀ (q1 : Nat) (T2 : LY) (M3 : CM), tg T q1 = 0 → T2 = mkT T 20 ((100 : Int32).toNatClampNeg) q1 → M3 = mkM M q1 → (tg T2 h = 7 ∧ (∀ M9 : CM, M9 = sR M3 60 h (some q1) → (¬ (100 : Int32) < 0 ∧ ((100 : Int32).toNatClampNeg ≤ 60000000 ∧ ((0 + 1) + 1 ≤ mc ∧ ((0 + (100 : Int32).toNatClampNeg) + (100 : Int32).toNatClampNeg ≤ ms ∧ (∀ (q10 : Nat) (T11 : LY) (M12 : CM), tg T2 q10 = 0 → T11 = mkT T2 22 ((100 : Int32).toNatClampNeg) q10 → M12 = mkM M9 q10 → (tg T11 h = 7 ∧ (∀ M18 : CM, M18 = sR M12 61 h (some q10) → (∀ M19 : CM, M19 = sI M18 62 h 0 → (∀ M20 : CM, M20 = sI M19 63 h 0 → (∀ M21 : CM, M21 = sI M20 64 h 0 → (∀ M22 : CM, M22 = sI M21 65 h 0 → (∀ M23 : CM, M23 = sI M22 66 h (-1) → ((0 + 1) + 1 ≤ mc ∧ (0 + (100 : Int32).toNatClampNeg) + (100 : Int32).toNatClampNeg ≤ ms ∧ Q T11 M23))))))))))))))))))))
abbrev rmX6_init (mc ms : Nat) : Room := { frames := 1, cells := mc, slots := ms, locals := 12 }
set_option maxHeartbeats 4000000 in
set_option maxRecDepth 100000 in
theorem tc_X6_init (l : Launch) (D : va_G) (kA : Nat → ClassId) (nm : Nat → Nat) (na : Nat) (sa sv : Nat → Nat) (sz : Nat) (mc ms : Nat) (h : Nat) (T : LY) (M : CM) (Q : LY → CM → Prop) (hw : fc_X6_init mc ms h  T M Q) : Met l yX6_init wsX6_init (rmX6_init mc ms) (va_Pc [.ref h] (cPc nm na sa sv D kA T M sz)) (va_Qv (fun (u : LY × CM) => Q u.1 u.2) (cBT D kA (cF T sz)) (cF T sz)) mc ms (cF T sz) := by
  refine Met.ofW (cc := cX6_init) (maxL := 1) (ret := none) (by decide) rfl ?_
  intro p e s m args below meth c s₁ B hml hv
  obtain ⟨rfl, hsz, hP, hK, hSt⟩ := hv
  have hx := B.exec
  have hb := B.bytes
  have hr := B.returns
  have hts := atoms_spec (ws := wsX6_init) B.pre
  have hown : s.vm.findClass RX6 = some m.cls := findClass_of_methodNamed B.named
  have hlocks : meth.locks = false := B.notSynchronized
  have hini : meth.name = "<init>" := (name_of_methodNamed B.named B.method).1
  subst hsz
  have hH : cH D kA (cF T s.heap.size) s.heap T M s.heap [] := ⟨hP.self, va_S.rf⟩
  have hA : ∀ q : Nat, s.heap.size ≤ q → cF T s.heap.size q := fun q z => Or.inr z
  generalize cF T s.heap.size = A at hH hA hSt ⊢
  have hl := lv_entry ([.ref h]) (n := 1) (by first | exact Nat.le_of_ble_eq_true rfl | simp [lg_sl, va_rf_cat, cat_ref, cat_int, cat_long, cat_double])
  rw [lg_entry_eq]
  generalize (lg_sl ([.ref h]) ++ List.replicate (1 - (lg_sl ([.ref h])).length) Slot.unset).toArray = ls at hl ⊢
  generalize ([.ref h] : List Value).toArray = args at hts ⊢
  have hl : lv_has ls 1 [(0, .ref h)] := hl
  have hin6 : ∀ w ∈ wsX60, w ∈ wsX6_init := by decide +kernel
  clear hP
  unfold fc_X6_init at hw
  have hst : ∀ (T : LY) (M : CM) (H : Heap) (locs : List Loc) (ls : Array Slot), cH D kA A s.heap T M H locs → lv_has ls 1 [(0, .ref h)] → (¬ (100 : Int32) < 0 ∧ ((100 : Int32).toNatClampNeg ≤ 60000000 ∧ (0 + 1 ≤ mc ∧ (0 + (100 : Int32).toNatClampNeg ≤ ms ∧ (∀ (q1 : Nat) (T2 : LY) (M3 : CM), tg T q1 = 0 → T2 = mkT T 20 ((100 : Int32).toNatClampNeg) q1 → M3 = mkM M q1 → (tg T2 h = 7 ∧ (∀ M9 : CM, M9 = sR M3 60 h (some q1) → (¬ (100 : Int32) < 0 ∧ ((100 : Int32).toNatClampNeg ≤ 60000000 ∧ ((0 + 1) + 1 ≤ mc ∧ ((0 + (100 : Int32).toNatClampNeg) + (100 : Int32).toNatClampNeg ≤ ms ∧ (∀ (q10 : Nat) (T11 : LY) (M12 : CM), tg T2 q10 = 0 → T11 = mkT T2 22 ((100 : Int32).toNatClampNeg) q10 → M12 = mkM M9 q10 → (tg T11 h = 7 ∧ (∀ M18 : CM, M18 = sR M12 61 h (some q10) → (∀ M19 : CM, M19 = sI M18 62 h 0 → (∀ M20 : CM, M20 = sI M19 63 h 0 → (∀ M21 : CM, M21 = sI M20 64 h 0 → (∀ M22 : CM, M22 = sI M21 65 h 0 → (∀ M23 : CM, M23 = sI M22 66 h (-1) → ((0 + 1) + 1 ≤ mc ∧ (0 + (100 : Int32).toNatClampNeg) + (100 : Int32).toNatClampNeg ≤ ms ∧ Q T11 M23)))))))))))))))))))) → W p l e (headSpec wsX6_init (rmX6_init mc ms)).room s m args below meth c H locs 0 0 (MQ below (va_Qv (fun (u : LY × CM) => Q u.1 u.2) (cBT D kA A) A) args s mc ms A) (F0 m 0 ls []) := by
    intro T M H locs ls hH hl hw
    refine lv_aload_n hx hb dX6_init_0 rfl (lv_at hl 0 rfl) ?_
    refine W.objInit hx hb hown (hts (.methodLink RX6 3 objectInit) (by decide +kernel)) (hts (.instanceMethod objectInit) (by decide +kernel)) (hts (.code objectInit ⟨#[0xb1]⟩ 1 none) (by decide +kernel)) rfl (by rw [hml]; exact hl.1) rfl dX6_init_1 ((show _ ≤ (1 : Nat) from by first | exact Nat.le_of_ble_eq_true rfl | simp [va_rf_cat, cat_ref, cat_int, cat_long, cat_double, cat_null])) ((show _ ≤ (12 : Nat) from by first | exact Nat.le_of_ble_eq_true rfl | simp [va_rf_cat, cat_ref, cat_int, cat_long, cat_double, cat_null])) ?_
    refine W.eq (g2 := F0 m 4 ls []) rfl ?_
    refine lv_aload_n hx hb dX6_init_4 rfl (lv_at hl 0 rfl) ?_
    refine lv_bipush (v := 100) hx hb dX6_init_5 (by decide) ?_
    obtain ⟨h4, hw⟩ := hw
    obtain ⟨h5, hw⟩ := hw
    obtain ⟨h6, hw⟩ := hw
    obtain ⟨h7, hw⟩ := hw
    refine cnewa_0 hx hb (hts (.arrayClass .char) (by decide +kernel)) hK hH hA h4 rfl h5 h6 h7 dX6_init_7 (fun q1 H zq1 hH => ?_)
    obtain ⟨T2, eT2⟩ : ∃ z, z = mkT T 20 ((100 : Int32).toNatClampNeg) q1 := ⟨_, rfl⟩
    obtain ⟨M3, eM3⟩ : ∃ z, z = mkM M q1 := ⟨_, rfl⟩
    replace hw := hw q1 T2 M3 zq1 eT2 eM3
    rw [← eT2, ← eM3] at hH
    obtain ⟨h8, hw⟩ := hw
    refine cp_60 (x := (some q1)) hx hb hts hin6 hown hK hH h8 rfl hini (hts (.fieldLink RX6 9 "IdlCaller$Reader" "signs" "[C") (by decide +kernel)) dX6_init_9 (fun M9 H locs eM9 hH => ?_)
    replace hw := hw M9 eM9
    refine lv_aload_n hx hb dX6_init_12 rfl (lv_at hl 0 rfl) ?_
    refine lv_bipush (v := 100) hx hb dX6_init_13 (by decide) ?_
    obtain ⟨h13, hw⟩ := hw
    obtain ⟨h14, hw⟩ := hw
    obtain ⟨h15, hw⟩ := hw
    obtain ⟨h16, hw⟩ := hw
    refine cnewa_2 hx hb (hts (.arrayClass .int) (by decide +kernel)) hK hH hA h13 rfl h14 h15 h16 dX6_init_15 (fun q10 H zq10 hH => ?_)
    obtain ⟨T11, eT11⟩ : ∃ z, z = mkT T2 22 ((100 : Int32).toNatClampNeg) q10 := ⟨_, rfl⟩
    obtain ⟨M12, eM12⟩ : ∃ z, z = mkM M9 q10 := ⟨_, rfl⟩
    replace hw := hw q10 T11 M12 zq10 eT11 eM12
    rw [← eT11, ← eM12] at hH
    obtain ⟨h17, hw⟩ := hw
    refine cp_61 (x := (some q10)) hx hb hts hin6 hown hK hH h17 rfl hini (hts (.fieldLink RX6 15 "IdlCaller$Reader" "stood" "[I") (by decide +kernel)) dX6_init_17 (fun M18 H locs eM18 hH => ?_)
    replace hw := hw M18 eM18
    refine lv_aload_n hx hb dX6_init_20 rfl (lv_at hl 0 rfl) ?_
    refine lv_iconst (v := 0) hx hb dX6_init_21 (by decide) ?_
    refine cp_62 (x := 0) hx hb hts hin6 hown hK hH h17 (hts (.fieldLink RX6 19 "IdlCaller$Reader" "count" "I") (by decide +kernel)) dX6_init_22 (fun M19 H locs eM19 hH => ?_)
    replace hw := hw M19 eM19
    refine lv_aload_n hx hb dX6_init_25 rfl (lv_at hl 0 rfl) ?_
    refine lv_iconst (v := 0) hx hb dX6_init_26 (by decide) ?_
    refine cp_63 (x := 0) hx hb hts hin6 hown hK hH h17 (hts (.fieldLink RX6 23 "IdlCaller$Reader" "end" "I") (by decide +kernel)) dX6_init_27 (fun M20 H locs eM20 hH => ?_)
    replace hw := hw M20 eM20
    refine lv_aload_n hx hb dX6_init_30 rfl (lv_at hl 0 rfl) ?_
    refine lv_iconst (v := 0) hx hb dX6_init_31 (by decide) ?_
    refine cp_64 (x := 0) hx hb hts hin6 hown hK hH h17 (hts (.fieldLink RX6 26 "IdlCaller$Reader" "at" "I") (by decide +kernel)) dX6_init_32 (fun M21 H locs eM21 hH => ?_)
    replace hw := hw M21 eM21
    refine lv_aload_n hx hb dX6_init_35 rfl (lv_at hl 0 rfl) ?_
    refine lv_iconst (v := 0) hx hb dX6_init_36 (by decide) ?_
    refine cp_65 (x := 0) hx hb hts hin6 hown hK hH h17 (hts (.fieldLink RX6 29 "IdlCaller$Reader" "mode" "I") (by decide +kernel)) dX6_init_37 (fun M22 H locs eM22 hH => ?_)
    replace hw := hw M22 eM22
    refine lv_aload_n hx hb dX6_init_40 rfl (lv_at hl 0 rfl) ?_
    refine lv_iconst (v := (-1)) hx hb dX6_init_41 (by decide) ?_
    refine cp_66 (x := (-1)) hx hb hts hin6 hown hK hH h17 (hts (.fieldLink RX6 32 "IdlCaller$Reader" "fault" "I") (by decide +kernel)) dX6_init_42 (fun M23 H locs eM23 hH => ?_)
    replace hw := hw M23 eM23
    exact c_retTv hw.1 hw.2.1 hx hb hr hlocks hK hH hw.2.2 dX6_init_45
  exact hst T M s.heap [] ls hH hl hw
def fc_X6_load_b88 (T : LY) (h : Nat) (Q : CM → Prop) (k7 : Option Nat → Int32 → CM → Prop) (v1 : Option Nat) (v2 : Int32) (M : CM) : Prop := (∀ x1 : Int32, x1 = v2 + 1 → k7 v1 x1 M)
def fc_X6_load_c7 (T : LY) (h : Nat) (Q : CM → Prop) (k7 : Option Nat → Int32 → CM → Prop) (v1 : Option Nat) (v2 : Int32) (M : CM) : Prop := (∃ p2 : Nat, v1 = some p2 ∧ (tg T p2 = 8 ∧ (((cI M 71 p2) ≤ v2 → (tg T h = 7 ∧ (∀ M6 : CM, M6 = sI M 63 h (cI M 71 p2) → (∀ M7 : CM, M7 = sI M6 66 h (-1) → Q M7)))) ∧ (¬ (cI M 71 p2) ≤ v2 → fc_X7_at T p2 v2 M (fun (r9 : Int32) (M8 : CM) => ((r9 = 32 → fc_X6_load_b88 T h Q k7 v1 v2 M8) ∧ (¬ r9 = 32 → (tg T h = 7 ∧ (((cI M8 62 h) < 0 → fc_X6_load_b88 T h Q k7 v1 v2 M8) ∧ (¬ (cI M8 62 h) < 0 → (∃ p14 : Nat, cR M8 60 h = some p14 ∧ (tg T p14 = 20 ∧ (((nI (ln T p14)) ≤ (cI M8 62 h) → fc_X6_load_b88 T h Q k7 v1 v2 M8) ∧ (¬ (nI (ln T p14)) ≤ (cI M8 62 h) → (∃ p17 : Nat, cR M8 61 h = some p17 ∧ (tg T p17 = 22 ∧ (((nI (ln T p17)) ≤ (cI M8 62 h) → fc_X6_load_b88 T h Q k7 v1 v2 M8) ∧ (¬ (nI (ln T p17)) ≤ (cI M8 62 h) → (vp_in (cI M8 62 h) (ln T p14) ∧ (∀ M20 : CM, M20 = yI M8 p14 (cI M8 62 h).toNatClampNeg (vp_nar .char r9) → (∃ p22 : Nat, cR M20 61 h = some p22 ∧ (tg T p22 = 22 ∧ (vp_in (cI M20 62 h) (ln T p22) ∧ (∀ M24 : CM, M24 = yI M20 p22 (cI M20 62 h).toNatClampNeg v2 → (∀ M26 : CM, M26 = sI M24 62 h ((cI M24 62 h) + 1) → fc_X6_load_b88 T h Q k7 v1 v2 M26)))))))))))))))))))))))))
def fc_X6_load_l7 (T : LY) (h : Nat) (Q : CM → Prop) : Nat → Option Nat → Int32 → CM → Prop := lit (τ := Option Nat → Int32 → CM → Prop) (fun _ _ _ => False) (fun k => fc_X6_load_c7 T h Q  k)
def fc_X6_load (T : LY) (h : Nat)  (a1 : Option Nat) (M : CM) (Q : CM → Prop) : Prop := (tg T h = 7 ∧ (∀ M28 : CM, M28 = sI M 62 h 0 → (∃ nn : Nat, fc_X6_load_l7 T h Q  nn a1 0 M28)))
abbrev rmX6_load : Room := { frames := 1, cells := 0, slots := 0, locals := 21 }
set_option maxHeartbeats 4000000 in
set_option maxRecDepth 100000 in
theorem tc_X6_load (l : Launch) (D : va_G) (kA : Nat → ClassId) (nm : Nat → Nat) (na : Nat) (sa sv : Nat → Nat) (sz : Nat) (T : LY) (h : Nat) (a1 : Option Nat) (M : CM) (Q : CM → Prop) (hw : fc_X6_load T h a1 M Q) : Met l yX6_load wsX6_load rmX6_load (va_Pc [.ref h, va_rf a1] (cPc nm na sa sv D kA T M sz)) (va_Qv Q (cB D kA (cF T sz) T) (cF T sz)) 0 0 (cF T sz) := by
  refine Met.ofW (cc := cX6_load) (maxL := 4) (ret := none) (by decide) rfl ?_
  intro p e s m args below meth c s₁ B hml hv
  obtain ⟨rfl, hsz, hP, hK, hSt⟩ := hv
  have hx := B.exec
  have hb := B.bytes
  have hr := B.returns
  have hts := atoms_spec (ws := wsX6_load) B.pre
  have hown : s.vm.findClass RX6 = some m.cls := findClass_of_methodNamed B.named
  have hlocks : meth.locks = false := B.notSynchronized
  subst hsz
  have hH : cH D kA (cF T s.heap.size) s.heap T M s.heap [] := ⟨hP.self, va_S.rf⟩
  have hA : ∀ q : Nat, s.heap.size ≤ q → cF T s.heap.size q := fun q z => Or.inr z
  generalize cF T s.heap.size = A at hH hA hSt ⊢
  have hl := lv_entry ([.ref h, va_rf a1]) (n := 4) (by first | exact Nat.le_of_ble_eq_true rfl | simp [lg_sl, va_rf_cat, cat_ref, cat_int, cat_long, cat_double])
  rw [lg_entry_eq]
  generalize (lg_sl ([.ref h, va_rf a1]) ++ List.replicate (4 - (lg_sl ([.ref h, va_rf a1])).length) Slot.unset).toArray = ls at hl ⊢
  generalize ([.ref h, va_rf a1] : List Value).toArray = args at hts ⊢
  have hl : lv_has ls 4 [(0, .ref h), (1, va_rf a1)] := by simpa [lv_args, va_rf_cat, cat_ref, cat_int, cat_long, cat_double] using hl
  have hin6 : ∀ w ∈ wsX60, w ∈ wsX6_load := by decide +kernel
  have hin7 : ∀ w ∈ wsX70, w ∈ wsX6_load := by decide +kernel
  have b88 : ∀ (k7 : Option Nat → Int32 → CM → Prop) (hk7 : ∀ (v1 : Option Nat) (v2 : Int32) (M : CM) (H : Heap) (locs : List Loc) (ls : Array Slot), cH D kA A s.heap T M H locs → lv_has ls 4 [(0, .ref h), (1, va_rf v1), (2, .int v2)] → k7 v1 v2 M → W p l e (headSpec wsX6_load rmX6_load).room s m args below meth c H locs 0 0 (MQ below (va_Qv Q (cB D kA A T) A) args s 0 0 A) (F0 m 7 ls [])) (v1 : Option Nat) (v2 : Int32) (M : CM) (H : Heap) (locs : List Loc) (ls : Array Slot), cH D kA A s.heap T M H locs → lv_has ls 4 [(0, .ref h), (1, va_rf v1), (2, .int v2)] → fc_X6_load_b88 T h Q k7 v1 v2 M → W p l e (headSpec wsX6_load rmX6_load).room s m args below meth c H locs 0 0 (MQ below (va_Qv Q (cB D kA A T) A) args s 0 0 A) (F0 m 88 ls []) := by
    intro k7 hk7 v1 v2 M H locs ls hH hl hw
    unfold fc_X6_load_b88 at hw
    obtain ⟨x1, ex1⟩ : ∃ y : Int32, y = v2 + 1 := ⟨_, rfl⟩
    replace hw := hw x1 ex1
    refine lv_iinc (v := x1) (lv' := [(2, .int x1), (0, .ref h), (1, va_rf v1)]) hx hb dX6_load_88 hl (k := 2) rfl (by rw [ex1]; rfl) (by decide) (by first | rfl | simp [va_rf_cat, cat_ref, cat_int, cat_long, cat_double, cat_null]) (fun ls hl => ?_)
    refine lv_goto (tgt := 7) hx hb dX6_load_91 (by decide) ?_
    exact hk7 v1 x1 M H locs ls hH (lv_sub hl [1, 2, 0] rfl) hw
  have l7 : ∀ (nn : Nat) (v1 : Option Nat) (v2 : Int32) (M : CM) (H : Heap) (locs : List Loc) (ls : Array Slot), cH D kA A s.heap T M H locs → lv_has ls 4 [(0, .ref h), (1, va_rf v1), (2, .int v2)] → fc_X6_load_l7 T h Q  nn v1 v2 M → W p l e (headSpec wsX6_load rmX6_load).room s m args below meth c H locs 0 0 (MQ below (va_Qv Q (cB D kA A T) A) args s 0 0 A) (F0 m 7 ls []) := by
    intro   nn
    induction nn with
    | zero => intro v1 v2 M H locs ls hH hl hw; exact False.elim hw
    | succ nn hk7 =>
      intro v1 v2 M H locs ls hH hl hw
      replace hw : fc_X6_load_c7 T h Q  (fc_X6_load_l7 T h Q  nn) v1 v2 M := hw
      unfold fc_X6_load_c7 at hw
      refine lv_iload_n hx hb dX6_load_7 rfl (lv_at hl 2 rfl) ?_
      refine s_aload_n hx hb dX6_load_8 rfl (lv_at hl 1 rfl) ?_
      obtain ⟨p2, ep2, hw⟩ := hw
      refine W.st (st' := [.ref p2, .int v2]) (by rw [ep2]; rfl) ?_
      obtain ⟨h3, hw⟩ := hw
      refine cg_71 hx hb hts hin7 hown hK hH h3 (hts (.fieldLink RX6 77 "IdlCaller$Text" "length" "I") (by decide +kernel)) dX6_load_9 ?_
      refine lv_icmp_ge (tgt := 94) hx hb dX6_load_12 (by decide) (fun c4 => ?_) (fun c4 => ?_)
      · replace hw := hw.1 c4
        refine lv_aload_n hx hb dX6_load_94 rfl (lv_at hl 0 rfl) ?_
        refine s_aload_n hx hb dX6_load_95 rfl (lv_at hl 1 rfl) ?_
        refine W.st (st' := [.ref p2, .ref h]) (by rw [ep2]; rfl) ?_
        refine cg_71 hx hb hts hin7 hown hK hH h3 (hts (.fieldLink RX6 77 "IdlCaller$Text" "length" "I") (by decide +kernel)) dX6_load_96 ?_
        obtain ⟨h5, hw⟩ := hw
        refine cp_63 (x := cI M 71 p2) hx hb hts hin6 hown hK hH h5 (hts (.fieldLink RX6 23 "IdlCaller$Reader" "end" "I") (by decide +kernel)) dX6_load_99 (fun M6 H locs eM6 hH => ?_)
        replace hw := hw M6 eM6
        refine lv_aload_n hx hb dX6_load_102 rfl (lv_at hl 0 rfl) ?_
        refine lv_iconst (v := (-1)) hx hb dX6_load_103 (by decide) ?_
        refine cp_66 (x := (-1)) hx hb hts hin6 hown hK hH h5 (hts (.fieldLink RX6 32 "IdlCaller$Reader" "fault" "I") (by decide +kernel)) dX6_load_104 (fun M7 H locs eM7 hH => ?_)
        replace hw := hw M7 eM7
        exact c_retv hx hb hr hlocks hK hH hw dX6_load_107
      · replace hw := hw.2 c4
        refine s_aload_n hx hb dX6_load_15 rfl (lv_at hl 1 rfl) ?_
        refine lv_iload_n hx hb dX6_load_16 rfl (lv_at hl 2 rfl) ?_
        refine W.st (st' := [.int v2, .ref p2]) (by rw [ep2]; rfl) ?_
        refine c_calli (va_runV (As := [.int v2]) (rest := []) ⟨hx, hb, hml, hown, hts⟩ (tc_X7_at l D kA nm na sa sv H.size T p2 v2 M _ hw) (cwV 1 hts gX6_load_X7_at rfl rfl rfl (by decide +kernel) ⟨(show (0 : Nat) + 1 ≤ 1 from Nat.le_of_ble_eq_true rfl), (show 8 + (2 + 11) + (0 : Nat) ≤ 21 from Nat.le_of_ble_eq_true rfl)⟩) (c_preV hK hH hA hSt (c_recv7 hK hH h3)) rfl rfl hl.1 rfl (lv_room (by first | exact Nat.le_of_ble_eq_true rfl | simp [va_rf_cat, cat_ref, cat_int, cat_long, cat_double, cat_null])) dX6_load_17 ⟨Nat.le_of_ble_eq_true rfl, Nat.le_of_ble_eq_true rfl⟩) hH hA (fun r9 M8 H locs hw hH => ?_)
        refine lv_istore_n (i := 3) (lv' := [(3, .int r9), (0, .ref h), (1, va_rf v1), (2, .int v2)]) hx hb dX6_load_20 rfl hl (by decide) (by first | rfl | simp [va_rf_cat, cat_ref, cat_int, cat_long, cat_double, cat_null]) (fun ls hl => ?_)
        refine lv_iload_n hx hb dX6_load_21 rfl (lv_at hl 0 rfl) ?_
        refine lv_bipush (v := 32) hx hb dX6_load_22 (by decide) ?_
        refine lv_icmp_eq (tgt := 88) hx hb dX6_load_24 (by decide) (fun c11 => ?_) (fun c11 => ?_)
        · replace hw := hw.1 c11
          exact b88 _ hk7 v1 v2 M8 H locs ls hH (lv_sub hl [1, 2, 3] rfl) hw
        · replace hw := hw.2 c11
          refine lv_aload_n hx hb dX6_load_27 rfl (lv_at hl 1 rfl) ?_
          obtain ⟨h12, hw⟩ := hw
          refine cg_62 hx hb hts hin6 hown hK hH h12 (hts (.fieldLink RX6 19 "IdlCaller$Reader" "count" "I") (by decide +kernel)) dX6_load_28 ?_
          refine lv_if_lt (tgt := 88) hx hb dX6_load_31 (by decide) (fun c13 => ?_) (fun c13 => ?_)
          · replace hw := hw.1 c13
            exact b88 _ hk7 v1 v2 M8 H locs ls hH (lv_sub hl [1, 2, 3] rfl) hw
          · replace hw := hw.2 c13
            refine lv_aload_n hx hb dX6_load_34 rfl (lv_at hl 1 rfl) ?_
            refine cg_62 hx hb hts hin6 hown hK hH h12 (hts (.fieldLink RX6 19 "IdlCaller$Reader" "count" "I") (by decide +kernel)) dX6_load_35 ?_
            refine lv_aload_n hx hb dX6_load_38 rfl (lv_at hl 1 rfl) ?_
            refine cg_60 hx hb hts hin6 hown hK hH h12 (hts (.fieldLink RX6 9 "IdlCaller$Reader" "signs" "[C") (by decide +kernel)) dX6_load_39 ?_
            obtain ⟨p14, ep14, hw⟩ := hw
            refine W.st (st' := [.ref p14, .int (cI M8 62 h)]) (by rw [ep14]; rfl) ?_
            obtain ⟨h15, hw⟩ := hw
            refine cn_0 hx hb hK hH h15 dX6_load_42 ?_
            refine lv_icmp_ge (tgt := 88) hx hb dX6_load_43 (by decide) (fun c16 => ?_) (fun c16 => ?_)
            · replace hw := hw.1 c16
              exact b88 _ hk7 v1 v2 M8 H locs ls hH (lv_sub hl [1, 2, 3] rfl) hw
            · replace hw := hw.2 c16
              refine lv_aload_n hx hb dX6_load_46 rfl (lv_at hl 1 rfl) ?_
              refine cg_62 hx hb hts hin6 hown hK hH h12 (hts (.fieldLink RX6 19 "IdlCaller$Reader" "count" "I") (by decide +kernel)) dX6_load_47 ?_
              refine lv_aload_n hx hb dX6_load_50 rfl (lv_at hl 1 rfl) ?_
              refine cg_61 hx hb hts hin6 hown hK hH h12 (hts (.fieldLink RX6 15 "IdlCaller$Reader" "stood" "[I") (by decide +kernel)) dX6_load_51 ?_
              obtain ⟨p17, ep17, hw⟩ := hw
              refine W.st (st' := [.ref p17, .int (cI M8 62 h)]) (by rw [ep17]; rfl) ?_
              obtain ⟨h18, hw⟩ := hw
              refine cn_2 hx hb hK hH h18 dX6_load_54 ?_
              refine lv_icmp_ge (tgt := 88) hx hb dX6_load_55 (by decide) (fun c19 => ?_) (fun c19 => ?_)
              · replace hw := hw.1 c19
                exact b88 _ hk7 v1 v2 M8 H locs ls hH (lv_sub hl [1, 2, 3] rfl) hw
              · replace hw := hw.2 c19
                refine lv_aload_n hx hb dX6_load_58 rfl (lv_at hl 1 rfl) ?_
                refine cg_60 hx hb hts hin6 hown hK hH h12 (hts (.fieldLink RX6 9 "IdlCaller$Reader" "signs" "[C") (by decide +kernel)) dX6_load_59 ?_
                refine lv_aload_n hx hb dX6_load_62 rfl (lv_at hl 1 rfl) ?_
                refine cg_62 hx hb hts hin6 hown hK hH h12 (hts (.fieldLink RX6 19 "IdlCaller$Reader" "count" "I") (by decide +kernel)) dX6_load_63 ?_
                refine lv_iload_n hx hb dX6_load_66 rfl (lv_at hl 0 rfl) ?_
                refine W.st (st' := [.int r9, .int (cI M8 62 h), .ref p14]) (by rw [ep14]; rfl) ?_
                obtain ⟨h21, hw⟩ := hw
                refine cs_0 hx hb hK hH h15 h21 dX6_load_67 (fun M20 H locs eM20 hH => ?_)
                replace hw := hw M20 eM20
                refine lv_aload_n hx hb dX6_load_68 rfl (lv_at hl 1 rfl) ?_
                refine cg_61 hx hb hts hin6 hown hK hH h12 (hts (.fieldLink RX6 15 "IdlCaller$Reader" "stood" "[I") (by decide +kernel)) dX6_load_69 ?_
                refine lv_aload_n hx hb dX6_load_72 rfl (lv_at hl 1 rfl) ?_
                refine cg_62 hx hb hts hin6 hown hK hH h12 (hts (.fieldLink RX6 19 "IdlCaller$Reader" "count" "I") (by decide +kernel)) dX6_load_73 ?_
                refine lv_iload_n hx hb dX6_load_76 rfl (lv_at hl 3 rfl) ?_
                obtain ⟨p22, ep22, hw⟩ := hw
                refine W.st (st' := [.int v2, .int (cI M20 62 h), .ref p22]) (by rw [ep22]; rfl) ?_
                obtain ⟨h23, hw⟩ := hw
                obtain ⟨h25, hw⟩ := hw
                refine cs_2 hx hb hK hH h23 h25 dX6_load_77 (fun M24 H locs eM24 hH => ?_)
                replace hw := hw M24 eM24
                refine lv_aload_n hx hb dX6_load_78 rfl (lv_at hl 1 rfl) ?_
                refine lv_dup hx hb dX6_load_79 rfl ?_
                refine cg_62 hx hb hts hin6 hown hK hH h12 (hts (.fieldLink RX6 19 "IdlCaller$Reader" "count" "I") (by decide +kernel)) dX6_load_80 ?_
                refine lv_iconst (v := 1) hx hb dX6_load_83 (by decide) ?_
                refine lv_iadd hx hb dX6_load_84 ?_
                refine cp_62 (x := (cI M24 62 h) + 1) hx hb hts hin6 hown hK hH h12 (hts (.fieldLink RX6 19 "IdlCaller$Reader" "count" "I") (by decide +kernel)) dX6_load_85 (fun M26 H locs eM26 hH => ?_)
                replace hw := hw M26 eM26
                exact b88 _ hk7 v1 v2 M26 H locs ls hH (lv_sub hl [1, 2, 3] rfl) hw
  clear hP
  unfold fc_X6_load at hw
  have hst : ∀ (M : CM) (H : Heap) (locs : List Loc) (ls : Array Slot), cH D kA A s.heap T M H locs → lv_has ls 4 [(0, .ref h), (1, va_rf a1)] → (tg T h = 7 ∧ (∀ M28 : CM, M28 = sI M 62 h 0 → (∃ nn : Nat, fc_X6_load_l7 T h Q  nn a1 0 M28))) → W p l e (headSpec wsX6_load rmX6_load).room s m args below meth c H locs 0 0 (MQ below (va_Qv Q (cB D kA A T) A) args s 0 0 A) (F0 m 0 ls []) := by
    intro M H locs ls hH hl hw
    refine lv_aload_n hx hb dX6_load_0 rfl (lv_at hl 0 rfl) ?_
    refine lv_iconst (v := 0) hx hb dX6_load_1 (by decide) ?_
    obtain ⟨h27, hw⟩ := hw
    refine cp_62 (x := 0) hx hb hts hin6 hown hK hH h27 (hts (.fieldLink RX6 19 "IdlCaller$Reader" "count" "I") (by decide +kernel)) dX6_load_2 (fun M28 H locs eM28 hH => ?_)
    replace hw := hw M28 eM28
    refine lv_iconst (v := 0) hx hb dX6_load_5 (by decide) ?_
    refine lv_istore_n (i := 2) (lv' := [(2, .int 0), (0, .ref h), (1, va_rf a1)]) hx hb dX6_load_6 rfl hl (by decide) (by first | rfl | simp [va_rf_cat, cat_ref, cat_int, cat_long, cat_double, cat_null]) (fun ls hl => ?_)
    obtain ⟨nn, hw⟩ := hw
    exact l7   nn a1 0 M28 H locs ls hH (lv_sub hl [1, 2, 0] rfl) hw
  exact hst M s.heap [] ls hH hl hw
def fc_X6_signAt_b31 (T : LY) (h : Nat) (Q : Int32 → CM → Prop) (s0 : Int32) (M : CM) : Prop := (nC s0 ∧ Q s0 M)
def fc_X6_signAt_b30 (T : LY) (h : Nat) (Q : Int32 → CM → Prop) (M : CM) : Prop := fc_X6_signAt_b31 T h Q  0 M
def fc_X6_signAt (T : LY) (h : Nat)  (a1 : Int32) (M : CM) (Q : Int32 → CM → Prop) : Prop := ((a1 < 0 → fc_X6_signAt_b30 T h Q   M) ∧ (¬ a1 < 0 → (tg T h = 7 ∧ (((cI M 62 h) ≤ a1 → fc_X6_signAt_b30 T h Q   M) ∧ (¬ (cI M 62 h) ≤ a1 → (∃ p4 : Nat, cR M 60 h = some p4 ∧ (tg T p4 = 20 ∧ (((nI (ln T p4)) ≤ a1 → fc_X6_signAt_b30 T h Q   M) ∧ (¬ (nI (ln T p4)) ≤ a1 → (vp_in a1 (ln T p4) ∧ fc_X6_signAt_b31 T h Q  (xI M p4 a1.toNatClampNeg) M))))))))))
abbrev rmX6_signAt : Room := { frames := 0, cells := 0, slots := 0, locals := 0 }
set_option maxHeartbeats 4000000 in
set_option maxRecDepth 100000 in
theorem tc_X6_signAt (l : Launch) (D : va_G) (kA : Nat → ClassId) (nm : Nat → Nat) (na : Nat) (sa sv : Nat → Nat) (sz : Nat) (T : LY) (h : Nat) (a1 : Int32) (M : CM) (Q : Int32 → CM → Prop) (hw : fc_X6_signAt T h a1 M Q) : Met l yX6_signAt wsX6_signAt rmX6_signAt (va_Pc [.ref h, .int a1] (cPc nm na sa sv D kA T M sz)) (va_Qi Q (cB D kA (cF T sz) T) (cF T sz)) 0 0 (cF T sz) := by
  refine Met.ofW (cc := cX6_signAt) (maxL := 2) (ret := (some .char)) (by decide) rfl ?_
  intro p e s m args below meth c s₁ B hml hv
  obtain ⟨rfl, hsz, hP, hK, hSt⟩ := hv
  have hx := B.exec
  have hb := B.bytes
  have hr := B.returns
  have hts := atoms_spec (ws := wsX6_signAt) B.pre
  have hown : s.vm.findClass RX6 = some m.cls := findClass_of_methodNamed B.named
  have hlocks : meth.locks = false := B.notSynchronized
  subst hsz
  have hH : cH D kA (cF T s.heap.size) s.heap T M s.heap [] := ⟨hP.self, va_S.rf⟩
  have hA : ∀ q : Nat, s.heap.size ≤ q → cF T s.heap.size q := fun q z => Or.inr z
  generalize cF T s.heap.size = A at hH hA hSt ⊢
  have hl := lv_entry ([.ref h, .int a1]) (n := 2) (by first | exact Nat.le_of_ble_eq_true rfl | simp [lg_sl, va_rf_cat, cat_ref, cat_int, cat_long, cat_double])
  rw [lg_entry_eq]
  generalize (lg_sl ([.ref h, .int a1]) ++ List.replicate (2 - (lg_sl ([.ref h, .int a1])).length) Slot.unset).toArray = ls at hl ⊢
  generalize ([.ref h, .int a1] : List Value).toArray = args at hts ⊢
  have hl : lv_has ls 2 [(0, .ref h), (1, .int a1)] := hl
  have hin6 : ∀ w ∈ wsX60, w ∈ wsX6_signAt := by decide +kernel
  have b31 : ∀ (s0 : Int32) (M : CM) (H : Heap) (locs : List Loc) (ls : Array Slot), cH D kA A s.heap T M H locs → lv_has ls 2 [] → fc_X6_signAt_b31 T h Q  s0 M → W p l e (headSpec wsX6_signAt rmX6_signAt).room s m args below meth c H locs 0 0 (MQ below (va_Qi Q (cB D kA A T) A) args s 0 0 A) (F0 m 31 ls [.int s0]) := by
    intro   s0 M H locs ls hH hl hw
    unfold fc_X6_signAt_b31 at hw
    exact c_retz hx hb hr hw.1.1 hlocks hK hH hw.2 dX6_signAt_31
  have b30 : ∀ (M : CM) (H : Heap) (locs : List Loc) (ls : Array Slot), cH D kA A s.heap T M H locs → lv_has ls 2 [] → fc_X6_signAt_b30 T h Q   M → W p l e (headSpec wsX6_signAt rmX6_signAt).room s m args below meth c H locs 0 0 (MQ below (va_Qi Q (cB D kA A T) A) args s 0 0 A) (F0 m 30 ls []) := by
    intro    M H locs ls hH hl hw
    unfold fc_X6_signAt_b30 at hw
    refine lv_iconst (v := 0) hx hb dX6_signAt_30 (by decide) ?_
    exact b31   0 M H locs ls hH (lv_sub hl [] rfl) hw
  clear hP
  unfold fc_X6_signAt at hw
  have hst : ∀ (M : CM) (H : Heap) (locs : List Loc) (ls : Array Slot), cH D kA A s.heap T M H locs → lv_has ls 2 [(0, .ref h), (1, .int a1)] → ((a1 < 0 → fc_X6_signAt_b30 T h Q   M) ∧ (¬ a1 < 0 → (tg T h = 7 ∧ (((cI M 62 h) ≤ a1 → fc_X6_signAt_b30 T h Q   M) ∧ (¬ (cI M 62 h) ≤ a1 → (∃ p4 : Nat, cR M 60 h = some p4 ∧ (tg T p4 = 20 ∧ (((nI (ln T p4)) ≤ a1 → fc_X6_signAt_b30 T h Q   M) ∧ (¬ (nI (ln T p4)) ≤ a1 → (vp_in a1 (ln T p4) ∧ fc_X6_signAt_b31 T h Q  (xI M p4 a1.toNatClampNeg) M)))))))))) → W p l e (headSpec wsX6_signAt rmX6_signAt).room s m args below meth c H locs 0 0 (MQ below (va_Qi Q (cB D kA A T) A) args s 0 0 A) (F0 m 0 ls []) := by
    intro M H locs ls hH hl hw
    refine lv_iload_n hx hb dX6_signAt_0 rfl (lv_at hl 1 rfl) ?_
    refine lv_if_lt (tgt := 30) hx hb dX6_signAt_1 (by decide) (fun c1 => ?_) (fun c1 => ?_)
    · replace hw := hw.1 c1
      exact b30    M H locs ls hH (lv_sub hl [] rfl) hw
    · replace hw := hw.2 c1
      refine lv_iload_n hx hb dX6_signAt_4 rfl (lv_at hl 1 rfl) ?_
      refine lv_aload_n hx hb dX6_signAt_5 rfl (lv_at hl 0 rfl) ?_
      obtain ⟨h2, hw⟩ := hw
      refine cg_62 hx hb hts hin6 hown hK hH h2 (hts (.fieldLink RX6 19 "IdlCaller$Reader" "count" "I") (by decide +kernel)) dX6_signAt_6 ?_
      refine lv_icmp_ge (tgt := 30) hx hb dX6_signAt_9 (by decide) (fun c3 => ?_) (fun c3 => ?_)
      · replace hw := hw.1 c3
        exact b30    M H locs ls hH (lv_sub hl [] rfl) hw
      · replace hw := hw.2 c3
        refine lv_iload_n hx hb dX6_signAt_12 rfl (lv_at hl 1 rfl) ?_
        refine lv_aload_n hx hb dX6_signAt_13 rfl (lv_at hl 0 rfl) ?_
        refine cg_60 hx hb hts hin6 hown hK hH h2 (hts (.fieldLink RX6 9 "IdlCaller$Reader" "signs" "[C") (by decide +kernel)) dX6_signAt_14 ?_
        obtain ⟨p4, ep4, hw⟩ := hw
        refine W.st (st' := [.ref p4, .int a1]) (by rw [ep4]; rfl) ?_
        obtain ⟨h5, hw⟩ := hw
        refine cn_0 hx hb hK hH h5 dX6_signAt_17 ?_
        refine lv_icmp_ge (tgt := 30) hx hb dX6_signAt_18 (by decide) (fun c6 => ?_) (fun c6 => ?_)
        · replace hw := hw.1 c6
          exact b30    M H locs ls hH (lv_sub hl [] rfl) hw
        · replace hw := hw.2 c6
          refine lv_aload_n hx hb dX6_signAt_21 rfl (lv_at hl 0 rfl) ?_
          refine cg_60 hx hb hts hin6 hown hK hH h2 (hts (.fieldLink RX6 9 "IdlCaller$Reader" "signs" "[C") (by decide +kernel)) dX6_signAt_22 ?_
          refine lv_iload_n hx hb dX6_signAt_25 rfl (lv_at hl 1 rfl) ?_
          refine W.st (st' := [.int a1, .ref p4]) (by rw [ep4]; rfl) ?_
          obtain ⟨h7, hw⟩ := hw
          refine cl_0 hx hb hK hH h5 h7 dX6_signAt_26 ?_
          refine lv_goto (tgt := 31) hx hb dX6_signAt_27 (by decide) ?_
          exact b31   (xI M p4 a1.toNatClampNeg) M H locs ls hH (lv_sub hl [] rfl) hw
  exact hst M s.heap [] ls hH hl hw
def fc_X6_stoodAt_b34 (T : LY) (h : Nat) (Q : Int32 → CM → Prop) (s0 : Int32) (M : CM) : Prop := Q s0 M
def fc_X6_stoodAt_b30 (T : LY) (h : Nat) (Q : Int32 → CM → Prop) (M : CM) : Prop := (tg T h = 7 ∧ fc_X6_stoodAt_b34 T h Q  (cI M 63 h) M)
def fc_X6_stoodAt (T : LY) (h : Nat)  (a1 : Int32) (M : CM) (Q : Int32 → CM → Prop) : Prop := ((a1 < 0 → fc_X6_stoodAt_b30 T h Q   M) ∧ (¬ a1 < 0 → (tg T h = 7 ∧ (((cI M 62 h) ≤ a1 → fc_X6_stoodAt_b30 T h Q   M) ∧ (¬ (cI M 62 h) ≤ a1 → (∃ p5 : Nat, cR M 61 h = some p5 ∧ (tg T p5 = 22 ∧ (((nI (ln T p5)) ≤ a1 → fc_X6_stoodAt_b30 T h Q   M) ∧ (¬ (nI (ln T p5)) ≤ a1 → (vp_in a1 (ln T p5) ∧ fc_X6_stoodAt_b34 T h Q  (xI M p5 a1.toNatClampNeg) M))))))))))
abbrev rmX6_stoodAt : Room := { frames := 0, cells := 0, slots := 0, locals := 0 }
set_option maxHeartbeats 4000000 in
set_option maxRecDepth 100000 in
theorem tc_X6_stoodAt (l : Launch) (D : va_G) (kA : Nat → ClassId) (nm : Nat → Nat) (na : Nat) (sa sv : Nat → Nat) (sz : Nat) (T : LY) (h : Nat) (a1 : Int32) (M : CM) (Q : Int32 → CM → Prop) (hw : fc_X6_stoodAt T h a1 M Q) : Met l yX6_stoodAt wsX6_stoodAt rmX6_stoodAt (va_Pc [.ref h, .int a1] (cPc nm na sa sv D kA T M sz)) (va_Qi Q (cB D kA (cF T sz) T) (cF T sz)) 0 0 (cF T sz) := by
  refine Met.ofW (cc := cX6_stoodAt) (maxL := 2) (ret := (some .int)) (by decide) rfl ?_
  intro p e s m args below meth c s₁ B hml hv
  obtain ⟨rfl, hsz, hP, hK, hSt⟩ := hv
  have hx := B.exec
  have hb := B.bytes
  have hr := B.returns
  have hts := atoms_spec (ws := wsX6_stoodAt) B.pre
  have hown : s.vm.findClass RX6 = some m.cls := findClass_of_methodNamed B.named
  have hlocks : meth.locks = false := B.notSynchronized
  subst hsz
  have hH : cH D kA (cF T s.heap.size) s.heap T M s.heap [] := ⟨hP.self, va_S.rf⟩
  have hA : ∀ q : Nat, s.heap.size ≤ q → cF T s.heap.size q := fun q z => Or.inr z
  generalize cF T s.heap.size = A at hH hA hSt ⊢
  have hl := lv_entry ([.ref h, .int a1]) (n := 2) (by first | exact Nat.le_of_ble_eq_true rfl | simp [lg_sl, va_rf_cat, cat_ref, cat_int, cat_long, cat_double])
  rw [lg_entry_eq]
  generalize (lg_sl ([.ref h, .int a1]) ++ List.replicate (2 - (lg_sl ([.ref h, .int a1])).length) Slot.unset).toArray = ls at hl ⊢
  generalize ([.ref h, .int a1] : List Value).toArray = args at hts ⊢
  have hl : lv_has ls 2 [(0, .ref h), (1, .int a1)] := hl
  have hin6 : ∀ w ∈ wsX60, w ∈ wsX6_stoodAt := by decide +kernel
  have b34 : ∀ (s0 : Int32) (M : CM) (H : Heap) (locs : List Loc) (ls : Array Slot), cH D kA A s.heap T M H locs → lv_has ls 2 [] → fc_X6_stoodAt_b34 T h Q  s0 M → W p l e (headSpec wsX6_stoodAt rmX6_stoodAt).room s m args below meth c H locs 0 0 (MQ below (va_Qi Q (cB D kA A T) A) args s 0 0 A) (F0 m 34 ls [.int s0]) := by
    intro   s0 M H locs ls hH hl hw
    unfold fc_X6_stoodAt_b34 at hw
    exact c_reti hx hb hr hlocks hK hH hw dX6_stoodAt_34
  have b30 : ∀ (M : CM) (H : Heap) (locs : List Loc) (ls : Array Slot), cH D kA A s.heap T M H locs → lv_has ls 2 [(0, .ref h)] → fc_X6_stoodAt_b30 T h Q   M → W p l e (headSpec wsX6_stoodAt rmX6_stoodAt).room s m args below meth c H locs 0 0 (MQ below (va_Qi Q (cB D kA A T) A) args s 0 0 A) (F0 m 30 ls []) := by
    intro    M H locs ls hH hl hw
    unfold fc_X6_stoodAt_b30 at hw
    refine lv_aload_n hx hb dX6_stoodAt_30 rfl (lv_at hl 0 rfl) ?_
    obtain ⟨h1, hw⟩ := hw
    refine cg_63 hx hb hts hin6 hown hK hH h1 (hts (.fieldLink RX6 23 "IdlCaller$Reader" "end" "I") (by decide +kernel)) dX6_stoodAt_31 ?_
    exact b34   (cI M 63 h) M H locs ls hH (lv_sub hl [] rfl) hw
  clear hP
  unfold fc_X6_stoodAt at hw
  have hst : ∀ (M : CM) (H : Heap) (locs : List Loc) (ls : Array Slot), cH D kA A s.heap T M H locs → lv_has ls 2 [(0, .ref h), (1, .int a1)] → ((a1 < 0 → fc_X6_stoodAt_b30 T h Q   M) ∧ (¬ a1 < 0 → (tg T h = 7 ∧ (((cI M 62 h) ≤ a1 → fc_X6_stoodAt_b30 T h Q   M) ∧ (¬ (cI M 62 h) ≤ a1 → (∃ p5 : Nat, cR M 61 h = some p5 ∧ (tg T p5 = 22 ∧ (((nI (ln T p5)) ≤ a1 → fc_X6_stoodAt_b30 T h Q   M) ∧ (¬ (nI (ln T p5)) ≤ a1 → (vp_in a1 (ln T p5) ∧ fc_X6_stoodAt_b34 T h Q  (xI M p5 a1.toNatClampNeg) M)))))))))) → W p l e (headSpec wsX6_stoodAt rmX6_stoodAt).room s m args below meth c H locs 0 0 (MQ below (va_Qi Q (cB D kA A T) A) args s 0 0 A) (F0 m 0 ls []) := by
    intro M H locs ls hH hl hw
    refine lv_iload_n hx hb dX6_stoodAt_0 rfl (lv_at hl 1 rfl) ?_
    refine lv_if_lt (tgt := 30) hx hb dX6_stoodAt_1 (by decide) (fun c2 => ?_) (fun c2 => ?_)
    · replace hw := hw.1 c2
      exact b30    M H locs ls hH (lv_sub hl [0] rfl) hw
    · replace hw := hw.2 c2
      refine lv_iload_n hx hb dX6_stoodAt_4 rfl (lv_at hl 1 rfl) ?_
      refine lv_aload_n hx hb dX6_stoodAt_5 rfl (lv_at hl 0 rfl) ?_
      obtain ⟨h3, hw⟩ := hw
      refine cg_62 hx hb hts hin6 hown hK hH h3 (hts (.fieldLink RX6 19 "IdlCaller$Reader" "count" "I") (by decide +kernel)) dX6_stoodAt_6 ?_
      refine lv_icmp_ge (tgt := 30) hx hb dX6_stoodAt_9 (by decide) (fun c4 => ?_) (fun c4 => ?_)
      · replace hw := hw.1 c4
        exact b30    M H locs ls hH (lv_sub hl [0] rfl) hw
      · replace hw := hw.2 c4
        refine lv_iload_n hx hb dX6_stoodAt_12 rfl (lv_at hl 1 rfl) ?_
        refine lv_aload_n hx hb dX6_stoodAt_13 rfl (lv_at hl 0 rfl) ?_
        refine cg_61 hx hb hts hin6 hown hK hH h3 (hts (.fieldLink RX6 15 "IdlCaller$Reader" "stood" "[I") (by decide +kernel)) dX6_stoodAt_14 ?_
        obtain ⟨p5, ep5, hw⟩ := hw
        refine W.st (st' := [.ref p5, .int a1]) (by rw [ep5]; rfl) ?_
        obtain ⟨h6, hw⟩ := hw
        refine cn_2 hx hb hK hH h6 dX6_stoodAt_17 ?_
        refine lv_icmp_ge (tgt := 30) hx hb dX6_stoodAt_18 (by decide) (fun c7 => ?_) (fun c7 => ?_)
        · replace hw := hw.1 c7
          exact b30    M H locs ls hH (lv_sub hl [0] rfl) hw
        · replace hw := hw.2 c7
          refine lv_aload_n hx hb dX6_stoodAt_21 rfl (lv_at hl 0 rfl) ?_
          refine cg_61 hx hb hts hin6 hown hK hH h3 (hts (.fieldLink RX6 15 "IdlCaller$Reader" "stood" "[I") (by decide +kernel)) dX6_stoodAt_22 ?_
          refine lv_iload_n hx hb dX6_stoodAt_25 rfl (lv_at hl 1 rfl) ?_
          refine W.st (st' := [.int a1, .ref p5]) (by rw [ep5]; rfl) ?_
          obtain ⟨h8, hw⟩ := hw
          refine cl_2 hx hb hK hH h6 h8 dX6_stoodAt_26 ?_
          refine lv_goto (tgt := 34) hx hb dX6_stoodAt_27 (by decide) ?_
          exact b34   (xI M p5 a1.toNatClampNeg) M H locs ls hH (lv_sub hl [] rfl) hw
  exact hst M s.heap [] ls hH hl hw
def fc_X6_failAt (T : LY) (h : Nat)  (a1 : Int32) (M : CM) (Q : Int32 → CM → Prop) : Prop := (tg T h = 7 ∧ fc_X6_stoodAt T h a1 M (fun (r3 : Int32) (M2 : CM) => (∀ M5 : CM, M5 = sI M2 66 h r3 → Q 0 M5)))
abbrev rmX6_failAt : Room := { frames := 1, cells := 0, slots := 0, locals := 21 }
set_option maxHeartbeats 4000000 in
set_option maxRecDepth 100000 in
theorem tc_X6_failAt (l : Launch) (D : va_G) (kA : Nat → ClassId) (nm : Nat → Nat) (na : Nat) (sa sv : Nat → Nat) (sz : Nat) (T : LY) (h : Nat) (a1 : Int32) (M : CM) (Q : Int32 → CM → Prop) (hw : fc_X6_failAt T h a1 M Q) : Met l yX6_failAt wsX6_failAt rmX6_failAt (va_Pc [.ref h, .int a1] (cPc nm na sa sv D kA T M sz)) (va_Qi Q (cB D kA (cF T sz) T) (cF T sz)) 0 0 (cF T sz) := by
  refine Met.ofW (cc := cX6_failAt) (maxL := 2) (ret := (some .boolean)) (by decide) rfl ?_
  intro p e s m args below meth c s₁ B hml hv
  obtain ⟨rfl, hsz, hP, hK, hSt⟩ := hv
  have hx := B.exec
  have hb := B.bytes
  have hr := B.returns
  have hts := atoms_spec (ws := wsX6_failAt) B.pre
  have hown : s.vm.findClass RX6 = some m.cls := findClass_of_methodNamed B.named
  have hlocks : meth.locks = false := B.notSynchronized
  subst hsz
  have hH : cH D kA (cF T s.heap.size) s.heap T M s.heap [] := ⟨hP.self, va_S.rf⟩
  have hA : ∀ q : Nat, s.heap.size ≤ q → cF T s.heap.size q := fun q z => Or.inr z
  generalize cF T s.heap.size = A at hH hA hSt ⊢
  have hl := lv_entry ([.ref h, .int a1]) (n := 2) (by first | exact Nat.le_of_ble_eq_true rfl | simp [lg_sl, va_rf_cat, cat_ref, cat_int, cat_long, cat_double])
  rw [lg_entry_eq]
  generalize (lg_sl ([.ref h, .int a1]) ++ List.replicate (2 - (lg_sl ([.ref h, .int a1])).length) Slot.unset).toArray = ls at hl ⊢
  generalize ([.ref h, .int a1] : List Value).toArray = args at hts ⊢
  have hl : lv_has ls 2 [(0, .ref h), (1, .int a1)] := hl
  have hin6 : ∀ w ∈ wsX60, w ∈ wsX6_failAt := by decide +kernel
  clear hP
  unfold fc_X6_failAt at hw
  have hst : ∀ (M : CM) (H : Heap) (locs : List Loc) (ls : Array Slot), cH D kA A s.heap T M H locs → lv_has ls 2 [(0, .ref h), (1, .int a1)] → (tg T h = 7 ∧ fc_X6_stoodAt T h a1 M (fun (r3 : Int32) (M2 : CM) => (∀ M5 : CM, M5 = sI M2 66 h r3 → Q 0 M5))) → W p l e (headSpec wsX6_failAt rmX6_failAt).room s m args below meth c H locs 0 0 (MQ below (va_Qi Q (cB D kA A T) A) args s 0 0 A) (F0 m 0 ls []) := by
    intro M H locs ls hH hl hw
    refine lv_aload_n hx hb dX6_failAt_0 rfl (lv_at hl 0 rfl) ?_
    refine lv_aload_n hx hb dX6_failAt_1 rfl (lv_at hl 0 rfl) ?_
    refine lv_iload_n hx hb dX6_failAt_2 rfl (lv_at hl 1 rfl) ?_
    obtain ⟨h1, hw⟩ := hw
    refine c_calli (va_runV (As := [.int a1]) (rest := [.ref h]) ⟨hx, hb, hml, hown, hts⟩ (tc_X6_stoodAt l D kA nm na sa sv H.size T h a1 M _ hw) (cwV 1 hts gX6_failAt_X6_stoodAt rfl rfl rfl (by decide +kernel) ⟨(show (0 : Nat) + 1 ≤ 1 from Nat.le_of_ble_eq_true rfl), (show 8 + (2 + 11) + (0 : Nat) ≤ 21 from Nat.le_of_ble_eq_true rfl)⟩) (c_preV hK hH hA hSt (c_recv6 hK hH h1)) rfl rfl hl.1 rfl (lv_room (by first | exact Nat.le_of_ble_eq_true rfl | simp [va_rf_cat, cat_ref, cat_int, cat_long, cat_double, cat_null])) dX6_failAt_3 ⟨Nat.le_of_ble_eq_true rfl, Nat.le_of_ble_eq_true rfl⟩) hH hA (fun r3 M2 H locs hw hH => ?_)
    refine cp_66 (x := r3) hx hb hts hin6 hown hK hH h1 (hts (.fieldLink RX6 32 "IdlCaller$Reader" "fault" "I") (by decide +kernel)) dX6_failAt_6 (fun M5 H locs eM5 hH => ?_)
    replace hw := hw M5 eM5
    refine lv_iconst (v := 0) hx hb dX6_failAt_9 (by decide) ?_
    exact c_retz hx hb hr rfl hlocks hK hH hw dX6_failAt_10
  exact hst M s.heap [] ls hH hl hw
def fc_X6_take (T : LY) (h : Nat)  (a1 : Int32) (M : CM) (Q : Int32 → CM → Prop) : Prop := (tg T h = 7 ∧ fc_X6_signAt T h (cI M 64 h) M (fun (r3 : Int32) (M2 : CM) => ((r3 = a1 → (∀ M6 : CM, M6 = sI M2 64 h ((cI M2 64 h) + 1) → Q 1 M6)) ∧ (¬ r3 = a1 → Q 0 M2))))
abbrev rmX6_take : Room := { frames := 1, cells := 0, slots := 0, locals := 21 }
set_option maxHeartbeats 4000000 in
set_option maxRecDepth 100000 in
theorem tc_X6_take (l : Launch) (D : va_G) (kA : Nat → ClassId) (nm : Nat → Nat) (na : Nat) (sa sv : Nat → Nat) (sz : Nat) (T : LY) (h : Nat) (a1 : Int32) (M : CM) (Q : Int32 → CM → Prop) (hw : fc_X6_take T h a1 M Q) : Met l yX6_take wsX6_take rmX6_take (va_Pc [.ref h, .int a1] (cPc nm na sa sv D kA T M sz)) (va_Qi Q (cB D kA (cF T sz) T) (cF T sz)) 0 0 (cF T sz) := by
  refine Met.ofW (cc := cX6_take) (maxL := 2) (ret := (some .boolean)) (by decide) rfl ?_
  intro p e s m args below meth c s₁ B hml hv
  obtain ⟨rfl, hsz, hP, hK, hSt⟩ := hv
  have hx := B.exec
  have hb := B.bytes
  have hr := B.returns
  have hts := atoms_spec (ws := wsX6_take) B.pre
  have hown : s.vm.findClass RX6 = some m.cls := findClass_of_methodNamed B.named
  have hlocks : meth.locks = false := B.notSynchronized
  subst hsz
  have hH : cH D kA (cF T s.heap.size) s.heap T M s.heap [] := ⟨hP.self, va_S.rf⟩
  have hA : ∀ q : Nat, s.heap.size ≤ q → cF T s.heap.size q := fun q z => Or.inr z
  generalize cF T s.heap.size = A at hH hA hSt ⊢
  have hl := lv_entry ([.ref h, .int a1]) (n := 2) (by first | exact Nat.le_of_ble_eq_true rfl | simp [lg_sl, va_rf_cat, cat_ref, cat_int, cat_long, cat_double])
  rw [lg_entry_eq]
  generalize (lg_sl ([.ref h, .int a1]) ++ List.replicate (2 - (lg_sl ([.ref h, .int a1])).length) Slot.unset).toArray = ls at hl ⊢
  generalize ([.ref h, .int a1] : List Value).toArray = args at hts ⊢
  have hl : lv_has ls 2 [(0, .ref h), (1, .int a1)] := hl
  have hin6 : ∀ w ∈ wsX60, w ∈ wsX6_take := by decide +kernel
  clear hP
  unfold fc_X6_take at hw
  have hst : ∀ (M : CM) (H : Heap) (locs : List Loc) (ls : Array Slot), cH D kA A s.heap T M H locs → lv_has ls 2 [(0, .ref h), (1, .int a1)] → (tg T h = 7 ∧ fc_X6_signAt T h (cI M 64 h) M (fun (r3 : Int32) (M2 : CM) => ((r3 = a1 → (∀ M6 : CM, M6 = sI M2 64 h ((cI M2 64 h) + 1) → Q 1 M6)) ∧ (¬ r3 = a1 → Q 0 M2)))) → W p l e (headSpec wsX6_take rmX6_take).room s m args below meth c H locs 0 0 (MQ below (va_Qi Q (cB D kA A T) A) args s 0 0 A) (F0 m 0 ls []) := by
    intro M H locs ls hH hl hw
    refine lv_aload_n hx hb dX6_take_0 rfl (lv_at hl 0 rfl) ?_
    refine lv_aload_n hx hb dX6_take_1 rfl (lv_at hl 0 rfl) ?_
    obtain ⟨h1, hw⟩ := hw
    refine cg_64 hx hb hts hin6 hown hK hH h1 (hts (.fieldLink RX6 26 "IdlCaller$Reader" "at" "I") (by decide +kernel)) dX6_take_2 ?_
    refine c_calli (va_runV (As := [.int (cI M 64 h)]) (rest := []) ⟨hx, hb, hml, hown, hts⟩ (tc_X6_signAt l D kA nm na sa sv H.size T h (cI M 64 h) M _ hw) (cwV 1 hts gX6_take_X6_signAt rfl rfl rfl (by decide +kernel) ⟨(show (0 : Nat) + 1 ≤ 1 from Nat.le_of_ble_eq_true rfl), (show 8 + (2 + 11) + (0 : Nat) ≤ 21 from Nat.le_of_ble_eq_true rfl)⟩) (c_preV hK hH hA hSt (c_recv6 hK hH h1)) rfl rfl hl.1 rfl (lv_room (by first | exact Nat.le_of_ble_eq_true rfl | simp [va_rf_cat, cat_ref, cat_int, cat_long, cat_double, cat_null])) dX6_take_5 ⟨Nat.le_of_ble_eq_true rfl, Nat.le_of_ble_eq_true rfl⟩) hH hA (fun r3 M2 H locs hw hH => ?_)
    refine lv_iload_n hx hb dX6_take_8 rfl (lv_at hl 1 rfl) ?_
    refine lv_icmp_eq (tgt := 14) hx hb dX6_take_9 (by decide) (fun c5 => ?_) (fun c5 => ?_)
    · replace hw := hw.1 c5
      refine lv_aload_n hx hb dX6_take_14 rfl (lv_at hl 0 rfl) ?_
      refine lv_dup hx hb dX6_take_15 rfl ?_
      refine cg_64 hx hb hts hin6 hown hK hH h1 (hts (.fieldLink RX6 26 "IdlCaller$Reader" "at" "I") (by decide +kernel)) dX6_take_16 ?_
      refine lv_iconst (v := 1) hx hb dX6_take_19 (by decide) ?_
      refine lv_iadd hx hb dX6_take_20 ?_
      refine cp_64 (x := (cI M2 64 h) + 1) hx hb hts hin6 hown hK hH h1 (hts (.fieldLink RX6 26 "IdlCaller$Reader" "at" "I") (by decide +kernel)) dX6_take_21 (fun M6 H locs eM6 hH => ?_)
      replace hw := hw M6 eM6
      refine lv_iconst (v := 1) hx hb dX6_take_24 (by decide) ?_
      exact c_retz hx hb hr rfl hlocks hK hH hw dX6_take_25
    · replace hw := hw.2 c5
      refine lv_iconst (v := 0) hx hb dX6_take_12 (by decide) ?_
      exact c_retz hx hb hr rfl hlocks hK hH hw dX6_take_13
  exact hst M s.heap [] ls hH hl hw
def fc_X6_need_b24 (T : LY) (h : Nat) (Q : Int32 → CM → Prop) (s0 : Int32) (M : CM) : Prop := (nZ s0 ∧ Q s0 M)
def fc_X6_need_b19 (T : LY) (h : Nat) (Q : Int32 → CM → Prop) (M : CM) : Prop := fc_X6_need_b24 T h Q  1 M
def fc_X6_need (T : LY) (h : Nat)  (a1 : Int32) (M : CM) (Q : Int32 → CM → Prop) : Prop := (tg T h = 7 ∧ fc_X6_take T h a1 M (fun (r3 : Int32) (M2 : CM) => ((¬ r3 = 0 → fc_X6_need_b19 T h Q   M2) ∧ (r3 = 0 → fc_X6_failAt T h (cI M2 64 h) M2 (fun (r7 : Int32) (M6 : CM) => ((r7 = 0 → fc_X6_need_b24 T h Q  0 M6) ∧ (¬ r7 = 0 → fc_X6_need_b19 T h Q   M6)))))))
abbrev rmX6_need : Room := { frames := 2, cells := 0, slots := 0, locals := 42 }
set_option maxHeartbeats 4000000 in
set_option maxRecDepth 100000 in
theorem tc_X6_need (l : Launch) (D : va_G) (kA : Nat → ClassId) (nm : Nat → Nat) (na : Nat) (sa sv : Nat → Nat) (sz : Nat) (T : LY) (h : Nat) (a1 : Int32) (M : CM) (Q : Int32 → CM → Prop) (hw : fc_X6_need T h a1 M Q) : Met l yX6_need wsX6_need rmX6_need (va_Pc [.ref h, .int a1] (cPc nm na sa sv D kA T M sz)) (va_Qi Q (cB D kA (cF T sz) T) (cF T sz)) 0 0 (cF T sz) := by
  refine Met.ofW (cc := cX6_need) (maxL := 2) (ret := (some .boolean)) (by decide) rfl ?_
  intro p e s m args below meth c s₁ B hml hv
  obtain ⟨rfl, hsz, hP, hK, hSt⟩ := hv
  have hx := B.exec
  have hb := B.bytes
  have hr := B.returns
  have hts := atoms_spec (ws := wsX6_need) B.pre
  have hown : s.vm.findClass RX6 = some m.cls := findClass_of_methodNamed B.named
  have hlocks : meth.locks = false := B.notSynchronized
  subst hsz
  have hH : cH D kA (cF T s.heap.size) s.heap T M s.heap [] := ⟨hP.self, va_S.rf⟩
  have hA : ∀ q : Nat, s.heap.size ≤ q → cF T s.heap.size q := fun q z => Or.inr z
  generalize cF T s.heap.size = A at hH hA hSt ⊢
  have hl := lv_entry ([.ref h, .int a1]) (n := 2) (by first | exact Nat.le_of_ble_eq_true rfl | simp [lg_sl, va_rf_cat, cat_ref, cat_int, cat_long, cat_double])
  rw [lg_entry_eq]
  generalize (lg_sl ([.ref h, .int a1]) ++ List.replicate (2 - (lg_sl ([.ref h, .int a1])).length) Slot.unset).toArray = ls at hl ⊢
  generalize ([.ref h, .int a1] : List Value).toArray = args at hts ⊢
  have hl : lv_has ls 2 [(0, .ref h), (1, .int a1)] := hl
  have hin6 : ∀ w ∈ wsX60, w ∈ wsX6_need := by decide +kernel
  have b24 : ∀ (s0 : Int32) (M : CM) (H : Heap) (locs : List Loc) (ls : Array Slot), cH D kA A s.heap T M H locs → lv_has ls 2 [] → fc_X6_need_b24 T h Q  s0 M → W p l e (headSpec wsX6_need rmX6_need).room s m args below meth c H locs 0 0 (MQ below (va_Qi Q (cB D kA A T) A) args s 0 0 A) (F0 m 24 ls [.int s0]) := by
    intro   s0 M H locs ls hH hl hw
    unfold fc_X6_need_b24 at hw
    exact c_retz hx hb hr hw.1.1 hlocks hK hH hw.2 dX6_need_24
  have b19 : ∀ (M : CM) (H : Heap) (locs : List Loc) (ls : Array Slot), cH D kA A s.heap T M H locs → lv_has ls 2 [] → fc_X6_need_b19 T h Q   M → W p l e (headSpec wsX6_need rmX6_need).room s m args below meth c H locs 0 0 (MQ below (va_Qi Q (cB D kA A T) A) args s 0 0 A) (F0 m 19 ls []) := by
    intro    M H locs ls hH hl hw
    unfold fc_X6_need_b19 at hw
    refine lv_iconst (v := 1) hx hb dX6_need_19 (by decide) ?_
    refine lv_goto (tgt := 24) hx hb dX6_need_20 (by decide) ?_
    exact b24   1 M H locs ls hH (lv_sub hl [] rfl) hw
  clear hP
  unfold fc_X6_need at hw
  have hst : ∀ (M : CM) (H : Heap) (locs : List Loc) (ls : Array Slot), cH D kA A s.heap T M H locs → lv_has ls 2 [(0, .ref h), (1, .int a1)] → (tg T h = 7 ∧ fc_X6_take T h a1 M (fun (r3 : Int32) (M2 : CM) => ((¬ r3 = 0 → fc_X6_need_b19 T h Q   M2) ∧ (r3 = 0 → fc_X6_failAt T h (cI M2 64 h) M2 (fun (r7 : Int32) (M6 : CM) => ((r7 = 0 → fc_X6_need_b24 T h Q  0 M6) ∧ (¬ r7 = 0 → fc_X6_need_b19 T h Q   M6))))))) → W p l e (headSpec wsX6_need rmX6_need).room s m args below meth c H locs 0 0 (MQ below (va_Qi Q (cB D kA A T) A) args s 0 0 A) (F0 m 0 ls []) := by
    intro M H locs ls hH hl hw
    refine lv_aload_n hx hb dX6_need_0 rfl (lv_at hl 0 rfl) ?_
    refine lv_iload_n hx hb dX6_need_1 rfl (lv_at hl 1 rfl) ?_
    obtain ⟨h1, hw⟩ := hw
    refine c_calli (va_runV (As := [.int a1]) (rest := []) ⟨hx, hb, hml, hown, hts⟩ (tc_X6_take l D kA nm na sa sv H.size T h a1 M _ hw) (cwV 1 hts gX6_need_X6_take rfl rfl rfl (by decide +kernel) ⟨(show (1 : Nat) + 1 ≤ 2 from Nat.le_of_ble_eq_true rfl), (show 8 + (2 + 11) + (21 : Nat) ≤ 42 from Nat.le_of_ble_eq_true rfl)⟩) (c_preV hK hH hA hSt (c_recv6 hK hH h1)) rfl rfl hl.1 rfl (lv_room (by first | exact Nat.le_of_ble_eq_true rfl | simp [va_rf_cat, cat_ref, cat_int, cat_long, cat_double, cat_null])) dX6_need_2 ⟨Nat.le_of_ble_eq_true rfl, Nat.le_of_ble_eq_true rfl⟩) hH hA (fun r3 M2 H locs hw hH => ?_)
    refine lv_if_ne (tgt := 19) hx hb dX6_need_5 (by decide) (fun c5 => ?_) (fun c5 => ?_)
    · replace hw := hw.1 c5
      exact b19    M2 H locs ls hH (lv_sub hl [] rfl) hw
    · replace hw := hw.2 c5
      refine lv_aload_n hx hb dX6_need_8 rfl (lv_at hl 0 rfl) ?_
      refine lv_aload_n hx hb dX6_need_9 rfl (lv_at hl 0 rfl) ?_
      refine cg_64 hx hb hts hin6 hown hK hH h1 (hts (.fieldLink RX6 26 "IdlCaller$Reader" "at" "I") (by decide +kernel)) dX6_need_10 ?_
      refine c_calli (va_runV (As := [.int (cI M2 64 h)]) (rest := []) ⟨hx, hb, hml, hown, hts⟩ (tc_X6_failAt l D kA nm na sa sv H.size T h (cI M2 64 h) M2 _ hw) (cwV 1 hts gX6_need_X6_failAt rfl rfl rfl (by decide +kernel) ⟨(show (1 : Nat) + 1 ≤ 2 from Nat.le_of_ble_eq_true rfl), (show 8 + (2 + 11) + (21 : Nat) ≤ 42 from Nat.le_of_ble_eq_true rfl)⟩) (c_preV hK hH hA hSt (c_recv6 hK hH h1)) rfl rfl hl.1 rfl (lv_room (by first | exact Nat.le_of_ble_eq_true rfl | simp [va_rf_cat, cat_ref, cat_int, cat_long, cat_double, cat_null])) dX6_need_13 ⟨Nat.le_of_ble_eq_true rfl, Nat.le_of_ble_eq_true rfl⟩) hH hA (fun r7 M6 H locs hw hH => ?_)
      refine lv_if_eq (tgt := 23) hx hb dX6_need_16 (by decide) (fun c9 => ?_) (fun c9 => ?_)
      · replace hw := hw.1 c9
        refine lv_iconst (v := 0) hx hb dX6_need_23 (by decide) ?_
        exact b24   0 M6 H locs ls hH (lv_sub hl [] rfl) hw
      · replace hw := hw.2 c9
        exact b19    M6 H locs ls hH (lv_sub hl [] rfl) hw
  exact hst M s.heap [] ls hH hl hw
def fc_X6_readWord_b102 (T : LY) (h : Nat) (Q : Int64 → CM → Prop) (s0 : Int64) (M : CM) : Prop := Q s0 M
def fc_X6_readWord_b86 (T : LY) (h : Nat) (Q : Int64 → CM → Prop) (v1 : Int32) (v3 : Int64) (M : CM) : Prop := (tg T h = 7 ∧ ((((cI M 64 h) - v1) ≤ 8 → fc_X6_readWord_b102 T h Q  v3 M) ∧ (¬ ((cI M 64 h) - v1) ≤ 8 → fc_X6_readWord_b102 T h Q  0 M)))
def fc_X6_readWord_c16 (T : LY) (h : Nat) (Q : Int64 → CM → Prop) (k16 : Int32 → Int32 → Int64 → CM → Prop) (v1 : Int32) (v2 : Int32) (v3 : Int64) (M : CM) : Prop := (tg T h = 7 ∧ (((cI M 62 h) ≤ (cI M 64 h) → fc_X6_readWord_b86 T h Q  v1 v3 M) ∧ (¬ (cI M 62 h) ≤ (cI M 64 h) → fc_X6_stoodAt T h (cI M 64 h) M (fun (r6 : Int32) (M5 : CM) => ((¬ (r6 - v2) = ((cI M5 64 h) - v1) → fc_X6_readWord_b86 T h Q  v1 v3 M5) ∧ ((r6 - v2) = ((cI M5 64 h) - v1) → fc_X6_signAt T h (cI M5 64 h) M5 (fun (r10 : Int32) (M9 : CM) => fc_X7_isLetter T r10 M9 (fun (r13 : Int32) (M12 : CM) => ((r13 = 0 → fc_X6_readWord_b86 T h Q  v1 v3 M12) ∧ (¬ r13 = 0 → fc_X6_signAt T h (cI M12 64 h) M12 (fun (r17 : Int32) (M16 : CM) => fc_X7_withLetter T v3 r17 M16 (fun (r20 : Int64) (M19 : CM) => (∀ M22 : CM, M22 = sI M19 64 h ((cI M19 64 h) + 1) → k16 v1 v2 r20 M22)))))))))))))
def fc_X6_readWord_l16 (T : LY) (h : Nat) (Q : Int64 → CM → Prop) : Nat → Int32 → Int32 → Int64 → CM → Prop := lit (τ := Int32 → Int32 → Int64 → CM → Prop) (fun _ _ _ _ => False) (fun k => fc_X6_readWord_c16 T h Q  k)
def fc_X6_readWord (T : LY) (h : Nat)  (M : CM) (Q : Int64 → CM → Prop) : Prop := (tg T h = 7 ∧ (∀ x24 : Int32, x24 = cI M 64 h → fc_X6_stoodAt T h (cI M 64 h) M (fun (r26 : Int32) (M25 : CM) => (∃ nn : Nat, fc_X6_readWord_l16 T h Q  nn x24 r26 0 M25))))
abbrev rmX6_readWord : Room := { frames := 1, cells := 0, slots := 0, locals := 22 }
set_option maxHeartbeats 4000000 in
set_option maxRecDepth 100000 in
theorem tc_X6_readWord (l : Launch) (D : va_G) (kA : Nat → ClassId) (nm : Nat → Nat) (na : Nat) (sa sv : Nat → Nat) (sz : Nat) (T : LY) (h : Nat) (M : CM) (Q : Int64 → CM → Prop) (hw : fc_X6_readWord T h  M Q) : Met l yX6_readWord wsX6_readWord rmX6_readWord (va_Pc [.ref h] (cPc nm na sa sv D kA T M sz)) (va_Ql Q (cB D kA (cF T sz) T) (cF T sz)) 0 0 (cF T sz) := by
  refine Met.ofW (cc := cX6_readWord) (maxL := 5) (ret := (some .long)) (by decide) rfl ?_
  intro p e s m args below meth c s₁ B hml hv
  obtain ⟨rfl, hsz, hP, hK, hSt⟩ := hv
  have hx := B.exec
  have hb := B.bytes
  have hr := B.returns
  have hts := atoms_spec (ws := wsX6_readWord) B.pre
  have hown : s.vm.findClass RX6 = some m.cls := findClass_of_methodNamed B.named
  have hlocks : meth.locks = false := B.notSynchronized
  subst hsz
  have hH : cH D kA (cF T s.heap.size) s.heap T M s.heap [] := ⟨hP.self, va_S.rf⟩
  have hA : ∀ q : Nat, s.heap.size ≤ q → cF T s.heap.size q := fun q z => Or.inr z
  generalize cF T s.heap.size = A at hH hA hSt ⊢
  have hl := lv_entry ([.ref h]) (n := 5) (by first | exact Nat.le_of_ble_eq_true rfl | simp [lg_sl, va_rf_cat, cat_ref, cat_int, cat_long, cat_double])
  rw [lg_entry_eq]
  generalize (lg_sl ([.ref h]) ++ List.replicate (5 - (lg_sl ([.ref h])).length) Slot.unset).toArray = ls at hl ⊢
  generalize ([.ref h] : List Value).toArray = args at hts ⊢
  have hl : lv_has ls 5 [(0, .ref h)] := hl
  have hin6 : ∀ w ∈ wsX60, w ∈ wsX6_readWord := by decide +kernel
  have b102 : ∀ (s0 : Int64) (M : CM) (H : Heap) (locs : List Loc) (ls : Array Slot), cH D kA A s.heap T M H locs → lv_has ls 5 [] → fc_X6_readWord_b102 T h Q  s0 M → W p l e (headSpec wsX6_readWord rmX6_readWord).room s m args below meth c H locs 0 0 (MQ below (va_Ql Q (cB D kA A T) A) args s 0 0 A) (F0 m 102 ls [.long s0]) := by
    intro   s0 M H locs ls hH hl hw
    unfold fc_X6_readWord_b102 at hw
    exact c_retl hx hb hr hlocks hK hH hw dX6_readWord_102
  have b86 : ∀ (v1 : Int32) (v3 : Int64) (M : CM) (H : Heap) (locs : List Loc) (ls : Array Slot), cH D kA A s.heap T M H locs → lv_has ls 5 [(0, .ref h), (1, .int v1), (3, .long v3)] → fc_X6_readWord_b86 T h Q  v1 v3 M → W p l e (headSpec wsX6_readWord rmX6_readWord).room s m args below meth c H locs 0 0 (MQ below (va_Ql Q (cB D kA A T) A) args s 0 0 A) (F0 m 86 ls []) := by
    intro   v1 v3 M H locs ls hH hl hw
    unfold fc_X6_readWord_b86 at hw
    refine lv_aload_n hx hb dX6_readWord_86 rfl (lv_at hl 0 rfl) ?_
    obtain ⟨h1, hw⟩ := hw
    refine cg_64 hx hb hts hin6 hown hK hH h1 (hts (.fieldLink RX6 26 "IdlCaller$Reader" "at" "I") (by decide +kernel)) dX6_readWord_87 ?_
    refine lv_iload_n hx hb dX6_readWord_90 rfl (lv_at hl 1 rfl) ?_
    refine lv_isub hx hb dX6_readWord_91 ?_
    refine lv_bipush (v := 8) hx hb dX6_readWord_92 (by decide) ?_
    refine lv_icmp_le (tgt := 101) hx hb dX6_readWord_94 (by decide) (fun c2 => ?_) (fun c2 => ?_)
    · replace hw := hw.1 c2
      refine lv_lload_n hx hb dX6_readWord_101 rfl (lv_at hl 2 rfl) ?_
      exact b102   v3 M H locs ls hH (lv_sub hl [] rfl) hw
    · replace hw := hw.2 c2
      refine lv_lconst (v := 0) hx hb dX6_readWord_97 (by decide) ?_
      refine lv_goto (tgt := 102) hx hb dX6_readWord_98 (by decide) ?_
      exact b102   0 M H locs ls hH (lv_sub hl [] rfl) hw
  have l16 : ∀ (nn : Nat) (v1 : Int32) (v2 : Int32) (v3 : Int64) (M : CM) (H : Heap) (locs : List Loc) (ls : Array Slot), cH D kA A s.heap T M H locs → lv_has ls 5 [(0, .ref h), (1, .int v1), (2, .int v2), (3, .long v3)] → fc_X6_readWord_l16 T h Q  nn v1 v2 v3 M → W p l e (headSpec wsX6_readWord rmX6_readWord).room s m args below meth c H locs 0 0 (MQ below (va_Ql Q (cB D kA A T) A) args s 0 0 A) (F0 m 16 ls []) := by
    intro   nn
    induction nn with
    | zero => intro v1 v2 v3 M H locs ls hH hl hw; exact False.elim hw
    | succ nn hk16 =>
      intro v1 v2 v3 M H locs ls hH hl hw
      replace hw : fc_X6_readWord_c16 T h Q  (fc_X6_readWord_l16 T h Q  nn) v1 v2 v3 M := hw
      unfold fc_X6_readWord_c16 at hw
      refine lv_aload_n hx hb dX6_readWord_16 rfl (lv_at hl 0 rfl) ?_
      obtain ⟨h3, hw⟩ := hw
      refine cg_64 hx hb hts hin6 hown hK hH h3 (hts (.fieldLink RX6 26 "IdlCaller$Reader" "at" "I") (by decide +kernel)) dX6_readWord_17 ?_
      refine lv_aload_n hx hb dX6_readWord_20 rfl (lv_at hl 0 rfl) ?_
      refine cg_62 hx hb hts hin6 hown hK hH h3 (hts (.fieldLink RX6 19 "IdlCaller$Reader" "count" "I") (by decide +kernel)) dX6_readWord_21 ?_
      refine lv_icmp_ge (tgt := 86) hx hb dX6_readWord_24 (by decide) (fun c4 => ?_) (fun c4 => ?_)
      · replace hw := hw.1 c4
        exact b86   v1 v3 M H locs ls hH (lv_sub hl [0, 1, 3] rfl) hw
      · replace hw := hw.2 c4
        refine lv_aload_n hx hb dX6_readWord_27 rfl (lv_at hl 0 rfl) ?_
        refine lv_aload_n hx hb dX6_readWord_28 rfl (lv_at hl 0 rfl) ?_
        refine cg_64 hx hb hts hin6 hown hK hH h3 (hts (.fieldLink RX6 26 "IdlCaller$Reader" "at" "I") (by decide +kernel)) dX6_readWord_29 ?_
        refine c_calli (va_runV (As := [.int (cI M 64 h)]) (rest := []) ⟨hx, hb, hml, hown, hts⟩ (tc_X6_stoodAt l D kA nm na sa sv H.size T h (cI M 64 h) M _ hw) (cwV 1 hts gX6_readWord_X6_stoodAt rfl rfl rfl (by decide +kernel) ⟨(show (0 : Nat) + 1 ≤ 1 from Nat.le_of_ble_eq_true rfl), (show 8 + (2 + 11) + (0 : Nat) ≤ 22 from Nat.le_of_ble_eq_true rfl)⟩) (c_preV hK hH hA hSt (c_recv6 hK hH h3)) rfl rfl hl.1 rfl (lv_room (by first | exact Nat.le_of_ble_eq_true rfl | simp [va_rf_cat, cat_ref, cat_int, cat_long, cat_double, cat_null])) dX6_readWord_32 ⟨Nat.le_of_ble_eq_true rfl, Nat.le_of_ble_eq_true rfl⟩) hH hA (fun r6 M5 H locs hw hH => ?_)
        refine lv_iload_n hx hb dX6_readWord_35 rfl (lv_at hl 2 rfl) ?_
        refine lv_isub hx hb dX6_readWord_36 ?_
        refine lv_aload_n hx hb dX6_readWord_37 rfl (lv_at hl 0 rfl) ?_
        refine cg_64 hx hb hts hin6 hown hK hH h3 (hts (.fieldLink RX6 26 "IdlCaller$Reader" "at" "I") (by decide +kernel)) dX6_readWord_38 ?_
        refine lv_iload_n hx hb dX6_readWord_41 rfl (lv_at hl 1 rfl) ?_
        refine lv_isub hx hb dX6_readWord_42 ?_
        refine lv_icmp_ne (tgt := 86) hx hb dX6_readWord_43 (by decide) (fun c8 => ?_) (fun c8 => ?_)
        · replace hw := hw.1 c8
          exact b86   v1 v3 M5 H locs ls hH (lv_sub hl [0, 1, 3] rfl) hw
        · replace hw := hw.2 c8
          refine lv_aload_n hx hb dX6_readWord_46 rfl (lv_at hl 0 rfl) ?_
          refine lv_aload_n hx hb dX6_readWord_47 rfl (lv_at hl 0 rfl) ?_
          refine cg_64 hx hb hts hin6 hown hK hH h3 (hts (.fieldLink RX6 26 "IdlCaller$Reader" "at" "I") (by decide +kernel)) dX6_readWord_48 ?_
          refine c_calli (va_runV (As := [.int (cI M5 64 h)]) (rest := []) ⟨hx, hb, hml, hown, hts⟩ (tc_X6_signAt l D kA nm na sa sv H.size T h (cI M5 64 h) M5 _ hw) (cwV 1 hts gX6_readWord_X6_signAt rfl rfl rfl (by decide +kernel) ⟨(show (0 : Nat) + 1 ≤ 1 from Nat.le_of_ble_eq_true rfl), (show 8 + (2 + 11) + (0 : Nat) ≤ 22 from Nat.le_of_ble_eq_true rfl)⟩) (c_preV hK hH hA hSt (c_recv6 hK hH h3)) rfl rfl hl.1 rfl (lv_room (by first | exact Nat.le_of_ble_eq_true rfl | simp [va_rf_cat, cat_ref, cat_int, cat_long, cat_double, cat_null])) dX6_readWord_51 ⟨Nat.le_of_ble_eq_true rfl, Nat.le_of_ble_eq_true rfl⟩) hH hA (fun r10 M9 H locs hw hH => ?_)
          refine c_calli (va_runS (As := [.int r10]) (rest := []) ⟨hx, hb, hml, hown, hts⟩ (tc_X7_isLetter l D kA nm na sa sv H.size T r10 M9 _ hw) (va_cwS 1 hts gX6_readWord_X7_isLetter rfl rfl rfl (by decide +kernel) ⟨(show (0 : Nat) + 1 ≤ 1 from Nat.le_of_ble_eq_true rfl), (show 8 + (1 + 11) + (0 : Nat) ≤ 22 from Nat.le_of_ble_eq_true rfl)⟩) (c_preS hK hH hA hSt) rfl rfl hl.1 rfl (lv_room (by first | exact Nat.le_of_ble_eq_true rfl | simp [va_rf_cat, cat_ref, cat_int, cat_long, cat_double, cat_null])) dX6_readWord_54 ⟨Nat.le_of_ble_eq_true rfl, Nat.le_of_ble_eq_true rfl⟩) hH hA (fun r13 M12 H locs hw hH => ?_)
          refine lv_if_eq (tgt := 86) hx hb dX6_readWord_57 (by decide) (fun c15 => ?_) (fun c15 => ?_)
          · replace hw := hw.1 c15
            exact b86   v1 v3 M12 H locs ls hH (lv_sub hl [0, 1, 3] rfl) hw
          · replace hw := hw.2 c15
            refine lv_lload_n hx hb dX6_readWord_60 rfl (lv_at hl 3 rfl) ?_
            refine lv_aload_n hx hb dX6_readWord_61 rfl (lv_at hl 0 rfl) ?_
            refine lv_aload_n hx hb dX6_readWord_62 rfl (lv_at hl 0 rfl) ?_
            refine cg_64 hx hb hts hin6 hown hK hH h3 (hts (.fieldLink RX6 26 "IdlCaller$Reader" "at" "I") (by decide +kernel)) dX6_readWord_63 ?_
            refine c_calli (va_runV (As := [.int (cI M12 64 h)]) (rest := [.long v3]) ⟨hx, hb, hml, hown, hts⟩ (tc_X6_signAt l D kA nm na sa sv H.size T h (cI M12 64 h) M12 _ hw) (cwV 1 hts gX6_readWord_X6_signAt rfl rfl rfl (by decide +kernel) ⟨(show (0 : Nat) + 1 ≤ 1 from Nat.le_of_ble_eq_true rfl), (show 8 + (2 + 11) + (0 : Nat) ≤ 22 from Nat.le_of_ble_eq_true rfl)⟩) (c_preV hK hH hA hSt (c_recv6 hK hH h3)) rfl rfl hl.1 rfl (lv_room (by first | exact Nat.le_of_ble_eq_true rfl | simp [va_rf_cat, cat_ref, cat_int, cat_long, cat_double, cat_null])) dX6_readWord_66 ⟨Nat.le_of_ble_eq_true rfl, Nat.le_of_ble_eq_true rfl⟩) hH hA (fun r17 M16 H locs hw hH => ?_)
            refine c_calll (va_runS (As := [.long v3, .int r17]) (rest := []) ⟨hx, hb, hml, hown, hts⟩ (tc_X7_withLetter l D kA nm na sa sv H.size T v3 r17 M16 _ hw) (va_cwS 2 hts gX6_readWord_X7_withLetter rfl rfl rfl (by decide +kernel) ⟨(show (0 : Nat) + 1 ≤ 1 from Nat.le_of_ble_eq_true rfl), (show 8 + (3 + 11) + (0 : Nat) ≤ 22 from Nat.le_of_ble_eq_true rfl)⟩) (c_preS hK hH hA hSt) rfl rfl hl.1 rfl (lv_room (by first | exact Nat.le_of_ble_eq_true rfl | simp [va_rf_cat, cat_ref, cat_int, cat_long, cat_double, cat_null])) dX6_readWord_69 ⟨Nat.le_of_ble_eq_true rfl, Nat.le_of_ble_eq_true rfl⟩) hH hA (fun r20 M19 H locs hw hH => ?_)
            refine lv_lstore_n (i := 3) (lv' := [(3, .long r20), (0, .ref h), (1, .int v1), (2, .int v2)]) hx hb dX6_readWord_72 rfl hl (by decide) rfl (fun ls hl => ?_)
            refine lv_aload_n hx hb dX6_readWord_73 rfl (lv_at hl 1 rfl) ?_
            refine lv_dup hx hb dX6_readWord_74 rfl ?_
            refine cg_64 hx hb hts hin6 hown hK hH h3 (hts (.fieldLink RX6 26 "IdlCaller$Reader" "at" "I") (by decide +kernel)) dX6_readWord_75 ?_
            refine lv_iconst (v := 1) hx hb dX6_readWord_78 (by decide) ?_
            refine lv_iadd hx hb dX6_readWord_79 ?_
            refine cp_64 (x := (cI M19 64 h) + 1) hx hb hts hin6 hown hK hH h3 (hts (.fieldLink RX6 26 "IdlCaller$Reader" "at" "I") (by decide +kernel)) dX6_readWord_80 (fun M22 H locs eM22 hH => ?_)
            replace hw := hw M22 eM22
            refine lv_goto (tgt := 16) hx hb dX6_readWord_83 (by decide) ?_
            exact hk16 v1 v2 r20 M22 H locs ls hH (lv_sub hl [1, 2, 3, 0] rfl) hw
  clear hP
  unfold fc_X6_readWord at hw
  have hst : ∀ (M : CM) (H : Heap) (locs : List Loc) (ls : Array Slot), cH D kA A s.heap T M H locs → lv_has ls 5 [(0, .ref h)] → (tg T h = 7 ∧ (∀ x24 : Int32, x24 = cI M 64 h → fc_X6_stoodAt T h (cI M 64 h) M (fun (r26 : Int32) (M25 : CM) => (∃ nn : Nat, fc_X6_readWord_l16 T h Q  nn x24 r26 0 M25)))) → W p l e (headSpec wsX6_readWord rmX6_readWord).room s m args below meth c H locs 0 0 (MQ below (va_Ql Q (cB D kA A T) A) args s 0 0 A) (F0 m 0 ls []) := by
    intro M H locs ls hH hl hw
    refine lv_aload_n hx hb dX6_readWord_0 rfl (lv_at hl 0 rfl) ?_
    obtain ⟨h23, hw⟩ := hw
    refine cg_64 hx hb hts hin6 hown hK hH h23 (hts (.fieldLink RX6 26 "IdlCaller$Reader" "at" "I") (by decide +kernel)) dX6_readWord_1 ?_
    refine lv_topi (fun x24 ex24 => ?_)
    replace hw := hw x24 ex24
    refine lv_istore_n (i := 1) (lv' := [(1, .int x24), (0, .ref h)]) hx hb dX6_readWord_4 rfl hl (by decide) rfl (fun ls hl => ?_)
    refine lv_aload_n hx hb dX6_readWord_5 rfl (lv_at hl 1 rfl) ?_
    refine lv_aload_n hx hb dX6_readWord_6 rfl (lv_at hl 1 rfl) ?_
    refine cg_64 hx hb hts hin6 hown hK hH h23 (hts (.fieldLink RX6 26 "IdlCaller$Reader" "at" "I") (by decide +kernel)) dX6_readWord_7 ?_
    refine c_calli (va_runV (As := [.int (cI M 64 h)]) (rest := []) ⟨hx, hb, hml, hown, hts⟩ (tc_X6_stoodAt l D kA nm na sa sv H.size T h (cI M 64 h) M _ hw) (cwV 1 hts gX6_readWord_X6_stoodAt rfl rfl rfl (by decide +kernel) ⟨(show (0 : Nat) + 1 ≤ 1 from Nat.le_of_ble_eq_true rfl), (show 8 + (2 + 11) + (0 : Nat) ≤ 22 from Nat.le_of_ble_eq_true rfl)⟩) (c_preV hK hH hA hSt (c_recv6 hK hH h23)) rfl rfl hl.1 rfl (lv_room (by first | exact Nat.le_of_ble_eq_true rfl | simp [va_rf_cat, cat_ref, cat_int, cat_long, cat_double, cat_null])) dX6_readWord_10 ⟨Nat.le_of_ble_eq_true rfl, Nat.le_of_ble_eq_true rfl⟩) hH hA (fun r26 M25 H locs hw hH => ?_)
    refine lv_istore_n (i := 2) (lv' := [(2, .int r26), (1, .int x24), (0, .ref h)]) hx hb dX6_readWord_13 rfl hl (by decide) rfl (fun ls hl => ?_)
    refine lv_lconst (v := 0) hx hb dX6_readWord_14 (by decide) ?_
    refine lv_lstore_n (i := 3) (lv' := [(3, .long 0), (2, .int r26), (1, .int x24), (0, .ref h)]) hx hb dX6_readWord_15 rfl hl (by decide) rfl (fun ls hl => ?_)
    obtain ⟨nn, hw⟩ := hw
    exact l16   nn x24 r26 0 M25 H locs ls hH (lv_sub hl [3, 2, 1, 0] rfl) hw
  exact hst M s.heap [] ls hH hl hw
