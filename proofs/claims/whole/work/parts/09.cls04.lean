def fc_X2_canBeCalledWith_b21 (T : LY) (h : Nat) (Q : Int32 → CM → Prop) (s0 : Int32) (M : CM) : Prop := (nZ s0 ∧ Q s0 M)
def fc_X2_canBeCalledWith_b20 (T : LY) (h : Nat) (Q : Int32 → CM → Prop) (M : CM) : Prop := fc_X2_canBeCalledWith_b21 T h Q  0 M
def fc_X2_canBeCalledWith (T : LY) (h : Nat)  (a1 : Int32) (M : CM) (Q : Int32 → CM → Prop) : Prop := (tg T h = 3 ∧ fc_X2_leastArguments T h M (fun (r3 : Int32) (M2 : CM) => ((a1 < r3 → fc_X2_canBeCalledWith_b20 T h Q   M2) ∧ (¬ a1 < r3 → fc_X2_mostArguments T h M2 (fun (r7 : Int32) (M6 : CM) => ((r7 < a1 → fc_X2_canBeCalledWith_b20 T h Q   M6) ∧ (¬ r7 < a1 → fc_X2_canBeCalledWith_b21 T h Q  1 M6)))))))
abbrev rmX2_canBeCalledWith : Room := { frames := 3, cells := 0, slots := 0, locals := 57 }
set_option maxHeartbeats 4000000 in
set_option maxRecDepth 100000 in
theorem tc_X2_canBeCalledWith (l : Launch) (D : va_G) (kA : Nat → ClassId) (nm : Nat → Nat) (na : Nat) (sa sv : Nat → Nat) (sz : Nat) (T : LY) (h : Nat) (a1 : Int32) (M : CM) (Q : Int32 → CM → Prop) (hw : fc_X2_canBeCalledWith T h a1 M Q) : Met l yX2_canBeCalledWith wsX2_canBeCalledWith rmX2_canBeCalledWith (va_Pc [.ref h, .int a1] (cPc nm na sa sv D kA T M sz)) (va_Qi Q (cB D kA (cF T sz) T) (cF T sz)) 0 0 (cF T sz) := by
  refine Met.ofW (cc := cX2_canBeCalledWith) (maxL := 2) (ret := (some .boolean)) (by decide) rfl ?_
  intro p e s m args below meth c s₁ B hml hv
  obtain ⟨rfl, hsz, hP, hK, hSt⟩ := hv
  have hx := B.exec
  have hb := B.bytes
  have hr := B.returns
  have hts := atoms_spec (ws := wsX2_canBeCalledWith) B.pre
  have hown : s.vm.findClass RX2 = some m.cls := findClass_of_methodNamed B.named
  have hlocks : meth.locks = false := B.notSynchronized
  subst hsz
  have hH : cH D kA (cF T s.heap.size) s.heap T M s.heap [] := ⟨hP.self, va_S.rf⟩
  have hA : ∀ q : Nat, s.heap.size ≤ q → cF T s.heap.size q := fun q z => Or.inr z
  generalize cF T s.heap.size = A at hH hA hSt ⊢
  have hl := lv_entry ([.ref h, .int a1]) (n := 2) (by first | exact Nat.le_of_ble_eq_true rfl | simp [lg_sl, va_rf_cat, cat_ref, cat_int, cat_long, cat_double])
  rw [lg_entry_eq]
  generalize (lg_sl ([.ref h, .int a1]) ++ List.replicate (2 - (lg_sl ([.ref h, .int a1])).length) Slot.unset).toArray = ls at hl ⊢
  generalize ([.ref h, .int a1] : List Value).toArray = args at hts ⊢
  have hl : lv_has ls 2 [(0, .ref h), (1, .int a1)] := hl
  have b21 : ∀ (s0 : Int32) (M : CM) (H : Heap) (locs : List Loc) (ls : Array Slot), cH D kA A s.heap T M H locs → lv_has ls 2 [] → fc_X2_canBeCalledWith_b21 T h Q  s0 M → W p l e (headSpec wsX2_canBeCalledWith rmX2_canBeCalledWith).room s m args below meth c H locs 0 0 (MQ below (va_Qi Q (cB D kA A T) A) args s 0 0 A) (F0 m 21 ls [.int s0]) := by
    intro   s0 M H locs ls hH hl hw
    unfold fc_X2_canBeCalledWith_b21 at hw
    exact c_retz hx hb hr hw.1.1 hlocks hK hH hw.2 dX2_canBeCalledWith_21
  have b20 : ∀ (M : CM) (H : Heap) (locs : List Loc) (ls : Array Slot), cH D kA A s.heap T M H locs → lv_has ls 2 [] → fc_X2_canBeCalledWith_b20 T h Q   M → W p l e (headSpec wsX2_canBeCalledWith rmX2_canBeCalledWith).room s m args below meth c H locs 0 0 (MQ below (va_Qi Q (cB D kA A T) A) args s 0 0 A) (F0 m 20 ls []) := by
    intro    M H locs ls hH hl hw
    unfold fc_X2_canBeCalledWith_b20 at hw
    refine lv_iconst (v := 0) hx hb dX2_canBeCalledWith_20 (by decide) ?_
    exact b21   0 M H locs ls hH (lv_sub hl [] rfl) hw
  clear hP
  unfold fc_X2_canBeCalledWith at hw
  have hst : ∀ (M : CM) (H : Heap) (locs : List Loc) (ls : Array Slot), cH D kA A s.heap T M H locs → lv_has ls 2 [(0, .ref h), (1, .int a1)] → (tg T h = 3 ∧ fc_X2_leastArguments T h M (fun (r3 : Int32) (M2 : CM) => ((a1 < r3 → fc_X2_canBeCalledWith_b20 T h Q   M2) ∧ (¬ a1 < r3 → fc_X2_mostArguments T h M2 (fun (r7 : Int32) (M6 : CM) => ((r7 < a1 → fc_X2_canBeCalledWith_b20 T h Q   M6) ∧ (¬ r7 < a1 → fc_X2_canBeCalledWith_b21 T h Q  1 M6))))))) → W p l e (headSpec wsX2_canBeCalledWith rmX2_canBeCalledWith).room s m args below meth c H locs 0 0 (MQ below (va_Qi Q (cB D kA A T) A) args s 0 0 A) (F0 m 0 ls []) := by
    intro M H locs ls hH hl hw
    refine lv_iload_n hx hb dX2_canBeCalledWith_0 rfl (lv_at hl 1 rfl) ?_
    refine lv_aload_n hx hb dX2_canBeCalledWith_1 rfl (lv_at hl 0 rfl) ?_
    obtain ⟨h1, hw⟩ := hw
    refine c_calli (va_runV (As := []) (rest := [.int a1]) ⟨hx, hb, hml, hown, hts⟩ (tc_X2_leastArguments l D kA nm na sa sv H.size T h M _ hw) (cwV 0 hts gX2_canBeCalledWith_X2_leastArguments rfl rfl rfl (by decide +kernel) ⟨(show (2 : Nat) + 1 ≤ 3 from Nat.le_of_ble_eq_true rfl), (show 8 + (3 + 11) + (35 : Nat) ≤ 57 from Nat.le_of_ble_eq_true rfl)⟩) (c_preV hK hH hA hSt (c_recv2 hK hH h1)) rfl rfl hl.1 rfl (lv_room (by first | exact Nat.le_of_ble_eq_true rfl | simp [va_rf_cat, cat_ref, cat_int, cat_long, cat_double, cat_null])) dX2_canBeCalledWith_2 ⟨Nat.le_of_ble_eq_true rfl, Nat.le_of_ble_eq_true rfl⟩) hH hA (fun r3 M2 H locs hw hH => ?_)
    refine lv_icmp_lt (tgt := 20) hx hb dX2_canBeCalledWith_5 (by decide) (fun c5 => ?_) (fun c5 => ?_)
    · replace hw := hw.1 c5
      exact b20    M2 H locs ls hH (lv_sub hl [] rfl) hw
    · replace hw := hw.2 c5
      refine lv_iload_n hx hb dX2_canBeCalledWith_8 rfl (lv_at hl 1 rfl) ?_
      refine lv_aload_n hx hb dX2_canBeCalledWith_9 rfl (lv_at hl 0 rfl) ?_
      refine c_calli (va_runV (As := []) (rest := [.int a1]) ⟨hx, hb, hml, hown, hts⟩ (tc_X2_mostArguments l D kA nm na sa sv H.size T h M2 _ hw) (cwV 0 hts gX2_canBeCalledWith_X2_mostArguments rfl rfl rfl (by decide +kernel) ⟨(show (0 : Nat) + 1 ≤ 3 from Nat.le_of_ble_eq_true rfl), (show 8 + (1 + 11) + (0 : Nat) ≤ 57 from Nat.le_of_ble_eq_true rfl)⟩) (c_preV hK hH hA hSt (c_recv2 hK hH h1)) rfl rfl hl.1 rfl (lv_room (by first | exact Nat.le_of_ble_eq_true rfl | simp [va_rf_cat, cat_ref, cat_int, cat_long, cat_double, cat_null])) dX2_canBeCalledWith_10 ⟨Nat.le_of_ble_eq_true rfl, Nat.le_of_ble_eq_true rfl⟩) hH hA (fun r7 M6 H locs hw hH => ?_)
      refine lv_icmp_gt (tgt := 20) hx hb dX2_canBeCalledWith_13 (by decide) (fun c9 => ?_) (fun c9 => ?_)
      · replace hw := hw.1 c9
        exact b20    M6 H locs ls hH (lv_sub hl [] rfl) hw
      · replace hw := hw.2 c9
        refine lv_iconst (v := 1) hx hb dX2_canBeCalledWith_16 (by decide) ?_
        refine lv_goto (tgt := 21) hx hb dX2_canBeCalledWith_17 (by decide) ?_
        exact b21   1 M6 H locs ls hH (lv_sub hl [] rfl) hw
  exact hst M s.heap [] ls hH hl hw
def fc_X5_init (mc ms : Nat) (h : Nat)  (T : LY) (M : CM) (Q : LY → CM → Prop) : Prop := (¬ (6 : Int32) < 0 ∧ ((6 : Int32).toNatClampNeg ≤ 60000000 ∧ (0 + 1 ≤ mc ∧ (0 + (6 : Int32).toNatClampNeg ≤ ms ∧ (∀ (q1 : Nat) (T2 : LY) (M3 : CM), tg T q1 = 0 → T2 = mkT T 26 ((6 : Int32).toNatClampNeg) q1 → M3 = mkM M q1 → (tg T2 h = 6 ∧ (∀ M9 : CM, M9 = sR M3 50 h (some q1) → (∀ M10 : CM, M10 = sI M9 51 h 0 → (¬ (7 : Int32) < 0 ∧ ((7 : Int32).toNatClampNeg ≤ 60000000 ∧ ((0 + 1) + 1 ≤ mc ∧ ((0 + (6 : Int32).toNatClampNeg) + (7 : Int32).toNatClampNeg ≤ ms ∧ (∀ (q11 : Nat) (T12 : LY) (M13 : CM), tg T2 q11 = 0 → T12 = mkT T2 26 ((7 : Int32).toNatClampNeg) q11 → M13 = mkM M10 q11 → (tg T12 h = 6 ∧ (∀ M19 : CM, M19 = sR M13 52 h (some q11) → (∀ M20 : CM, M20 = sI M19 53 h 0 → ((0 + 1) + 1 ≤ mc ∧ (0 + (6 : Int32).toNatClampNeg) + (7 : Int32).toNatClampNeg ≤ ms ∧ Q T12 M20)))))))))))))))))
abbrev rmX5_init (mc ms : Nat) : Room := { frames := 1, cells := mc, slots := ms, locals := 12 }
set_option maxHeartbeats 4000000 in
set_option maxRecDepth 100000 in
theorem tc_X5_init (l : Launch) (D : va_G) (kA : Nat → ClassId) (nm : Nat → Nat) (na : Nat) (sa sv : Nat → Nat) (sz : Nat) (mc ms : Nat) (h : Nat) (T : LY) (M : CM) (Q : LY → CM → Prop) (hw : fc_X5_init mc ms h  T M Q) : Met l yX5_init wsX5_init (rmX5_init mc ms) (va_Pc [.ref h] (cPc nm na sa sv D kA T M sz)) (va_Qv (fun (u : LY × CM) => Q u.1 u.2) (cBT D kA (cF T sz)) (cF T sz)) mc ms (cF T sz) := by
  refine Met.ofW (cc := cX5_init) (maxL := 1) (ret := none) (by decide) rfl ?_
  intro p e s m args below meth c s₁ B hml hv
  obtain ⟨rfl, hsz, hP, hK, hSt⟩ := hv
  have hx := B.exec
  have hb := B.bytes
  have hr := B.returns
  have hts := atoms_spec (ws := wsX5_init) B.pre
  have hown : s.vm.findClass RX5 = some m.cls := findClass_of_methodNamed B.named
  have hlocks : meth.locks = false := B.notSynchronized
  have hini : meth.name = "<init>" := (name_of_methodNamed B.named B.method).1
  subst hsz
  have hH : cH D kA (cF T s.heap.size) s.heap T M s.heap [] := ⟨hP.self, va_S.rf⟩
  have hA : ∀ q : Nat, s.heap.size ≤ q → cF T s.heap.size q := fun q z => Or.inr z
  generalize cF T s.heap.size = A at hH hA hSt ⊢
  have hl := lv_entry ([.ref h]) (n := 1) (by first | exact Nat.le_of_ble_eq_true rfl | simp [lg_sl, va_rf_cat, cat_ref, cat_int, cat_long, cat_double])
  rw [lg_entry_eq]
  generalize (lg_sl ([.ref h]) ++ List.replicate (1 - (lg_sl ([.ref h])).length) Slot.unset).toArray = ls at hl ⊢
  generalize ([.ref h] : List Value).toArray = args at hts ⊢
  have hl : lv_has ls 1 [(0, .ref h)] := hl
  have hin5 : ∀ w ∈ wsX50, w ∈ wsX5_init := by decide +kernel
  clear hP
  unfold fc_X5_init at hw
  have hst : ∀ (T : LY) (M : CM) (H : Heap) (locs : List Loc) (ls : Array Slot), cH D kA A s.heap T M H locs → lv_has ls 1 [(0, .ref h)] → (¬ (6 : Int32) < 0 ∧ ((6 : Int32).toNatClampNeg ≤ 60000000 ∧ (0 + 1 ≤ mc ∧ (0 + (6 : Int32).toNatClampNeg ≤ ms ∧ (∀ (q1 : Nat) (T2 : LY) (M3 : CM), tg T q1 = 0 → T2 = mkT T 26 ((6 : Int32).toNatClampNeg) q1 → M3 = mkM M q1 → (tg T2 h = 6 ∧ (∀ M9 : CM, M9 = sR M3 50 h (some q1) → (∀ M10 : CM, M10 = sI M9 51 h 0 → (¬ (7 : Int32) < 0 ∧ ((7 : Int32).toNatClampNeg ≤ 60000000 ∧ ((0 + 1) + 1 ≤ mc ∧ ((0 + (6 : Int32).toNatClampNeg) + (7 : Int32).toNatClampNeg ≤ ms ∧ (∀ (q11 : Nat) (T12 : LY) (M13 : CM), tg T2 q11 = 0 → T12 = mkT T2 26 ((7 : Int32).toNatClampNeg) q11 → M13 = mkM M10 q11 → (tg T12 h = 6 ∧ (∀ M19 : CM, M19 = sR M13 52 h (some q11) → (∀ M20 : CM, M20 = sI M19 53 h 0 → ((0 + 1) + 1 ≤ mc ∧ (0 + (6 : Int32).toNatClampNeg) + (7 : Int32).toNatClampNeg ≤ ms ∧ Q T12 M20))))))))))))))))) → W p l e (headSpec wsX5_init (rmX5_init mc ms)).room s m args below meth c H locs 0 0 (MQ below (va_Qv (fun (u : LY × CM) => Q u.1 u.2) (cBT D kA A) A) args s mc ms A) (F0 m 0 ls []) := by
    intro T M H locs ls hH hl hw
    refine lv_aload_n hx hb dX5_init_0 rfl (lv_at hl 0 rfl) ?_
    refine W.objInit hx hb hown (hts (.methodLink RX5 3 objectInit) (by decide +kernel)) (hts (.instanceMethod objectInit) (by decide +kernel)) (hts (.code objectInit ⟨#[0xb1]⟩ 1 none) (by decide +kernel)) rfl (by rw [hml]; exact hl.1) rfl dX5_init_1 ((show _ ≤ (1 : Nat) from by first | exact Nat.le_of_ble_eq_true rfl | simp [va_rf_cat, cat_ref, cat_int, cat_long, cat_double, cat_null])) ((show _ ≤ (12 : Nat) from by first | exact Nat.le_of_ble_eq_true rfl | simp [va_rf_cat, cat_ref, cat_int, cat_long, cat_double, cat_null])) ?_
    refine W.eq (g2 := F0 m 4 ls []) rfl ?_
    refine lv_aload_n hx hb dX5_init_4 rfl (lv_at hl 0 rfl) ?_
    refine lv_bipush (v := 6) hx hb dX5_init_5 (by decide) ?_
    obtain ⟨h4, hw⟩ := hw
    obtain ⟨h5, hw⟩ := hw
    obtain ⟨h6, hw⟩ := hw
    obtain ⟨h7, hw⟩ := hw
    refine cnewa_6 hx hb hown (hts (.classLink RX5 9 "IdlCaller$Form") (by decide +kernel)) (hSt.2.2.2.2.2.2.2.2.2.2.2.2.2.2.2.2.2.2.2.2.2.2.2.2.2.2.1) hK hH hA h4 rfl h5 h6 h7 dX5_init_7 (fun q1 H zq1 hH => ?_)
    obtain ⟨T2, eT2⟩ : ∃ z, z = mkT T 26 ((6 : Int32).toNatClampNeg) q1 := ⟨_, rfl⟩
    obtain ⟨M3, eM3⟩ : ∃ z, z = mkM M q1 := ⟨_, rfl⟩
    replace hw := hw q1 T2 M3 zq1 eT2 eM3
    rw [← eT2, ← eM3] at hH
    obtain ⟨h8, hw⟩ := hw
    refine cp_50 (x := (some q1)) hx hb hts hin5 hown hK hH h8 rfl hini (hts (.fieldLink RX5 11 "IdlCaller$Operation" "forms" "[LIdlCaller$Form;") (by decide +kernel)) dX5_init_10 (fun M9 H locs eM9 hH => ?_)
    replace hw := hw M9 eM9
    refine lv_aload_n hx hb dX5_init_13 rfl (lv_at hl 0 rfl) ?_
    refine lv_iconst (v := 0) hx hb dX5_init_14 (by decide) ?_
    refine cp_51 (x := 0) hx hb hts hin5 hown hK hH h8 (hts (.fieldLink RX5 17 "IdlCaller$Operation" "count" "I") (by decide +kernel)) dX5_init_15 (fun M10 H locs eM10 hH => ?_)
    replace hw := hw M10 eM10
    refine lv_aload_n hx hb dX5_init_18 rfl (lv_at hl 0 rfl) ?_
    refine lv_bipush (v := 7) hx hb dX5_init_19 (by decide) ?_
    obtain ⟨h14, hw⟩ := hw
    obtain ⟨h15, hw⟩ := hw
    obtain ⟨h16, hw⟩ := hw
    obtain ⟨h17, hw⟩ := hw
    refine cnewa_6 hx hb hown (hts (.classLink RX5 9 "IdlCaller$Form") (by decide +kernel)) (hSt.2.2.2.2.2.2.2.2.2.2.2.2.2.2.2.2.2.2.2.2.2.2.2.2.2.2.1) hK hH hA h14 rfl h15 h16 h17 dX5_init_21 (fun q11 H zq11 hH => ?_)
    obtain ⟨T12, eT12⟩ : ∃ z, z = mkT T2 26 ((7 : Int32).toNatClampNeg) q11 := ⟨_, rfl⟩
    obtain ⟨M13, eM13⟩ : ∃ z, z = mkM M10 q11 := ⟨_, rfl⟩
    replace hw := hw q11 T12 M13 zq11 eT12 eM13
    rw [← eT12, ← eM13] at hH
    obtain ⟨h18, hw⟩ := hw
    refine cp_52 (x := (some q11)) hx hb hts hin5 hown hK hH h18 rfl hini (hts (.fieldLink RX5 21 "IdlCaller$Operation" "able" "[LIdlCaller$Form;") (by decide +kernel)) dX5_init_24 (fun M19 H locs eM19 hH => ?_)
    replace hw := hw M19 eM19
    refine lv_aload_n hx hb dX5_init_27 rfl (lv_at hl 0 rfl) ?_
    refine lv_iconst (v := 0) hx hb dX5_init_28 (by decide) ?_
    refine cp_53 (x := 0) hx hb hts hin5 hown hK hH h18 (hts (.fieldLink RX5 24 "IdlCaller$Operation" "ables" "I") (by decide +kernel)) dX5_init_29 (fun M20 H locs eM20 hH => ?_)
    replace hw := hw M20 eM20
    exact c_retTv hw.1 hw.2.1 hx hb hr hlocks hK hH hw.2.2 dX5_init_32
  exact hst T M s.heap [] ls hH hl hw
def fc_X5_clear (T : LY) (h : Nat)  (M : CM) (Q : CM → Prop) : Prop := (tg T h = 6 ∧ (∀ M2 : CM, M2 = sI M 51 h 0 → Q M2))
abbrev rmX5_clear : Room := { frames := 0, cells := 0, slots := 0, locals := 0 }
set_option maxHeartbeats 4000000 in
set_option maxRecDepth 100000 in
theorem tc_X5_clear (l : Launch) (D : va_G) (kA : Nat → ClassId) (nm : Nat → Nat) (na : Nat) (sa sv : Nat → Nat) (sz : Nat) (T : LY) (h : Nat) (M : CM) (Q : CM → Prop) (hw : fc_X5_clear T h  M Q) : Met l yX5_clear wsX5_clear rmX5_clear (va_Pc [.ref h] (cPc nm na sa sv D kA T M sz)) (va_Qv Q (cB D kA (cF T sz) T) (cF T sz)) 0 0 (cF T sz) := by
  refine Met.ofW (cc := cX5_clear) (maxL := 1) (ret := none) (by decide) rfl ?_
  intro p e s m args below meth c s₁ B hml hv
  obtain ⟨rfl, hsz, hP, hK, hSt⟩ := hv
  have hx := B.exec
  have hb := B.bytes
  have hr := B.returns
  have hts := atoms_spec (ws := wsX5_clear) B.pre
  have hown : s.vm.findClass RX5 = some m.cls := findClass_of_methodNamed B.named
  have hlocks : meth.locks = false := B.notSynchronized
  subst hsz
  have hH : cH D kA (cF T s.heap.size) s.heap T M s.heap [] := ⟨hP.self, va_S.rf⟩
  have hA : ∀ q : Nat, s.heap.size ≤ q → cF T s.heap.size q := fun q z => Or.inr z
  generalize cF T s.heap.size = A at hH hA hSt ⊢
  have hl := lv_entry ([.ref h]) (n := 1) (by first | exact Nat.le_of_ble_eq_true rfl | simp [lg_sl, va_rf_cat, cat_ref, cat_int, cat_long, cat_double])
  rw [lg_entry_eq]
  generalize (lg_sl ([.ref h]) ++ List.replicate (1 - (lg_sl ([.ref h])).length) Slot.unset).toArray = ls at hl ⊢
  generalize ([.ref h] : List Value).toArray = args at hts ⊢
  have hl : lv_has ls 1 [(0, .ref h)] := hl
  have hin5 : ∀ w ∈ wsX50, w ∈ wsX5_clear := by decide +kernel
  clear hP
  unfold fc_X5_clear at hw
  have hst : ∀ (M : CM) (H : Heap) (locs : List Loc) (ls : Array Slot), cH D kA A s.heap T M H locs → lv_has ls 1 [(0, .ref h)] → (tg T h = 6 ∧ (∀ M2 : CM, M2 = sI M 51 h 0 → Q M2)) → W p l e (headSpec wsX5_clear rmX5_clear).room s m args below meth c H locs 0 0 (MQ below (va_Qv Q (cB D kA A T) A) args s 0 0 A) (F0 m 0 ls []) := by
    intro M H locs ls hH hl hw
    refine lv_aload_n hx hb dX5_clear_0 rfl (lv_at hl 0 rfl) ?_
    refine lv_iconst (v := 0) hx hb dX5_clear_1 (by decide) ?_
    obtain ⟨h1, hw⟩ := hw
    refine cp_51 (x := 0) hx hb hts hin5 hown hK hH h1 (hts (.fieldLink RX5 17 "IdlCaller$Operation" "count" "I") (by decide +kernel)) dX5_clear_2 (fun M2 H locs eM2 hH => ?_)
    replace hw := hw M2 eM2
    exact c_retv hx hb hr hlocks hK hH hw dX5_clear_5
  exact hst M s.heap [] ls hH hl hw
def fc_X5_append_b19 (T : LY) (h : Nat) (Q : Int32 → CM → Prop) (M : CM) : Prop := Q (-4) M
def fc_X5_append (T : LY) (h : Nat)  (a1 : Option Nat) (M : CM) (Q : Int32 → CM → Prop) : Prop := (tg T h = 6 ∧ (((cI M 51 h) < 0 → fc_X5_append_b19 T h Q   M) ∧ (¬ (cI M 51 h) < 0 → (∃ p3 : Nat, cR M 50 h = some p3 ∧ (tg T p3 = 26 ∧ (((cI M 51 h) < (nI (ln T p3)) → (∃ p6 : Nat, a1 = some p6 ∧ (tg T p6 = 3 ∧ (∀ M8 : CM, M8 = sI M 21 p6 (cI M 51 h) → (∃ p9 : Nat, cR M8 50 h = some p9 ∧ (tg T p9 = 26 ∧ (vp_in (cI M8 51 h) (ln T p9) ∧ (∀ M11 : CM, M11 = yR M8 p9 (cI M8 51 h).toNatClampNeg (some p6) → (∀ M13 : CM, M13 = sI M11 51 h ((cI M11 51 h) + 1) → Q (cI M13 21 p6) M13))))))))) ∧ (¬ (cI M 51 h) < (nI (ln T p3)) → fc_X5_append_b19 T h Q   M)))))))
abbrev rmX5_append : Room := { frames := 0, cells := 0, slots := 0, locals := 0 }
set_option maxHeartbeats 4000000 in
set_option maxRecDepth 100000 in
theorem tc_X5_append (l : Launch) (D : va_G) (kA : Nat → ClassId) (nm : Nat → Nat) (na : Nat) (sa sv : Nat → Nat) (sz : Nat) (T : LY) (h : Nat) (a1 : Option Nat) (M : CM) (Q : Int32 → CM → Prop) (hw : fc_X5_append T h a1 M Q) : Met l yX5_append wsX5_append rmX5_append (va_Pc [.ref h, va_rf a1] (cPc nm na sa sv D kA T M sz)) (va_Qi Q (cB D kA (cF T sz) T) (cF T sz)) 0 0 (cF T sz) := by
  refine Met.ofW (cc := cX5_append) (maxL := 2) (ret := (some .int)) (by decide) rfl ?_
  intro p e s m args below meth c s₁ B hml hv
  obtain ⟨rfl, hsz, hP, hK, hSt⟩ := hv
  have hx := B.exec
  have hb := B.bytes
  have hr := B.returns
  have hts := atoms_spec (ws := wsX5_append) B.pre
  have hown : s.vm.findClass RX5 = some m.cls := findClass_of_methodNamed B.named
  have hlocks : meth.locks = false := B.notSynchronized
  subst hsz
  have hH : cH D kA (cF T s.heap.size) s.heap T M s.heap [] := ⟨hP.self, va_S.rf⟩
  have hA : ∀ q : Nat, s.heap.size ≤ q → cF T s.heap.size q := fun q z => Or.inr z
  generalize cF T s.heap.size = A at hH hA hSt ⊢
  have hl := lv_entry ([.ref h, va_rf a1]) (n := 2) (by first | exact Nat.le_of_ble_eq_true rfl | simp [lg_sl, va_rf_cat, cat_ref, cat_int, cat_long, cat_double])
  rw [lg_entry_eq]
  generalize (lg_sl ([.ref h, va_rf a1]) ++ List.replicate (2 - (lg_sl ([.ref h, va_rf a1])).length) Slot.unset).toArray = ls at hl ⊢
  generalize ([.ref h, va_rf a1] : List Value).toArray = args at hts ⊢
  have hl : lv_has ls 2 [(0, .ref h), (1, va_rf a1)] := by simpa [lv_args, va_rf_cat, cat_ref, cat_int, cat_long, cat_double] using hl
  have hin2 : ∀ w ∈ wsX20, w ∈ wsX5_append := by decide +kernel
  have hin5 : ∀ w ∈ wsX50, w ∈ wsX5_append := by decide +kernel
  have b19 : ∀ (M : CM) (H : Heap) (locs : List Loc) (ls : Array Slot), cH D kA A s.heap T M H locs → lv_has ls 2 [] → fc_X5_append_b19 T h Q   M → W p l e (headSpec wsX5_append rmX5_append).room s m args below meth c H locs 0 0 (MQ below (va_Qi Q (cB D kA A T) A) args s 0 0 A) (F0 m 19 ls []) := by
    intro    M H locs ls hH hl hw
    unfold fc_X5_append_b19 at hw
    refine lv_bipush (v := (-4)) hx hb dX5_append_19 (by decide) ?_
    exact c_reti hx hb hr hlocks hK hH hw dX5_append_21
  clear hP
  unfold fc_X5_append at hw
  have hst : ∀ (M : CM) (H : Heap) (locs : List Loc) (ls : Array Slot), cH D kA A s.heap T M H locs → lv_has ls 2 [(0, .ref h), (1, va_rf a1)] → (tg T h = 6 ∧ (((cI M 51 h) < 0 → fc_X5_append_b19 T h Q   M) ∧ (¬ (cI M 51 h) < 0 → (∃ p3 : Nat, cR M 50 h = some p3 ∧ (tg T p3 = 26 ∧ (((cI M 51 h) < (nI (ln T p3)) → (∃ p6 : Nat, a1 = some p6 ∧ (tg T p6 = 3 ∧ (∀ M8 : CM, M8 = sI M 21 p6 (cI M 51 h) → (∃ p9 : Nat, cR M8 50 h = some p9 ∧ (tg T p9 = 26 ∧ (vp_in (cI M8 51 h) (ln T p9) ∧ (∀ M11 : CM, M11 = yR M8 p9 (cI M8 51 h).toNatClampNeg (some p6) → (∀ M13 : CM, M13 = sI M11 51 h ((cI M11 51 h) + 1) → Q (cI M13 21 p6) M13))))))))) ∧ (¬ (cI M 51 h) < (nI (ln T p3)) → fc_X5_append_b19 T h Q   M))))))) → W p l e (headSpec wsX5_append rmX5_append).room s m args below meth c H locs 0 0 (MQ below (va_Qi Q (cB D kA A T) A) args s 0 0 A) (F0 m 0 ls []) := by
    intro M H locs ls hH hl hw
    refine lv_aload_n hx hb dX5_append_0 rfl (lv_at hl 0 rfl) ?_
    obtain ⟨h1, hw⟩ := hw
    refine cg_51 hx hb hts hin5 hown hK hH h1 (hts (.fieldLink RX5 17 "IdlCaller$Operation" "count" "I") (by decide +kernel)) dX5_append_1 ?_
    refine lv_if_lt (tgt := 19) hx hb dX5_append_4 (by decide) (fun c2 => ?_) (fun c2 => ?_)
    · replace hw := hw.1 c2
      exact b19    M H locs ls hH (lv_sub hl [] rfl) hw
    · replace hw := hw.2 c2
      refine lv_aload_n hx hb dX5_append_7 rfl (lv_at hl 0 rfl) ?_
      refine cg_51 hx hb hts hin5 hown hK hH h1 (hts (.fieldLink RX5 17 "IdlCaller$Operation" "count" "I") (by decide +kernel)) dX5_append_8 ?_
      refine lv_aload_n hx hb dX5_append_11 rfl (lv_at hl 0 rfl) ?_
      refine cg_50 hx hb hts hin5 hown hK hH h1 (hts (.fieldLink RX5 11 "IdlCaller$Operation" "forms" "[LIdlCaller$Form;") (by decide +kernel)) dX5_append_12 ?_
      obtain ⟨p3, ep3, hw⟩ := hw
      refine W.st (st' := [.ref p3, .int (cI M 51 h)]) (by rw [ep3]; rfl) ?_
      obtain ⟨h4, hw⟩ := hw
      refine cn_6 hx hb hK hH h4 dX5_append_15 ?_
      refine lv_icmp_lt (tgt := 22) hx hb dX5_append_16 (by decide) (fun c5 => ?_) (fun c5 => ?_)
      · replace hw := hw.1 c5
        refine s_aload_n hx hb dX5_append_22 rfl (lv_at hl 1 rfl) ?_
        refine lv_aload_n hx hb dX5_append_23 rfl (lv_at hl 0 rfl) ?_
        refine cg_51 hx hb hts hin5 hown hK hH h1 (hts (.fieldLink RX5 17 "IdlCaller$Operation" "count" "I") (by decide +kernel)) dX5_append_24 ?_
        obtain ⟨p6, ep6, hw⟩ := hw
        refine W.st (st' := [.int (cI M 51 h), .ref p6]) (by rw [ep6]; rfl) ?_
        obtain ⟨h7, hw⟩ := hw
        refine cp_21 (x := cI M 51 h) hx hb hts hin2 hown hK hH h7 (hts (.fieldLink RX5 27 "IdlCaller$Form" "number" "I") (by decide +kernel)) dX5_append_27 (fun M8 H locs eM8 hH => ?_)
        replace hw := hw M8 eM8
        refine lv_aload_n hx hb dX5_append_30 rfl (lv_at hl 0 rfl) ?_
        refine cg_50 hx hb hts hin5 hown hK hH h1 (hts (.fieldLink RX5 11 "IdlCaller$Operation" "forms" "[LIdlCaller$Form;") (by decide +kernel)) dX5_append_31 ?_
        refine lv_aload_n hx hb dX5_append_34 rfl (lv_at hl 0 rfl) ?_
        refine cg_51 hx hb hts hin5 hown hK hH h1 (hts (.fieldLink RX5 17 "IdlCaller$Operation" "count" "I") (by decide +kernel)) dX5_append_35 ?_
        refine s_aload_n hx hb dX5_append_38 rfl (lv_at hl 1 rfl) ?_
        obtain ⟨p9, ep9, hw⟩ := hw
        refine W.st (st' := [va_rf a1, .int (cI M8 51 h), .ref p9]) (by rw [ep9]; rfl) ?_
        obtain ⟨h10, hw⟩ := hw
        refine W.st (st' := [.ref p6, .int (cI M8 51 h), .ref p9]) (by rw [ep6]; rfl) ?_
        obtain ⟨h12, hw⟩ := hw
        refine cs_6 hx hb hK hH h10 h7 h12 dX5_append_39 (fun M11 H locs eM11 hH => ?_)
        replace hw := hw M11 eM11
        refine lv_aload_n hx hb dX5_append_40 rfl (lv_at hl 0 rfl) ?_
        refine lv_dup hx hb dX5_append_41 rfl ?_
        refine cg_51 hx hb hts hin5 hown hK hH h1 (hts (.fieldLink RX5 17 "IdlCaller$Operation" "count" "I") (by decide +kernel)) dX5_append_42 ?_
        refine lv_iconst (v := 1) hx hb dX5_append_45 (by decide) ?_
        refine lv_iadd hx hb dX5_append_46 ?_
        refine cp_51 (x := (cI M11 51 h) + 1) hx hb hts hin5 hown hK hH h1 (hts (.fieldLink RX5 17 "IdlCaller$Operation" "count" "I") (by decide +kernel)) dX5_append_47 (fun M13 H locs eM13 hH => ?_)
        replace hw := hw M13 eM13
        refine s_aload_n hx hb dX5_append_50 rfl (lv_at hl 1 rfl) ?_
        refine W.st (st' := [.ref p6]) (by rw [ep6]; rfl) ?_
        refine cg_21 hx hb hts hin2 hown hK hH h7 (hts (.fieldLink RX5 27 "IdlCaller$Form" "number" "I") (by decide +kernel)) dX5_append_51 ?_
        exact c_reti hx hb hr hlocks hK hH hw dX5_append_54
      · replace hw := hw.2 c5
        exact b19    M H locs ls hH (lv_sub hl [] rfl) hw
  exact hst M s.heap [] ls hH hl hw
def fc_X5_formAt_b31 (T : LY) (h : Nat) (Q : Option Nat → CM → Prop) (s0 : Option Nat) (M : CM) : Prop := Q s0 M
def fc_X5_formAt_b30 (T : LY) (h : Nat) (Q : Option Nat → CM → Prop) (M : CM) : Prop := fc_X5_formAt_b31 T h Q  none M
def fc_X5_formAt (T : LY) (h : Nat)  (a1 : Int32) (M : CM) (Q : Option Nat → CM → Prop) : Prop := ((a1 < 0 → fc_X5_formAt_b30 T h Q   M) ∧ (¬ a1 < 0 → (tg T h = 6 ∧ (((cI M 51 h) ≤ a1 → fc_X5_formAt_b30 T h Q   M) ∧ (¬ (cI M 51 h) ≤ a1 → (∃ p4 : Nat, cR M 50 h = some p4 ∧ (tg T p4 = 26 ∧ (((nI (ln T p4)) ≤ a1 → fc_X5_formAt_b30 T h Q   M) ∧ (¬ (nI (ln T p4)) ≤ a1 → (vp_in a1 (ln T p4) ∧ fc_X5_formAt_b31 T h Q  (xR M p4 a1.toNatClampNeg) M))))))))))
abbrev rmX5_formAt : Room := { frames := 0, cells := 0, slots := 0, locals := 0 }
set_option maxHeartbeats 4000000 in
set_option maxRecDepth 100000 in
theorem tc_X5_formAt (l : Launch) (D : va_G) (kA : Nat → ClassId) (nm : Nat → Nat) (na : Nat) (sa sv : Nat → Nat) (sz : Nat) (T : LY) (h : Nat) (a1 : Int32) (M : CM) (Q : Option Nat → CM → Prop) (hw : fc_X5_formAt T h a1 M Q) : Met l yX5_formAt wsX5_formAt rmX5_formAt (va_Pc [.ref h, .int a1] (cPc nm na sa sv D kA T M sz)) (va_Qq Q (cB D kA (cF T sz) T) (cF T sz)) 0 0 (cF T sz) := by
  refine Met.ofW (cc := cX5_formAt) (maxL := 2) (ret := (some (.object "IdlCaller$Form"))) (by decide) rfl ?_
  intro p e s m args below meth c s₁ B hml hv
  obtain ⟨rfl, hsz, hP, hK, hSt⟩ := hv
  have hx := B.exec
  have hb := B.bytes
  have hr := B.returns
  have hts := atoms_spec (ws := wsX5_formAt) B.pre
  have hown : s.vm.findClass RX5 = some m.cls := findClass_of_methodNamed B.named
  have hlocks : meth.locks = false := B.notSynchronized
  subst hsz
  have hH : cH D kA (cF T s.heap.size) s.heap T M s.heap [] := ⟨hP.self, va_S.rf⟩
  have hA : ∀ q : Nat, s.heap.size ≤ q → cF T s.heap.size q := fun q z => Or.inr z
  generalize cF T s.heap.size = A at hH hA hSt ⊢
  have hl := lv_entry ([.ref h, .int a1]) (n := 2) (by first | exact Nat.le_of_ble_eq_true rfl | simp [lg_sl, va_rf_cat, cat_ref, cat_int, cat_long, cat_double])
  rw [lg_entry_eq]
  generalize (lg_sl ([.ref h, .int a1]) ++ List.replicate (2 - (lg_sl ([.ref h, .int a1])).length) Slot.unset).toArray = ls at hl ⊢
  generalize ([.ref h, .int a1] : List Value).toArray = args at hts ⊢
  have hl : lv_has ls 2 [(0, .ref h), (1, .int a1)] := hl
  have hin5 : ∀ w ∈ wsX50, w ∈ wsX5_formAt := by decide +kernel
  have b31 : ∀ (s0 : Option Nat) (M : CM) (H : Heap) (locs : List Loc) (ls : Array Slot), cH D kA A s.heap T M H locs → lv_has ls 2 [] → fc_X5_formAt_b31 T h Q  s0 M → W p l e (headSpec wsX5_formAt rmX5_formAt).room s m args below meth c H locs 0 0 (MQ below (va_Qq Q (cB D kA A T) A) args s 0 0 A) (F0 m 31 ls [va_rf s0]) := by
    intro   s0 M H locs ls hH hl hw
    unfold fc_X5_formAt_b31 at hw
    exact c_retq (v := s0) hx hb hr (Or.inl ⟨_, rfl⟩) hlocks hK hH hw dX5_formAt_31
  have b30 : ∀ (M : CM) (H : Heap) (locs : List Loc) (ls : Array Slot), cH D kA A s.heap T M H locs → lv_has ls 2 [] → fc_X5_formAt_b30 T h Q   M → W p l e (headSpec wsX5_formAt rmX5_formAt).room s m args below meth c H locs 0 0 (MQ below (va_Qq Q (cB D kA A T) A) args s 0 0 A) (F0 m 30 ls []) := by
    intro    M H locs ls hH hl hw
    unfold fc_X5_formAt_b30 at hw
    refine lv_null hx hb dX5_formAt_30 ?_
    exact b31   none M H locs ls hH (lv_sub hl [] rfl) hw
  clear hP
  unfold fc_X5_formAt at hw
  have hst : ∀ (M : CM) (H : Heap) (locs : List Loc) (ls : Array Slot), cH D kA A s.heap T M H locs → lv_has ls 2 [(0, .ref h), (1, .int a1)] → ((a1 < 0 → fc_X5_formAt_b30 T h Q   M) ∧ (¬ a1 < 0 → (tg T h = 6 ∧ (((cI M 51 h) ≤ a1 → fc_X5_formAt_b30 T h Q   M) ∧ (¬ (cI M 51 h) ≤ a1 → (∃ p4 : Nat, cR M 50 h = some p4 ∧ (tg T p4 = 26 ∧ (((nI (ln T p4)) ≤ a1 → fc_X5_formAt_b30 T h Q   M) ∧ (¬ (nI (ln T p4)) ≤ a1 → (vp_in a1 (ln T p4) ∧ fc_X5_formAt_b31 T h Q  (xR M p4 a1.toNatClampNeg) M)))))))))) → W p l e (headSpec wsX5_formAt rmX5_formAt).room s m args below meth c H locs 0 0 (MQ below (va_Qq Q (cB D kA A T) A) args s 0 0 A) (F0 m 0 ls []) := by
    intro M H locs ls hH hl hw
    refine lv_iload_n hx hb dX5_formAt_0 rfl (lv_at hl 1 rfl) ?_
    refine lv_if_lt (tgt := 30) hx hb dX5_formAt_1 (by decide) (fun c1 => ?_) (fun c1 => ?_)
    · replace hw := hw.1 c1
      exact b30    M H locs ls hH (lv_sub hl [] rfl) hw
    · replace hw := hw.2 c1
      refine lv_iload_n hx hb dX5_formAt_4 rfl (lv_at hl 1 rfl) ?_
      refine lv_aload_n hx hb dX5_formAt_5 rfl (lv_at hl 0 rfl) ?_
      obtain ⟨h2, hw⟩ := hw
      refine cg_51 hx hb hts hin5 hown hK hH h2 (hts (.fieldLink RX5 17 "IdlCaller$Operation" "count" "I") (by decide +kernel)) dX5_formAt_6 ?_
      refine lv_icmp_ge (tgt := 30) hx hb dX5_formAt_9 (by decide) (fun c3 => ?_) (fun c3 => ?_)
      · replace hw := hw.1 c3
        exact b30    M H locs ls hH (lv_sub hl [] rfl) hw
      · replace hw := hw.2 c3
        refine lv_iload_n hx hb dX5_formAt_12 rfl (lv_at hl 1 rfl) ?_
        refine lv_aload_n hx hb dX5_formAt_13 rfl (lv_at hl 0 rfl) ?_
        refine cg_50 hx hb hts hin5 hown hK hH h2 (hts (.fieldLink RX5 11 "IdlCaller$Operation" "forms" "[LIdlCaller$Form;") (by decide +kernel)) dX5_formAt_14 ?_
        obtain ⟨p4, ep4, hw⟩ := hw
        refine W.st (st' := [.ref p4, .int a1]) (by rw [ep4]; rfl) ?_
        obtain ⟨h5, hw⟩ := hw
        refine cn_6 hx hb hK hH h5 dX5_formAt_17 ?_
        refine lv_icmp_ge (tgt := 30) hx hb dX5_formAt_18 (by decide) (fun c6 => ?_) (fun c6 => ?_)
        · replace hw := hw.1 c6
          exact b30    M H locs ls hH (lv_sub hl [] rfl) hw
        · replace hw := hw.2 c6
          refine lv_aload_n hx hb dX5_formAt_21 rfl (lv_at hl 0 rfl) ?_
          refine cg_50 hx hb hts hin5 hown hK hH h2 (hts (.fieldLink RX5 11 "IdlCaller$Operation" "forms" "[LIdlCaller$Form;") (by decide +kernel)) dX5_formAt_22 ?_
          refine lv_iload_n hx hb dX5_formAt_25 rfl (lv_at hl 1 rfl) ?_
          refine W.st (st' := [.int a1, .ref p4]) (by rw [ep4]; rfl) ?_
          obtain ⟨h7, hw⟩ := hw
          refine cl_6 hx hb hK hH h5 h7 dX5_formAt_26 ?_
          refine lv_goto (tgt := 31) hx hb dX5_formAt_27 (by decide) ?_
          exact b31   (xR M p4 a1.toNatClampNeg) M H locs ls hH (lv_sub hl [] rfl) hw
  exact hst M s.heap [] ls hH hl hw
def fc_X5_ableAt_b31 (T : LY) (h : Nat) (Q : Option Nat → CM → Prop) (s0 : Option Nat) (M : CM) : Prop := Q s0 M
def fc_X5_ableAt_b30 (T : LY) (h : Nat) (Q : Option Nat → CM → Prop) (M : CM) : Prop := fc_X5_ableAt_b31 T h Q  none M
def fc_X5_ableAt (T : LY) (h : Nat)  (a1 : Int32) (M : CM) (Q : Option Nat → CM → Prop) : Prop := ((a1 < 0 → fc_X5_ableAt_b30 T h Q   M) ∧ (¬ a1 < 0 → (tg T h = 6 ∧ (((cI M 53 h) ≤ a1 → fc_X5_ableAt_b30 T h Q   M) ∧ (¬ (cI M 53 h) ≤ a1 → (∃ p4 : Nat, cR M 52 h = some p4 ∧ (tg T p4 = 26 ∧ (((nI (ln T p4)) ≤ a1 → fc_X5_ableAt_b30 T h Q   M) ∧ (¬ (nI (ln T p4)) ≤ a1 → (vp_in a1 (ln T p4) ∧ fc_X5_ableAt_b31 T h Q  (xR M p4 a1.toNatClampNeg) M))))))))))
abbrev rmX5_ableAt : Room := { frames := 0, cells := 0, slots := 0, locals := 0 }
set_option maxHeartbeats 4000000 in
set_option maxRecDepth 100000 in
theorem tc_X5_ableAt (l : Launch) (D : va_G) (kA : Nat → ClassId) (nm : Nat → Nat) (na : Nat) (sa sv : Nat → Nat) (sz : Nat) (T : LY) (h : Nat) (a1 : Int32) (M : CM) (Q : Option Nat → CM → Prop) (hw : fc_X5_ableAt T h a1 M Q) : Met l yX5_ableAt wsX5_ableAt rmX5_ableAt (va_Pc [.ref h, .int a1] (cPc nm na sa sv D kA T M sz)) (va_Qq Q (cB D kA (cF T sz) T) (cF T sz)) 0 0 (cF T sz) := by
  refine Met.ofW (cc := cX5_ableAt) (maxL := 2) (ret := (some (.object "IdlCaller$Form"))) (by decide) rfl ?_
  intro p e s m args below meth c s₁ B hml hv
  obtain ⟨rfl, hsz, hP, hK, hSt⟩ := hv
  have hx := B.exec
  have hb := B.bytes
  have hr := B.returns
  have hts := atoms_spec (ws := wsX5_ableAt) B.pre
  have hown : s.vm.findClass RX5 = some m.cls := findClass_of_methodNamed B.named
  have hlocks : meth.locks = false := B.notSynchronized
  subst hsz
  have hH : cH D kA (cF T s.heap.size) s.heap T M s.heap [] := ⟨hP.self, va_S.rf⟩
  have hA : ∀ q : Nat, s.heap.size ≤ q → cF T s.heap.size q := fun q z => Or.inr z
  generalize cF T s.heap.size = A at hH hA hSt ⊢
  have hl := lv_entry ([.ref h, .int a1]) (n := 2) (by first | exact Nat.le_of_ble_eq_true rfl | simp [lg_sl, va_rf_cat, cat_ref, cat_int, cat_long, cat_double])
  rw [lg_entry_eq]
  generalize (lg_sl ([.ref h, .int a1]) ++ List.replicate (2 - (lg_sl ([.ref h, .int a1])).length) Slot.unset).toArray = ls at hl ⊢
  generalize ([.ref h, .int a1] : List Value).toArray = args at hts ⊢
  have hl : lv_has ls 2 [(0, .ref h), (1, .int a1)] := hl
  have hin5 : ∀ w ∈ wsX50, w ∈ wsX5_ableAt := by decide +kernel
  have b31 : ∀ (s0 : Option Nat) (M : CM) (H : Heap) (locs : List Loc) (ls : Array Slot), cH D kA A s.heap T M H locs → lv_has ls 2 [] → fc_X5_ableAt_b31 T h Q  s0 M → W p l e (headSpec wsX5_ableAt rmX5_ableAt).room s m args below meth c H locs 0 0 (MQ below (va_Qq Q (cB D kA A T) A) args s 0 0 A) (F0 m 31 ls [va_rf s0]) := by
    intro   s0 M H locs ls hH hl hw
    unfold fc_X5_ableAt_b31 at hw
    exact c_retq (v := s0) hx hb hr (Or.inl ⟨_, rfl⟩) hlocks hK hH hw dX5_ableAt_31
  have b30 : ∀ (M : CM) (H : Heap) (locs : List Loc) (ls : Array Slot), cH D kA A s.heap T M H locs → lv_has ls 2 [] → fc_X5_ableAt_b30 T h Q   M → W p l e (headSpec wsX5_ableAt rmX5_ableAt).room s m args below meth c H locs 0 0 (MQ below (va_Qq Q (cB D kA A T) A) args s 0 0 A) (F0 m 30 ls []) := by
    intro    M H locs ls hH hl hw
    unfold fc_X5_ableAt_b30 at hw
    refine lv_null hx hb dX5_ableAt_30 ?_
    exact b31   none M H locs ls hH (lv_sub hl [] rfl) hw
  clear hP
  unfold fc_X5_ableAt at hw
  have hst : ∀ (M : CM) (H : Heap) (locs : List Loc) (ls : Array Slot), cH D kA A s.heap T M H locs → lv_has ls 2 [(0, .ref h), (1, .int a1)] → ((a1 < 0 → fc_X5_ableAt_b30 T h Q   M) ∧ (¬ a1 < 0 → (tg T h = 6 ∧ (((cI M 53 h) ≤ a1 → fc_X5_ableAt_b30 T h Q   M) ∧ (¬ (cI M 53 h) ≤ a1 → (∃ p4 : Nat, cR M 52 h = some p4 ∧ (tg T p4 = 26 ∧ (((nI (ln T p4)) ≤ a1 → fc_X5_ableAt_b30 T h Q   M) ∧ (¬ (nI (ln T p4)) ≤ a1 → (vp_in a1 (ln T p4) ∧ fc_X5_ableAt_b31 T h Q  (xR M p4 a1.toNatClampNeg) M)))))))))) → W p l e (headSpec wsX5_ableAt rmX5_ableAt).room s m args below meth c H locs 0 0 (MQ below (va_Qq Q (cB D kA A T) A) args s 0 0 A) (F0 m 0 ls []) := by
    intro M H locs ls hH hl hw
    refine lv_iload_n hx hb dX5_ableAt_0 rfl (lv_at hl 1 rfl) ?_
    refine lv_if_lt (tgt := 30) hx hb dX5_ableAt_1 (by decide) (fun c1 => ?_) (fun c1 => ?_)
    · replace hw := hw.1 c1
      exact b30    M H locs ls hH (lv_sub hl [] rfl) hw
    · replace hw := hw.2 c1
      refine lv_iload_n hx hb dX5_ableAt_4 rfl (lv_at hl 1 rfl) ?_
      refine lv_aload_n hx hb dX5_ableAt_5 rfl (lv_at hl 0 rfl) ?_
      obtain ⟨h2, hw⟩ := hw
      refine cg_53 hx hb hts hin5 hown hK hH h2 (hts (.fieldLink RX5 24 "IdlCaller$Operation" "ables" "I") (by decide +kernel)) dX5_ableAt_6 ?_
      refine lv_icmp_ge (tgt := 30) hx hb dX5_ableAt_9 (by decide) (fun c3 => ?_) (fun c3 => ?_)
      · replace hw := hw.1 c3
        exact b30    M H locs ls hH (lv_sub hl [] rfl) hw
      · replace hw := hw.2 c3
        refine lv_iload_n hx hb dX5_ableAt_12 rfl (lv_at hl 1 rfl) ?_
        refine lv_aload_n hx hb dX5_ableAt_13 rfl (lv_at hl 0 rfl) ?_
        refine cg_52 hx hb hts hin5 hown hK hH h2 (hts (.fieldLink RX5 21 "IdlCaller$Operation" "able" "[LIdlCaller$Form;") (by decide +kernel)) dX5_ableAt_14 ?_
        obtain ⟨p4, ep4, hw⟩ := hw
        refine W.st (st' := [.ref p4, .int a1]) (by rw [ep4]; rfl) ?_
        obtain ⟨h5, hw⟩ := hw
        refine cn_6 hx hb hK hH h5 dX5_ableAt_17 ?_
        refine lv_icmp_ge (tgt := 30) hx hb dX5_ableAt_18 (by decide) (fun c6 => ?_) (fun c6 => ?_)
        · replace hw := hw.1 c6
          exact b30    M H locs ls hH (lv_sub hl [] rfl) hw
        · replace hw := hw.2 c6
          refine lv_aload_n hx hb dX5_ableAt_21 rfl (lv_at hl 0 rfl) ?_
          refine cg_52 hx hb hts hin5 hown hK hH h2 (hts (.fieldLink RX5 21 "IdlCaller$Operation" "able" "[LIdlCaller$Form;") (by decide +kernel)) dX5_ableAt_22 ?_
          refine lv_iload_n hx hb dX5_ableAt_25 rfl (lv_at hl 1 rfl) ?_
          refine W.st (st' := [.int a1, .ref p4]) (by rw [ep4]; rfl) ?_
          obtain ⟨h7, hw⟩ := hw
          refine cl_6 hx hb hK hH h5 h7 dX5_ableAt_26 ?_
          refine lv_goto (tgt := 31) hx hb dX5_ableAt_27 (by decide) ?_
          exact b31   (xR M p4 a1.toNatClampNeg) M H locs ls hH (lv_sub hl [] rfl) hw
  exact hst M s.heap [] ls hH hl hw
def fc_X5_mostArguments_b31 (T : LY) (h : Nat) (Q : Int32 → CM → Prop) (k4 : Int32 → Int32 → CM → Prop) (v1 : Int32) (v2 : Int32) (M : CM) : Prop := (∀ x1 : Int32, x1 = v2 + 1 → k4 v1 x1 M)
def fc_X5_mostArguments_c4 (T : LY) (h : Nat) (Q : Int32 → CM → Prop) (k4 : Int32 → Int32 → CM → Prop) (v1 : Int32) (v2 : Int32) (M : CM) : Prop := (tg T h = 6 ∧ (((cI M 51 h) ≤ v2 → Q v1 M) ∧ (¬ (cI M 51 h) ≤ v2 → fc_X5_formAt T h v2 M (fun (r5 : Option Nat) (M4 : CM) => ((r5 = none → fc_X5_mostArguments_b31 T h Q k4 v1 v2 M4) ∧ (¬ r5 = none → (∃ p8 : Nat, r5 = some p8 ∧ (tg T p8 = 3 ∧ fc_X2_mostArguments T p8 M4 (fun (r11 : Int32) (M10 : CM) => (∀ x13 : Int32, x13 = (if v1 < r11 then r11 else v1) → fc_X5_mostArguments_b31 T h Q k4 x13 v2 M10))))))))))
def fc_X5_mostArguments_l4 (T : LY) (h : Nat) (Q : Int32 → CM → Prop) : Nat → Int32 → Int32 → CM → Prop := lit (τ := Int32 → Int32 → CM → Prop) (fun _ _ _ => False) (fun k => fc_X5_mostArguments_c4 T h Q  k)
def fc_X5_mostArguments (T : LY) (h : Nat)  (M : CM) (Q : Int32 → CM → Prop) : Prop := (∀ x14 : Int32, x14 = (-1) → (∃ nn : Nat, fc_X5_mostArguments_l4 T h Q  nn x14 0 M))
abbrev rmX5_mostArguments : Room := { frames := 1, cells := 0, slots := 0, locals := 21 }
set_option maxHeartbeats 4000000 in
set_option maxRecDepth 100000 in
theorem tc_X5_mostArguments (l : Launch) (D : va_G) (kA : Nat → ClassId) (nm : Nat → Nat) (na : Nat) (sa sv : Nat → Nat) (sz : Nat) (T : LY) (h : Nat) (M : CM) (Q : Int32 → CM → Prop) (hw : fc_X5_mostArguments T h  M Q) : Met l yX5_mostArguments wsX5_mostArguments rmX5_mostArguments (va_Pc [.ref h] (cPc nm na sa sv D kA T M sz)) (va_Qi Q (cB D kA (cF T sz) T) (cF T sz)) 0 0 (cF T sz) := by
  refine Met.ofW (cc := cX5_mostArguments) (maxL := 4) (ret := (some .int)) (by decide) rfl ?_
  intro p e s m args below meth c s₁ B hml hv
  obtain ⟨rfl, hsz, hP, hK, hSt⟩ := hv
  have hx := B.exec
  have hb := B.bytes
  have hr := B.returns
  have hts := atoms_spec (ws := wsX5_mostArguments) B.pre
  have hown : s.vm.findClass RX5 = some m.cls := findClass_of_methodNamed B.named
  have hlocks : meth.locks = false := B.notSynchronized
  subst hsz
  have hH : cH D kA (cF T s.heap.size) s.heap T M s.heap [] := ⟨hP.self, va_S.rf⟩
  have hA : ∀ q : Nat, s.heap.size ≤ q → cF T s.heap.size q := fun q z => Or.inr z
  generalize cF T s.heap.size = A at hH hA hSt ⊢
  have hl := lv_entry ([.ref h]) (n := 4) (by first | exact Nat.le_of_ble_eq_true rfl | simp [lg_sl, va_rf_cat, cat_ref, cat_int, cat_long, cat_double])
  rw [lg_entry_eq]
  generalize (lg_sl ([.ref h]) ++ List.replicate (4 - (lg_sl ([.ref h])).length) Slot.unset).toArray = ls at hl ⊢
  generalize ([.ref h] : List Value).toArray = args at hts ⊢
  have hl : lv_has ls 4 [(0, .ref h)] := hl
  have hin5 : ∀ w ∈ wsX50, w ∈ wsX5_mostArguments := by decide +kernel
  have b31 : ∀ (k4 : Int32 → Int32 → CM → Prop) (hk4 : ∀ (v1 : Int32) (v2 : Int32) (M : CM) (H : Heap) (locs : List Loc) (ls : Array Slot), cH D kA A s.heap T M H locs → lv_has ls 4 [(0, .ref h), (1, .int v1), (2, .int v2)] → k4 v1 v2 M → W p l e (headSpec wsX5_mostArguments rmX5_mostArguments).room s m args below meth c H locs 0 0 (MQ below (va_Qi Q (cB D kA A T) A) args s 0 0 A) (F0 m 4 ls [])) (v1 : Int32) (v2 : Int32) (M : CM) (H : Heap) (locs : List Loc) (ls : Array Slot), cH D kA A s.heap T M H locs → lv_has ls 4 [(0, .ref h), (1, .int v1), (2, .int v2)] → fc_X5_mostArguments_b31 T h Q k4 v1 v2 M → W p l e (headSpec wsX5_mostArguments rmX5_mostArguments).room s m args below meth c H locs 0 0 (MQ below (va_Qi Q (cB D kA A T) A) args s 0 0 A) (F0 m 31 ls []) := by
    intro k4 hk4 v1 v2 M H locs ls hH hl hw
    unfold fc_X5_mostArguments_b31 at hw
    obtain ⟨x1, ex1⟩ : ∃ y : Int32, y = v2 + 1 := ⟨_, rfl⟩
    replace hw := hw x1 ex1
    refine lv_iinc (v := x1) (lv' := [(2, .int x1), (0, .ref h), (1, .int v1)]) hx hb dX5_mostArguments_31 hl (k := 2) rfl (by rw [ex1]; rfl) (by decide) rfl (fun ls hl => ?_)
    refine lv_goto (tgt := 4) hx hb dX5_mostArguments_34 (by decide) ?_
    exact hk4 v1 x1 M H locs ls hH (lv_sub hl [1, 2, 0] rfl) hw
  have l4 : ∀ (nn : Nat) (v1 : Int32) (v2 : Int32) (M : CM) (H : Heap) (locs : List Loc) (ls : Array Slot), cH D kA A s.heap T M H locs → lv_has ls 4 [(0, .ref h), (1, .int v1), (2, .int v2)] → fc_X5_mostArguments_l4 T h Q  nn v1 v2 M → W p l e (headSpec wsX5_mostArguments rmX5_mostArguments).room s m args below meth c H locs 0 0 (MQ below (va_Qi Q (cB D kA A T) A) args s 0 0 A) (F0 m 4 ls []) := by
    intro   nn
    induction nn with
    | zero => intro v1 v2 M H locs ls hH hl hw; exact False.elim hw
    | succ nn hk4 =>
      intro v1 v2 M H locs ls hH hl hw
      replace hw : fc_X5_mostArguments_c4 T h Q  (fc_X5_mostArguments_l4 T h Q  nn) v1 v2 M := hw
      unfold fc_X5_mostArguments_c4 at hw
      refine lv_iload_n hx hb dX5_mostArguments_4 rfl (lv_at hl 2 rfl) ?_
      refine lv_aload_n hx hb dX5_mostArguments_5 rfl (lv_at hl 0 rfl) ?_
      obtain ⟨h2, hw⟩ := hw
      refine cg_51 hx hb hts hin5 hown hK hH h2 (hts (.fieldLink RX5 17 "IdlCaller$Operation" "count" "I") (by decide +kernel)) dX5_mostArguments_6 ?_
      refine lv_icmp_ge (tgt := 37) hx hb dX5_mostArguments_9 (by decide) (fun c3 => ?_) (fun c3 => ?_)
      · replace hw := hw.1 c3
        refine lv_iload_n hx hb dX5_mostArguments_37 rfl (lv_at hl 1 rfl) ?_
        exact c_reti hx hb hr hlocks hK hH hw dX5_mostArguments_38
      · replace hw := hw.2 c3
        refine lv_aload_n hx hb dX5_mostArguments_12 rfl (lv_at hl 0 rfl) ?_
        refine lv_iload_n hx hb dX5_mostArguments_13 rfl (lv_at hl 2 rfl) ?_
        refine c_callq (va_runV (As := [.int v2]) (rest := []) ⟨hx, hb, hml, hown, hts⟩ (tc_X5_formAt l D kA nm na sa sv H.size T h v2 M _ hw) (cwV 1 hts gX5_mostArguments_X5_formAt rfl rfl rfl (by decide +kernel) ⟨(show (0 : Nat) + 1 ≤ 1 from Nat.le_of_ble_eq_true rfl), (show 8 + (2 + 11) + (0 : Nat) ≤ 21 from Nat.le_of_ble_eq_true rfl)⟩) (c_preV hK hH hA hSt (c_recv5 hK hH h2)) rfl rfl hl.1 rfl (lv_room (by first | exact Nat.le_of_ble_eq_true rfl | simp [va_rf_cat, cat_ref, cat_int, cat_long, cat_double, cat_null])) dX5_mostArguments_14 ⟨Nat.le_of_ble_eq_true rfl, Nat.le_of_ble_eq_true rfl⟩) hH hA (fun r5 M4 H locs hw hH => ?_)
        refine s_astore_n (i := 3) (lv' := [(3, va_rf r5), (0, .ref h), (1, .int v1), (2, .int v2)]) hx hb dX5_mostArguments_17 rfl hl (by decide) (by first | rfl | simp [va_rf_cat, cat_ref, cat_int, cat_long, cat_double, cat_null]) (fun ls hl => ?_)
        refine s_aload_n hx hb dX5_mostArguments_18 rfl (lv_at hl 0 rfl) ?_
        refine s_ifnull (tgt := 31) hx hb dX5_mostArguments_19 (by decide) (fun c7 => ?_) (fun c7 => ?_)
        · replace hw := hw.1 c7
          exact b31 _ hk4 v1 v2 M4 H locs ls hH (lv_sub hl [1, 2, 3] rfl) hw
        · replace hw := hw.2 c7
          refine lv_iload_n hx hb dX5_mostArguments_22 rfl (lv_at hl 2 rfl) ?_
          refine s_aload_n hx hb dX5_mostArguments_23 rfl (lv_at hl 0 rfl) ?_
          obtain ⟨p8, ep8, hw⟩ := hw
          refine W.st (st' := [.ref p8, .int v1]) (by rw [ep8]; rfl) ?_
          obtain ⟨h9, hw⟩ := hw
          refine c_calli (va_runV (As := []) (rest := [.int v1]) ⟨hx, hb, hml, hown, hts⟩ (tc_X2_mostArguments l D kA nm na sa sv H.size T p8 M4 _ hw) (cwV 0 hts gX5_mostArguments_X2_mostArguments rfl rfl rfl (by decide +kernel) ⟨(show (0 : Nat) + 1 ≤ 1 from Nat.le_of_ble_eq_true rfl), (show 8 + (1 + 11) + (0 : Nat) ≤ 21 from Nat.le_of_ble_eq_true rfl)⟩) (c_preV hK hH hA hSt (c_recv2 hK hH h9)) rfl rfl hl.1 rfl (lv_room (by first | exact Nat.le_of_ble_eq_true rfl | simp [va_rf_cat, cat_ref, cat_int, cat_long, cat_double, cat_null])) dX5_mostArguments_24 ⟨Nat.le_of_ble_eq_true rfl, Nat.le_of_ble_eq_true rfl⟩) hH hA (fun r11 M10 H locs hw hH => ?_)
          refine va_mmax hx hb (by rw [hml]; exact hl.1.symm) hown (hts (.methodLink RX5 38 Lib.Math.max.name) (by decide +kernel)) (hts (.static Lib.Math.max.name) (by decide +kernel)) (hts (.initialized "java/lang/Math") (by decide +kernel)) (hts (.code Lib.Math.max.name Lib.Math.max.code 2 (some .int)) (by decide +kernel)) ((show _ ≤ (1 : Nat) from by first | exact Nat.le_of_ble_eq_true rfl | simp [va_rf_cat, cat_ref, cat_int, cat_long, cat_double, cat_null])) ((show _ ≤ (21 : Nat) from by first | exact Nat.le_of_ble_eq_true rfl | simp [va_rf_cat, cat_ref, cat_int, cat_long, cat_double, cat_null])) (Nat.le_of_ble_eq_true rfl) (Nat.le_of_ble_eq_true rfl) dX5_mostArguments_27 ?_
          refine lv_topi (fun x13 ex13 => ?_)
          replace hw := hw x13 ex13
          refine lv_istore_n (i := 1) (lv' := [(1, .int x13), (3, va_rf r5), (0, .ref h), (2, .int v2)]) hx hb dX5_mostArguments_30 rfl hl (by decide) (by first | rfl | simp [va_rf_cat, cat_ref, cat_int, cat_long, cat_double, cat_null]) (fun ls hl => ?_)
          exact b31 _ hk4 x13 v2 M10 H locs ls hH (lv_sub hl [2, 0, 3] rfl) hw
  clear hP
  unfold fc_X5_mostArguments at hw
  have hst : ∀ (M : CM) (H : Heap) (locs : List Loc) (ls : Array Slot), cH D kA A s.heap T M H locs → lv_has ls 4 [(0, .ref h)] → (∀ x14 : Int32, x14 = (-1) → (∃ nn : Nat, fc_X5_mostArguments_l4 T h Q  nn x14 0 M)) → W p l e (headSpec wsX5_mostArguments rmX5_mostArguments).room s m args below meth c H locs 0 0 (MQ below (va_Qi Q (cB D kA A T) A) args s 0 0 A) (F0 m 0 ls []) := by
    intro M H locs ls hH hl hw
    refine lv_iconst (v := (-1)) hx hb dX5_mostArguments_0 (by decide) ?_
    refine lv_topi (fun x14 ex14 => ?_)
    replace hw := hw x14 ex14
    refine lv_istore_n (i := 1) (lv' := [(1, .int x14), (0, .ref h)]) hx hb dX5_mostArguments_1 rfl hl (by decide) rfl (fun ls hl => ?_)
    refine lv_iconst (v := 0) hx hb dX5_mostArguments_2 (by decide) ?_
    refine lv_istore_n (i := 2) (lv' := [(2, .int 0), (1, .int x14), (0, .ref h)]) hx hb dX5_mostArguments_3 rfl hl (by decide) rfl (fun ls hl => ?_)
    obtain ⟨nn, hw⟩ := hw
    exact l4   nn x14 0 M H locs ls hH (lv_sub hl [2, 1, 0] rfl) hw
  exact hst M s.heap [] ls hH hl hw
def fc_X5_leastArguments_b45 (T : LY) (h : Nat) (Q : Int32 → CM → Prop) (k4 : Int32 → Int32 → CM → Prop) (v1 : Int32) (v2 : Int32) (M : CM) : Prop := (∀ x1 : Int32, x1 = v2 + 1 → k4 v1 x1 M)
def fc_X5_leastArguments_b44 (T : LY) (h : Nat) (Q : Int32 → CM → Prop) (k4 : Int32 → Int32 → CM → Prop) (v2 : Int32) (s0 : Int32) (M : CM) : Prop := fc_X5_leastArguments_b45 T h Q k4 s0 v2 M
def fc_X5_leastArguments_c4 (T : LY) (h : Nat) (Q : Int32 → CM → Prop) (k4 : Int32 → Int32 → CM → Prop) (v1 : Int32) (v2 : Int32) (M : CM) : Prop := (tg T h = 6 ∧ (((cI M 51 h) ≤ v2 → Q v1 M) ∧ (¬ (cI M 51 h) ≤ v2 → fc_X5_formAt T h v2 M (fun (r5 : Option Nat) (M4 : CM) => ((r5 = none → fc_X5_leastArguments_b45 T h Q k4 v1 v2 M4) ∧ (¬ r5 = none → (∃ p8 : Nat, r5 = some p8 ∧ (tg T p8 = 3 ∧ fc_X2_leastArguments T p8 M4 (fun (r11 : Int32) (M10 : CM) => ((¬ v1 = (-1) → fc_X5_leastArguments_b44 T h Q k4 v2 (if r11 < v1 then r11 else v1) M10) ∧ (v1 = (-1) → fc_X5_leastArguments_b44 T h Q k4 v2 r11 M10)))))))))))
def fc_X5_leastArguments_l4 (T : LY) (h : Nat) (Q : Int32 → CM → Prop) : Nat → Int32 → Int32 → CM → Prop := lit (τ := Int32 → Int32 → CM → Prop) (fun _ _ _ => False) (fun k => fc_X5_leastArguments_c4 T h Q  k)
def fc_X5_leastArguments (T : LY) (h : Nat)  (M : CM) (Q : Int32 → CM → Prop) : Prop := (∀ x14 : Int32, x14 = (-1) → (∃ nn : Nat, fc_X5_leastArguments_l4 T h Q  nn x14 0 M))
abbrev rmX5_leastArguments : Room := { frames := 3, cells := 0, slots := 0, locals := 57 }
set_option maxHeartbeats 4000000 in
set_option maxRecDepth 100000 in
theorem tc_X5_leastArguments (l : Launch) (D : va_G) (kA : Nat → ClassId) (nm : Nat → Nat) (na : Nat) (sa sv : Nat → Nat) (sz : Nat) (T : LY) (h : Nat) (M : CM) (Q : Int32 → CM → Prop) (hw : fc_X5_leastArguments T h  M Q) : Met l yX5_leastArguments wsX5_leastArguments rmX5_leastArguments (va_Pc [.ref h] (cPc nm na sa sv D kA T M sz)) (va_Qi Q (cB D kA (cF T sz) T) (cF T sz)) 0 0 (cF T sz) := by
  refine Met.ofW (cc := cX5_leastArguments) (maxL := 5) (ret := (some .int)) (by decide) rfl ?_
  intro p e s m args below meth c s₁ B hml hv
  obtain ⟨rfl, hsz, hP, hK, hSt⟩ := hv
  have hx := B.exec
  have hb := B.bytes
  have hr := B.returns
  have hts := atoms_spec (ws := wsX5_leastArguments) B.pre
  have hown : s.vm.findClass RX5 = some m.cls := findClass_of_methodNamed B.named
  have hlocks : meth.locks = false := B.notSynchronized
  subst hsz
  have hH : cH D kA (cF T s.heap.size) s.heap T M s.heap [] := ⟨hP.self, va_S.rf⟩
  have hA : ∀ q : Nat, s.heap.size ≤ q → cF T s.heap.size q := fun q z => Or.inr z
  generalize cF T s.heap.size = A at hH hA hSt ⊢
  have hl := lv_entry ([.ref h]) (n := 5) (by first | exact Nat.le_of_ble_eq_true rfl | simp [lg_sl, va_rf_cat, cat_ref, cat_int, cat_long, cat_double])
  rw [lg_entry_eq]
  generalize (lg_sl ([.ref h]) ++ List.replicate (5 - (lg_sl ([.ref h])).length) Slot.unset).toArray = ls at hl ⊢
  generalize ([.ref h] : List Value).toArray = args at hts ⊢
  have hl : lv_has ls 5 [(0, .ref h)] := hl
  have hin5 : ∀ w ∈ wsX50, w ∈ wsX5_leastArguments := by decide +kernel
  have b45 : ∀ (k4 : Int32 → Int32 → CM → Prop) (hk4 : ∀ (v1 : Int32) (v2 : Int32) (M : CM) (H : Heap) (locs : List Loc) (ls : Array Slot), cH D kA A s.heap T M H locs → lv_has ls 5 [(0, .ref h), (1, .int v1), (2, .int v2)] → k4 v1 v2 M → W p l e (headSpec wsX5_leastArguments rmX5_leastArguments).room s m args below meth c H locs 0 0 (MQ below (va_Qi Q (cB D kA A T) A) args s 0 0 A) (F0 m 4 ls [])) (v1 : Int32) (v2 : Int32) (M : CM) (H : Heap) (locs : List Loc) (ls : Array Slot), cH D kA A s.heap T M H locs → lv_has ls 5 [(0, .ref h), (1, .int v1), (2, .int v2)] → fc_X5_leastArguments_b45 T h Q k4 v1 v2 M → W p l e (headSpec wsX5_leastArguments rmX5_leastArguments).room s m args below meth c H locs 0 0 (MQ below (va_Qi Q (cB D kA A T) A) args s 0 0 A) (F0 m 45 ls []) := by
    intro k4 hk4 v1 v2 M H locs ls hH hl hw
    unfold fc_X5_leastArguments_b45 at hw
    obtain ⟨x1, ex1⟩ : ∃ y : Int32, y = v2 + 1 := ⟨_, rfl⟩
    replace hw := hw x1 ex1
    refine lv_iinc (v := x1) (lv' := [(2, .int x1), (0, .ref h), (1, .int v1)]) hx hb dX5_leastArguments_45 hl (k := 2) rfl (by rw [ex1]; rfl) (by decide) rfl (fun ls hl => ?_)
    refine lv_goto (tgt := 4) hx hb dX5_leastArguments_48 (by decide) ?_
    exact hk4 v1 x1 M H locs ls hH (lv_sub hl [1, 2, 0] rfl) hw
  have b44 : ∀ (k4 : Int32 → Int32 → CM → Prop) (hk4 : ∀ (v1 : Int32) (v2 : Int32) (M : CM) (H : Heap) (locs : List Loc) (ls : Array Slot), cH D kA A s.heap T M H locs → lv_has ls 5 [(0, .ref h), (1, .int v1), (2, .int v2)] → k4 v1 v2 M → W p l e (headSpec wsX5_leastArguments rmX5_leastArguments).room s m args below meth c H locs 0 0 (MQ below (va_Qi Q (cB D kA A T) A) args s 0 0 A) (F0 m 4 ls [])) (v2 : Int32) (s0 : Int32) (M : CM) (H : Heap) (locs : List Loc) (ls : Array Slot), cH D kA A s.heap T M H locs → lv_has ls 5 [(0, .ref h), (2, .int v2)] → fc_X5_leastArguments_b44 T h Q k4 v2 s0 M → W p l e (headSpec wsX5_leastArguments rmX5_leastArguments).room s m args below meth c H locs 0 0 (MQ below (va_Qi Q (cB D kA A T) A) args s 0 0 A) (F0 m 44 ls [.int s0]) := by
    intro k4 hk4 v2 s0 M H locs ls hH hl hw
    unfold fc_X5_leastArguments_b44 at hw
    refine lv_istore_n (i := 1) (lv' := [(1, .int s0), (0, .ref h), (2, .int v2)]) hx hb dX5_leastArguments_44 rfl hl (by decide) rfl (fun ls hl => ?_)
    exact b45 _ hk4 s0 v2 M H locs ls hH (lv_sub hl [1, 0, 2] rfl) hw
  have l4 : ∀ (nn : Nat) (v1 : Int32) (v2 : Int32) (M : CM) (H : Heap) (locs : List Loc) (ls : Array Slot), cH D kA A s.heap T M H locs → lv_has ls 5 [(0, .ref h), (1, .int v1), (2, .int v2)] → fc_X5_leastArguments_l4 T h Q  nn v1 v2 M → W p l e (headSpec wsX5_leastArguments rmX5_leastArguments).room s m args below meth c H locs 0 0 (MQ below (va_Qi Q (cB D kA A T) A) args s 0 0 A) (F0 m 4 ls []) := by
    intro   nn
    induction nn with
    | zero => intro v1 v2 M H locs ls hH hl hw; exact False.elim hw
    | succ nn hk4 =>
      intro v1 v2 M H locs ls hH hl hw
      replace hw : fc_X5_leastArguments_c4 T h Q  (fc_X5_leastArguments_l4 T h Q  nn) v1 v2 M := hw
      unfold fc_X5_leastArguments_c4 at hw
      refine lv_iload_n hx hb dX5_leastArguments_4 rfl (lv_at hl 2 rfl) ?_
      refine lv_aload_n hx hb dX5_leastArguments_5 rfl (lv_at hl 0 rfl) ?_
      obtain ⟨h2, hw⟩ := hw
      refine cg_51 hx hb hts hin5 hown hK hH h2 (hts (.fieldLink RX5 17 "IdlCaller$Operation" "count" "I") (by decide +kernel)) dX5_leastArguments_6 ?_
      refine lv_icmp_ge (tgt := 51) hx hb dX5_leastArguments_9 (by decide) (fun c3 => ?_) (fun c3 => ?_)
      · replace hw := hw.1 c3
        refine lv_iload_n hx hb dX5_leastArguments_51 rfl (lv_at hl 1 rfl) ?_
        exact c_reti hx hb hr hlocks hK hH hw dX5_leastArguments_52
      · replace hw := hw.2 c3
        refine lv_aload_n hx hb dX5_leastArguments_12 rfl (lv_at hl 0 rfl) ?_
        refine lv_iload_n hx hb dX5_leastArguments_13 rfl (lv_at hl 2 rfl) ?_
        refine c_callq (va_runV (As := [.int v2]) (rest := []) ⟨hx, hb, hml, hown, hts⟩ (tc_X5_formAt l D kA nm na sa sv H.size T h v2 M _ hw) (cwV 1 hts gX5_leastArguments_X5_formAt rfl rfl rfl (by decide +kernel) ⟨(show (0 : Nat) + 1 ≤ 3 from Nat.le_of_ble_eq_true rfl), (show 8 + (2 + 11) + (0 : Nat) ≤ 57 from Nat.le_of_ble_eq_true rfl)⟩) (c_preV hK hH hA hSt (c_recv5 hK hH h2)) rfl rfl hl.1 rfl (lv_room (by first | exact Nat.le_of_ble_eq_true rfl | simp [va_rf_cat, cat_ref, cat_int, cat_long, cat_double, cat_null])) dX5_leastArguments_14 ⟨Nat.le_of_ble_eq_true rfl, Nat.le_of_ble_eq_true rfl⟩) hH hA (fun r5 M4 H locs hw hH => ?_)
        refine s_astore_n (i := 3) (lv' := [(3, va_rf r5), (0, .ref h), (1, .int v1), (2, .int v2)]) hx hb dX5_leastArguments_17 rfl hl (by decide) (by first | rfl | simp [va_rf_cat, cat_ref, cat_int, cat_long, cat_double, cat_null]) (fun ls hl => ?_)
        refine s_aload_n hx hb dX5_leastArguments_18 rfl (lv_at hl 0 rfl) ?_
        refine s_ifnull (tgt := 45) hx hb dX5_leastArguments_19 (by decide) (fun c7 => ?_) (fun c7 => ?_)
        · replace hw := hw.1 c7
          exact b45 _ hk4 v1 v2 M4 H locs ls hH (lv_sub hl [1, 2, 3] rfl) hw
        · replace hw := hw.2 c7
          refine s_aload_n hx hb dX5_leastArguments_22 rfl (lv_at hl 0 rfl) ?_
          obtain ⟨p8, ep8, hw⟩ := hw
          refine W.st (st' := [.ref p8]) (by rw [ep8]; rfl) ?_
          obtain ⟨h9, hw⟩ := hw
          refine c_calli (va_runV (As := []) (rest := []) ⟨hx, hb, hml, hown, hts⟩ (tc_X2_leastArguments l D kA nm na sa sv H.size T p8 M4 _ hw) (cwV 0 hts gX5_leastArguments_X2_leastArguments rfl rfl rfl (by decide +kernel) ⟨(show (2 : Nat) + 1 ≤ 3 from Nat.le_of_ble_eq_true rfl), (show 8 + (3 + 11) + (35 : Nat) ≤ 57 from Nat.le_of_ble_eq_true rfl)⟩) (c_preV hK hH hA hSt (c_recv2 hK hH h9)) rfl rfl hl.1 rfl (lv_room (by first | exact Nat.le_of_ble_eq_true rfl | simp [va_rf_cat, cat_ref, cat_int, cat_long, cat_double, cat_null])) dX5_leastArguments_23 ⟨Nat.le_of_ble_eq_true rfl, Nat.le_of_ble_eq_true rfl⟩) hH hA (fun r11 M10 H locs hw hH => ?_)
          refine lv_istore (i := 4) (lv' := [(4, .int r11), (3, va_rf r5), (0, .ref h), (1, .int v1), (2, .int v2)]) hx hb dX5_leastArguments_26 hl (by decide) (by first | rfl | simp [va_rf_cat, cat_ref, cat_int, cat_long, cat_double, cat_null]) (fun ls hl => ?_)
          refine lv_iload_n hx hb dX5_leastArguments_28 rfl (lv_at hl 3 rfl) ?_
          refine lv_iconst (v := (-1)) hx hb dX5_leastArguments_29 (by decide) ?_
          refine lv_icmp_ne (tgt := 38) hx hb dX5_leastArguments_30 (by decide) (fun c13 => ?_) (fun c13 => ?_)
          · replace hw := hw.1 c13
            refine lv_iload_n hx hb dX5_leastArguments_38 rfl (lv_at hl 3 rfl) ?_
            refine lv_iload hx hb dX5_leastArguments_39 (lv_at hl 0 rfl) ?_
            refine va_mmin hx hb (by rw [hml]; exact hl.1.symm) hown (hts (.methodLink RX5 47 Lib.Math.min.name) (by decide +kernel)) (hts (.static Lib.Math.min.name) (by decide +kernel)) (hts (.initialized "java/lang/Math") (by decide +kernel)) (hts (.code Lib.Math.min.name Lib.Math.min.code 2 (some .int)) (by decide +kernel)) ((show _ ≤ (3 : Nat) from by first | exact Nat.le_of_ble_eq_true rfl | simp [va_rf_cat, cat_ref, cat_int, cat_long, cat_double, cat_null])) ((show _ ≤ (57 : Nat) from by first | exact Nat.le_of_ble_eq_true rfl | simp [va_rf_cat, cat_ref, cat_int, cat_long, cat_double, cat_null])) (Nat.le_of_ble_eq_true rfl) (Nat.le_of_ble_eq_true rfl) dX5_leastArguments_41 ?_
            exact b44 _ hk4 v2 (if r11 < v1 then r11 else v1) M10 H locs ls hH (lv_sub hl [2, 4] rfl) hw
          · replace hw := hw.2 c13
            refine lv_iload hx hb dX5_leastArguments_33 (lv_at hl 0 rfl) ?_
            refine lv_goto (tgt := 44) hx hb dX5_leastArguments_35 (by decide) ?_
            exact b44 _ hk4 v2 r11 M10 H locs ls hH (lv_sub hl [2, 4] rfl) hw
  clear hP
  unfold fc_X5_leastArguments at hw
  have hst : ∀ (M : CM) (H : Heap) (locs : List Loc) (ls : Array Slot), cH D kA A s.heap T M H locs → lv_has ls 5 [(0, .ref h)] → (∀ x14 : Int32, x14 = (-1) → (∃ nn : Nat, fc_X5_leastArguments_l4 T h Q  nn x14 0 M)) → W p l e (headSpec wsX5_leastArguments rmX5_leastArguments).room s m args below meth c H locs 0 0 (MQ below (va_Qi Q (cB D kA A T) A) args s 0 0 A) (F0 m 0 ls []) := by
    intro M H locs ls hH hl hw
    refine lv_iconst (v := (-1)) hx hb dX5_leastArguments_0 (by decide) ?_
    refine lv_topi (fun x14 ex14 => ?_)
    replace hw := hw x14 ex14
    refine lv_istore_n (i := 1) (lv' := [(1, .int x14), (0, .ref h)]) hx hb dX5_leastArguments_1 rfl hl (by decide) rfl (fun ls hl => ?_)
    refine lv_iconst (v := 0) hx hb dX5_leastArguments_2 (by decide) ?_
    refine lv_istore_n (i := 2) (lv' := [(2, .int 0), (1, .int x14), (0, .ref h)]) hx hb dX5_leastArguments_3 rfl hl (by decide) rfl (fun ls hl => ?_)
    obtain ⟨nn, hw⟩ := hw
    exact l4   nn x14 0 M H locs ls hH (lv_sub hl [2, 1, 0] rfl) hw
  exact hst M s.heap [] ls hH hl hw
def fc_X5_gatherOne_b51 (T : LY) (h : Nat) (Q : CM → Prop) (M : CM) : Prop := Q M
def fc_X5_gatherOne (T : LY) (h : Nat)  (a1 : Int32) (a2 : Option Nat) (M : CM) (Q : CM → Prop) : Prop := ((a2 = none → fc_X5_gatherOne_b51 T h Q   M) ∧ (¬ a2 = none → (∃ p2 : Nat, a2 = some p2 ∧ (tg T p2 = 3 ∧ fc_X2_canBeCalledWith T p2 a1 M (fun (r5 : Int32) (M4 : CM) => ((r5 = 0 → fc_X5_gatherOne_b51 T h Q   M4) ∧ (¬ r5 = 0 → (tg T h = 6 ∧ (((cI M4 53 h) < 0 → fc_X5_gatherOne_b51 T h Q   M4) ∧ (¬ (cI M4 53 h) < 0 → (∃ p10 : Nat, cR M4 52 h = some p10 ∧ (tg T p10 = 26 ∧ (((nI (ln T p10)) ≤ (cI M4 53 h) → fc_X5_gatherOne_b51 T h Q   M4) ∧ (¬ (nI (ln T p10)) ≤ (cI M4 53 h) → (vp_in (cI M4 53 h) (ln T p10) ∧ (∀ M13 : CM, M13 = yR M4 p10 (cI M4 53 h).toNatClampNeg (some p2) → (∀ M15 : CM, M15 = sI M13 53 h ((cI M13 53 h) + 1) → fc_X5_gatherOne_b51 T h Q   M15)))))))))))))))))
abbrev rmX5_gatherOne : Room := { frames := 4, cells := 0, slots := 0, locals := 78 }
set_option maxHeartbeats 4000000 in
set_option maxRecDepth 100000 in
theorem tc_X5_gatherOne (l : Launch) (D : va_G) (kA : Nat → ClassId) (nm : Nat → Nat) (na : Nat) (sa sv : Nat → Nat) (sz : Nat) (T : LY) (h : Nat) (a1 : Int32) (a2 : Option Nat) (M : CM) (Q : CM → Prop) (hw : fc_X5_gatherOne T h a1 a2 M Q) : Met l yX5_gatherOne wsX5_gatherOne rmX5_gatherOne (va_Pc [.ref h, .int a1, va_rf a2] (cPc nm na sa sv D kA T M sz)) (va_Qv Q (cB D kA (cF T sz) T) (cF T sz)) 0 0 (cF T sz) := by
  refine Met.ofW (cc := cX5_gatherOne) (maxL := 3) (ret := none) (by decide) rfl ?_
  intro p e s m args below meth c s₁ B hml hv
  obtain ⟨rfl, hsz, hP, hK, hSt⟩ := hv
  have hx := B.exec
  have hb := B.bytes
  have hr := B.returns
  have hts := atoms_spec (ws := wsX5_gatherOne) B.pre
  have hown : s.vm.findClass RX5 = some m.cls := findClass_of_methodNamed B.named
  have hlocks : meth.locks = false := B.notSynchronized
  subst hsz
  have hH : cH D kA (cF T s.heap.size) s.heap T M s.heap [] := ⟨hP.self, va_S.rf⟩
  have hA : ∀ q : Nat, s.heap.size ≤ q → cF T s.heap.size q := fun q z => Or.inr z
  generalize cF T s.heap.size = A at hH hA hSt ⊢
  have hl := lv_entry ([.ref h, .int a1, va_rf a2]) (n := 3) (by first | exact Nat.le_of_ble_eq_true rfl | simp [lg_sl, va_rf_cat, cat_ref, cat_int, cat_long, cat_double])
  rw [lg_entry_eq]
  generalize (lg_sl ([.ref h, .int a1, va_rf a2]) ++ List.replicate (3 - (lg_sl ([.ref h, .int a1, va_rf a2])).length) Slot.unset).toArray = ls at hl ⊢
  generalize ([.ref h, .int a1, va_rf a2] : List Value).toArray = args at hts ⊢
  have hl : lv_has ls 3 [(0, .ref h), (1, .int a1), (2, va_rf a2)] := by simpa [lv_args, va_rf_cat, cat_ref, cat_int, cat_long, cat_double] using hl
  have hin5 : ∀ w ∈ wsX50, w ∈ wsX5_gatherOne := by decide +kernel
  have b51 : ∀ (M : CM) (H : Heap) (locs : List Loc) (ls : Array Slot), cH D kA A s.heap T M H locs → lv_has ls 3 [] → fc_X5_gatherOne_b51 T h Q   M → W p l e (headSpec wsX5_gatherOne rmX5_gatherOne).room s m args below meth c H locs 0 0 (MQ below (va_Qv Q (cB D kA A T) A) args s 0 0 A) (F0 m 51 ls []) := by
    intro    M H locs ls hH hl hw
    unfold fc_X5_gatherOne_b51 at hw
    exact c_retv hx hb hr hlocks hK hH hw dX5_gatherOne_51
  clear hP
  unfold fc_X5_gatherOne at hw
  have hst : ∀ (M : CM) (H : Heap) (locs : List Loc) (ls : Array Slot), cH D kA A s.heap T M H locs → lv_has ls 3 [(0, .ref h), (1, .int a1), (2, va_rf a2)] → ((a2 = none → fc_X5_gatherOne_b51 T h Q   M) ∧ (¬ a2 = none → (∃ p2 : Nat, a2 = some p2 ∧ (tg T p2 = 3 ∧ fc_X2_canBeCalledWith T p2 a1 M (fun (r5 : Int32) (M4 : CM) => ((r5 = 0 → fc_X5_gatherOne_b51 T h Q   M4) ∧ (¬ r5 = 0 → (tg T h = 6 ∧ (((cI M4 53 h) < 0 → fc_X5_gatherOne_b51 T h Q   M4) ∧ (¬ (cI M4 53 h) < 0 → (∃ p10 : Nat, cR M4 52 h = some p10 ∧ (tg T p10 = 26 ∧ (((nI (ln T p10)) ≤ (cI M4 53 h) → fc_X5_gatherOne_b51 T h Q   M4) ∧ (¬ (nI (ln T p10)) ≤ (cI M4 53 h) → (vp_in (cI M4 53 h) (ln T p10) ∧ (∀ M13 : CM, M13 = yR M4 p10 (cI M4 53 h).toNatClampNeg (some p2) → (∀ M15 : CM, M15 = sI M13 53 h ((cI M13 53 h) + 1) → fc_X5_gatherOne_b51 T h Q   M15))))))))))))))))) → W p l e (headSpec wsX5_gatherOne rmX5_gatherOne).room s m args below meth c H locs 0 0 (MQ below (va_Qv Q (cB D kA A T) A) args s 0 0 A) (F0 m 0 ls []) := by
    intro M H locs ls hH hl hw
    refine s_aload_n hx hb dX5_gatherOne_0 rfl (lv_at hl 2 rfl) ?_
    refine s_ifnull (tgt := 51) hx hb dX5_gatherOne_1 (by decide) (fun c1 => ?_) (fun c1 => ?_)
    · replace hw := hw.1 c1
      exact b51    M H locs ls hH (lv_sub hl [] rfl) hw
    · replace hw := hw.2 c1
      refine s_aload_n hx hb dX5_gatherOne_4 rfl (lv_at hl 2 rfl) ?_
      refine lv_iload_n hx hb dX5_gatherOne_5 rfl (lv_at hl 1 rfl) ?_
      obtain ⟨p2, ep2, hw⟩ := hw
      refine W.st (st' := [.int a1, .ref p2]) (by rw [ep2]; rfl) ?_
      obtain ⟨h3, hw⟩ := hw
      refine c_calli (va_runV (As := [.int a1]) (rest := []) ⟨hx, hb, hml, hown, hts⟩ (tc_X2_canBeCalledWith l D kA nm na sa sv H.size T p2 a1 M _ hw) (cwV 1 hts gX5_gatherOne_X2_canBeCalledWith rfl rfl rfl (by decide +kernel) ⟨(show (3 : Nat) + 1 ≤ 4 from Nat.le_of_ble_eq_true rfl), (show 8 + (2 + 11) + (57 : Nat) ≤ 78 from Nat.le_of_ble_eq_true rfl)⟩) (c_preV hK hH hA hSt (c_recv2 hK hH h3)) rfl rfl hl.1 rfl (lv_room (by first | exact Nat.le_of_ble_eq_true rfl | simp [va_rf_cat, cat_ref, cat_int, cat_long, cat_double, cat_null])) dX5_gatherOne_6 ⟨Nat.le_of_ble_eq_true rfl, Nat.le_of_ble_eq_true rfl⟩) hH hA (fun r5 M4 H locs hw hH => ?_)
      refine lv_if_eq (tgt := 51) hx hb dX5_gatherOne_9 (by decide) (fun c7 => ?_) (fun c7 => ?_)
      · replace hw := hw.1 c7
        exact b51    M4 H locs ls hH (lv_sub hl [] rfl) hw
      · replace hw := hw.2 c7
        refine lv_aload_n hx hb dX5_gatherOne_12 rfl (lv_at hl 0 rfl) ?_
        obtain ⟨h8, hw⟩ := hw
        refine cg_53 hx hb hts hin5 hown hK hH h8 (hts (.fieldLink RX5 24 "IdlCaller$Operation" "ables" "I") (by decide +kernel)) dX5_gatherOne_13 ?_
        refine lv_if_lt (tgt := 51) hx hb dX5_gatherOne_16 (by decide) (fun c9 => ?_) (fun c9 => ?_)
        · replace hw := hw.1 c9
          exact b51    M4 H locs ls hH (lv_sub hl [] rfl) hw
        · replace hw := hw.2 c9
          refine lv_aload_n hx hb dX5_gatherOne_19 rfl (lv_at hl 0 rfl) ?_
          refine cg_53 hx hb hts hin5 hown hK hH h8 (hts (.fieldLink RX5 24 "IdlCaller$Operation" "ables" "I") (by decide +kernel)) dX5_gatherOne_20 ?_
          refine lv_aload_n hx hb dX5_gatherOne_23 rfl (lv_at hl 0 rfl) ?_
          refine cg_52 hx hb hts hin5 hown hK hH h8 (hts (.fieldLink RX5 21 "IdlCaller$Operation" "able" "[LIdlCaller$Form;") (by decide +kernel)) dX5_gatherOne_24 ?_
          obtain ⟨p10, ep10, hw⟩ := hw
          refine W.st (st' := [.ref p10, .int (cI M4 53 h)]) (by rw [ep10]; rfl) ?_
          obtain ⟨h11, hw⟩ := hw
          refine cn_6 hx hb hK hH h11 dX5_gatherOne_27 ?_
          refine lv_icmp_ge (tgt := 51) hx hb dX5_gatherOne_28 (by decide) (fun c12 => ?_) (fun c12 => ?_)
          · replace hw := hw.1 c12
            exact b51    M4 H locs ls hH (lv_sub hl [] rfl) hw
          · replace hw := hw.2 c12
            refine lv_aload_n hx hb dX5_gatherOne_31 rfl (lv_at hl 0 rfl) ?_
            refine cg_52 hx hb hts hin5 hown hK hH h8 (hts (.fieldLink RX5 21 "IdlCaller$Operation" "able" "[LIdlCaller$Form;") (by decide +kernel)) dX5_gatherOne_32 ?_
            refine lv_aload_n hx hb dX5_gatherOne_35 rfl (lv_at hl 0 rfl) ?_
            refine cg_53 hx hb hts hin5 hown hK hH h8 (hts (.fieldLink RX5 24 "IdlCaller$Operation" "ables" "I") (by decide +kernel)) dX5_gatherOne_36 ?_
            refine s_aload_n hx hb dX5_gatherOne_39 rfl (lv_at hl 2 rfl) ?_
            refine W.st (st' := [va_rf a2, .int (cI M4 53 h), .ref p10]) (by rw [ep10]; rfl) ?_
            refine W.st (st' := [.ref p2, .int (cI M4 53 h), .ref p10]) (by rw [ep2]; rfl) ?_
            obtain ⟨h14, hw⟩ := hw
            refine cs_6 hx hb hK hH h11 h3 h14 dX5_gatherOne_40 (fun M13 H locs eM13 hH => ?_)
            replace hw := hw M13 eM13
            refine lv_aload_n hx hb dX5_gatherOne_41 rfl (lv_at hl 0 rfl) ?_
            refine lv_dup hx hb dX5_gatherOne_42 rfl ?_
            refine cg_53 hx hb hts hin5 hown hK hH h8 (hts (.fieldLink RX5 24 "IdlCaller$Operation" "ables" "I") (by decide +kernel)) dX5_gatherOne_43 ?_
            refine lv_iconst (v := 1) hx hb dX5_gatherOne_46 (by decide) ?_
            refine lv_iadd hx hb dX5_gatherOne_47 ?_
            refine cp_53 (x := (cI M13 53 h) + 1) hx hb hts hin5 hown hK hH h8 (hts (.fieldLink RX5 24 "IdlCaller$Operation" "ables" "I") (by decide +kernel)) dX5_gatherOne_48 (fun M15 H locs eM15 hH => ?_)
            replace hw := hw M15 eM15
            exact b51    M15 H locs ls hH (lv_sub hl [] rfl) hw
  exact hst M s.heap [] ls hH hl hw
def fc_X5_gather_c7 (T : LY) (h : Nat) (Q : CM → Prop) (k7 : Int32 → Option Nat → Int32 → CM → Prop) (v1 : Int32) (v2 : Option Nat) (v3 : Int32) (M : CM) : Prop := (tg T h = 6 ∧ (((cI M 51 h) ≤ v3 → fc_X5_gatherOne T h v1 v2 M (fun (M3 : CM) => Q M3)) ∧ (¬ (cI M 51 h) ≤ v3 → fc_X5_formAt T h v3 M (fun (r7 : Option Nat) (M6 : CM) => fc_X5_gatherOne T h v1 r7 M6 (fun (M9 : CM) => (∀ x12 : Int32, x12 = v3 + 1 → k7 v1 v2 x12 M9))))))
def fc_X5_gather_l7 (T : LY) (h : Nat) (Q : CM → Prop) : Nat → Int32 → Option Nat → Int32 → CM → Prop := lit (τ := Int32 → Option Nat → Int32 → CM → Prop) (fun _ _ _ _ => False) (fun k => fc_X5_gather_c7 T h Q  k)
def fc_X5_gather (T : LY) (h : Nat)  (a1 : Int32) (a2 : Option Nat) (M : CM) (Q : CM → Prop) : Prop := (tg T h = 6 ∧ (∀ M14 : CM, M14 = sI M 53 h 0 → (∃ nn : Nat, fc_X5_gather_l7 T h Q  nn a1 a2 0 M14)))
abbrev rmX5_gather : Room := { frames := 5, cells := 0, slots := 0, locals := 100 }
set_option maxHeartbeats 4000000 in
set_option maxRecDepth 100000 in
theorem tc_X5_gather (l : Launch) (D : va_G) (kA : Nat → ClassId) (nm : Nat → Nat) (na : Nat) (sa sv : Nat → Nat) (sz : Nat) (T : LY) (h : Nat) (a1 : Int32) (a2 : Option Nat) (M : CM) (Q : CM → Prop) (hw : fc_X5_gather T h a1 a2 M Q) : Met l yX5_gather wsX5_gather rmX5_gather (va_Pc [.ref h, .int a1, va_rf a2] (cPc nm na sa sv D kA T M sz)) (va_Qv Q (cB D kA (cF T sz) T) (cF T sz)) 0 0 (cF T sz) := by
  refine Met.ofW (cc := cX5_gather) (maxL := 4) (ret := none) (by decide) rfl ?_
  intro p e s m args below meth c s₁ B hml hv
  obtain ⟨rfl, hsz, hP, hK, hSt⟩ := hv
  have hx := B.exec
  have hb := B.bytes
  have hr := B.returns
  have hts := atoms_spec (ws := wsX5_gather) B.pre
  have hown : s.vm.findClass RX5 = some m.cls := findClass_of_methodNamed B.named
  have hlocks : meth.locks = false := B.notSynchronized
  subst hsz
  have hH : cH D kA (cF T s.heap.size) s.heap T M s.heap [] := ⟨hP.self, va_S.rf⟩
  have hA : ∀ q : Nat, s.heap.size ≤ q → cF T s.heap.size q := fun q z => Or.inr z
  generalize cF T s.heap.size = A at hH hA hSt ⊢
  have hl := lv_entry ([.ref h, .int a1, va_rf a2]) (n := 4) (by first | exact Nat.le_of_ble_eq_true rfl | simp [lg_sl, va_rf_cat, cat_ref, cat_int, cat_long, cat_double])
  rw [lg_entry_eq]
  generalize (lg_sl ([.ref h, .int a1, va_rf a2]) ++ List.replicate (4 - (lg_sl ([.ref h, .int a1, va_rf a2])).length) Slot.unset).toArray = ls at hl ⊢
  generalize ([.ref h, .int a1, va_rf a2] : List Value).toArray = args at hts ⊢
  have hl : lv_has ls 4 [(0, .ref h), (1, .int a1), (2, va_rf a2)] := by simpa [lv_args, va_rf_cat, cat_ref, cat_int, cat_long, cat_double] using hl
  have hin5 : ∀ w ∈ wsX50, w ∈ wsX5_gather := by decide +kernel
  have l7 : ∀ (nn : Nat) (v1 : Int32) (v2 : Option Nat) (v3 : Int32) (M : CM) (H : Heap) (locs : List Loc) (ls : Array Slot), cH D kA A s.heap T M H locs → lv_has ls 4 [(0, .ref h), (1, .int v1), (2, va_rf v2), (3, .int v3)] → fc_X5_gather_l7 T h Q  nn v1 v2 v3 M → W p l e (headSpec wsX5_gather rmX5_gather).room s m args below meth c H locs 0 0 (MQ below (va_Qv Q (cB D kA A T) A) args s 0 0 A) (F0 m 7 ls []) := by
    intro   nn
    induction nn with
    | zero => intro v1 v2 v3 M H locs ls hH hl hw; exact False.elim hw
    | succ nn hk7 =>
      intro v1 v2 v3 M H locs ls hH hl hw
      replace hw : fc_X5_gather_c7 T h Q  (fc_X5_gather_l7 T h Q  nn) v1 v2 v3 M := hw
      unfold fc_X5_gather_c7 at hw
      refine lv_iload_n hx hb dX5_gather_7 rfl (lv_at hl 3 rfl) ?_
      refine lv_aload_n hx hb dX5_gather_8 rfl (lv_at hl 0 rfl) ?_
      obtain ⟨h1, hw⟩ := hw
      refine cg_51 hx hb hts hin5 hown hK hH h1 (hts (.fieldLink RX5 17 "IdlCaller$Operation" "count" "I") (by decide +kernel)) dX5_gather_9 ?_
      refine lv_icmp_ge (tgt := 31) hx hb dX5_gather_12 (by decide) (fun c2 => ?_) (fun c2 => ?_)
      · replace hw := hw.1 c2
        refine lv_aload_n hx hb dX5_gather_31 rfl (lv_at hl 0 rfl) ?_
        refine lv_iload_n hx hb dX5_gather_32 rfl (lv_at hl 1 rfl) ?_
        refine s_aload_n hx hb dX5_gather_33 rfl (lv_at hl 2 rfl) ?_
        refine c_callv (va_runV (As := [.int v1, va_rf v2]) (rest := []) ⟨hx, hb, hml, hown, hts⟩ (tc_X5_gatherOne l D kA nm na sa sv H.size T h v1 v2 M _ hw) (cwV 2 hts gX5_gather_X5_gatherOne rfl rfl rfl (by decide +kernel) ⟨(show (4 : Nat) + 1 ≤ 5 from Nat.le_of_ble_eq_true rfl), (show 8 + (3 + 11) + (78 : Nat) ≤ 100 from Nat.le_of_ble_eq_true rfl)⟩) (c_preV hK hH hA hSt (c_recv5 hK hH h1)) rfl rfl hl.1 rfl (lv_room (by first | exact Nat.le_of_ble_eq_true rfl | simp [va_rf_cat, cat_ref, cat_int, cat_long, cat_double, cat_null])) dX5_gather_34 ⟨Nat.le_of_ble_eq_true rfl, Nat.le_of_ble_eq_true rfl⟩) hH hA (fun M3 H locs hw hH => ?_)
        exact c_retv hx hb hr hlocks hK hH hw dX5_gather_37
      · replace hw := hw.2 c2
        refine lv_aload_n hx hb dX5_gather_15 rfl (lv_at hl 0 rfl) ?_
        refine lv_iload_n hx hb dX5_gather_16 rfl (lv_at hl 1 rfl) ?_
        refine lv_aload_n hx hb dX5_gather_17 rfl (lv_at hl 0 rfl) ?_
        refine lv_iload_n hx hb dX5_gather_18 rfl (lv_at hl 3 rfl) ?_
        refine c_callq (va_runV (As := [.int v3]) (rest := [.int v1, .ref h]) ⟨hx, hb, hml, hown, hts⟩ (tc_X5_formAt l D kA nm na sa sv H.size T h v3 M _ hw) (cwV 1 hts gX5_gather_X5_formAt rfl rfl rfl (by decide +kernel) ⟨(show (0 : Nat) + 1 ≤ 5 from Nat.le_of_ble_eq_true rfl), (show 8 + (2 + 11) + (0 : Nat) ≤ 100 from Nat.le_of_ble_eq_true rfl)⟩) (c_preV hK hH hA hSt (c_recv5 hK hH h1)) rfl rfl hl.1 rfl (lv_room (by first | exact Nat.le_of_ble_eq_true rfl | simp [va_rf_cat, cat_ref, cat_int, cat_long, cat_double, cat_null])) dX5_gather_19 ⟨Nat.le_of_ble_eq_true rfl, Nat.le_of_ble_eq_true rfl⟩) hH hA (fun r7 M6 H locs hw hH => ?_)
        refine c_callv (va_runV (As := [.int v1, va_rf r7]) (rest := []) ⟨hx, hb, hml, hown, hts⟩ (tc_X5_gatherOne l D kA nm na sa sv H.size T h v1 r7 M6 _ hw) (cwV 2 hts gX5_gather_X5_gatherOne rfl rfl rfl (by decide +kernel) ⟨(show (4 : Nat) + 1 ≤ 5 from Nat.le_of_ble_eq_true rfl), (show 8 + (3 + 11) + (78 : Nat) ≤ 100 from Nat.le_of_ble_eq_true rfl)⟩) (c_preV hK hH hA hSt (c_recv5 hK hH h1)) rfl rfl hl.1 rfl (lv_room (by first | exact Nat.le_of_ble_eq_true rfl | simp [va_rf_cat, cat_ref, cat_int, cat_long, cat_double, cat_null])) dX5_gather_22 ⟨Nat.le_of_ble_eq_true rfl, Nat.le_of_ble_eq_true rfl⟩) hH hA (fun M9 H locs hw hH => ?_)
        obtain ⟨x12, ex12⟩ : ∃ y : Int32, y = v3 + 1 := ⟨_, rfl⟩
        replace hw := hw x12 ex12
        refine lv_iinc (v := x12) (lv' := [(3, .int x12), (0, .ref h), (1, .int v1), (2, va_rf v2)]) hx hb dX5_gather_25 hl (k := 3) rfl (by rw [ex12]; rfl) (by decide) (by first | rfl | simp [va_rf_cat, cat_ref, cat_int, cat_long, cat_double, cat_null]) (fun ls hl => ?_)
        refine lv_goto (tgt := 7) hx hb dX5_gather_28 (by decide) ?_
        exact hk7 v1 v2 x12 M9 H locs ls hH (lv_sub hl [1, 2, 3, 0] rfl) hw
  clear hP
  unfold fc_X5_gather at hw
  have hst : ∀ (M : CM) (H : Heap) (locs : List Loc) (ls : Array Slot), cH D kA A s.heap T M H locs → lv_has ls 4 [(0, .ref h), (1, .int a1), (2, va_rf a2)] → (tg T h = 6 ∧ (∀ M14 : CM, M14 = sI M 53 h 0 → (∃ nn : Nat, fc_X5_gather_l7 T h Q  nn a1 a2 0 M14))) → W p l e (headSpec wsX5_gather rmX5_gather).room s m args below meth c H locs 0 0 (MQ below (va_Qv Q (cB D kA A T) A) args s 0 0 A) (F0 m 0 ls []) := by
    intro M H locs ls hH hl hw
    refine lv_aload_n hx hb dX5_gather_0 rfl (lv_at hl 0 rfl) ?_
    refine lv_iconst (v := 0) hx hb dX5_gather_1 (by decide) ?_
    obtain ⟨h13, hw⟩ := hw
    refine cp_53 (x := 0) hx hb hts hin5 hown hK hH h13 (hts (.fieldLink RX5 24 "IdlCaller$Operation" "ables" "I") (by decide +kernel)) dX5_gather_2 (fun M14 H locs eM14 hH => ?_)
    replace hw := hw M14 eM14
    refine lv_iconst (v := 0) hx hb dX5_gather_5 (by decide) ?_
    refine lv_istore_n (i := 3) (lv' := [(3, .int 0), (0, .ref h), (1, .int a1), (2, va_rf a2)]) hx hb dX5_gather_6 rfl hl (by decide) (by first | rfl | simp [va_rf_cat, cat_ref, cat_int, cat_long, cat_double, cat_null]) (fun ls hl => ?_)
    obtain ⟨nn, hw⟩ := hw
    exact l7   nn a1 a2 0 M14 H locs ls hH (lv_sub hl [1, 2, 3, 0] rfl) hw
  exact hst M s.heap [] ls hH hl hw
def fc_X5_argumentAt_b19 (T : LY) (h : Nat) (Q : Option Nat → CM → Prop) (s0 : Option Nat) (M : CM) : Prop := Q s0 M
def fc_X5_argumentAt (T : LY) (h : Nat)  (a1 : Int32) (a2 : Int32) (M : CM) (Q : Option Nat → CM → Prop) : Prop := (tg T h = 6 ∧ fc_X5_ableAt T h a1 M (fun (r3 : Option Nat) (M2 : CM) => ((¬ r3 = none → (∃ p6 : Nat, r3 = some p6 ∧ (tg T p6 = 3 ∧ fc_X2_argumentAt T p6 a2 M2 (fun (r9 : Option Nat) (M8 : CM) => fc_X5_argumentAt_b19 T h Q  r9 M8)))) ∧ (r3 = none → fc_X5_argumentAt_b19 T h Q  none M2))))
abbrev rmX5_argumentAt : Room := { frames := 2, cells := 0, slots := 0, locals := 35 }
set_option maxHeartbeats 4000000 in
set_option maxRecDepth 100000 in
theorem tc_X5_argumentAt (l : Launch) (D : va_G) (kA : Nat → ClassId) (nm : Nat → Nat) (na : Nat) (sa sv : Nat → Nat) (sz : Nat) (T : LY) (h : Nat) (a1 : Int32) (a2 : Int32) (M : CM) (Q : Option Nat → CM → Prop) (hw : fc_X5_argumentAt T h a1 a2 M Q) : Met l yX5_argumentAt wsX5_argumentAt rmX5_argumentAt (va_Pc [.ref h, .int a1, .int a2] (cPc nm na sa sv D kA T M sz)) (va_Qq Q (cB D kA (cF T sz) T) (cF T sz)) 0 0 (cF T sz) := by
  refine Met.ofW (cc := cX5_argumentAt) (maxL := 4) (ret := (some (.object "IdlCaller$Argument"))) (by decide) rfl ?_
  intro p e s m args below meth c s₁ B hml hv
  obtain ⟨rfl, hsz, hP, hK, hSt⟩ := hv
  have hx := B.exec
  have hb := B.bytes
  have hr := B.returns
  have hts := atoms_spec (ws := wsX5_argumentAt) B.pre
  have hown : s.vm.findClass RX5 = some m.cls := findClass_of_methodNamed B.named
  have hlocks : meth.locks = false := B.notSynchronized
  subst hsz
  have hH : cH D kA (cF T s.heap.size) s.heap T M s.heap [] := ⟨hP.self, va_S.rf⟩
  have hA : ∀ q : Nat, s.heap.size ≤ q → cF T s.heap.size q := fun q z => Or.inr z
  generalize cF T s.heap.size = A at hH hA hSt ⊢
  have hl := lv_entry ([.ref h, .int a1, .int a2]) (n := 4) (by first | exact Nat.le_of_ble_eq_true rfl | simp [lg_sl, va_rf_cat, cat_ref, cat_int, cat_long, cat_double])
  rw [lg_entry_eq]
  generalize (lg_sl ([.ref h, .int a1, .int a2]) ++ List.replicate (4 - (lg_sl ([.ref h, .int a1, .int a2])).length) Slot.unset).toArray = ls at hl ⊢
  generalize ([.ref h, .int a1, .int a2] : List Value).toArray = args at hts ⊢
  have hl : lv_has ls 4 [(0, .ref h), (1, .int a1), (2, .int a2)] := hl
  have b19 : ∀ (s0 : Option Nat) (M : CM) (H : Heap) (locs : List Loc) (ls : Array Slot), cH D kA A s.heap T M H locs → lv_has ls 4 [] → fc_X5_argumentAt_b19 T h Q  s0 M → W p l e (headSpec wsX5_argumentAt rmX5_argumentAt).room s m args below meth c H locs 0 0 (MQ below (va_Qq Q (cB D kA A T) A) args s 0 0 A) (F0 m 19 ls [va_rf s0]) := by
    intro   s0 M H locs ls hH hl hw
    unfold fc_X5_argumentAt_b19 at hw
    exact c_retq (v := s0) hx hb hr (Or.inl ⟨_, rfl⟩) hlocks hK hH hw dX5_argumentAt_19
  clear hP
  unfold fc_X5_argumentAt at hw
  have hst : ∀ (M : CM) (H : Heap) (locs : List Loc) (ls : Array Slot), cH D kA A s.heap T M H locs → lv_has ls 4 [(0, .ref h), (1, .int a1), (2, .int a2)] → (tg T h = 6 ∧ fc_X5_ableAt T h a1 M (fun (r3 : Option Nat) (M2 : CM) => ((¬ r3 = none → (∃ p6 : Nat, r3 = some p6 ∧ (tg T p6 = 3 ∧ fc_X2_argumentAt T p6 a2 M2 (fun (r9 : Option Nat) (M8 : CM) => fc_X5_argumentAt_b19 T h Q  r9 M8)))) ∧ (r3 = none → fc_X5_argumentAt_b19 T h Q  none M2)))) → W p l e (headSpec wsX5_argumentAt rmX5_argumentAt).room s m args below meth c H locs 0 0 (MQ below (va_Qq Q (cB D kA A T) A) args s 0 0 A) (F0 m 0 ls []) := by
    intro M H locs ls hH hl hw
    refine lv_aload_n hx hb dX5_argumentAt_0 rfl (lv_at hl 0 rfl) ?_
    refine lv_iload_n hx hb dX5_argumentAt_1 rfl (lv_at hl 1 rfl) ?_
    obtain ⟨h1, hw⟩ := hw
    refine c_callq (va_runV (As := [.int a1]) (rest := []) ⟨hx, hb, hml, hown, hts⟩ (tc_X5_ableAt l D kA nm na sa sv H.size T h a1 M _ hw) (cwV 1 hts gX5_argumentAt_X5_ableAt rfl rfl rfl (by decide +kernel) ⟨(show (0 : Nat) + 1 ≤ 2 from Nat.le_of_ble_eq_true rfl), (show 8 + (2 + 11) + (0 : Nat) ≤ 35 from Nat.le_of_ble_eq_true rfl)⟩) (c_preV hK hH hA hSt (c_recv5 hK hH h1)) rfl rfl hl.1 rfl (lv_room (by first | exact Nat.le_of_ble_eq_true rfl | simp [va_rf_cat, cat_ref, cat_int, cat_long, cat_double, cat_null])) dX5_argumentAt_2 ⟨Nat.le_of_ble_eq_true rfl, Nat.le_of_ble_eq_true rfl⟩) hH hA (fun r3 M2 H locs hw hH => ?_)
    refine s_astore_n (i := 3) (lv' := [(3, va_rf r3), (0, .ref h), (1, .int a1), (2, .int a2)]) hx hb dX5_argumentAt_5 rfl hl (by decide) (by first | rfl | simp [va_rf_cat, cat_ref, cat_int, cat_long, cat_double, cat_null]) (fun ls hl => ?_)
    refine s_aload_n hx hb dX5_argumentAt_6 rfl (lv_at hl 0 rfl) ?_
    refine s_ifnonnull (tgt := 14) hx hb dX5_argumentAt_7 (by decide) (fun c5 => ?_) (fun c5 => ?_)
    · replace hw := hw.1 c5
      refine s_aload_n hx hb dX5_argumentAt_14 rfl (lv_at hl 0 rfl) ?_
      refine lv_iload_n hx hb dX5_argumentAt_15 rfl (lv_at hl 3 rfl) ?_
      obtain ⟨p6, ep6, hw⟩ := hw
      refine W.st (st' := [.int a2, .ref p6]) (by rw [ep6]; rfl) ?_
      obtain ⟨h7, hw⟩ := hw
      refine c_callq (va_runV (As := [.int a2]) (rest := []) ⟨hx, hb, hml, hown, hts⟩ (tc_X2_argumentAt l D kA nm na sa sv H.size T p6 a2 M2 _ hw) (cwV 1 hts gX5_argumentAt_X2_argumentAt rfl rfl rfl (by decide +kernel) ⟨(show (1 : Nat) + 1 ≤ 2 from Nat.le_of_ble_eq_true rfl), (show 8 + (3 + 11) + (13 : Nat) ≤ 35 from Nat.le_of_ble_eq_true rfl)⟩) (c_preV hK hH hA hSt (c_recv2 hK hH h7)) rfl rfl hl.1 rfl (lv_room (by first | exact Nat.le_of_ble_eq_true rfl | simp [va_rf_cat, cat_ref, cat_int, cat_long, cat_double, cat_null])) dX5_argumentAt_16 ⟨Nat.le_of_ble_eq_true rfl, Nat.le_of_ble_eq_true rfl⟩) hH hA (fun r9 M8 H locs hw hH => ?_)
      exact b19   r9 M8 H locs ls hH (lv_sub hl [] rfl) hw
    · replace hw := hw.2 c5
      refine lv_null hx hb dX5_argumentAt_10 ?_
      refine lv_goto (tgt := 19) hx hb dX5_argumentAt_11 (by decide) ?_
      exact b19   none M2 H locs ls hH (lv_sub hl [] rfl) hw
  exact hst M s.heap [] ls hH hl hw
def fc_X5_typeAt_b19 (T : LY) (h : Nat) (Q : Option Nat → CM → Prop) (s0 : Option Nat) (M : CM) : Prop := Q s0 M
def fc_X5_typeAt (T : LY) (h : Nat)  (a1 : Int32) (a2 : Int32) (M : CM) (Q : Option Nat → CM → Prop) : Prop := (tg T h = 6 ∧ fc_X5_argumentAt T h a1 a2 M (fun (r3 : Option Nat) (M2 : CM) => ((¬ r3 = none → (∃ p6 : Nat, r3 = some p6 ∧ (tg T p6 = 1 ∧ fc_X5_typeAt_b19 T h Q  (cR M2 0 p6) M2))) ∧ (r3 = none → fc_X5_typeAt_b19 T h Q  none M2))))
abbrev rmX5_typeAt : Room := { frames := 3, cells := 0, slots := 0, locals := 58 }
set_option maxHeartbeats 4000000 in
set_option maxRecDepth 100000 in
theorem tc_X5_typeAt (l : Launch) (D : va_G) (kA : Nat → ClassId) (nm : Nat → Nat) (na : Nat) (sa sv : Nat → Nat) (sz : Nat) (T : LY) (h : Nat) (a1 : Int32) (a2 : Int32) (M : CM) (Q : Option Nat → CM → Prop) (hw : fc_X5_typeAt T h a1 a2 M Q) : Met l yX5_typeAt wsX5_typeAt rmX5_typeAt (va_Pc [.ref h, .int a1, .int a2] (cPc nm na sa sv D kA T M sz)) (va_Qq Q (cB D kA (cF T sz) T) (cF T sz)) 0 0 (cF T sz) := by
  refine Met.ofW (cc := cX5_typeAt) (maxL := 4) (ret := (some (.object "IdlCaller$Type"))) (by decide) rfl ?_
  intro p e s m args below meth c s₁ B hml hv
  obtain ⟨rfl, hsz, hP, hK, hSt⟩ := hv
  have hx := B.exec
  have hb := B.bytes
  have hr := B.returns
  have hts := atoms_spec (ws := wsX5_typeAt) B.pre
  have hown : s.vm.findClass RX5 = some m.cls := findClass_of_methodNamed B.named
  have hlocks : meth.locks = false := B.notSynchronized
  subst hsz
  have hH : cH D kA (cF T s.heap.size) s.heap T M s.heap [] := ⟨hP.self, va_S.rf⟩
  have hA : ∀ q : Nat, s.heap.size ≤ q → cF T s.heap.size q := fun q z => Or.inr z
  generalize cF T s.heap.size = A at hH hA hSt ⊢
  have hl := lv_entry ([.ref h, .int a1, .int a2]) (n := 4) (by first | exact Nat.le_of_ble_eq_true rfl | simp [lg_sl, va_rf_cat, cat_ref, cat_int, cat_long, cat_double])
  rw [lg_entry_eq]
  generalize (lg_sl ([.ref h, .int a1, .int a2]) ++ List.replicate (4 - (lg_sl ([.ref h, .int a1, .int a2])).length) Slot.unset).toArray = ls at hl ⊢
  generalize ([.ref h, .int a1, .int a2] : List Value).toArray = args at hts ⊢
  have hl : lv_has ls 4 [(0, .ref h), (1, .int a1), (2, .int a2)] := hl
  have hin0 : ∀ w ∈ wsX00, w ∈ wsX5_typeAt := by decide +kernel
  have b19 : ∀ (s0 : Option Nat) (M : CM) (H : Heap) (locs : List Loc) (ls : Array Slot), cH D kA A s.heap T M H locs → lv_has ls 4 [] → fc_X5_typeAt_b19 T h Q  s0 M → W p l e (headSpec wsX5_typeAt rmX5_typeAt).room s m args below meth c H locs 0 0 (MQ below (va_Qq Q (cB D kA A T) A) args s 0 0 A) (F0 m 19 ls [va_rf s0]) := by
    intro   s0 M H locs ls hH hl hw
    unfold fc_X5_typeAt_b19 at hw
    exact c_retq (v := s0) hx hb hr (Or.inl ⟨_, rfl⟩) hlocks hK hH hw dX5_typeAt_19
  clear hP
  unfold fc_X5_typeAt at hw
  have hst : ∀ (M : CM) (H : Heap) (locs : List Loc) (ls : Array Slot), cH D kA A s.heap T M H locs → lv_has ls 4 [(0, .ref h), (1, .int a1), (2, .int a2)] → (tg T h = 6 ∧ fc_X5_argumentAt T h a1 a2 M (fun (r3 : Option Nat) (M2 : CM) => ((¬ r3 = none → (∃ p6 : Nat, r3 = some p6 ∧ (tg T p6 = 1 ∧ fc_X5_typeAt_b19 T h Q  (cR M2 0 p6) M2))) ∧ (r3 = none → fc_X5_typeAt_b19 T h Q  none M2)))) → W p l e (headSpec wsX5_typeAt rmX5_typeAt).room s m args below meth c H locs 0 0 (MQ below (va_Qq Q (cB D kA A T) A) args s 0 0 A) (F0 m 0 ls []) := by
    intro M H locs ls hH hl hw
    refine lv_aload_n hx hb dX5_typeAt_0 rfl (lv_at hl 0 rfl) ?_
    refine lv_iload_n hx hb dX5_typeAt_1 rfl (lv_at hl 1 rfl) ?_
    refine lv_iload_n hx hb dX5_typeAt_2 rfl (lv_at hl 2 rfl) ?_
    obtain ⟨h1, hw⟩ := hw
    refine c_callq (va_runV (As := [.int a1, .int a2]) (rest := []) ⟨hx, hb, hml, hown, hts⟩ (tc_X5_argumentAt l D kA nm na sa sv H.size T h a1 a2 M _ hw) (cwV 2 hts gX5_typeAt_X5_argumentAt rfl rfl rfl (by decide +kernel) ⟨(show (2 : Nat) + 1 ≤ 3 from Nat.le_of_ble_eq_true rfl), (show 8 + (4 + 11) + (35 : Nat) ≤ 58 from Nat.le_of_ble_eq_true rfl)⟩) (c_preV hK hH hA hSt (c_recv5 hK hH h1)) rfl rfl hl.1 rfl (lv_room (by first | exact Nat.le_of_ble_eq_true rfl | simp [va_rf_cat, cat_ref, cat_int, cat_long, cat_double, cat_null])) dX5_typeAt_3 ⟨Nat.le_of_ble_eq_true rfl, Nat.le_of_ble_eq_true rfl⟩) hH hA (fun r3 M2 H locs hw hH => ?_)
    refine s_astore_n (i := 3) (lv' := [(3, va_rf r3), (0, .ref h), (1, .int a1), (2, .int a2)]) hx hb dX5_typeAt_6 rfl hl (by decide) (by first | rfl | simp [va_rf_cat, cat_ref, cat_int, cat_long, cat_double, cat_null]) (fun ls hl => ?_)
    refine s_aload_n hx hb dX5_typeAt_7 rfl (lv_at hl 0 rfl) ?_
    refine s_ifnonnull (tgt := 15) hx hb dX5_typeAt_8 (by decide) (fun c5 => ?_) (fun c5 => ?_)
    · replace hw := hw.1 c5
      refine s_aload_n hx hb dX5_typeAt_15 rfl (lv_at hl 0 rfl) ?_
      obtain ⟨p6, ep6, hw⟩ := hw
      refine W.st (st' := [.ref p6]) (by rw [ep6]; rfl) ?_
      obtain ⟨h7, hw⟩ := hw
      refine cg_0 hx hb hts hin0 hown hK hH h7 (hts (.fieldLink RX5 90 "IdlCaller$Argument" "type" "LIdlCaller$Type;") (by decide +kernel)) dX5_typeAt_16 ?_
      exact b19   (cR M2 0 p6) M2 H locs ls hH (lv_sub hl [] rfl) hw
    · replace hw := hw.2 c5
      refine lv_null hx hb dX5_typeAt_11 ?_
      refine lv_goto (tgt := 19) hx hb dX5_typeAt_12 (by decide) ?_
      exact b19   none M2 H locs ls hH (lv_sub hl [] rfl) hw
  exact hst M s.heap [] ls hH hl hw
def fc_X5_areDistinctAt_b53 (nm : Nat → Nat) (T : LY) (h : Nat) (Q : Int32 → CM → Prop) (M : CM) : Prop := Q 0 M
def fc_X5_areDistinctAt_c12 (nm : Nat → Nat) (T : LY) (h : Nat) (Q : Int32 → CM → Prop) (k2 : Int32 → Int32 → CM → Prop) (k12 : Int32 → Int32 → Int32 → CM → Prop) (v1 : Int32) (v2 : Int32) (v3 : Int32) (M : CM) : Prop := ((v2 ≤ v3 → (∀ x2 : Int32, x2 = v2 + 1 → k2 v1 x2 M)) ∧ (¬ v2 ≤ v3 → (tg T h = 6 ∧ fc_X5_typeAt T h v2 v1 M (fun (r5 : Option Nat) (M4 : CM) => fc_X5_typeAt T h v3 v1 M4 (fun (r8 : Option Nat) (M7 : CM) => ((r5 = none → fc_X5_areDistinctAt_b53 nm T h Q   M7) ∧ (¬ r5 = none → ((r8 = none → fc_X5_areDistinctAt_b53 nm T h Q   M7) ∧ (¬ r8 = none → (∃ p12 : Nat, r5 = some p12 ∧ (tg T p12 = 10 ∧ fc_X9_isDistinctFrom nm T p12 r8 M7 (fun (r15 : Int32) (M14 : CM) => ((¬ r15 = 0 → (∀ x18 : Int32, x18 = v3 + 1 → k12 v1 v2 x18 M14)) ∧ (r15 = 0 → fc_X5_areDistinctAt_b53 nm T h Q   M14))))))))))))))
def fc_X5_areDistinctAt_l12 (nm : Nat → Nat) (T : LY) (h : Nat) (Q : Int32 → CM → Prop) (k2 : Int32 → Int32 → CM → Prop) : Nat → Int32 → Int32 → Int32 → CM → Prop := lit (τ := Int32 → Int32 → Int32 → CM → Prop) (fun _ _ _ _ => False) (fun k => fc_X5_areDistinctAt_c12 nm T h Q k2 k)
def fc_X5_areDistinctAt_c2 (nm : Nat → Nat) (T : LY) (h : Nat) (Q : Int32 → CM → Prop) (k2 : Int32 → Int32 → CM → Prop) (v1 : Int32) (v2 : Int32) (M : CM) : Prop := (tg T h = 6 ∧ (((cI M 53 h) ≤ v2 → Q 1 M) ∧ (¬ (cI M 53 h) ≤ v2 → (∃ nn : Nat, fc_X5_areDistinctAt_l12 nm T h Q k2 nn v1 v2 0 M))))
def fc_X5_areDistinctAt_l2 (nm : Nat → Nat) (T : LY) (h : Nat) (Q : Int32 → CM → Prop) : Nat → Int32 → Int32 → CM → Prop := lit (τ := Int32 → Int32 → CM → Prop) (fun _ _ _ => False) (fun k => fc_X5_areDistinctAt_c2 nm T h Q  k)
def fc_X5_areDistinctAt (nm : Nat → Nat) (T : LY) (h : Nat)  (a1 : Int32) (M : CM) (Q : Int32 → CM → Prop) : Prop := (∃ nn : Nat, fc_X5_areDistinctAt_l2 nm T h Q  nn a1 0 M)
abbrev rmX5_areDistinctAt : Room := { frames := 4, cells := 0, slots := 0, locals := 81 }
set_option maxHeartbeats 4000000 in
set_option maxRecDepth 100000 in
theorem tc_X5_areDistinctAt (l : Launch) (D : va_G) (kA : Nat → ClassId) (nm : Nat → Nat) (na : Nat) (sa sv : Nat → Nat) (sz : Nat) (T : LY) (h : Nat) (a1 : Int32) (M : CM) (Q : Int32 → CM → Prop) (hw : fc_X5_areDistinctAt nm T h a1 M Q) : Met l yX5_areDistinctAt wsX5_areDistinctAt rmX5_areDistinctAt (va_Pc [.ref h, .int a1] (cPc nm na sa sv D kA T M sz)) (va_Qi Q (cB D kA (cF T sz) T) (cF T sz)) 0 0 (cF T sz) := by
  refine Met.ofW (cc := cX5_areDistinctAt) (maxL := 6) (ret := (some .boolean)) (by decide) rfl ?_
  intro p e s m args below meth c s₁ B hml hv
  obtain ⟨rfl, hsz, hP, hK, hSt⟩ := hv
  have hx := B.exec
  have hb := B.bytes
  have hr := B.returns
  have hts := atoms_spec (ws := wsX5_areDistinctAt) B.pre
  have hown : s.vm.findClass RX5 = some m.cls := findClass_of_methodNamed B.named
  have hlocks : meth.locks = false := B.notSynchronized
  subst hsz
  have hH : cH D kA (cF T s.heap.size) s.heap T M s.heap [] := ⟨hP.self, va_S.rf⟩
  have hA : ∀ q : Nat, s.heap.size ≤ q → cF T s.heap.size q := fun q z => Or.inr z
  generalize cF T s.heap.size = A at hH hA hSt ⊢
  have hl := lv_entry ([.ref h, .int a1]) (n := 6) (by first | exact Nat.le_of_ble_eq_true rfl | simp [lg_sl, va_rf_cat, cat_ref, cat_int, cat_long, cat_double])
  rw [lg_entry_eq]
  generalize (lg_sl ([.ref h, .int a1]) ++ List.replicate (6 - (lg_sl ([.ref h, .int a1])).length) Slot.unset).toArray = ls at hl ⊢
  generalize ([.ref h, .int a1] : List Value).toArray = args at hts ⊢
  have hl : lv_has ls 6 [(0, .ref h), (1, .int a1)] := hl
  have hin5 : ∀ w ∈ wsX50, w ∈ wsX5_areDistinctAt := by decide +kernel
  have b53 : ∀ (M : CM) (H : Heap) (locs : List Loc) (ls : Array Slot), cH D kA A s.heap T M H locs → lv_has ls 6 [] → fc_X5_areDistinctAt_b53 nm T h Q   M → W p l e (headSpec wsX5_areDistinctAt rmX5_areDistinctAt).room s m args below meth c H locs 0 0 (MQ below (va_Qi Q (cB D kA A T) A) args s 0 0 A) (F0 m 53 ls []) := by
    intro    M H locs ls hH hl hw
    unfold fc_X5_areDistinctAt_b53 at hw
    refine lv_iconst (v := 0) hx hb dX5_areDistinctAt_53 (by decide) ?_
    exact c_retz hx hb hr rfl hlocks hK hH hw dX5_areDistinctAt_54
  have l12 : ∀ (k2 : Int32 → Int32 → CM → Prop) (hk2 : ∀ (v1 : Int32) (v2 : Int32) (M : CM) (H : Heap) (locs : List Loc) (ls : Array Slot), cH D kA A s.heap T M H locs → lv_has ls 6 [(0, .ref h), (1, .int v1), (2, .int v2)] → k2 v1 v2 M → W p l e (headSpec wsX5_areDistinctAt rmX5_areDistinctAt).room s m args below meth c H locs 0 0 (MQ below (va_Qi Q (cB D kA A T) A) args s 0 0 A) (F0 m 2 ls [])) (nn : Nat) (v1 : Int32) (v2 : Int32) (v3 : Int32) (M : CM) (H : Heap) (locs : List Loc) (ls : Array Slot), cH D kA A s.heap T M H locs → lv_has ls 6 [(0, .ref h), (1, .int v1), (2, .int v2), (3, .int v3)] → fc_X5_areDistinctAt_l12 nm T h Q k2 nn v1 v2 v3 M → W p l e (headSpec wsX5_areDistinctAt rmX5_areDistinctAt).room s m args below meth c H locs 0 0 (MQ below (va_Qi Q (cB D kA A T) A) args s 0 0 A) (F0 m 12 ls []) := by
    intro k2 hk2 nn
    induction nn with
    | zero => intro v1 v2 v3 M H locs ls hH hl hw; exact False.elim hw
    | succ nn hk12 =>
      intro v1 v2 v3 M H locs ls hH hl hw
      replace hw : fc_X5_areDistinctAt_c12 nm T h Q k2 (fc_X5_areDistinctAt_l12 nm T h Q k2 nn) v1 v2 v3 M := hw
      unfold fc_X5_areDistinctAt_c12 at hw
      refine lv_iload_n hx hb dX5_areDistinctAt_12 rfl (lv_at hl 3 rfl) ?_
      refine lv_iload_n hx hb dX5_areDistinctAt_13 rfl (lv_at hl 2 rfl) ?_
      refine lv_icmp_ge (tgt := 61) hx hb dX5_areDistinctAt_14 (by decide) (fun c1 => ?_) (fun c1 => ?_)
      · replace hw := hw.1 c1
        obtain ⟨x2, ex2⟩ : ∃ y : Int32, y = v2 + 1 := ⟨_, rfl⟩
        replace hw := hw x2 ex2
        refine lv_iinc (v := x2) (lv' := [(2, .int x2), (0, .ref h), (1, .int v1), (3, .int v3)]) hx hb dX5_areDistinctAt_61 hl (k := 2) rfl (by rw [ex2]; rfl) (by decide) rfl (fun ls hl => ?_)
        refine lv_goto (tgt := 2) hx hb dX5_areDistinctAt_64 (by decide) ?_
        exact hk2 v1 x2 M H locs ls hH (lv_sub hl [1, 2, 0] rfl) hw
      · replace hw := hw.2 c1
        refine lv_aload_n hx hb dX5_areDistinctAt_17 rfl (lv_at hl 0 rfl) ?_
        refine lv_iload_n hx hb dX5_areDistinctAt_18 rfl (lv_at hl 2 rfl) ?_
        refine lv_iload_n hx hb dX5_areDistinctAt_19 rfl (lv_at hl 1 rfl) ?_
        obtain ⟨h3, hw⟩ := hw
        refine c_callq (va_runV (As := [.int v2, .int v1]) (rest := []) ⟨hx, hb, hml, hown, hts⟩ (tc_X5_typeAt l D kA nm na sa sv H.size T h v2 v1 M _ hw) (cwV 2 hts gX5_areDistinctAt_X5_typeAt rfl rfl rfl (by decide +kernel) ⟨(show (3 : Nat) + 1 ≤ 4 from Nat.le_of_ble_eq_true rfl), (show 8 + (4 + 11) + (58 : Nat) ≤ 81 from Nat.le_of_ble_eq_true rfl)⟩) (c_preV hK hH hA hSt (c_recv5 hK hH h3)) rfl rfl hl.1 rfl (lv_room (by first | exact Nat.le_of_ble_eq_true rfl | simp [va_rf_cat, cat_ref, cat_int, cat_long, cat_double, cat_null])) dX5_areDistinctAt_20 ⟨Nat.le_of_ble_eq_true rfl, Nat.le_of_ble_eq_true rfl⟩) hH hA (fun r5 M4 H locs hw hH => ?_)
        refine s_astore (i := 4) (lv' := [(4, va_rf r5), (0, .ref h), (1, .int v1), (2, .int v2), (3, .int v3)]) hx hb dX5_areDistinctAt_23 hl (by decide) (by first | rfl | simp [va_rf_cat, cat_ref, cat_int, cat_long, cat_double, cat_null]) (fun ls hl => ?_)
        refine lv_aload_n hx hb dX5_areDistinctAt_25 rfl (lv_at hl 1 rfl) ?_
        refine lv_iload_n hx hb dX5_areDistinctAt_26 rfl (lv_at hl 4 rfl) ?_
        refine lv_iload_n hx hb dX5_areDistinctAt_27 rfl (lv_at hl 2 rfl) ?_
        refine c_callq (va_runV (As := [.int v3, .int v1]) (rest := []) ⟨hx, hb, hml, hown, hts⟩ (tc_X5_typeAt l D kA nm na sa sv H.size T h v3 v1 M4 _ hw) (cwV 2 hts gX5_areDistinctAt_X5_typeAt rfl rfl rfl (by decide +kernel) ⟨(show (3 : Nat) + 1 ≤ 4 from Nat.le_of_ble_eq_true rfl), (show 8 + (4 + 11) + (58 : Nat) ≤ 81 from Nat.le_of_ble_eq_true rfl)⟩) (c_preV hK hH hA hSt (c_recv5 hK hH h3)) rfl rfl hl.1 rfl (lv_room (by first | exact Nat.le_of_ble_eq_true rfl | simp [va_rf_cat, cat_ref, cat_int, cat_long, cat_double, cat_null])) dX5_areDistinctAt_28 ⟨Nat.le_of_ble_eq_true rfl, Nat.le_of_ble_eq_true rfl⟩) hH hA (fun r8 M7 H locs hw hH => ?_)
        refine s_astore (i := 5) (lv' := [(5, va_rf r8), (4, va_rf r5), (0, .ref h), (1, .int v1), (2, .int v2), (3, .int v3)]) hx hb dX5_areDistinctAt_31 hl (by decide) (by first | rfl | simp [va_rf_cat, cat_ref, cat_int, cat_long, cat_double, cat_null]) (fun ls hl => ?_)
        refine s_aload hx hb dX5_areDistinctAt_33 (lv_at hl 1 rfl) ?_
        refine s_ifnull (tgt := 53) hx hb dX5_areDistinctAt_35 (by decide) (fun c10 => ?_) (fun c10 => ?_)
        · replace hw := hw.1 c10
          exact b53    M7 H locs ls hH (lv_sub hl [] rfl) hw
        · replace hw := hw.2 c10
          refine s_aload hx hb dX5_areDistinctAt_38 (lv_at hl 0 rfl) ?_
          refine s_ifnull (tgt := 53) hx hb dX5_areDistinctAt_40 (by decide) (fun c11 => ?_) (fun c11 => ?_)
          · replace hw := hw.1 c11
            exact b53    M7 H locs ls hH (lv_sub hl [] rfl) hw
          · replace hw := hw.2 c11
            refine s_aload hx hb dX5_areDistinctAt_43 (lv_at hl 1 rfl) ?_
            refine s_aload hx hb dX5_areDistinctAt_45 (lv_at hl 0 rfl) ?_
            obtain ⟨p12, ep12, hw⟩ := hw
            refine W.st (st' := [va_rf r8, .ref p12]) (by rw [ep12]; rfl) ?_
            obtain ⟨h13, hw⟩ := hw
            refine c_calli (va_runV (As := [va_rf r8]) (rest := []) ⟨hx, hb, hml, hown, hts⟩ (tc_X9_isDistinctFrom l D kA nm na sa sv H.size T p12 r8 M7 _ hw) (cwV 1 hts gX5_areDistinctAt_X9_isDistinctFrom rfl rfl rfl (by decide +kernel) ⟨(show (0 : Nat) + 1 ≤ 4 from Nat.le_of_ble_eq_true rfl), (show 8 + (2 + 11) + (0 : Nat) ≤ 81 from Nat.le_of_ble_eq_true rfl)⟩) (c_preV hK hH hA hSt (c_recv9 hK hH h13)) rfl rfl hl.1 rfl (lv_room (by first | exact Nat.le_of_ble_eq_true rfl | simp [va_rf_cat, cat_ref, cat_int, cat_long, cat_double, cat_null])) dX5_areDistinctAt_47 ⟨Nat.le_of_ble_eq_true rfl, Nat.le_of_ble_eq_true rfl⟩) hH hA (fun r15 M14 H locs hw hH => ?_)
            refine lv_if_ne (tgt := 55) hx hb dX5_areDistinctAt_50 (by decide) (fun c17 => ?_) (fun c17 => ?_)
            · replace hw := hw.1 c17
              obtain ⟨x18, ex18⟩ : ∃ y : Int32, y = v3 + 1 := ⟨_, rfl⟩
              replace hw := hw x18 ex18
              refine lv_iinc (v := x18) (lv' := [(3, .int x18), (5, va_rf r8), (4, va_rf r5), (0, .ref h), (1, .int v1), (2, .int v2)]) hx hb dX5_areDistinctAt_55 hl (k := 5) rfl (by rw [ex18]; rfl) (by decide) (by first | rfl | simp [va_rf_cat, cat_ref, cat_int, cat_long, cat_double, cat_null]) (fun ls hl => ?_)
              refine lv_goto (tgt := 12) hx hb dX5_areDistinctAt_58 (by decide) ?_
              exact hk12 v1 v2 x18 M14 H locs ls hH (lv_sub hl [3, 4, 5, 0] rfl) hw
            · replace hw := hw.2 c17
              exact b53    M14 H locs ls hH (lv_sub hl [] rfl) hw
  have l2 : ∀ (nn : Nat) (v1 : Int32) (v2 : Int32) (M : CM) (H : Heap) (locs : List Loc) (ls : Array Slot), cH D kA A s.heap T M H locs → lv_has ls 6 [(0, .ref h), (1, .int v1), (2, .int v2)] → fc_X5_areDistinctAt_l2 nm T h Q  nn v1 v2 M → W p l e (headSpec wsX5_areDistinctAt rmX5_areDistinctAt).room s m args below meth c H locs 0 0 (MQ below (va_Qi Q (cB D kA A T) A) args s 0 0 A) (F0 m 2 ls []) := by
    intro   nn
    induction nn with
    | zero => intro v1 v2 M H locs ls hH hl hw; exact False.elim hw
    | succ nn hk2 =>
      intro v1 v2 M H locs ls hH hl hw
      replace hw : fc_X5_areDistinctAt_c2 nm T h Q  (fc_X5_areDistinctAt_l2 nm T h Q  nn) v1 v2 M := hw
      unfold fc_X5_areDistinctAt_c2 at hw
      refine lv_iload_n hx hb dX5_areDistinctAt_2 rfl (lv_at hl 2 rfl) ?_
      refine lv_aload_n hx hb dX5_areDistinctAt_3 rfl (lv_at hl 0 rfl) ?_
      obtain ⟨h19, hw⟩ := hw
      refine cg_53 hx hb hts hin5 hown hK hH h19 (hts (.fieldLink RX5 24 "IdlCaller$Operation" "ables" "I") (by decide +kernel)) dX5_areDistinctAt_4 ?_
      refine lv_icmp_ge (tgt := 67) hx hb dX5_areDistinctAt_7 (by decide) (fun c20 => ?_) (fun c20 => ?_)
      · replace hw := hw.1 c20
        refine lv_iconst (v := 1) hx hb dX5_areDistinctAt_67 (by decide) ?_
        exact c_retz hx hb hr rfl hlocks hK hH hw dX5_areDistinctAt_68
      · replace hw := hw.2 c20
        refine lv_iconst (v := 0) hx hb dX5_areDistinctAt_10 (by decide) ?_
        refine lv_istore_n (i := 3) (lv' := [(3, .int 0), (0, .ref h), (1, .int v1), (2, .int v2)]) hx hb dX5_areDistinctAt_11 rfl hl (by decide) rfl (fun ls hl => ?_)
        obtain ⟨nn, hw⟩ := hw
        exact l12 _ hk2 nn v1 v2 0 M H locs ls hH (lv_sub hl [1, 2, 3, 0] rfl) hw
  clear hP
  unfold fc_X5_areDistinctAt at hw
  have hst : ∀ (M : CM) (H : Heap) (locs : List Loc) (ls : Array Slot), cH D kA A s.heap T M H locs → lv_has ls 6 [(0, .ref h), (1, .int a1)] → (∃ nn : Nat, fc_X5_areDistinctAt_l2 nm T h Q  nn a1 0 M) → W p l e (headSpec wsX5_areDistinctAt rmX5_areDistinctAt).room s m args below meth c H locs 0 0 (MQ below (va_Qi Q (cB D kA A T) A) args s 0 0 A) (F0 m 0 ls []) := by
    intro M H locs ls hH hl hw
    refine lv_iconst (v := 0) hx hb dX5_areDistinctAt_0 (by decide) ?_
    refine lv_istore_n (i := 2) (lv' := [(2, .int 0), (0, .ref h), (1, .int a1)]) hx hb dX5_areDistinctAt_1 rfl hl (by decide) rfl (fun ls hl => ?_)
    obtain ⟨nn, hw⟩ := hw
    exact l2   nn a1 0 M H locs ls hH (lv_sub hl [1, 2, 0] rfl) hw
  exact hst M s.heap [] ls hH hl hw
def fc_X5_areSameAt_b43 (T : LY) (h : Nat) (Q : Int32 → CM → Prop) (M : CM) : Prop := Q 0 M
def fc_X5_areSameAt_c9 (T : LY) (h : Nat) (Q : Int32 → CM → Prop) (k9 : Int32 → Option Nat → Int32 → CM → Prop) (v1 : Int32) (v2 : Option Nat) (v3 : Int32) (M : CM) : Prop := (tg T h = 6 ∧ (((cI M 53 h) ≤ v3 → Q 1 M) ∧ (¬ (cI M 53 h) ≤ v3 → fc_X5_argumentAt T h v3 v1 M (fun (r4 : Option Nat) (M3 : CM) => ((v2 = none → fc_X5_areSameAt_b43 T h Q   M3) ∧ (¬ v2 = none → ((r4 = none → fc_X5_areSameAt_b43 T h Q   M3) ∧ (¬ r4 = none → (∃ p8 : Nat, r4 = some p8 ∧ (tg T p8 = 1 ∧ fc_X0_isSameAs T p8 v2 M3 (fun (r11 : Int32) (M10 : CM) => ((¬ r11 = 0 → (∀ x14 : Int32, x14 = v3 + 1 → k9 v1 v2 x14 M10)) ∧ (r11 = 0 → fc_X5_areSameAt_b43 T h Q   M10)))))))))))))
def fc_X5_areSameAt_l9 (T : LY) (h : Nat) (Q : Int32 → CM → Prop) : Nat → Int32 → Option Nat → Int32 → CM → Prop := lit (τ := Int32 → Option Nat → Int32 → CM → Prop) (fun _ _ _ _ => False) (fun k => fc_X5_areSameAt_c9 T h Q  k)
def fc_X5_areSameAt (T : LY) (h : Nat)  (a1 : Int32) (M : CM) (Q : Int32 → CM → Prop) : Prop := (tg T h = 6 ∧ fc_X5_argumentAt T h 0 a1 M (fun (r17 : Option Nat) (M16 : CM) => (∃ nn : Nat, fc_X5_areSameAt_l9 T h Q  nn a1 r17 1 M16)))
abbrev rmX5_areSameAt : Room := { frames := 4, cells := 0, slots := 0, locals := 85 }
set_option maxHeartbeats 4000000 in
set_option maxRecDepth 100000 in
theorem tc_X5_areSameAt (l : Launch) (D : va_G) (kA : Nat → ClassId) (nm : Nat → Nat) (na : Nat) (sa sv : Nat → Nat) (sz : Nat) (T : LY) (h : Nat) (a1 : Int32) (M : CM) (Q : Int32 → CM → Prop) (hw : fc_X5_areSameAt T h a1 M Q) : Met l yX5_areSameAt wsX5_areSameAt rmX5_areSameAt (va_Pc [.ref h, .int a1] (cPc nm na sa sv D kA T M sz)) (va_Qi Q (cB D kA (cF T sz) T) (cF T sz)) 0 0 (cF T sz) := by
  refine Met.ofW (cc := cX5_areSameAt) (maxL := 5) (ret := (some .boolean)) (by decide) rfl ?_
  intro p e s m args below meth c s₁ B hml hv
  obtain ⟨rfl, hsz, hP, hK, hSt⟩ := hv
  have hx := B.exec
  have hb := B.bytes
  have hr := B.returns
  have hts := atoms_spec (ws := wsX5_areSameAt) B.pre
  have hown : s.vm.findClass RX5 = some m.cls := findClass_of_methodNamed B.named
  have hlocks : meth.locks = false := B.notSynchronized
  subst hsz
  have hH : cH D kA (cF T s.heap.size) s.heap T M s.heap [] := ⟨hP.self, va_S.rf⟩
  have hA : ∀ q : Nat, s.heap.size ≤ q → cF T s.heap.size q := fun q z => Or.inr z
  generalize cF T s.heap.size = A at hH hA hSt ⊢
  have hl := lv_entry ([.ref h, .int a1]) (n := 5) (by first | exact Nat.le_of_ble_eq_true rfl | simp [lg_sl, va_rf_cat, cat_ref, cat_int, cat_long, cat_double])
  rw [lg_entry_eq]
  generalize (lg_sl ([.ref h, .int a1]) ++ List.replicate (5 - (lg_sl ([.ref h, .int a1])).length) Slot.unset).toArray = ls at hl ⊢
  generalize ([.ref h, .int a1] : List Value).toArray = args at hts ⊢
  have hl : lv_has ls 5 [(0, .ref h), (1, .int a1)] := hl
  have hin5 : ∀ w ∈ wsX50, w ∈ wsX5_areSameAt := by decide +kernel
  have b43 : ∀ (M : CM) (H : Heap) (locs : List Loc) (ls : Array Slot), cH D kA A s.heap T M H locs → lv_has ls 5 [] → fc_X5_areSameAt_b43 T h Q   M → W p l e (headSpec wsX5_areSameAt rmX5_areSameAt).room s m args below meth c H locs 0 0 (MQ below (va_Qi Q (cB D kA A T) A) args s 0 0 A) (F0 m 43 ls []) := by
    intro    M H locs ls hH hl hw
    unfold fc_X5_areSameAt_b43 at hw
    refine lv_iconst (v := 0) hx hb dX5_areSameAt_43 (by decide) ?_
    exact c_retz hx hb hr rfl hlocks hK hH hw dX5_areSameAt_44
  have l9 : ∀ (nn : Nat) (v1 : Int32) (v2 : Option Nat) (v3 : Int32) (M : CM) (H : Heap) (locs : List Loc) (ls : Array Slot), cH D kA A s.heap T M H locs → lv_has ls 5 [(0, .ref h), (1, .int v1), (2, va_rf v2), (3, .int v3)] → fc_X5_areSameAt_l9 T h Q  nn v1 v2 v3 M → W p l e (headSpec wsX5_areSameAt rmX5_areSameAt).room s m args below meth c H locs 0 0 (MQ below (va_Qi Q (cB D kA A T) A) args s 0 0 A) (F0 m 9 ls []) := by
    intro   nn
    induction nn with
    | zero => intro v1 v2 v3 M H locs ls hH hl hw; exact False.elim hw
    | succ nn hk9 =>
      intro v1 v2 v3 M H locs ls hH hl hw
      replace hw : fc_X5_areSameAt_c9 T h Q  (fc_X5_areSameAt_l9 T h Q  nn) v1 v2 v3 M := hw
      unfold fc_X5_areSameAt_c9 at hw
      refine lv_iload_n hx hb dX5_areSameAt_9 rfl (lv_at hl 3 rfl) ?_
      refine lv_aload_n hx hb dX5_areSameAt_10 rfl (lv_at hl 0 rfl) ?_
      obtain ⟨h1, hw⟩ := hw
      refine cg_53 hx hb hts hin5 hown hK hH h1 (hts (.fieldLink RX5 24 "IdlCaller$Operation" "ables" "I") (by decide +kernel)) dX5_areSameAt_11 ?_
      refine lv_icmp_ge (tgt := 51) hx hb dX5_areSameAt_14 (by decide) (fun c2 => ?_) (fun c2 => ?_)
      · replace hw := hw.1 c2
        refine lv_iconst (v := 1) hx hb dX5_areSameAt_51 (by decide) ?_
        exact c_retz hx hb hr rfl hlocks hK hH hw dX5_areSameAt_52
      · replace hw := hw.2 c2
        refine lv_aload_n hx hb dX5_areSameAt_17 rfl (lv_at hl 0 rfl) ?_
        refine lv_iload_n hx hb dX5_areSameAt_18 rfl (lv_at hl 3 rfl) ?_
        refine lv_iload_n hx hb dX5_areSameAt_19 rfl (lv_at hl 1 rfl) ?_
        refine c_callq (va_runV (As := [.int v3, .int v1]) (rest := []) ⟨hx, hb, hml, hown, hts⟩ (tc_X5_argumentAt l D kA nm na sa sv H.size T h v3 v1 M _ hw) (cwV 2 hts gX5_areSameAt_X5_argumentAt rfl rfl rfl (by decide +kernel) ⟨(show (2 : Nat) + 1 ≤ 4 from Nat.le_of_ble_eq_true rfl), (show 8 + (4 + 11) + (35 : Nat) ≤ 85 from Nat.le_of_ble_eq_true rfl)⟩) (c_preV hK hH hA hSt (c_recv5 hK hH h1)) rfl rfl hl.1 rfl (lv_room (by first | exact Nat.le_of_ble_eq_true rfl | simp [va_rf_cat, cat_ref, cat_int, cat_long, cat_double, cat_null])) dX5_areSameAt_20 ⟨Nat.le_of_ble_eq_true rfl, Nat.le_of_ble_eq_true rfl⟩) hH hA (fun r4 M3 H locs hw hH => ?_)
        refine s_astore (i := 4) (lv' := [(4, va_rf r4), (0, .ref h), (1, .int v1), (2, va_rf v2), (3, .int v3)]) hx hb dX5_areSameAt_23 hl (by decide) (by first | rfl | simp [va_rf_cat, cat_ref, cat_int, cat_long, cat_double, cat_null]) (fun ls hl => ?_)
        refine s_aload_n hx hb dX5_areSameAt_25 rfl (lv_at hl 3 rfl) ?_
        refine s_ifnull (tgt := 43) hx hb dX5_areSameAt_26 (by decide) (fun c6 => ?_) (fun c6 => ?_)
        · replace hw := hw.1 c6
          exact b43    M3 H locs ls hH (lv_sub hl [] rfl) hw
        · replace hw := hw.2 c6
          refine s_aload hx hb dX5_areSameAt_29 (lv_at hl 0 rfl) ?_
          refine s_ifnull (tgt := 43) hx hb dX5_areSameAt_31 (by decide) (fun c7 => ?_) (fun c7 => ?_)
          · replace hw := hw.1 c7
            exact b43    M3 H locs ls hH (lv_sub hl [] rfl) hw
          · replace hw := hw.2 c7
            refine s_aload hx hb dX5_areSameAt_34 (lv_at hl 0 rfl) ?_
            refine s_aload_n hx hb dX5_areSameAt_36 rfl (lv_at hl 3 rfl) ?_
            obtain ⟨p8, ep8, hw⟩ := hw
            refine W.st (st' := [va_rf v2, .ref p8]) (by rw [ep8]; rfl) ?_
            obtain ⟨h9, hw⟩ := hw
            refine c_calli (va_runV (As := [va_rf v2]) (rest := []) ⟨hx, hb, hml, hown, hts⟩ (tc_X0_isSameAs l D kA nm na sa sv H.size T p8 v2 M3 _ hw) (cwV 1 hts gX5_areSameAt_X0_isSameAs rfl rfl rfl (by decide +kernel) ⟨(show (3 : Nat) + 1 ≤ 4 from Nat.le_of_ble_eq_true rfl), (show 8 + (2 + 11) + (64 : Nat) ≤ 85 from Nat.le_of_ble_eq_true rfl)⟩) (c_preV hK hH hA hSt (c_recv0 hK hH h9)) rfl rfl hl.1 rfl (lv_room (by first | exact Nat.le_of_ble_eq_true rfl | simp [va_rf_cat, cat_ref, cat_int, cat_long, cat_double, cat_null])) dX5_areSameAt_37 ⟨Nat.le_of_ble_eq_true rfl, Nat.le_of_ble_eq_true rfl⟩) hH hA (fun r11 M10 H locs hw hH => ?_)
            refine lv_if_ne (tgt := 45) hx hb dX5_areSameAt_40 (by decide) (fun c13 => ?_) (fun c13 => ?_)
            · replace hw := hw.1 c13
              obtain ⟨x14, ex14⟩ : ∃ y : Int32, y = v3 + 1 := ⟨_, rfl⟩
              replace hw := hw x14 ex14
              refine lv_iinc (v := x14) (lv' := [(3, .int x14), (4, va_rf r4), (0, .ref h), (1, .int v1), (2, va_rf v2)]) hx hb dX5_areSameAt_45 hl (k := 4) rfl (by rw [ex14]; rfl) (by decide) (by first | rfl | simp [va_rf_cat, cat_ref, cat_int, cat_long, cat_double, cat_null]) (fun ls hl => ?_)
              refine lv_goto (tgt := 9) hx hb dX5_areSameAt_48 (by decide) ?_
              exact hk9 v1 v2 x14 M10 H locs ls hH (lv_sub hl [2, 3, 4, 0] rfl) hw
            · replace hw := hw.2 c13
              exact b43    M10 H locs ls hH (lv_sub hl [] rfl) hw
  clear hP
  unfold fc_X5_areSameAt at hw
  have hst : ∀ (M : CM) (H : Heap) (locs : List Loc) (ls : Array Slot), cH D kA A s.heap T M H locs → lv_has ls 5 [(0, .ref h), (1, .int a1)] → (tg T h = 6 ∧ fc_X5_argumentAt T h 0 a1 M (fun (r17 : Option Nat) (M16 : CM) => (∃ nn : Nat, fc_X5_areSameAt_l9 T h Q  nn a1 r17 1 M16))) → W p l e (headSpec wsX5_areSameAt rmX5_areSameAt).room s m args below meth c H locs 0 0 (MQ below (va_Qi Q (cB D kA A T) A) args s 0 0 A) (F0 m 0 ls []) := by
    intro M H locs ls hH hl hw
    refine lv_aload_n hx hb dX5_areSameAt_0 rfl (lv_at hl 0 rfl) ?_
    refine lv_iconst (v := 0) hx hb dX5_areSameAt_1 (by decide) ?_
    refine lv_iload_n hx hb dX5_areSameAt_2 rfl (lv_at hl 1 rfl) ?_
    obtain ⟨h15, hw⟩ := hw
    refine c_callq (va_runV (As := [.int 0, .int a1]) (rest := []) ⟨hx, hb, hml, hown, hts⟩ (tc_X5_argumentAt l D kA nm na sa sv H.size T h 0 a1 M _ hw) (cwV 2 hts gX5_areSameAt_X5_argumentAt rfl rfl rfl (by decide +kernel) ⟨(show (2 : Nat) + 1 ≤ 4 from Nat.le_of_ble_eq_true rfl), (show 8 + (4 + 11) + (35 : Nat) ≤ 85 from Nat.le_of_ble_eq_true rfl)⟩) (c_preV hK hH hA hSt (c_recv5 hK hH h15)) rfl rfl hl.1 rfl (lv_room (by first | exact Nat.le_of_ble_eq_true rfl | simp [va_rf_cat, cat_ref, cat_int, cat_long, cat_double, cat_null])) dX5_areSameAt_3 ⟨Nat.le_of_ble_eq_true rfl, Nat.le_of_ble_eq_true rfl⟩) hH hA (fun r17 M16 H locs hw hH => ?_)
    refine s_astore_n (i := 2) (lv' := [(2, va_rf r17), (0, .ref h), (1, .int a1)]) hx hb dX5_areSameAt_6 rfl hl (by decide) (by first | rfl | simp [va_rf_cat, cat_ref, cat_int, cat_long, cat_double, cat_null]) (fun ls hl => ?_)
    refine lv_iconst (v := 1) hx hb dX5_areSameAt_7 (by decide) ?_
    refine lv_istore_n (i := 3) (lv' := [(3, .int 1), (2, va_rf r17), (0, .ref h), (1, .int a1)]) hx hb dX5_areSameAt_8 rfl hl (by decide) (by first | rfl | simp [va_rf_cat, cat_ref, cat_int, cat_long, cat_double, cat_null]) (fun ls hl => ?_)
    obtain ⟨nn, hw⟩ := hw
    exact l9   nn a1 r17 1 M16 H locs ls hH (lv_sub hl [2, 3, 1, 0] rfl) hw
  exact hst M s.heap [] ls hH hl hw
def fc_X5_decidingFor_c12 (nm : Nat → Nat) (T : LY) (h : Nat) (Q : Int32 → CM → Prop) (k12 : Int32 → Int32 → CM → Prop) (v1 : Int32) (v2 : Int32) (M : CM) : Prop := ((v1 ≤ v2 → Q (-1) M) ∧ (¬ v1 ≤ v2 → (tg T h = 6 ∧ fc_X5_areDistinctAt nm T h v2 M (fun (r4 : Int32) (M3 : CM) => ((r4 = 0 → fc_X5_areSameAt T h v2 M3 (fun (r8 : Int32) (M7 : CM) => ((¬ r8 = 0 → (∀ x11 : Int32, x11 = v2 + 1 → k12 v1 x11 M7)) ∧ (r8 = 0 → Q (-1) M7)))) ∧ (¬ r4 = 0 → Q v2 M3))))))
def fc_X5_decidingFor_l12 (nm : Nat → Nat) (T : LY) (h : Nat) (Q : Int32 → CM → Prop) : Nat → Int32 → Int32 → CM → Prop := lit (τ := Int32 → Int32 → CM → Prop) (fun _ _ _ => False) (fun k => fc_X5_decidingFor_c12 nm T h Q  k)
def fc_X5_decidingFor (nm : Nat → Nat) (T : LY) (h : Nat)  (a1 : Int32) (M : CM) (Q : Int32 → CM → Prop) : Prop := (tg T h = 6 ∧ ((2 ≤ (cI M 53 h) → (∃ nn : Nat, fc_X5_decidingFor_l12 nm T h Q  nn a1 0 M)) ∧ (¬ 2 ≤ (cI M 53 h) → Q (-1) M)))
abbrev rmX5_decidingFor : Room := { frames := 5, cells := 0, slots := 0, locals := 109 }
set_option maxHeartbeats 4000000 in
set_option maxRecDepth 100000 in
theorem tc_X5_decidingFor (l : Launch) (D : va_G) (kA : Nat → ClassId) (nm : Nat → Nat) (na : Nat) (sa sv : Nat → Nat) (sz : Nat) (T : LY) (h : Nat) (a1 : Int32) (M : CM) (Q : Int32 → CM → Prop) (hw : fc_X5_decidingFor nm T h a1 M Q) : Met l yX5_decidingFor wsX5_decidingFor rmX5_decidingFor (va_Pc [.ref h, .int a1] (cPc nm na sa sv D kA T M sz)) (va_Qi Q (cB D kA (cF T sz) T) (cF T sz)) 0 0 (cF T sz) := by
  refine Met.ofW (cc := cX5_decidingFor) (maxL := 3) (ret := (some .int)) (by decide) rfl ?_
  intro p e s m args below meth c s₁ B hml hv
  obtain ⟨rfl, hsz, hP, hK, hSt⟩ := hv
  have hx := B.exec
  have hb := B.bytes
  have hr := B.returns
  have hts := atoms_spec (ws := wsX5_decidingFor) B.pre
  have hown : s.vm.findClass RX5 = some m.cls := findClass_of_methodNamed B.named
  have hlocks : meth.locks = false := B.notSynchronized
  subst hsz
  have hH : cH D kA (cF T s.heap.size) s.heap T M s.heap [] := ⟨hP.self, va_S.rf⟩
  have hA : ∀ q : Nat, s.heap.size ≤ q → cF T s.heap.size q := fun q z => Or.inr z
  generalize cF T s.heap.size = A at hH hA hSt ⊢
  have hl := lv_entry ([.ref h, .int a1]) (n := 3) (by first | exact Nat.le_of_ble_eq_true rfl | simp [lg_sl, va_rf_cat, cat_ref, cat_int, cat_long, cat_double])
  rw [lg_entry_eq]
  generalize (lg_sl ([.ref h, .int a1]) ++ List.replicate (3 - (lg_sl ([.ref h, .int a1])).length) Slot.unset).toArray = ls at hl ⊢
  generalize ([.ref h, .int a1] : List Value).toArray = args at hts ⊢
  have hl : lv_has ls 3 [(0, .ref h), (1, .int a1)] := hl
  have hin5 : ∀ w ∈ wsX50, w ∈ wsX5_decidingFor := by decide +kernel
  have l12 : ∀ (nn : Nat) (v1 : Int32) (v2 : Int32) (M : CM) (H : Heap) (locs : List Loc) (ls : Array Slot), cH D kA A s.heap T M H locs → lv_has ls 3 [(0, .ref h), (1, .int v1), (2, .int v2)] → fc_X5_decidingFor_l12 nm T h Q  nn v1 v2 M → W p l e (headSpec wsX5_decidingFor rmX5_decidingFor).room s m args below meth c H locs 0 0 (MQ below (va_Qi Q (cB D kA A T) A) args s 0 0 A) (F0 m 12 ls []) := by
    intro   nn
    induction nn with
    | zero => intro v1 v2 M H locs ls hH hl hw; exact False.elim hw
    | succ nn hk12 =>
      intro v1 v2 M H locs ls hH hl hw
      replace hw : fc_X5_decidingFor_c12 nm T h Q  (fc_X5_decidingFor_l12 nm T h Q  nn) v1 v2 M := hw
      unfold fc_X5_decidingFor_c12 at hw
      refine lv_iload_n hx hb dX5_decidingFor_12 rfl (lv_at hl 2 rfl) ?_
      refine lv_iload_n hx hb dX5_decidingFor_13 rfl (lv_at hl 1 rfl) ?_
      refine lv_icmp_ge (tgt := 43) hx hb dX5_decidingFor_14 (by decide) (fun c1 => ?_) (fun c1 => ?_)
      · replace hw := hw.1 c1
        refine lv_iconst (v := (-1)) hx hb dX5_decidingFor_43 (by decide) ?_
        exact c_reti hx hb hr hlocks hK hH hw dX5_decidingFor_44
      · replace hw := hw.2 c1
        refine lv_aload_n hx hb dX5_decidingFor_17 rfl (lv_at hl 0 rfl) ?_
        refine lv_iload_n hx hb dX5_decidingFor_18 rfl (lv_at hl 2 rfl) ?_
        obtain ⟨h2, hw⟩ := hw
        refine c_calli (va_runV (As := [.int v2]) (rest := []) ⟨hx, hb, hml, hown, hts⟩ (tc_X5_areDistinctAt l D kA nm na sa sv H.size T h v2 M _ hw) (cwV 1 hts gX5_decidingFor_X5_areDistinctAt rfl rfl rfl (by decide +kernel) ⟨(show (4 : Nat) + 1 ≤ 5 from Nat.le_of_ble_eq_true rfl), (show 8 + (6 + 11) + (81 : Nat) ≤ 109 from Nat.le_of_ble_eq_true rfl)⟩) (c_preV hK hH hA hSt (c_recv5 hK hH h2)) rfl rfl hl.1 rfl (lv_room (by first | exact Nat.le_of_ble_eq_true rfl | simp [va_rf_cat, cat_ref, cat_int, cat_long, cat_double, cat_null])) dX5_decidingFor_19 ⟨Nat.le_of_ble_eq_true rfl, Nat.le_of_ble_eq_true rfl⟩) hH hA (fun r4 M3 H locs hw hH => ?_)
        refine lv_if_eq (tgt := 27) hx hb dX5_decidingFor_22 (by decide) (fun c6 => ?_) (fun c6 => ?_)
        · replace hw := hw.1 c6
          refine lv_aload_n hx hb dX5_decidingFor_27 rfl (lv_at hl 0 rfl) ?_
          refine lv_iload_n hx hb dX5_decidingFor_28 rfl (lv_at hl 2 rfl) ?_
          refine c_calli (va_runV (As := [.int v2]) (rest := []) ⟨hx, hb, hml, hown, hts⟩ (tc_X5_areSameAt l D kA nm na sa sv H.size T h v2 M3 _ hw) (cwV 1 hts gX5_decidingFor_X5_areSameAt rfl rfl rfl (by decide +kernel) ⟨(show (4 : Nat) + 1 ≤ 5 from Nat.le_of_ble_eq_true rfl), (show 8 + (5 + 11) + (85 : Nat) ≤ 109 from Nat.le_of_ble_eq_true rfl)⟩) (c_preV hK hH hA hSt (c_recv5 hK hH h2)) rfl rfl hl.1 rfl (lv_room (by first | exact Nat.le_of_ble_eq_true rfl | simp [va_rf_cat, cat_ref, cat_int, cat_long, cat_double, cat_null])) dX5_decidingFor_29 ⟨Nat.le_of_ble_eq_true rfl, Nat.le_of_ble_eq_true rfl⟩) hH hA (fun r8 M7 H locs hw hH => ?_)
          refine lv_if_ne (tgt := 37) hx hb dX5_decidingFor_32 (by decide) (fun c10 => ?_) (fun c10 => ?_)
          · replace hw := hw.1 c10
            obtain ⟨x11, ex11⟩ : ∃ y : Int32, y = v2 + 1 := ⟨_, rfl⟩
            replace hw := hw x11 ex11
            refine lv_iinc (v := x11) (lv' := [(2, .int x11), (0, .ref h), (1, .int v1)]) hx hb dX5_decidingFor_37 hl (k := 2) rfl (by rw [ex11]; rfl) (by decide) rfl (fun ls hl => ?_)
            refine lv_goto (tgt := 12) hx hb dX5_decidingFor_40 (by decide) ?_
            exact hk12 v1 x11 M7 H locs ls hH (lv_sub hl [1, 2, 0] rfl) hw
          · replace hw := hw.2 c10
            refine lv_iconst (v := (-1)) hx hb dX5_decidingFor_35 (by decide) ?_
            exact c_reti hx hb hr hlocks hK hH hw dX5_decidingFor_36
        · replace hw := hw.2 c6
          refine lv_iload_n hx hb dX5_decidingFor_25 rfl (lv_at hl 2 rfl) ?_
          exact c_reti hx hb hr hlocks hK hH hw dX5_decidingFor_26
  clear hP
  unfold fc_X5_decidingFor at hw
  have hst : ∀ (M : CM) (H : Heap) (locs : List Loc) (ls : Array Slot), cH D kA A s.heap T M H locs → lv_has ls 3 [(0, .ref h), (1, .int a1)] → (tg T h = 6 ∧ ((2 ≤ (cI M 53 h) → (∃ nn : Nat, fc_X5_decidingFor_l12 nm T h Q  nn a1 0 M)) ∧ (¬ 2 ≤ (cI M 53 h) → Q (-1) M))) → W p l e (headSpec wsX5_decidingFor rmX5_decidingFor).room s m args below meth c H locs 0 0 (MQ below (va_Qi Q (cB D kA A T) A) args s 0 0 A) (F0 m 0 ls []) := by
    intro M H locs ls hH hl hw
    refine lv_aload_n hx hb dX5_decidingFor_0 rfl (lv_at hl 0 rfl) ?_
    obtain ⟨h12, hw⟩ := hw
    refine cg_53 hx hb hts hin5 hown hK hH h12 (hts (.fieldLink RX5 24 "IdlCaller$Operation" "ables" "I") (by decide +kernel)) dX5_decidingFor_1 ?_
    refine lv_iconst (v := 2) hx hb dX5_decidingFor_4 (by decide) ?_
    refine lv_icmp_ge (tgt := 10) hx hb dX5_decidingFor_5 (by decide) (fun c13 => ?_) (fun c13 => ?_)
    · replace hw := hw.1 c13
      refine lv_iconst (v := 0) hx hb dX5_decidingFor_10 (by decide) ?_
      refine lv_istore_n (i := 2) (lv' := [(2, .int 0), (0, .ref h), (1, .int a1)]) hx hb dX5_decidingFor_11 rfl hl (by decide) rfl (fun ls hl => ?_)
      obtain ⟨nn, hw⟩ := hw
      exact l12   nn a1 0 M H locs ls hH (lv_sub hl [1, 2, 0] rfl) hw
    · replace hw := hw.2 c13
      refine lv_iconst (v := (-1)) hx hb dX5_decidingFor_8 (by decide) ?_
      exact c_reti hx hb hr hlocks hK hH hw dX5_decidingFor_9
  exact hst M s.heap [] ls hH hl hw
def fc_X5_clashOf_b41 (nm : Nat → Nat) (T : LY) (h : Nat) (Q : Int32 → CM → Prop) (k2 : Option Nat → Int32 → CM → Prop) (v1 : Option Nat) (v2 : Int32) (M : CM) : Prop := (∀ x1 : Int32, x1 = v2 + 1 → k2 v1 x1 M)
def fc_X5_clashOf_c2 (nm : Nat → Nat) (T : LY) (h : Nat) (Q : Int32 → CM → Prop) (k2 : Option Nat → Int32 → CM → Prop) (v1 : Option Nat) (v2 : Int32) (M : CM) : Prop := ((8 < v2 → Q (-1) M) ∧ (¬ 8 < v2 → (∃ p3 : Nat, v1 = some p3 ∧ (tg T p3 = 3 ∧ fc_X2_canBeCalledWith T p3 v2 M (fun (r6 : Int32) (M5 : CM) => ((r6 = 0 → fc_X5_clashOf_b41 nm T h Q k2 v1 v2 M5) ∧ (¬ r6 = 0 → (tg T h = 6 ∧ fc_X5_gather T h v2 v1 M5 (fun (M10 : CM) => (((cI M10 53 h) ≤ 1 → fc_X5_clashOf_b41 nm T h Q k2 v1 v2 M10) ∧ (¬ (cI M10 53 h) ≤ 1 → fc_X5_decidingFor nm T h v2 M10 (fun (r15 : Int32) (M14 : CM) => ((¬ r15 = (-1) → fc_X5_clashOf_b41 nm T h Q k2 v1 v2 M14) ∧ (r15 = (-1) → Q v2 M14))))))))))))))
def fc_X5_clashOf_l2 (nm : Nat → Nat) (T : LY) (h : Nat) (Q : Int32 → CM → Prop) : Nat → Option Nat → Int32 → CM → Prop := lit (τ := Option Nat → Int32 → CM → Prop) (fun _ _ _ => False) (fun k => fc_X5_clashOf_c2 nm T h Q  k)
def fc_X5_clashOf (nm : Nat → Nat) (T : LY) (h : Nat)  (a1 : Option Nat) (M : CM) (Q : Int32 → CM → Prop) : Prop := (∃ nn : Nat, fc_X5_clashOf_l2 nm T h Q  nn a1 0 M)
abbrev rmX5_clashOf : Room := { frames := 6, cells := 0, slots := 0, locals := 131 }
set_option maxHeartbeats 4000000 in
set_option maxRecDepth 100000 in
theorem tc_X5_clashOf (l : Launch) (D : va_G) (kA : Nat → ClassId) (nm : Nat → Nat) (na : Nat) (sa sv : Nat → Nat) (sz : Nat) (T : LY) (h : Nat) (a1 : Option Nat) (M : CM) (Q : Int32 → CM → Prop) (hw : fc_X5_clashOf nm T h a1 M Q) : Met l yX5_clashOf wsX5_clashOf rmX5_clashOf (va_Pc [.ref h, va_rf a1] (cPc nm na sa sv D kA T M sz)) (va_Qi Q (cB D kA (cF T sz) T) (cF T sz)) 0 0 (cF T sz) := by
  refine Met.ofW (cc := cX5_clashOf) (maxL := 3) (ret := (some .int)) (by decide) rfl ?_
  intro p e s m args below meth c s₁ B hml hv
  obtain ⟨rfl, hsz, hP, hK, hSt⟩ := hv
  have hx := B.exec
  have hb := B.bytes
  have hr := B.returns
  have hts := atoms_spec (ws := wsX5_clashOf) B.pre
  have hown : s.vm.findClass RX5 = some m.cls := findClass_of_methodNamed B.named
  have hlocks : meth.locks = false := B.notSynchronized
  subst hsz
  have hH : cH D kA (cF T s.heap.size) s.heap T M s.heap [] := ⟨hP.self, va_S.rf⟩
  have hA : ∀ q : Nat, s.heap.size ≤ q → cF T s.heap.size q := fun q z => Or.inr z
  generalize cF T s.heap.size = A at hH hA hSt ⊢
  have hl := lv_entry ([.ref h, va_rf a1]) (n := 3) (by first | exact Nat.le_of_ble_eq_true rfl | simp [lg_sl, va_rf_cat, cat_ref, cat_int, cat_long, cat_double])
  rw [lg_entry_eq]
  generalize (lg_sl ([.ref h, va_rf a1]) ++ List.replicate (3 - (lg_sl ([.ref h, va_rf a1])).length) Slot.unset).toArray = ls at hl ⊢
  generalize ([.ref h, va_rf a1] : List Value).toArray = args at hts ⊢
  have hl : lv_has ls 3 [(0, .ref h), (1, va_rf a1)] := by simpa [lv_args, va_rf_cat, cat_ref, cat_int, cat_long, cat_double] using hl
  have hin5 : ∀ w ∈ wsX50, w ∈ wsX5_clashOf := by decide +kernel
  have b41 : ∀ (k2 : Option Nat → Int32 → CM → Prop) (hk2 : ∀ (v1 : Option Nat) (v2 : Int32) (M : CM) (H : Heap) (locs : List Loc) (ls : Array Slot), cH D kA A s.heap T M H locs → lv_has ls 3 [(0, .ref h), (1, va_rf v1), (2, .int v2)] → k2 v1 v2 M → W p l e (headSpec wsX5_clashOf rmX5_clashOf).room s m args below meth c H locs 0 0 (MQ below (va_Qi Q (cB D kA A T) A) args s 0 0 A) (F0 m 2 ls [])) (v1 : Option Nat) (v2 : Int32) (M : CM) (H : Heap) (locs : List Loc) (ls : Array Slot), cH D kA A s.heap T M H locs → lv_has ls 3 [(0, .ref h), (1, va_rf v1), (2, .int v2)] → fc_X5_clashOf_b41 nm T h Q k2 v1 v2 M → W p l e (headSpec wsX5_clashOf rmX5_clashOf).room s m args below meth c H locs 0 0 (MQ below (va_Qi Q (cB D kA A T) A) args s 0 0 A) (F0 m 41 ls []) := by
    intro k2 hk2 v1 v2 M H locs ls hH hl hw
    unfold fc_X5_clashOf_b41 at hw
    obtain ⟨x1, ex1⟩ : ∃ y : Int32, y = v2 + 1 := ⟨_, rfl⟩
    replace hw := hw x1 ex1
    refine lv_iinc (v := x1) (lv' := [(2, .int x1), (0, .ref h), (1, va_rf v1)]) hx hb dX5_clashOf_41 hl (k := 2) rfl (by rw [ex1]; rfl) (by decide) (by first | rfl | simp [va_rf_cat, cat_ref, cat_int, cat_long, cat_double, cat_null]) (fun ls hl => ?_)
    refine lv_goto (tgt := 2) hx hb dX5_clashOf_44 (by decide) ?_
    exact hk2 v1 x1 M H locs ls hH (lv_sub hl [1, 2, 0] rfl) hw
  have l2 : ∀ (nn : Nat) (v1 : Option Nat) (v2 : Int32) (M : CM) (H : Heap) (locs : List Loc) (ls : Array Slot), cH D kA A s.heap T M H locs → lv_has ls 3 [(0, .ref h), (1, va_rf v1), (2, .int v2)] → fc_X5_clashOf_l2 nm T h Q  nn v1 v2 M → W p l e (headSpec wsX5_clashOf rmX5_clashOf).room s m args below meth c H locs 0 0 (MQ below (va_Qi Q (cB D kA A T) A) args s 0 0 A) (F0 m 2 ls []) := by
    intro   nn
    induction nn with
    | zero => intro v1 v2 M H locs ls hH hl hw; exact False.elim hw
    | succ nn hk2 =>
      intro v1 v2 M H locs ls hH hl hw
      replace hw : fc_X5_clashOf_c2 nm T h Q  (fc_X5_clashOf_l2 nm T h Q  nn) v1 v2 M := hw
      unfold fc_X5_clashOf_c2 at hw
      refine lv_iload_n hx hb dX5_clashOf_2 rfl (lv_at hl 2 rfl) ?_
      refine lv_bipush (v := 8) hx hb dX5_clashOf_3 (by decide) ?_
      refine lv_icmp_gt (tgt := 47) hx hb dX5_clashOf_5 (by decide) (fun c2 => ?_) (fun c2 => ?_)
      · replace hw := hw.1 c2
        refine lv_iconst (v := (-1)) hx hb dX5_clashOf_47 (by decide) ?_
        exact c_reti hx hb hr hlocks hK hH hw dX5_clashOf_48
      · replace hw := hw.2 c2
        refine s_aload_n hx hb dX5_clashOf_8 rfl (lv_at hl 1 rfl) ?_
        refine lv_iload_n hx hb dX5_clashOf_9 rfl (lv_at hl 2 rfl) ?_
        obtain ⟨p3, ep3, hw⟩ := hw
        refine W.st (st' := [.int v2, .ref p3]) (by rw [ep3]; rfl) ?_
        obtain ⟨h4, hw⟩ := hw
        refine c_calli (va_runV (As := [.int v2]) (rest := []) ⟨hx, hb, hml, hown, hts⟩ (tc_X2_canBeCalledWith l D kA nm na sa sv H.size T p3 v2 M _ hw) (cwV 1 hts gX5_clashOf_X2_canBeCalledWith rfl rfl rfl (by decide +kernel) ⟨(show (3 : Nat) + 1 ≤ 6 from Nat.le_of_ble_eq_true rfl), (show 8 + (2 + 11) + (57 : Nat) ≤ 131 from Nat.le_of_ble_eq_true rfl)⟩) (c_preV hK hH hA hSt (c_recv2 hK hH h4)) rfl rfl hl.1 rfl (lv_room (by first | exact Nat.le_of_ble_eq_true rfl | simp [va_rf_cat, cat_ref, cat_int, cat_long, cat_double, cat_null])) dX5_clashOf_10 ⟨Nat.le_of_ble_eq_true rfl, Nat.le_of_ble_eq_true rfl⟩) hH hA (fun r6 M5 H locs hw hH => ?_)
        refine lv_if_eq (tgt := 41) hx hb dX5_clashOf_13 (by decide) (fun c8 => ?_) (fun c8 => ?_)
        · replace hw := hw.1 c8
          exact b41 _ hk2 v1 v2 M5 H locs ls hH (lv_sub hl [0, 1, 2] rfl) hw
        · replace hw := hw.2 c8
          refine lv_aload_n hx hb dX5_clashOf_16 rfl (lv_at hl 0 rfl) ?_
          refine lv_iload_n hx hb dX5_clashOf_17 rfl (lv_at hl 2 rfl) ?_
          refine s_aload_n hx hb dX5_clashOf_18 rfl (lv_at hl 1 rfl) ?_
          obtain ⟨h9, hw⟩ := hw
          refine c_callv (va_runV (As := [.int v2, va_rf v1]) (rest := []) ⟨hx, hb, hml, hown, hts⟩ (tc_X5_gather l D kA nm na sa sv H.size T h v2 v1 M5 _ hw) (cwV 2 hts gX5_clashOf_X5_gather rfl rfl rfl (by decide +kernel) ⟨(show (5 : Nat) + 1 ≤ 6 from Nat.le_of_ble_eq_true rfl), (show 8 + (4 + 11) + (100 : Nat) ≤ 131 from Nat.le_of_ble_eq_true rfl)⟩) (c_preV hK hH hA hSt (c_recv5 hK hH h9)) rfl rfl hl.1 rfl (lv_room (by first | exact Nat.le_of_ble_eq_true rfl | simp [va_rf_cat, cat_ref, cat_int, cat_long, cat_double, cat_null])) dX5_clashOf_19 ⟨Nat.le_of_ble_eq_true rfl, Nat.le_of_ble_eq_true rfl⟩) hH hA (fun M10 H locs hw hH => ?_)
          refine lv_aload_n hx hb dX5_clashOf_22 rfl (lv_at hl 0 rfl) ?_
          refine cg_53 hx hb hts hin5 hown hK hH h9 (hts (.fieldLink RX5 24 "IdlCaller$Operation" "ables" "I") (by decide +kernel)) dX5_clashOf_23 ?_
          refine lv_iconst (v := 1) hx hb dX5_clashOf_26 (by decide) ?_
          refine lv_icmp_le (tgt := 41) hx hb dX5_clashOf_27 (by decide) (fun c13 => ?_) (fun c13 => ?_)
          · replace hw := hw.1 c13
            exact b41 _ hk2 v1 v2 M10 H locs ls hH (lv_sub hl [0, 1, 2] rfl) hw
          · replace hw := hw.2 c13
            refine lv_aload_n hx hb dX5_clashOf_30 rfl (lv_at hl 0 rfl) ?_
            refine lv_iload_n hx hb dX5_clashOf_31 rfl (lv_at hl 2 rfl) ?_
            refine c_calli (va_runV (As := [.int v2]) (rest := []) ⟨hx, hb, hml, hown, hts⟩ (tc_X5_decidingFor l D kA nm na sa sv H.size T h v2 M10 _ hw) (cwV 1 hts gX5_clashOf_X5_decidingFor rfl rfl rfl (by decide +kernel) ⟨(show (5 : Nat) + 1 ≤ 6 from Nat.le_of_ble_eq_true rfl), (show 8 + (3 + 11) + (109 : Nat) ≤ 131 from Nat.le_of_ble_eq_true rfl)⟩) (c_preV hK hH hA hSt (c_recv5 hK hH h9)) rfl rfl hl.1 rfl (lv_room (by first | exact Nat.le_of_ble_eq_true rfl | simp [va_rf_cat, cat_ref, cat_int, cat_long, cat_double, cat_null])) dX5_clashOf_32 ⟨Nat.le_of_ble_eq_true rfl, Nat.le_of_ble_eq_true rfl⟩) hH hA (fun r15 M14 H locs hw hH => ?_)
            refine lv_iconst (v := (-1)) hx hb dX5_clashOf_35 (by decide) ?_
            refine lv_icmp_ne (tgt := 41) hx hb dX5_clashOf_36 (by decide) (fun c17 => ?_) (fun c17 => ?_)
            · replace hw := hw.1 c17
              exact b41 _ hk2 v1 v2 M14 H locs ls hH (lv_sub hl [0, 1, 2] rfl) hw
            · replace hw := hw.2 c17
              refine lv_iload_n hx hb dX5_clashOf_39 rfl (lv_at hl 2 rfl) ?_
              exact c_reti hx hb hr hlocks hK hH hw dX5_clashOf_40
  clear hP
  unfold fc_X5_clashOf at hw
  have hst : ∀ (M : CM) (H : Heap) (locs : List Loc) (ls : Array Slot), cH D kA A s.heap T M H locs → lv_has ls 3 [(0, .ref h), (1, va_rf a1)] → (∃ nn : Nat, fc_X5_clashOf_l2 nm T h Q  nn a1 0 M) → W p l e (headSpec wsX5_clashOf rmX5_clashOf).room s m args below meth c H locs 0 0 (MQ below (va_Qi Q (cB D kA A T) A) args s 0 0 A) (F0 m 0 ls []) := by
    intro M H locs ls hH hl hw
    refine lv_iconst (v := 0) hx hb dX5_clashOf_0 (by decide) ?_
    refine lv_istore_n (i := 2) (lv' := [(2, .int 0), (0, .ref h), (1, va_rf a1)]) hx hb dX5_clashOf_1 rfl hl (by decide) (by first | rfl | simp [va_rf_cat, cat_ref, cat_int, cat_long, cat_double, cat_null]) (fun ls hl => ?_)
    obtain ⟨nn, hw⟩ := hw
    exact l2   nn a1 0 M H locs ls hH (lv_sub hl [1, 2, 0] rfl) hw
  exact hst M s.heap [] ls hH hl hw
