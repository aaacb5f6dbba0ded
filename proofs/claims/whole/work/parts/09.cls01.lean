def nB (v : Int32) : Prop := narrow .byte (.int v) = .int v ∧ fits .byte (.int v) = true
def fc_X7_init (mc ms : Nat) (h : Nat)  (a1 : Int32) (T : LY) (M : CM) (Q : LY → CM → Prop) : Prop := (tg T h = 8 ∧ (∀ M2 : CM, M2 = sI M 71 h 0 → (¬ (if a1 < 0 then 0 else a1) < 0 ∧ ((if a1 < 0 then 0 else a1).toNatClampNeg ≤ 60000000 ∧ (0 + 1 ≤ mc ∧ (0 + (if a1 < 0 then 0 else a1).toNatClampNeg ≤ ms ∧ (∀ (q3 : Nat) (T4 : LY) (M5 : CM), tg T q3 = 0 → T4 = mkT T 20 ((if a1 < 0 then 0 else a1).toNatClampNeg) q3 → M5 = mkM M2 q3 → (tg T4 h = 8 ∧ (∀ M11 : CM, M11 = sR M5 70 h (some q3) → (0 + 1 ≤ mc ∧ 0 + (if a1 < 0 then 0 else a1).toNatClampNeg ≤ ms ∧ Q T4 M11))))))))))
abbrev rmX7_init (mc ms : Nat) : Room := { frames := 1, cells := mc, slots := ms, locals := 14 }
set_option maxHeartbeats 4000000 in
set_option maxRecDepth 100000 in
theorem tc_X7_init (l : Launch) (D : va_G) (kA : Nat → ClassId) (nm : Nat → Nat) (na : Nat) (sa sv : Nat → Nat) (sz : Nat) (mc ms : Nat) (h : Nat) (a1 : Int32) (T : LY) (M : CM) (Q : LY → CM → Prop) (hw : fc_X7_init mc ms h a1 T M Q) : Met l yX7_init wsX7_init (rmX7_init mc ms) (va_Pc [.ref h, .int a1] (cPc nm na sa sv D kA T M sz)) (va_Qv (fun (u : LY × CM) => Q u.1 u.2) (cBT D kA (cF T sz)) (cF T sz)) mc ms (cF T sz) := by
  refine Met.ofW (cc := cX7_init) (maxL := 2) (ret := none) (by decide) rfl ?_
  intro p e s m args below meth c s₁ B hml hv
  obtain ⟨rfl, hsz, hP, hK, hSt⟩ := hv
  have hx := B.exec
  have hb := B.bytes
  have hr := B.returns
  have hts := atoms_spec (ws := wsX7_init) B.pre
  have hown : s.vm.findClass RX7 = some m.cls := findClass_of_methodNamed B.named
  have hlocks : meth.locks = false := B.notSynchronized
  have hini : meth.name = "<init>" := (name_of_methodNamed B.named B.method).1
  subst hsz
  have hH : cH D kA (cF T s.heap.size) s.heap T M s.heap [] := ⟨hP.self, va_S.rf⟩
  have hA : ∀ q : Nat, s.heap.size ≤ q → cF T s.heap.size q := fun q z => Or.inr z
  generalize cF T s.heap.size = A at hH hA hSt ⊢
  have hl := lv_entry ([.ref h, .int a1]) (n := 2) (by first | exact Nat.le_of_ble_eq_true rfl | simp [lg_sl, va_rf_cat, cat_ref, cat_int, cat_long, cat_double])
  rw [lg_entry_eq]
  generalize (lg_sl ([.ref h, .int a1]) ++ List.replicate (2 - (lg_sl ([.ref h, .int a1])).length) Slot.unset).toArray = ls at hl ⊢
  generalize ([.ref h, .int a1] : List Value).toArray = args at hts ⊢
  have hl : lv_has ls 2 [(0, .ref h), (1, .int a1)] := hl
  have hin7 : ∀ w ∈ wsX70, w ∈ wsX7_init := by decide +kernel
  clear hP
  unfold fc_X7_init at hw
  have hst : ∀ (T : LY) (M : CM) (H : Heap) (locs : List Loc) (ls : Array Slot), cH D kA A s.heap T M H locs → lv_has ls 2 [(0, .ref h), (1, .int a1)] → (tg T h = 8 ∧ (∀ M2 : CM, M2 = sI M 71 h 0 → (¬ (if a1 < 0 then 0 else a1) < 0 ∧ ((if a1 < 0 then 0 else a1).toNatClampNeg ≤ 60000000 ∧ (0 + 1 ≤ mc ∧ (0 + (if a1 < 0 then 0 else a1).toNatClampNeg ≤ ms ∧ (∀ (q3 : Nat) (T4 : LY) (M5 : CM), tg T q3 = 0 → T4 = mkT T 20 ((if a1 < 0 then 0 else a1).toNatClampNeg) q3 → M5 = mkM M2 q3 → (tg T4 h = 8 ∧ (∀ M11 : CM, M11 = sR M5 70 h (some q3) → (0 + 1 ≤ mc ∧ 0 + (if a1 < 0 then 0 else a1).toNatClampNeg ≤ ms ∧ Q T4 M11)))))))))) → W p l e (headSpec wsX7_init (rmX7_init mc ms)).room s m args below meth c H locs 0 0 (MQ below (va_Qv (fun (u : LY × CM) => Q u.1 u.2) (cBT D kA A) A) args s mc ms A) (F0 m 0 ls []) := by
    intro T M H locs ls hH hl hw
    refine lv_aload_n hx hb dX7_init_0 rfl (lv_at hl 0 rfl) ?_
    refine W.objInit hx hb hown (hts (.methodLink RX7 3 objectInit) (by decide +kernel)) (hts (.instanceMethod objectInit) (by decide +kernel)) (hts (.code objectInit ⟨#[0xb1]⟩ 1 none) (by decide +kernel)) rfl (by rw [hml]; exact hl.1) rfl dX7_init_1 ((show _ ≤ (1 : Nat) from by first | exact Nat.le_of_ble_eq_true rfl | simp [va_rf_cat, cat_ref, cat_int, cat_long, cat_double, cat_null])) ((show _ ≤ (14 : Nat) from by first | exact Nat.le_of_ble_eq_true rfl | simp [va_rf_cat, cat_ref, cat_int, cat_long, cat_double, cat_null])) ?_
    refine W.eq (g2 := F0 m 4 ls []) rfl ?_
    refine lv_aload_n hx hb dX7_init_4 rfl (lv_at hl 0 rfl) ?_
    refine lv_iconst (v := 0) hx hb dX7_init_5 (by decide) ?_
    obtain ⟨h1, hw⟩ := hw
    refine cp_71 (x := 0) hx hb hts hin7 hown hK hH h1 (hts (.fieldLink RX7 9 "IdlCaller$Text" "length" "I") (by decide +kernel)) dX7_init_6 (fun M2 H locs eM2 hH => ?_)
    replace hw := hw M2 eM2
    refine lv_aload_n hx hb dX7_init_9 rfl (lv_at hl 0 rfl) ?_
    refine lv_iload_n hx hb dX7_init_10 rfl (lv_at hl 1 rfl) ?_
    refine lv_iconst (v := 0) hx hb dX7_init_11 (by decide) ?_
    refine va_mmax hx hb (by rw [hml]; exact hl.1.symm) hown (hts (.methodLink RX7 15 Lib.Math.max.name) (by decide +kernel)) (hts (.static Lib.Math.max.name) (by decide +kernel)) (hts (.initialized "java/lang/Math") (by decide +kernel)) (hts (.code Lib.Math.max.name Lib.Math.max.code 2 (some .int)) (by decide +kernel)) ((show _ ≤ (1 : Nat) from by first | exact Nat.le_of_ble_eq_true rfl | simp [va_rf_cat, cat_ref, cat_int, cat_long, cat_double, cat_null])) ((show _ ≤ (14 : Nat) from by first | exact Nat.le_of_ble_eq_true rfl | simp [va_rf_cat, cat_ref, cat_int, cat_long, cat_double, cat_null])) (Nat.zero_le _) (Nat.zero_le _) dX7_init_12 ?_
    obtain ⟨h6, hw⟩ := hw
    obtain ⟨h7, hw⟩ := hw
    obtain ⟨h8, hw⟩ := hw
    obtain ⟨h9, hw⟩ := hw
    refine cnewa_0 hx hb (hts (.arrayClass .char) (by decide +kernel)) hK hH hA h6 rfl h7 h8 h9 dX7_init_15 (fun q3 H zq3 hH => ?_)
    obtain ⟨T4, eT4⟩ : ∃ z, z = mkT T 20 ((if a1 < 0 then 0 else a1).toNatClampNeg) q3 := ⟨_, rfl⟩
    obtain ⟨M5, eM5⟩ : ∃ z, z = mkM M2 q3 := ⟨_, rfl⟩
    replace hw := hw q3 T4 M5 zq3 eT4 eM5
    rw [← eT4, ← eM5] at hH
    obtain ⟨h10, hw⟩ := hw
    refine cp_70 (x := (some q3)) hx hb hts hin7 hown hK hH h10 rfl hini (hts (.fieldLink RX7 21 "IdlCaller$Text" "signs" "[C") (by decide +kernel)) dX7_init_17 (fun M11 H locs eM11 hH => ?_)
    replace hw := hw M11 eM11
    exact c_retTv hw.1 hw.2.1 hx hb hr hlocks hK hH hw.2.2 dX7_init_20
  exact hst T M s.heap [] ls hH hl hw
def fc_X7_signsIn_b22 (T : LY) (Q : Int32 → CM → Prop) (k5 : Int32 → Int32 → Int32 → CM → Prop) (v0 : Int32) (v1 : Int32) (v2 : Int32) (M : CM) : Prop := (∀ x1 : Int32, x1 = v2 + (-8) → k5 v0 v1 x1 M)
def fc_X7_signsIn_c5 (T : LY) (Q : Int32 → CM → Prop) (k5 : Int32 → Int32 → Int32 → CM → Prop) (v0 : Int32) (v1 : Int32) (v2 : Int32) (M : CM) : Prop := ((v2 < 0 → Q v1 M) ∧ (¬ v2 < 0 → (((((v0.toUInt32 >>> (v2.toUInt32 &&& Int32.toUInt32 31)).toInt32) &&& 255) = 0 → fc_X7_signsIn_b22 T Q k5 v0 v1 v2 M) ∧ (¬ (((v0.toUInt32 >>> (v2.toUInt32 &&& Int32.toUInt32 31)).toInt32) &&& 255) = 0 → (∀ x4 : Int32, x4 = v1 + 1 → fc_X7_signsIn_b22 T Q k5 v0 x4 v2 M)))))
def fc_X7_signsIn_l5 (T : LY) (Q : Int32 → CM → Prop) : Nat → Int32 → Int32 → Int32 → CM → Prop := lit (τ := Int32 → Int32 → Int32 → CM → Prop) (fun _ _ _ _ => False) (fun k => fc_X7_signsIn_c5 T Q  k)
def fc_X7_signsIn (T : LY)  (a1 : Int32) (M : CM) (Q : Int32 → CM → Prop) : Prop := (∃ nn : Nat, fc_X7_signsIn_l5 T Q  nn a1 0 24 M)
abbrev rmX7_signsIn : Room := { frames := 0, cells := 0, slots := 0, locals := 0 }
set_option maxHeartbeats 4000000 in
set_option maxRecDepth 100000 in
theorem tc_X7_signsIn (l : Launch) (D : va_G) (kA : Nat → ClassId) (nm : Nat → Nat) (na : Nat) (sa sv : Nat → Nat) (sz : Nat) (T : LY) (a1 : Int32) (M : CM) (Q : Int32 → CM → Prop) (hw : fc_X7_signsIn T a1 M Q) : Met l yX7_signsIn wsX7_signsIn rmX7_signsIn (va_Pc [.int a1] (cPc nm na sa sv D kA T M sz)) (va_Qi Q (cB D kA (cF T sz) T) (cF T sz)) 0 0 (cF T sz) := by
  refine Met.ofW (cc := cX7_signsIn) (maxL := 3) (ret := (some .int)) (by decide) rfl ?_
  intro p e s m args below meth c s₁ B hml hv
  obtain ⟨rfl, hsz, hP, hK, hSt⟩ := hv
  have hx := B.exec
  have hb := B.bytes
  have hr := B.returns
  have hts := atoms_spec (ws := wsX7_signsIn) B.pre
  have hown : s.vm.findClass RX7 = some m.cls := findClass_of_methodNamed B.named
  have hlocks : meth.locks = false := B.notSynchronized
  subst hsz
  have hH : cH D kA (cF T s.heap.size) s.heap T M s.heap [] := ⟨hP.self, va_S.rf⟩
  have hA : ∀ q : Nat, s.heap.size ≤ q → cF T s.heap.size q := fun q z => Or.inr z
  generalize cF T s.heap.size = A at hH hA hSt ⊢
  have hl := lv_entry ([.int a1]) (n := 3) (by first | exact Nat.le_of_ble_eq_true rfl | simp [lg_sl, va_rf_cat, cat_ref, cat_int, cat_long, cat_double])
  rw [lg_entry_eq]
  generalize (lg_sl ([.int a1]) ++ List.replicate (3 - (lg_sl ([.int a1])).length) Slot.unset).toArray = ls at hl ⊢
  generalize ([.int a1] : List Value).toArray = args at hts ⊢
  have hl : lv_has ls 3 [(0, .int a1)] := hl
  have b22 : ∀ (k5 : Int32 → Int32 → Int32 → CM → Prop) (hk5 : ∀ (v0 : Int32) (v1 : Int32) (v2 : Int32) (M : CM) (H : Heap) (locs : List Loc) (ls : Array Slot), cH D kA A s.heap T M H locs → lv_has ls 3 [(0, .int v0), (1, .int v1), (2, .int v2)] → k5 v0 v1 v2 M → W p l e (headSpec wsX7_signsIn rmX7_signsIn).room s m args below meth c H locs 0 0 (MQ below (va_Qi Q (cB D kA A T) A) args s 0 0 A) (F0 m 5 ls [])) (v0 : Int32) (v1 : Int32) (v2 : Int32) (M : CM) (H : Heap) (locs : List Loc) (ls : Array Slot), cH D kA A s.heap T M H locs → lv_has ls 3 [(0, .int v0), (1, .int v1), (2, .int v2)] → fc_X7_signsIn_b22 T Q k5 v0 v1 v2 M → W p l e (headSpec wsX7_signsIn rmX7_signsIn).room s m args below meth c H locs 0 0 (MQ below (va_Qi Q (cB D kA A T) A) args s 0 0 A) (F0 m 22 ls []) := by
    intro k5 hk5 v0 v1 v2 M H locs ls hH hl hw
    unfold fc_X7_signsIn_b22 at hw
    obtain ⟨x1, ex1⟩ : ∃ y : Int32, y = v2 + (-8) := ⟨_, rfl⟩
    replace hw := hw x1 ex1
    refine lv_iinc (v := x1) (lv' := [(2, .int x1), (0, .int v0), (1, .int v1)]) hx hb dX7_signsIn_22 hl (k := 2) rfl (by rw [ex1]; rfl) (by decide) rfl (fun ls hl => ?_)
    refine lv_goto (tgt := 5) hx hb dX7_signsIn_25 (by decide) ?_
    exact hk5 v0 v1 x1 M H locs ls hH (lv_sub hl [1, 2, 0] rfl) hw
  have l5 : ∀ (nn : Nat) (v0 : Int32) (v1 : Int32) (v2 : Int32) (M : CM) (H : Heap) (locs : List Loc) (ls : Array Slot), cH D kA A s.heap T M H locs → lv_has ls 3 [(0, .int v0), (1, .int v1), (2, .int v2)] → fc_X7_signsIn_l5 T Q  nn v0 v1 v2 M → W p l e (headSpec wsX7_signsIn rmX7_signsIn).room s m args below meth c H locs 0 0 (MQ below (va_Qi Q (cB D kA A T) A) args s 0 0 A) (F0 m 5 ls []) := by
    intro   nn
    induction nn with
    | zero => intro v0 v1 v2 M H locs ls hH hl hw; exact False.elim hw
    | succ nn hk5 =>
      intro v0 v1 v2 M H locs ls hH hl hw
      replace hw : fc_X7_signsIn_c5 T Q  (fc_X7_signsIn_l5 T Q  nn) v0 v1 v2 M := hw
      unfold fc_X7_signsIn_c5 at hw
      refine lv_iload_n hx hb dX7_signsIn_5 rfl (lv_at hl 2 rfl) ?_
      refine lv_if_lt (tgt := 28) hx hb dX7_signsIn_6 (by decide) (fun c2 => ?_) (fun c2 => ?_)
      · replace hw := hw.1 c2
        refine lv_iload_n hx hb dX7_signsIn_28 rfl (lv_at hl 1 rfl) ?_
        exact c_reti hx hb hr hlocks hK hH hw dX7_signsIn_29
      · replace hw := hw.2 c2
        refine lv_iload_n hx hb dX7_signsIn_9 rfl (lv_at hl 0 rfl) ?_
        refine lv_iload_n hx hb dX7_signsIn_10 rfl (lv_at hl 2 rfl) ?_
        refine lv_iushr hx hb dX7_signsIn_11 rfl ?_
        refine lv_sipush (v := 255) hx hb dX7_signsIn_12 (by decide) ?_
        refine lv_iand hx hb dX7_signsIn_15 ?_
        refine lv_if_eq (tgt := 22) hx hb dX7_signsIn_16 (by decide) (fun c3 => ?_) (fun c3 => ?_)
        · replace hw := hw.1 c3
          exact b22 _ hk5 v0 v1 v2 M H locs ls hH (lv_sub hl [0, 1, 2] rfl) hw
        · replace hw := hw.2 c3
          obtain ⟨x4, ex4⟩ : ∃ y : Int32, y = v1 + 1 := ⟨_, rfl⟩
          replace hw := hw x4 ex4
          refine lv_iinc (v := x4) (lv' := [(1, .int x4), (0, .int v0), (2, .int v2)]) hx hb dX7_signsIn_19 hl (k := 1) rfl (by rw [ex4]; rfl) (by decide) rfl (fun ls hl => ?_)
          exact b22 _ hk5 v0 x4 v2 M H locs ls hH (lv_sub hl [1, 0, 2] rfl) hw
  clear hP
  unfold fc_X7_signsIn at hw
  have hst : ∀ (M : CM) (H : Heap) (locs : List Loc) (ls : Array Slot), cH D kA A s.heap T M H locs → lv_has ls 3 [(0, .int a1)] → (∃ nn : Nat, fc_X7_signsIn_l5 T Q  nn a1 0 24 M) → W p l e (headSpec wsX7_signsIn rmX7_signsIn).room s m args below meth c H locs 0 0 (MQ below (va_Qi Q (cB D kA A T) A) args s 0 0 A) (F0 m 0 ls []) := by
    intro M H locs ls hH hl hw
    refine lv_iconst (v := 0) hx hb dX7_signsIn_0 (by decide) ?_
    refine lv_istore_n (i := 1) (lv' := [(1, .int 0), (0, .int a1)]) hx hb dX7_signsIn_1 rfl hl (by decide) rfl (fun ls hl => ?_)
    refine lv_bipush (v := 24) hx hb dX7_signsIn_2 (by decide) ?_
    refine lv_istore_n (i := 2) (lv' := [(2, .int 24), (1, .int 0), (0, .int a1)]) hx hb dX7_signsIn_4 rfl hl (by decide) rfl (fun ls hl => ?_)
    obtain ⟨nn, hw⟩ := hw
    exact l5   nn a1 0 24 M H locs ls hH (lv_sub hl [2, 1, 0] rfl) hw
  exact hst M s.heap [] ls hH hl hw
def fc_X7_at_b31 (T : LY) (h : Nat) (Q : Int32 → CM → Prop) (s0 : Int32) (M : CM) : Prop := (nC s0 ∧ Q s0 M)
def fc_X7_at_b30 (T : LY) (h : Nat) (Q : Int32 → CM → Prop) (M : CM) : Prop := fc_X7_at_b31 T h Q  0 M
def fc_X7_at (T : LY) (h : Nat)  (a1 : Int32) (M : CM) (Q : Int32 → CM → Prop) : Prop := ((a1 < 0 → fc_X7_at_b30 T h Q   M) ∧ (¬ a1 < 0 → (tg T h = 8 ∧ (((cI M 71 h) ≤ a1 → fc_X7_at_b30 T h Q   M) ∧ (¬ (cI M 71 h) ≤ a1 → (∃ p4 : Nat, cR M 70 h = some p4 ∧ (tg T p4 = 20 ∧ (((nI (ln T p4)) ≤ a1 → fc_X7_at_b30 T h Q   M) ∧ (¬ (nI (ln T p4)) ≤ a1 → (vp_in a1 (ln T p4) ∧ fc_X7_at_b31 T h Q  (xI M p4 a1.toNatClampNeg) M))))))))))
abbrev rmX7_at : Room := { frames := 0, cells := 0, slots := 0, locals := 0 }
set_option maxHeartbeats 4000000 in
set_option maxRecDepth 100000 in
theorem tc_X7_at (l : Launch) (D : va_G) (kA : Nat → ClassId) (nm : Nat → Nat) (na : Nat) (sa sv : Nat → Nat) (sz : Nat) (T : LY) (h : Nat) (a1 : Int32) (M : CM) (Q : Int32 → CM → Prop) (hw : fc_X7_at T h a1 M Q) : Met l yX7_at wsX7_at rmX7_at (va_Pc [.ref h, .int a1] (cPc nm na sa sv D kA T M sz)) (va_Qi Q (cB D kA (cF T sz) T) (cF T sz)) 0 0 (cF T sz) := by
  refine Met.ofW (cc := cX7_at) (maxL := 2) (ret := (some .char)) (by decide) rfl ?_
  intro p e s m args below meth c s₁ B hml hv
  obtain ⟨rfl, hsz, hP, hK, hSt⟩ := hv
  have hx := B.exec
  have hb := B.bytes
  have hr := B.returns
  have hts := atoms_spec (ws := wsX7_at) B.pre
  have hown : s.vm.findClass RX7 = some m.cls := findClass_of_methodNamed B.named
  have hlocks : meth.locks = false := B.notSynchronized
  subst hsz
  have hH : cH D kA (cF T s.heap.size) s.heap T M s.heap [] := ⟨hP.self, va_S.rf⟩
  have hA : ∀ q : Nat, s.heap.size ≤ q → cF T s.heap.size q := fun q z => Or.inr z
  generalize cF T s.heap.size = A at hH hA hSt ⊢
  have hl := lv_entry ([.ref h, .int a1]) (n := 2) (by first | exact Nat.le_of_ble_eq_true rfl | simp [lg_sl, va_rf_cat, cat_ref, cat_int, cat_long, cat_double])
  rw [lg_entry_eq]
  generalize (lg_sl ([.ref h, .int a1]) ++ List.replicate (2 - (lg_sl ([.ref h, .int a1])).length) Slot.unset).toArray = ls at hl ⊢
  generalize ([.ref h, .int a1] : List Value).toArray = args at hts ⊢
  have hl : lv_has ls 2 [(0, .ref h), (1, .int a1)] := hl
  have hin7 : ∀ w ∈ wsX70, w ∈ wsX7_at := by decide +kernel
  have b31 : ∀ (s0 : Int32) (M : CM) (H : Heap) (locs : List Loc) (ls : Array Slot), cH D kA A s.heap T M H locs → lv_has ls 2 [] → fc_X7_at_b31 T h Q  s0 M → W p l e (headSpec wsX7_at rmX7_at).room s m args below meth c H locs 0 0 (MQ below (va_Qi Q (cB D kA A T) A) args s 0 0 A) (F0 m 31 ls [.int s0]) := by
    intro   s0 M H locs ls hH hl hw
    unfold fc_X7_at_b31 at hw
    exact c_retz hx hb hr hw.1.1 hlocks hK hH hw.2 dX7_at_31
  have b30 : ∀ (M : CM) (H : Heap) (locs : List Loc) (ls : Array Slot), cH D kA A s.heap T M H locs → lv_has ls 2 [] → fc_X7_at_b30 T h Q   M → W p l e (headSpec wsX7_at rmX7_at).room s m args below meth c H locs 0 0 (MQ below (va_Qi Q (cB D kA A T) A) args s 0 0 A) (F0 m 30 ls []) := by
    intro    M H locs ls hH hl hw
    unfold fc_X7_at_b30 at hw
    refine lv_iconst (v := 0) hx hb dX7_at_30 (by decide) ?_
    exact b31   0 M H locs ls hH (lv_sub hl [] rfl) hw
  clear hP
  unfold fc_X7_at at hw
  have hst : ∀ (M : CM) (H : Heap) (locs : List Loc) (ls : Array Slot), cH D kA A s.heap T M H locs → lv_has ls 2 [(0, .ref h), (1, .int a1)] → ((a1 < 0 → fc_X7_at_b30 T h Q   M) ∧ (¬ a1 < 0 → (tg T h = 8 ∧ (((cI M 71 h) ≤ a1 → fc_X7_at_b30 T h Q   M) ∧ (¬ (cI M 71 h) ≤ a1 → (∃ p4 : Nat, cR M 70 h = some p4 ∧ (tg T p4 = 20 ∧ (((nI (ln T p4)) ≤ a1 → fc_X7_at_b30 T h Q   M) ∧ (¬ (nI (ln T p4)) ≤ a1 → (vp_in a1 (ln T p4) ∧ fc_X7_at_b31 T h Q  (xI M p4 a1.toNatClampNeg) M)))))))))) → W p l e (headSpec wsX7_at rmX7_at).room s m args below meth c H locs 0 0 (MQ below (va_Qi Q (cB D kA A T) A) args s 0 0 A) (F0 m 0 ls []) := by
    intro M H locs ls hH hl hw
    refine lv_iload_n hx hb dX7_at_0 rfl (lv_at hl 1 rfl) ?_
    refine lv_if_lt (tgt := 30) hx hb dX7_at_1 (by decide) (fun c1 => ?_) (fun c1 => ?_)
    · replace hw := hw.1 c1
      exact b30    M H locs ls hH (lv_sub hl [] rfl) hw
    · replace hw := hw.2 c1
      refine lv_iload_n hx hb dX7_at_4 rfl (lv_at hl 1 rfl) ?_
      refine lv_aload_n hx hb dX7_at_5 rfl (lv_at hl 0 rfl) ?_
      obtain ⟨h2, hw⟩ := hw
      refine cg_71 hx hb hts hin7 hown hK hH h2 (hts (.fieldLink RX7 9 "IdlCaller$Text" "length" "I") (by decide +kernel)) dX7_at_6 ?_
      refine lv_icmp_ge (tgt := 30) hx hb dX7_at_9 (by decide) (fun c3 => ?_) (fun c3 => ?_)
      · replace hw := hw.1 c3
        exact b30    M H locs ls hH (lv_sub hl [] rfl) hw
      · replace hw := hw.2 c3
        refine lv_iload_n hx hb dX7_at_12 rfl (lv_at hl 1 rfl) ?_
        refine lv_aload_n hx hb dX7_at_13 rfl (lv_at hl 0 rfl) ?_
        refine cg_70 hx hb hts hin7 hown hK hH h2 (hts (.fieldLink RX7 21 "IdlCaller$Text" "signs" "[C") (by decide +kernel)) dX7_at_14 ?_
        obtain ⟨p4, ep4, hw⟩ := hw
        refine W.st (st' := [.ref p4, .int a1]) (by rw [ep4]; rfl) ?_
        obtain ⟨h5, hw⟩ := hw
        refine cn_0 hx hb hK hH h5 dX7_at_17 ?_
        refine lv_icmp_ge (tgt := 30) hx hb dX7_at_18 (by decide) (fun c6 => ?_) (fun c6 => ?_)
        · replace hw := hw.1 c6
          exact b30    M H locs ls hH (lv_sub hl [] rfl) hw
        · replace hw := hw.2 c6
          refine lv_aload_n hx hb dX7_at_21 rfl (lv_at hl 0 rfl) ?_
          refine cg_70 hx hb hts hin7 hown hK hH h2 (hts (.fieldLink RX7 21 "IdlCaller$Text" "signs" "[C") (by decide +kernel)) dX7_at_22 ?_
          refine lv_iload_n hx hb dX7_at_25 rfl (lv_at hl 1 rfl) ?_
          refine W.st (st' := [.int a1, .ref p4]) (by rw [ep4]; rfl) ?_
          obtain ⟨h7, hw⟩ := hw
          refine cl_0 hx hb hK hH h5 h7 dX7_at_26 ?_
          refine lv_goto (tgt := 31) hx hb dX7_at_27 (by decide) ?_
          exact b31   (xI M p4 a1.toNatClampNeg) M H locs ls hH (lv_sub hl [] rfl) hw
  exact hst M s.heap [] ls hH hl hw
def fc_X7_append_b39 (T : LY) (h : Nat) (Q : CM → Prop) (M : CM) : Prop := Q M
def fc_X7_append (T : LY) (h : Nat)  (a1 : Int32) (M : CM) (Q : CM → Prop) : Prop := (tg T h = 8 ∧ (((cI M 71 h) < 0 → fc_X7_append_b39 T h Q   M) ∧ (¬ (cI M 71 h) < 0 → (∃ p3 : Nat, cR M 70 h = some p3 ∧ (tg T p3 = 20 ∧ (((nI (ln T p3)) ≤ (cI M 71 h) → fc_X7_append_b39 T h Q   M) ∧ (¬ (nI (ln T p3)) ≤ (cI M 71 h) → (vp_in (cI M 71 h) (ln T p3) ∧ (∀ M6 : CM, M6 = yI M p3 (cI M 71 h).toNatClampNeg (vp_nar .char a1) → (∀ M8 : CM, M8 = sI M6 71 h ((cI M6 71 h) + 1) → fc_X7_append_b39 T h Q   M8))))))))))
abbrev rmX7_append : Room := { frames := 0, cells := 0, slots := 0, locals := 0 }
set_option maxHeartbeats 4000000 in
set_option maxRecDepth 100000 in
theorem tc_X7_append (l : Launch) (D : va_G) (kA : Nat → ClassId) (nm : Nat → Nat) (na : Nat) (sa sv : Nat → Nat) (sz : Nat) (T : LY) (h : Nat) (a1 : Int32) (M : CM) (Q : CM → Prop) (hw : fc_X7_append T h a1 M Q) : Met l yX7_append wsX7_append rmX7_append (va_Pc [.ref h, .int a1] (cPc nm na sa sv D kA T M sz)) (va_Qv Q (cB D kA (cF T sz) T) (cF T sz)) 0 0 (cF T sz) := by
  refine Met.ofW (cc := cX7_append) (maxL := 2) (ret := none) (by decide) rfl ?_
  intro p e s m args below meth c s₁ B hml hv
  obtain ⟨rfl, hsz, hP, hK, hSt⟩ := hv
  have hx := B.exec
  have hb := B.bytes
  have hr := B.returns
  have hts := atoms_spec (ws := wsX7_append) B.pre
  have hown : s.vm.findClass RX7 = some m.cls := findClass_of_methodNamed B.named
  have hlocks : meth.locks = false := B.notSynchronized
  subst hsz
  have hH : cH D kA (cF T s.heap.size) s.heap T M s.heap [] := ⟨hP.self, va_S.rf⟩
  have hA : ∀ q : Nat, s.heap.size ≤ q → cF T s.heap.size q := fun q z => Or.inr z
  generalize cF T s.heap.size = A at hH hA hSt ⊢
  have hl := lv_entry ([.ref h, .int a1]) (n := 2) (by first | exact Nat.le_of_ble_eq_true rfl | simp [lg_sl, va_rf_cat, cat_ref, cat_int, cat_long, cat_double])
  rw [lg_entry_eq]
  generalize (lg_sl ([.ref h, .int a1]) ++ List.replicate (2 - (lg_sl ([.ref h, .int a1])).length) Slot.unset).toArray = ls at hl ⊢
  generalize ([.ref h, .int a1] : List Value).toArray = args at hts ⊢
  have hl : lv_has ls 2 [(0, .ref h), (1, .int a1)] := hl
  have hin7 : ∀ w ∈ wsX70, w ∈ wsX7_append := by decide +kernel
  have b39 : ∀ (M : CM) (H : Heap) (locs : List Loc) (ls : Array Slot), cH D kA A s.heap T M H locs → lv_has ls 2 [] → fc_X7_append_b39 T h Q   M → W p l e (headSpec wsX7_append rmX7_append).room s m args below meth c H locs 0 0 (MQ below (va_Qv Q (cB D kA A T) A) args s 0 0 A) (F0 m 39 ls []) := by
    intro    M H locs ls hH hl hw
    unfold fc_X7_append_b39 at hw
    exact c_retv hx hb hr hlocks hK hH hw dX7_append_39
  clear hP
  unfold fc_X7_append at hw
  have hst : ∀ (M : CM) (H : Heap) (locs : List Loc) (ls : Array Slot), cH D kA A s.heap T M H locs → lv_has ls 2 [(0, .ref h), (1, .int a1)] → (tg T h = 8 ∧ (((cI M 71 h) < 0 → fc_X7_append_b39 T h Q   M) ∧ (¬ (cI M 71 h) < 0 → (∃ p3 : Nat, cR M 70 h = some p3 ∧ (tg T p3 = 20 ∧ (((nI (ln T p3)) ≤ (cI M 71 h) → fc_X7_append_b39 T h Q   M) ∧ (¬ (nI (ln T p3)) ≤ (cI M 71 h) → (vp_in (cI M 71 h) (ln T p3) ∧ (∀ M6 : CM, M6 = yI M p3 (cI M 71 h).toNatClampNeg (vp_nar .char a1) → (∀ M8 : CM, M8 = sI M6 71 h ((cI M6 71 h) + 1) → fc_X7_append_b39 T h Q   M8)))))))))) → W p l e (headSpec wsX7_append rmX7_append).room s m args below meth c H locs 0 0 (MQ below (va_Qv Q (cB D kA A T) A) args s 0 0 A) (F0 m 0 ls []) := by
    intro M H locs ls hH hl hw
    refine lv_aload_n hx hb dX7_append_0 rfl (lv_at hl 0 rfl) ?_
    obtain ⟨h1, hw⟩ := hw
    refine cg_71 hx hb hts hin7 hown hK hH h1 (hts (.fieldLink RX7 9 "IdlCaller$Text" "length" "I") (by decide +kernel)) dX7_append_1 ?_
    refine lv_if_lt (tgt := 39) hx hb dX7_append_4 (by decide) (fun c2 => ?_) (fun c2 => ?_)
    · replace hw := hw.1 c2
      exact b39    M H locs ls hH (lv_sub hl [] rfl) hw
    · replace hw := hw.2 c2
      refine lv_aload_n hx hb dX7_append_7 rfl (lv_at hl 0 rfl) ?_
      refine cg_71 hx hb hts hin7 hown hK hH h1 (hts (.fieldLink RX7 9 "IdlCaller$Text" "length" "I") (by decide +kernel)) dX7_append_8 ?_
      refine lv_aload_n hx hb dX7_append_11 rfl (lv_at hl 0 rfl) ?_
      refine cg_70 hx hb hts hin7 hown hK hH h1 (hts (.fieldLink RX7 21 "IdlCaller$Text" "signs" "[C") (by decide +kernel)) dX7_append_12 ?_
      obtain ⟨p3, ep3, hw⟩ := hw
      refine W.st (st' := [.ref p3, .int (cI M 71 h)]) (by rw [ep3]; rfl) ?_
      obtain ⟨h4, hw⟩ := hw
      refine cn_0 hx hb hK hH h4 dX7_append_15 ?_
      refine lv_icmp_ge (tgt := 39) hx hb dX7_append_16 (by decide) (fun c5 => ?_) (fun c5 => ?_)
      · replace hw := hw.1 c5
        exact b39    M H locs ls hH (lv_sub hl [] rfl) hw
      · replace hw := hw.2 c5
        refine lv_aload_n hx hb dX7_append_19 rfl (lv_at hl 0 rfl) ?_
        refine cg_70 hx hb hts hin7 hown hK hH h1 (hts (.fieldLink RX7 21 "IdlCaller$Text" "signs" "[C") (by decide +kernel)) dX7_append_20 ?_
        refine lv_aload_n hx hb dX7_append_23 rfl (lv_at hl 0 rfl) ?_
        refine cg_71 hx hb hts hin7 hown hK hH h1 (hts (.fieldLink RX7 9 "IdlCaller$Text" "length" "I") (by decide +kernel)) dX7_append_24 ?_
        refine lv_iload_n hx hb dX7_append_27 rfl (lv_at hl 1 rfl) ?_
        refine W.st (st' := [.int a1, .int (cI M 71 h), .ref p3]) (by rw [ep3]; rfl) ?_
        obtain ⟨h7, hw⟩ := hw
        refine cs_0 hx hb hK hH h4 h7 dX7_append_28 (fun M6 H locs eM6 hH => ?_)
        replace hw := hw M6 eM6
        refine lv_aload_n hx hb dX7_append_29 rfl (lv_at hl 0 rfl) ?_
        refine lv_dup hx hb dX7_append_30 rfl ?_
        refine cg_71 hx hb hts hin7 hown hK hH h1 (hts (.fieldLink RX7 9 "IdlCaller$Text" "length" "I") (by decide +kernel)) dX7_append_31 ?_
        refine lv_iconst (v := 1) hx hb dX7_append_34 (by decide) ?_
        refine lv_iadd hx hb dX7_append_35 ?_
        refine cp_71 (x := (cI M6 71 h) + 1) hx hb hts hin7 hown hK hH h1 (hts (.fieldLink RX7 9 "IdlCaller$Text" "length" "I") (by decide +kernel)) dX7_append_36 (fun M8 H locs eM8 hH => ?_)
        replace hw := hw M8 eM8
        exact b39    M8 H locs ls hH (lv_sub hl [] rfl) hw
  exact hst M s.heap [] ls hH hl hw
def fc_X7_appendSigns_b25 (T : LY) (h : Nat) (Q : CM → Prop) (k3 : Int32 → Int32 → CM → Prop) (v1 : Int32) (v2 : Int32) (M : CM) : Prop := (∀ x1 : Int32, x1 = v2 + (-8) → k3 v1 x1 M)
def fc_X7_appendSigns_c3 (T : LY) (h : Nat) (Q : CM → Prop) (k3 : Int32 → Int32 → CM → Prop) (v1 : Int32) (v2 : Int32) (M : CM) : Prop := ((v2 < 0 → Q M) ∧ (¬ v2 < 0 → (∀ x3 : Int32, x3 = ((v1.toUInt32 >>> (v2.toUInt32 &&& Int32.toUInt32 31)).toInt32) &&& 255 → ((x3 = 0 → fc_X7_appendSigns_b25 T h Q k3 v1 v2 M) ∧ (¬ x3 = 0 → (tg T h = 8 ∧ fc_X7_append T h ((x3.toUInt32 % 65536).toInt32) M (fun (M6 : CM) => fc_X7_appendSigns_b25 T h Q k3 v1 v2 M6)))))))
def fc_X7_appendSigns_l3 (T : LY) (h : Nat) (Q : CM → Prop) : Nat → Int32 → Int32 → CM → Prop := lit (τ := Int32 → Int32 → CM → Prop) (fun _ _ _ => False) (fun k => fc_X7_appendSigns_c3 T h Q  k)
def fc_X7_appendSigns (T : LY) (h : Nat)  (a1 : Int32) (M : CM) (Q : CM → Prop) : Prop := (∃ nn : Nat, fc_X7_appendSigns_l3 T h Q  nn a1 24 M)
abbrev rmX7_appendSigns : Room := { frames := 1, cells := 0, slots := 0, locals := 21 }
set_option maxHeartbeats 4000000 in
set_option maxRecDepth 100000 in
theorem tc_X7_appendSigns (l : Launch) (D : va_G) (kA : Nat → ClassId) (nm : Nat → Nat) (na : Nat) (sa sv : Nat → Nat) (sz : Nat) (T : LY) (h : Nat) (a1 : Int32) (M : CM) (Q : CM → Prop) (hw : fc_X7_appendSigns T h a1 M Q) : Met l yX7_appendSigns wsX7_appendSigns rmX7_appendSigns (va_Pc [.ref h, .int a1] (cPc nm na sa sv D kA T M sz)) (va_Qv Q (cB D kA (cF T sz) T) (cF T sz)) 0 0 (cF T sz) := by
  refine Met.ofW (cc := cX7_appendSigns) (maxL := 4) (ret := none) (by decide) rfl ?_
  intro p e s m args below meth c s₁ B hml hv
  obtain ⟨rfl, hsz, hP, hK, hSt⟩ := hv
  have hx := B.exec
  have hb := B.bytes
  have hr := B.returns
  have hts := atoms_spec (ws := wsX7_appendSigns) B.pre
  have hown : s.vm.findClass RX7 = some m.cls := findClass_of_methodNamed B.named
  have hlocks : meth.locks = false := B.notSynchronized
  subst hsz
  have hH : cH D kA (cF T s.heap.size) s.heap T M s.heap [] := ⟨hP.self, va_S.rf⟩
  have hA : ∀ q : Nat, s.heap.size ≤ q → cF T s.heap.size q := fun q z => Or.inr z
  generalize cF T s.heap.size = A at hH hA hSt ⊢
  have hl := lv_entry ([.ref h, .int a1]) (n := 4) (by first | exact Nat.le_of_ble_eq_true rfl | simp [lg_sl, va_rf_cat, cat_ref, cat_int, cat_long, cat_double])
  rw [lg_entry_eq]
  generalize (lg_sl ([.ref h, .int a1]) ++ List.replicate (4 - (lg_sl ([.ref h, .int a1])).length) Slot.unset).toArray = ls at hl ⊢
  generalize ([.ref h, .int a1] : List Value).toArray = args at hts ⊢
  have hl : lv_has ls 4 [(0, .ref h), (1, .int a1)] := hl
  have b25 : ∀ (k3 : Int32 → Int32 → CM → Prop) (hk3 : ∀ (v1 : Int32) (v2 : Int32) (M : CM) (H : Heap) (locs : List Loc) (ls : Array Slot), cH D kA A s.heap T M H locs → lv_has ls 4 [(0, .ref h), (1, .int v1), (2, .int v2)] → k3 v1 v2 M → W p l e (headSpec wsX7_appendSigns rmX7_appendSigns).room s m args below meth c H locs 0 0 (MQ below (va_Qv Q (cB D kA A T) A) args s 0 0 A) (F0 m 3 ls [])) (v1 : Int32) (v2 : Int32) (M : CM) (H : Heap) (locs : List Loc) (ls : Array Slot), cH D kA A s.heap T M H locs → lv_has ls 4 [(0, .ref h), (1, .int v1), (2, .int v2)] → fc_X7_appendSigns_b25 T h Q k3 v1 v2 M → W p l e (headSpec wsX7_appendSigns rmX7_appendSigns).room s m args below meth c H locs 0 0 (MQ below (va_Qv Q (cB D kA A T) A) args s 0 0 A) (F0 m 25 ls []) := by
    intro k3 hk3 v1 v2 M H locs ls hH hl hw
    unfold fc_X7_appendSigns_b25 at hw
    obtain ⟨x1, ex1⟩ : ∃ y : Int32, y = v2 + (-8) := ⟨_, rfl⟩
    replace hw := hw x1 ex1
    refine lv_iinc (v := x1) (lv' := [(2, .int x1), (0, .ref h), (1, .int v1)]) hx hb dX7_appendSigns_25 hl (k := 2) rfl (by rw [ex1]; rfl) (by decide) rfl (fun ls hl => ?_)
    refine lv_goto (tgt := 3) hx hb dX7_appendSigns_28 (by decide) ?_
    exact hk3 v1 x1 M H locs ls hH (lv_sub hl [1, 2, 0] rfl) hw
  have l3 : ∀ (nn : Nat) (v1 : Int32) (v2 : Int32) (M : CM) (H : Heap) (locs : List Loc) (ls : Array Slot), cH D kA A s.heap T M H locs → lv_has ls 4 [(0, .ref h), (1, .int v1), (2, .int v2)] → fc_X7_appendSigns_l3 T h Q  nn v1 v2 M → W p l e (headSpec wsX7_appendSigns rmX7_appendSigns).room s m args below meth c H locs 0 0 (MQ below (va_Qv Q (cB D kA A T) A) args s 0 0 A) (F0 m 3 ls []) := by
    intro   nn
    induction nn with
    | zero => intro v1 v2 M H locs ls hH hl hw; exact False.elim hw
    | succ nn hk3 =>
      intro v1 v2 M H locs ls hH hl hw
      replace hw : fc_X7_appendSigns_c3 T h Q  (fc_X7_appendSigns_l3 T h Q  nn) v1 v2 M := hw
      unfold fc_X7_appendSigns_c3 at hw
      refine lv_iload_n hx hb dX7_appendSigns_3 rfl (lv_at hl 2 rfl) ?_
      refine lv_if_lt (tgt := 31) hx hb dX7_appendSigns_4 (by decide) (fun c2 => ?_) (fun c2 => ?_)
      · replace hw := hw.1 c2
        exact c_retv hx hb hr hlocks hK hH hw dX7_appendSigns_31
      · replace hw := hw.2 c2
        refine lv_iload_n hx hb dX7_appendSigns_7 rfl (lv_at hl 1 rfl) ?_
        refine lv_iload_n hx hb dX7_appendSigns_8 rfl (lv_at hl 2 rfl) ?_
        refine lv_iushr hx hb dX7_appendSigns_9 rfl ?_
        refine lv_sipush (v := 255) hx hb dX7_appendSigns_10 (by decide) ?_
        refine lv_iand hx hb dX7_appendSigns_13 ?_
        refine lv_topi (fun x3 ex3 => ?_)
        replace hw := hw x3 ex3
        refine lv_istore_n (i := 3) (lv' := [(3, .int x3), (0, .ref h), (1, .int v1), (2, .int v2)]) hx hb dX7_appendSigns_14 rfl hl (by decide) rfl (fun ls hl => ?_)
        refine lv_iload_n hx hb dX7_appendSigns_15 rfl (lv_at hl 0 rfl) ?_
        refine lv_if_eq (tgt := 25) hx hb dX7_appendSigns_16 (by decide) (fun c4 => ?_) (fun c4 => ?_)
        · replace hw := hw.1 c4
          exact b25 _ hk3 v1 v2 M H locs ls hH (lv_sub hl [1, 2, 3] rfl) hw
        · replace hw := hw.2 c4
          refine lv_aload_n hx hb dX7_appendSigns_19 rfl (lv_at hl 1 rfl) ?_
          refine lv_iload_n hx hb dX7_appendSigns_20 rfl (lv_at hl 0 rfl) ?_
          refine lv_i2c hx hb dX7_appendSigns_21 rfl ?_
          obtain ⟨h5, hw⟩ := hw
          refine c_callv (va_runV (As := [.int ((x3.toUInt32 % 65536).toInt32)]) (rest := []) ⟨hx, hb, hml, hown, hts⟩ (tc_X7_append l D kA nm na sa sv H.size T h ((x3.toUInt32 % 65536).toInt32) M _ hw) (cwV 1 hts gX7_appendSigns_X7_append rfl rfl rfl (by decide +kernel) ⟨(show (0 : Nat) + 1 ≤ 1 from Nat.le_of_ble_eq_true rfl), (show 8 + (2 + 11) + (0 : Nat) ≤ 21 from Nat.le_of_ble_eq_true rfl)⟩) (c_preV hK hH hA hSt (c_recv7 hK hH h5)) rfl rfl hl.1 rfl (lv_room (by first | exact Nat.le_of_ble_eq_true rfl | simp [va_rf_cat, cat_ref, cat_int, cat_long, cat_double, cat_null])) dX7_appendSigns_22 ⟨Nat.le_of_ble_eq_true rfl, Nat.le_of_ble_eq_true rfl⟩) hH hA (fun M6 H locs hw hH => ?_)
          exact b25 _ hk3 v1 v2 M6 H locs ls hH (lv_sub hl [1, 2, 3] rfl) hw
  clear hP
  unfold fc_X7_appendSigns at hw
  have hst : ∀ (M : CM) (H : Heap) (locs : List Loc) (ls : Array Slot), cH D kA A s.heap T M H locs → lv_has ls 4 [(0, .ref h), (1, .int a1)] → (∃ nn : Nat, fc_X7_appendSigns_l3 T h Q  nn a1 24 M) → W p l e (headSpec wsX7_appendSigns rmX7_appendSigns).room s m args below meth c H locs 0 0 (MQ below (va_Qv Q (cB D kA A T) A) args s 0 0 A) (F0 m 0 ls []) := by
    intro M H locs ls hH hl hw
    refine lv_bipush (v := 24) hx hb dX7_appendSigns_0 (by decide) ?_
    refine lv_istore_n (i := 2) (lv' := [(2, .int 24), (0, .ref h), (1, .int a1)]) hx hb dX7_appendSigns_2 rfl hl (by decide) rfl (fun ls hl => ?_)
    obtain ⟨nn, hw⟩ := hw
    exact l3   nn a1 24 M H locs ls hH (lv_sub hl [1, 2, 0] rfl) hw
  exact hst M s.heap [] ls hH hl hw
def fc_X7_copy_b61 (T : LY) (h : Nat) (Q : CM → Prop) (M : CM) : Prop := Q M
def fc_X7_copy_c7 (T : LY) (h : Nat) (Q : CM → Prop) (k7 : Option Nat → Int32 → CM → Prop) (v1 : Option Nat) (v2 : Int32) (M : CM) : Prop := (∃ p1 : Nat, v1 = some p1 ∧ (tg T p1 = 8 ∧ (((cI M 71 p1) ≤ v2 → fc_X7_copy_b61 T h Q   M) ∧ (¬ (cI M 71 p1) ≤ v2 → (∃ p4 : Nat, cR M 70 p1 = some p4 ∧ (tg T p4 = 20 ∧ (((nI (ln T p4)) ≤ v2 → fc_X7_copy_b61 T h Q   M) ∧ (¬ (nI (ln T p4)) ≤ v2 → (tg T h = 8 ∧ (∃ p8 : Nat, cR M 70 h = some p8 ∧ (tg T p8 = 20 ∧ (((nI (ln T p8)) ≤ v2 → fc_X7_copy_b61 T h Q   M) ∧ (¬ (nI (ln T p8)) ≤ v2 → (vp_in v2 (ln T p4) ∧ (vp_in v2 (ln T p8) ∧ (∀ M12 : CM, M12 = yI M p8 v2.toNatClampNeg (vp_nar .char (xI M p4 v2.toNatClampNeg)) → (∀ M14 : CM, M14 = sI M12 71 h ((cI M12 71 h) + 1) → (∀ x15 : Int32, x15 = v2 + 1 → k7 v1 x15 M14))))))))))))))))))
def fc_X7_copy_l7 (T : LY) (h : Nat) (Q : CM → Prop) : Nat → Option Nat → Int32 → CM → Prop := lit (τ := Option Nat → Int32 → CM → Prop) (fun _ _ _ => False) (fun k => fc_X7_copy_c7 T h Q  k)
def fc_X7_copy (T : LY) (h : Nat)  (a1 : Option Nat) (M : CM) (Q : CM → Prop) : Prop := (tg T h = 8 ∧ (∀ M17 : CM, M17 = sI M 71 h 0 → (∃ nn : Nat, fc_X7_copy_l7 T h Q  nn a1 0 M17)))
abbrev rmX7_copy : Room := { frames := 0, cells := 0, slots := 0, locals := 0 }
set_option maxHeartbeats 4000000 in
set_option maxRecDepth 100000 in
theorem tc_X7_copy (l : Launch) (D : va_G) (kA : Nat → ClassId) (nm : Nat → Nat) (na : Nat) (sa sv : Nat → Nat) (sz : Nat) (T : LY) (h : Nat) (a1 : Option Nat) (M : CM) (Q : CM → Prop) (hw : fc_X7_copy T h a1 M Q) : Met l yX7_copy wsX7_copy rmX7_copy (va_Pc [.ref h, va_rf a1] (cPc nm na sa sv D kA T M sz)) (va_Qv Q (cB D kA (cF T sz) T) (cF T sz)) 0 0 (cF T sz) := by
  refine Met.ofW (cc := cX7_copy) (maxL := 3) (ret := none) (by decide) rfl ?_
  intro p e s m args below meth c s₁ B hml hv
  obtain ⟨rfl, hsz, hP, hK, hSt⟩ := hv
  have hx := B.exec
  have hb := B.bytes
  have hr := B.returns
  have hts := atoms_spec (ws := wsX7_copy) B.pre
  have hown : s.vm.findClass RX7 = some m.cls := findClass_of_methodNamed B.named
  have hlocks : meth.locks = false := B.notSynchronized
  subst hsz
  have hH : cH D kA (cF T s.heap.size) s.heap T M s.heap [] := ⟨hP.self, va_S.rf⟩
  have hA : ∀ q : Nat, s.heap.size ≤ q → cF T s.heap.size q := fun q z => Or.inr z
  generalize cF T s.heap.size = A at hH hA hSt ⊢
  have hl := lv_entry ([.ref h, va_rf a1]) (n := 3) (by first | exact Nat.le_of_ble_eq_true rfl | simp [lg_sl, va_rf_cat, cat_ref, cat_int, cat_long, cat_double])
  rw [lg_entry_eq]
  generalize (lg_sl ([.ref h, va_rf a1]) ++ List.replicate (3 - (lg_sl ([.ref h, va_rf a1])).length) Slot.unset).toArray = ls at hl ⊢
  generalize ([.ref h, va_rf a1] : List Value).toArray = args at hts ⊢
  have hl : lv_has ls 3 [(0, .ref h), (1, va_rf a1)] := by simpa [lv_args, va_rf_cat, cat_ref, cat_int, cat_long, cat_double] using hl
  have hin7 : ∀ w ∈ wsX70, w ∈ wsX7_copy := by decide +kernel
  have b61 : ∀ (M : CM) (H : Heap) (locs : List Loc) (ls : Array Slot), cH D kA A s.heap T M H locs → lv_has ls 3 [] → fc_X7_copy_b61 T h Q   M → W p l e (headSpec wsX7_copy rmX7_copy).room s m args below meth c H locs 0 0 (MQ below (va_Qv Q (cB D kA A T) A) args s 0 0 A) (F0 m 61 ls []) := by
    intro    M H locs ls hH hl hw
    unfold fc_X7_copy_b61 at hw
    exact c_retv hx hb hr hlocks hK hH hw dX7_copy_61
  have l7 : ∀ (nn : Nat) (v1 : Option Nat) (v2 : Int32) (M : CM) (H : Heap) (locs : List Loc) (ls : Array Slot), cH D kA A s.heap T M H locs → lv_has ls 3 [(0, .ref h), (1, va_rf v1), (2, .int v2)] → fc_X7_copy_l7 T h Q  nn v1 v2 M → W p l e (headSpec wsX7_copy rmX7_copy).room s m args below meth c H locs 0 0 (MQ below (va_Qv Q (cB D kA A T) A) args s 0 0 A) (F0 m 7 ls []) := by
    intro   nn
    induction nn with
    | zero => intro v1 v2 M H locs ls hH hl hw; exact False.elim hw
    | succ nn hk7 =>
      intro v1 v2 M H locs ls hH hl hw
      replace hw : fc_X7_copy_c7 T h Q  (fc_X7_copy_l7 T h Q  nn) v1 v2 M := hw
      unfold fc_X7_copy_c7 at hw
      refine lv_iload_n hx hb dX7_copy_7 rfl (lv_at hl 2 rfl) ?_
      refine s_aload_n hx hb dX7_copy_8 rfl (lv_at hl 1 rfl) ?_
      obtain ⟨p1, ep1, hw⟩ := hw
      refine W.st (st' := [.ref p1, .int v2]) (by rw [ep1]; rfl) ?_
      obtain ⟨h2, hw⟩ := hw
      refine cg_71 hx hb hts hin7 hown hK hH h2 (hts (.fieldLink RX7 9 "IdlCaller$Text" "length" "I") (by decide +kernel)) dX7_copy_9 ?_
      refine lv_icmp_ge (tgt := 61) hx hb dX7_copy_12 (by decide) (fun c3 => ?_) (fun c3 => ?_)
      · replace hw := hw.1 c3
        exact b61    M H locs ls hH (lv_sub hl [] rfl) hw
      · replace hw := hw.2 c3
        refine lv_iload_n hx hb dX7_copy_15 rfl (lv_at hl 2 rfl) ?_
        refine s_aload_n hx hb dX7_copy_16 rfl (lv_at hl 1 rfl) ?_
        refine W.st (st' := [.ref p1, .int v2]) (by rw [ep1]; rfl) ?_
        refine cg_70 hx hb hts hin7 hown hK hH h2 (hts (.fieldLink RX7 21 "IdlCaller$Text" "signs" "[C") (by decide +kernel)) dX7_copy_17 ?_
        obtain ⟨p4, ep4, hw⟩ := hw
        refine W.st (st' := [.ref p4, .int v2]) (by rw [ep4]; rfl) ?_
        obtain ⟨h5, hw⟩ := hw
        refine cn_0 hx hb hK hH h5 dX7_copy_20 ?_
        refine lv_icmp_ge (tgt := 61) hx hb dX7_copy_21 (by decide) (fun c6 => ?_) (fun c6 => ?_)
        · replace hw := hw.1 c6
          exact b61    M H locs ls hH (lv_sub hl [] rfl) hw
        · replace hw := hw.2 c6
          refine lv_iload_n hx hb dX7_copy_24 rfl (lv_at hl 2 rfl) ?_
          refine lv_aload_n hx hb dX7_copy_25 rfl (lv_at hl 0 rfl) ?_
          obtain ⟨h7, hw⟩ := hw
          refine cg_70 hx hb hts hin7 hown hK hH h7 (hts (.fieldLink RX7 21 "IdlCaller$Text" "signs" "[C") (by decide +kernel)) dX7_copy_26 ?_
          obtain ⟨p8, ep8, hw⟩ := hw
          refine W.st (st' := [.ref p8, .int v2]) (by rw [ep8]; rfl) ?_
          obtain ⟨h9, hw⟩ := hw
          refine cn_0 hx hb hK hH h9 dX7_copy_29 ?_
          refine lv_icmp_ge (tgt := 61) hx hb dX7_copy_30 (by decide) (fun c10 => ?_) (fun c10 => ?_)
          · replace hw := hw.1 c10
            exact b61    M H locs ls hH (lv_sub hl [] rfl) hw
          · replace hw := hw.2 c10
            refine lv_aload_n hx hb dX7_copy_33 rfl (lv_at hl 0 rfl) ?_
            refine cg_70 hx hb hts hin7 hown hK hH h7 (hts (.fieldLink RX7 21 "IdlCaller$Text" "signs" "[C") (by decide +kernel)) dX7_copy_34 ?_
            refine lv_iload_n hx hb dX7_copy_37 rfl (lv_at hl 2 rfl) ?_
            refine s_aload_n hx hb dX7_copy_38 rfl (lv_at hl 1 rfl) ?_
            refine W.st (st' := [.ref p1, .int v2, va_rf (cR M 70 h)]) (by rw [ep1]; rfl) ?_
            refine cg_70 hx hb hts hin7 hown hK hH h2 (hts (.fieldLink RX7 21 "IdlCaller$Text" "signs" "[C") (by decide +kernel)) dX7_copy_39 ?_
            refine lv_iload_n hx hb dX7_copy_42 rfl (lv_at hl 2 rfl) ?_
            refine W.st (st' := [.int v2, .ref p4, .int v2, va_rf (cR M 70 h)]) (by rw [ep4]; rfl) ?_
            obtain ⟨h11, hw⟩ := hw
            refine cl_0 hx hb hK hH h5 h11 dX7_copy_43 ?_
            refine W.st (st' := [.int (xI M p4 v2.toNatClampNeg), .int v2, .ref p8]) (by rw [ep8]; rfl) ?_
            obtain ⟨h13, hw⟩ := hw
            refine cs_0 hx hb hK hH h9 h13 dX7_copy_44 (fun M12 H locs eM12 hH => ?_)
            replace hw := hw M12 eM12
            refine lv_aload_n hx hb dX7_copy_45 rfl (lv_at hl 0 rfl) ?_
            refine lv_dup hx hb dX7_copy_46 rfl ?_
            refine cg_71 hx hb hts hin7 hown hK hH h7 (hts (.fieldLink RX7 9 "IdlCaller$Text" "length" "I") (by decide +kernel)) dX7_copy_47 ?_
            refine lv_iconst (v := 1) hx hb dX7_copy_50 (by decide) ?_
            refine lv_iadd hx hb dX7_copy_51 ?_
            refine cp_71 (x := (cI M12 71 h) + 1) hx hb hts hin7 hown hK hH h7 (hts (.fieldLink RX7 9 "IdlCaller$Text" "length" "I") (by decide +kernel)) dX7_copy_52 (fun M14 H locs eM14 hH => ?_)
            replace hw := hw M14 eM14
            obtain ⟨x15, ex15⟩ : ∃ y : Int32, y = v2 + 1 := ⟨_, rfl⟩
            replace hw := hw x15 ex15
            refine lv_iinc (v := x15) (lv' := [(2, .int x15), (0, .ref h), (1, va_rf v1)]) hx hb dX7_copy_55 hl (k := 2) rfl (by rw [ex15]; rfl) (by decide) (by first | rfl | simp [va_rf_cat, cat_ref, cat_int, cat_long, cat_double, cat_null]) (fun ls hl => ?_)
            refine lv_goto (tgt := 7) hx hb dX7_copy_58 (by decide) ?_
            exact hk7 v1 x15 M14 H locs ls hH (lv_sub hl [1, 2, 0] rfl) hw
  clear hP
  unfold fc_X7_copy at hw
  have hst : ∀ (M : CM) (H : Heap) (locs : List Loc) (ls : Array Slot), cH D kA A s.heap T M H locs → lv_has ls 3 [(0, .ref h), (1, va_rf a1)] → (tg T h = 8 ∧ (∀ M17 : CM, M17 = sI M 71 h 0 → (∃ nn : Nat, fc_X7_copy_l7 T h Q  nn a1 0 M17))) → W p l e (headSpec wsX7_copy rmX7_copy).room s m args below meth c H locs 0 0 (MQ below (va_Qv Q (cB D kA A T) A) args s 0 0 A) (F0 m 0 ls []) := by
    intro M H locs ls hH hl hw
    refine lv_aload_n hx hb dX7_copy_0 rfl (lv_at hl 0 rfl) ?_
    refine lv_iconst (v := 0) hx hb dX7_copy_1 (by decide) ?_
    obtain ⟨h16, hw⟩ := hw
    refine cp_71 (x := 0) hx hb hts hin7 hown hK hH h16 (hts (.fieldLink RX7 9 "IdlCaller$Text" "length" "I") (by decide +kernel)) dX7_copy_2 (fun M17 H locs eM17 hH => ?_)
    replace hw := hw M17 eM17
    refine lv_iconst (v := 0) hx hb dX7_copy_5 (by decide) ?_
    refine lv_istore_n (i := 2) (lv' := [(2, .int 0), (0, .ref h), (1, va_rf a1)]) hx hb dX7_copy_6 rfl hl (by decide) (by first | rfl | simp [va_rf_cat, cat_ref, cat_int, cat_long, cat_double, cat_null]) (fun ls hl => ?_)
    obtain ⟨nn, hw⟩ := hw
    exact l7   nn a1 0 M17 H locs ls hH (lv_sub hl [1, 2, 0] rfl) hw
  exact hst M s.heap [] ls hH hl hw
def fc_J0_coder_7d493_b14 (T : LY) (h : Nat) (Q : Int32 → CM → Prop) (s0 : Int32) (M : CM) : Prop := (nB s0 ∧ Q s0 M)
def fc_J0_coder_7d493 (T : LY) (h : Nat)  (M : CM) (Q : Int32 → CM → Prop) : Prop := (((1 : Int32) = 0 → fc_J0_coder_7d493_b14 T h Q  1 M) ∧ (¬ (1 : Int32) = 0 → (h < 16 ∧ fc_J0_coder_7d493_b14 T h Q  0 M)))
abbrev rmJ0_coder_7d493 : Room := { frames := 0, cells := 0, slots := 0, locals := 0 }
set_option maxHeartbeats 4000000 in
set_option maxRecDepth 100000 in
theorem tc_J0_coder_7d493 (l : Launch) (D : va_G) (kA : Nat → ClassId) (nm : Nat → Nat) (na : Nat) (sa sv : Nat → Nat) (sz : Nat) (T : LY) (h : Nat) (M : CM) (Q : Int32 → CM → Prop) (hw : fc_J0_coder_7d493 T h  M Q) : Met l yJ0_coder_7d493 wsJ0_coder_7d493 rmJ0_coder_7d493 (va_Pc [.ref (sa h)] (cPc nm na sa sv D kA T M sz)) (va_Qi Q (cB D kA (cF T sz) T) (cF T sz)) 0 0 (cF T sz) := by
  refine Met.ofW (cc := cJ0_coder_7d493) (maxL := 1) (ret := (some .byte)) (by decide) rfl ?_
  intro p e s m args below meth c s₁ B hml hv
  obtain ⟨rfl, hsz, hP, hK, hSt⟩ := hv
  have hx := B.exec
  have hb := B.bytes
  have hr := B.returns
  have hts := atoms_spec (ws := wsJ0_coder_7d493) B.pre
  have hown : s.vm.findClass RJ0 = some m.cls := findClass_of_methodNamed B.named
  have hlocks : meth.locks = false := B.notSynchronized
  subst hsz
  have hH : cH D kA (cF T s.heap.size) s.heap T M s.heap [] := ⟨hP.self, va_S.rf⟩
  have hA : ∀ q : Nat, s.heap.size ≤ q → cF T s.heap.size q := fun q z => Or.inr z
  generalize cF T s.heap.size = A at hH hA hSt ⊢
  have hl := lv_entry ([.ref (sa h)]) (n := 1) (by first | exact Nat.le_of_ble_eq_true rfl | simp [lg_sl, va_rf_cat, cat_ref, cat_int, cat_long, cat_double])
  rw [lg_entry_eq]
  generalize (lg_sl ([.ref (sa h)]) ++ List.replicate (1 - (lg_sl ([.ref (sa h)])).length) Slot.unset).toArray = ls at hl ⊢
  generalize ([.ref (sa h)] : List Value).toArray = args at hts ⊢
  have hl : lv_has ls 1 [(0, .ref (sa h))] := hl
  have b14 : ∀ (s0 : Int32) (M : CM) (H : Heap) (locs : List Loc) (ls : Array Slot), cH D kA A s.heap T M H locs → lv_has ls 1 [] → fc_J0_coder_7d493_b14 T h Q  s0 M → W p l e (headSpec wsJ0_coder_7d493 rmJ0_coder_7d493).room s m args below meth c H locs 0 0 (MQ below (va_Qi Q (cB D kA A T) A) args s 0 0 A) (F0 m 14 ls [.int s0]) := by
    intro   s0 M H locs ls hH hl hw
    unfold fc_J0_coder_7d493_b14 at hw
    exact c_retz hx hb hr hw.1.1 hlocks hK hH hw.2 dJ0_coder_7d493_14
  clear hP
  unfold fc_J0_coder_7d493 at hw
  have hst : ∀ (M : CM) (H : Heap) (locs : List Loc) (ls : Array Slot), cH D kA A s.heap T M H locs → lv_has ls 1 [(0, .ref (sa h))] → (((1 : Int32) = 0 → fc_J0_coder_7d493_b14 T h Q  1 M) ∧ (¬ (1 : Int32) = 0 → (h < 16 ∧ fc_J0_coder_7d493_b14 T h Q  0 M))) → W p l e (headSpec wsJ0_coder_7d493 rmJ0_coder_7d493).room s m args below meth c H locs 0 0 (MQ below (va_Qi Q (cB D kA A T) A) args s 0 0 A) (F0 m 0 ls []) := by
    intro M H locs ls hH hl hw
    refine cs_compact hx hb hown hSt hH (hts (.fieldLink RJ0 38 "java/lang/String" "COMPACT_STRINGS" "Z") (by decide +kernel)) dJ0_coder_7d493_0 ?_
    refine lv_if_eq (tgt := 13) hx hb dJ0_coder_7d493_3 (by decide) (fun c1 => ?_) (fun c1 => ?_)
    · replace hw := hw.1 c1
      refine lv_iconst (v := 1) hx hb dJ0_coder_7d493_13 (by decide) ?_
      exact b14   1 M H locs ls hH (lv_sub hl [] rfl) hw
    · replace hw := hw.2 c1
      refine lv_aload_n hx hb dJ0_coder_7d493_6 rfl (lv_at hl 0 rfl) ?_
      obtain ⟨h2, hw⟩ := hw
      refine cs_coder hx hb hown hSt hH h2 (hts (.fieldLink RJ0 15 "java/lang/String" "coder" "B") (by decide +kernel)) dJ0_coder_7d493_7 ?_
      refine lv_goto (tgt := 14) hx hb dJ0_coder_7d493_10 (by decide) ?_
      exact b14   0 M H locs ls hH (lv_sub hl [] rfl) hw
  exact hst M s.heap [] ls hH hl hw
def fc_J0_length_8abf5 (T : LY) (h : Nat)  (M : CM) (Q : Int32 → CM → Prop) : Prop := (h < 16 ∧ fc_J0_coder_7d493 T h M (fun (r3 : Int32) (M2 : CM) => Q ((nI (sLen h)) >>> (r3 &&& 31)) M2))
abbrev rmJ0_length_8abf5 : Room := { frames := 1, cells := 0, slots := 0, locals := 20 }
set_option maxHeartbeats 4000000 in
set_option maxRecDepth 100000 in
theorem tc_J0_length_8abf5 (l : Launch) (D : va_G) (kA : Nat → ClassId) (nm : Nat → Nat) (na : Nat) (sa sv : Nat → Nat) (sz : Nat) (T : LY) (h : Nat) (M : CM) (Q : Int32 → CM → Prop) (hw : fc_J0_length_8abf5 T h  M Q) : Met l yJ0_length_8abf5 wsJ0_length_8abf5 rmJ0_length_8abf5 (va_Pc [.ref (sa h)] (cPc nm na sa sv D kA T M sz)) (va_Qi Q (cB D kA (cF T sz) T) (cF T sz)) 0 0 (cF T sz) := by
  refine Met.ofW (cc := cJ0_length_8abf5) (maxL := 1) (ret := (some .int)) (by decide) rfl ?_
  intro p e s m args below meth c s₁ B hml hv
  obtain ⟨rfl, hsz, hP, hK, hSt⟩ := hv
  have hx := B.exec
  have hb := B.bytes
  have hr := B.returns
  have hts := atoms_spec (ws := wsJ0_length_8abf5) B.pre
  have hown : s.vm.findClass RJ0 = some m.cls := findClass_of_methodNamed B.named
  have hlocks : meth.locks = false := B.notSynchronized
  subst hsz
  have hH : cH D kA (cF T s.heap.size) s.heap T M s.heap [] := ⟨hP.self, va_S.rf⟩
  have hA : ∀ q : Nat, s.heap.size ≤ q → cF T s.heap.size q := fun q z => Or.inr z
  generalize cF T s.heap.size = A at hH hA hSt ⊢
  have hl := lv_entry ([.ref (sa h)]) (n := 1) (by first | exact Nat.le_of_ble_eq_true rfl | simp [lg_sl, va_rf_cat, cat_ref, cat_int, cat_long, cat_double])
  rw [lg_entry_eq]
  generalize (lg_sl ([.ref (sa h)]) ++ List.replicate (1 - (lg_sl ([.ref (sa h)])).length) Slot.unset).toArray = ls at hl ⊢
  generalize ([.ref (sa h)] : List Value).toArray = args at hts ⊢
  have hl : lv_has ls 1 [(0, .ref (sa h))] := hl
  clear hP
  unfold fc_J0_length_8abf5 at hw
  have hst : ∀ (M : CM) (H : Heap) (locs : List Loc) (ls : Array Slot), cH D kA A s.heap T M H locs → lv_has ls 1 [(0, .ref (sa h))] → (h < 16 ∧ fc_J0_coder_7d493 T h M (fun (r3 : Int32) (M2 : CM) => Q ((nI (sLen h)) >>> (r3 &&& 31)) M2)) → W p l e (headSpec wsJ0_length_8abf5 rmJ0_length_8abf5).room s m args below meth c H locs 0 0 (MQ below (va_Qi Q (cB D kA A T) A) args s 0 0 A) (F0 m 0 ls []) := by
    intro M H locs ls hH hl hw
    refine lv_aload_n hx hb dJ0_length_8abf5_0 rfl (lv_at hl 0 rfl) ?_
    obtain ⟨h1, hw⟩ := hw
    refine cs_value hx hb hown hSt hH h1 (hts (.fieldLink RJ0 9 "java/lang/String" "value" "[B") (by decide +kernel)) dJ0_length_8abf5_1 ?_
    refine cs_len hx hb hSt hH h1 dJ0_length_8abf5_4 ?_
    refine lv_aload_n hx hb dJ0_length_8abf5_5 rfl (lv_at hl 0 rfl) ?_
    refine c_calli (va_runV (As := []) (rest := [.int (nI (sLen h))]) ⟨hx, hb, hml, hown, hts⟩ (tc_J0_coder_7d493 l D kA nm na sa sv H.size T h M _ hw) (cwV 0 hts gJ0_length_8abf5_J0_coder_7d493 rfl rfl rfl (by decide +kernel) ⟨(show (0 : Nat) + 1 ≤ 1 from Nat.le_of_ble_eq_true rfl), (show 8 + (1 + 11) + (0 : Nat) ≤ 20 from Nat.le_of_ble_eq_true rfl)⟩) (c_preV hK hH hA hSt (c_recvS hSt hH h1)) rfl rfl hl.1 rfl (lv_room (by first | exact Nat.le_of_ble_eq_true rfl | simp [va_rf_cat, cat_ref, cat_int, cat_long, cat_double, cat_null])) dJ0_length_8abf5_6 ⟨Nat.le_of_ble_eq_true rfl, Nat.le_of_ble_eq_true rfl⟩) hH hA (fun r3 M2 H locs hw hH => ?_)
    refine lv_ishr hx hb dJ0_length_8abf5_9 ?_
    exact c_reti hx hb hr hlocks hK hH hw dJ0_length_8abf5_10
  exact hst M s.heap [] ls hH hl hw
def fc_J0_isLatin1_aae02_b18 (T : LY) (h : Nat) (Q : Int32 → CM → Prop) (s0 : Int32) (M : CM) : Prop := (nZ s0 ∧ Q s0 M)
def fc_J0_isLatin1_aae02_b17 (T : LY) (h : Nat) (Q : Int32 → CM → Prop) (M : CM) : Prop := fc_J0_isLatin1_aae02_b18 T h Q  0 M
def fc_J0_isLatin1_aae02 (T : LY) (h : Nat)  (M : CM) (Q : Int32 → CM → Prop) : Prop := (((1 : Int32) = 0 → fc_J0_isLatin1_aae02_b17 T h Q   M) ∧ (¬ (1 : Int32) = 0 → (h < 16 ∧ ((¬ (0 : Int32) = 0 → fc_J0_isLatin1_aae02_b17 T h Q   M) ∧ ((0 : Int32) = 0 → fc_J0_isLatin1_aae02_b18 T h Q  1 M)))))
abbrev rmJ0_isLatin1_aae02 : Room := { frames := 0, cells := 0, slots := 0, locals := 0 }
set_option maxHeartbeats 4000000 in
set_option maxRecDepth 100000 in
theorem tc_J0_isLatin1_aae02 (l : Launch) (D : va_G) (kA : Nat → ClassId) (nm : Nat → Nat) (na : Nat) (sa sv : Nat → Nat) (sz : Nat) (T : LY) (h : Nat) (M : CM) (Q : Int32 → CM → Prop) (hw : fc_J0_isLatin1_aae02 T h  M Q) : Met l yJ0_isLatin1_aae02 wsJ0_isLatin1_aae02 rmJ0_isLatin1_aae02 (va_Pc [.ref (sa h)] (cPc nm na sa sv D kA T M sz)) (va_Qi Q (cB D kA (cF T sz) T) (cF T sz)) 0 0 (cF T sz) := by
  refine Met.ofW (cc := cJ0_isLatin1_aae02) (maxL := 1) (ret := (some .boolean)) (by decide) rfl ?_
  intro p e s m args below meth c s₁ B hml hv
  obtain ⟨rfl, hsz, hP, hK, hSt⟩ := hv
  have hx := B.exec
  have hb := B.bytes
  have hr := B.returns
  have hts := atoms_spec (ws := wsJ0_isLatin1_aae02) B.pre
  have hown : s.vm.findClass RJ0 = some m.cls := findClass_of_methodNamed B.named
  have hlocks : meth.locks = false := B.notSynchronized
  subst hsz
  have hH : cH D kA (cF T s.heap.size) s.heap T M s.heap [] := ⟨hP.self, va_S.rf⟩
  have hA : ∀ q : Nat, s.heap.size ≤ q → cF T s.heap.size q := fun q z => Or.inr z
  generalize cF T s.heap.size = A at hH hA hSt ⊢
  have hl := lv_entry ([.ref (sa h)]) (n := 1) (by first | exact Nat.le_of_ble_eq_true rfl | simp [lg_sl, va_rf_cat, cat_ref, cat_int, cat_long, cat_double])
  rw [lg_entry_eq]
  generalize (lg_sl ([.ref (sa h)]) ++ List.replicate (1 - (lg_sl ([.ref (sa h)])).length) Slot.unset).toArray = ls at hl ⊢
  generalize ([.ref (sa h)] : List Value).toArray = args at hts ⊢
  have hl : lv_has ls 1 [(0, .ref (sa h))] := hl
  have b18 : ∀ (s0 : Int32) (M : CM) (H : Heap) (locs : List Loc) (ls : Array Slot), cH D kA A s.heap T M H locs → lv_has ls 1 [] → fc_J0_isLatin1_aae02_b18 T h Q  s0 M → W p l e (headSpec wsJ0_isLatin1_aae02 rmJ0_isLatin1_aae02).room s m args below meth c H locs 0 0 (MQ below (va_Qi Q (cB D kA A T) A) args s 0 0 A) (F0 m 18 ls [.int s0]) := by
    intro   s0 M H locs ls hH hl hw
    unfold fc_J0_isLatin1_aae02_b18 at hw
    exact c_retz hx hb hr hw.1.1 hlocks hK hH hw.2 dJ0_isLatin1_aae02_18
  have b17 : ∀ (M : CM) (H : Heap) (locs : List Loc) (ls : Array Slot), cH D kA A s.heap T M H locs → lv_has ls 1 [] → fc_J0_isLatin1_aae02_b17 T h Q   M → W p l e (headSpec wsJ0_isLatin1_aae02 rmJ0_isLatin1_aae02).room s m args below meth c H locs 0 0 (MQ below (va_Qi Q (cB D kA A T) A) args s 0 0 A) (F0 m 17 ls []) := by
    intro    M H locs ls hH hl hw
    unfold fc_J0_isLatin1_aae02_b17 at hw
    refine lv_iconst (v := 0) hx hb dJ0_isLatin1_aae02_17 (by decide) ?_
    exact b18   0 M H locs ls hH (lv_sub hl [] rfl) hw
  clear hP
  unfold fc_J0_isLatin1_aae02 at hw
  have hst : ∀ (M : CM) (H : Heap) (locs : List Loc) (ls : Array Slot), cH D kA A s.heap T M H locs → lv_has ls 1 [(0, .ref (sa h))] → (((1 : Int32) = 0 → fc_J0_isLatin1_aae02_b17 T h Q   M) ∧ (¬ (1 : Int32) = 0 → (h < 16 ∧ ((¬ (0 : Int32) = 0 → fc_J0_isLatin1_aae02_b17 T h Q   M) ∧ ((0 : Int32) = 0 → fc_J0_isLatin1_aae02_b18 T h Q  1 M))))) → W p l e (headSpec wsJ0_isLatin1_aae02 rmJ0_isLatin1_aae02).room s m args below meth c H locs 0 0 (MQ below (va_Qi Q (cB D kA A T) A) args s 0 0 A) (F0 m 0 ls []) := by
    intro M H locs ls hH hl hw
    refine cs_compact hx hb hown hSt hH (hts (.fieldLink RJ0 38 "java/lang/String" "COMPACT_STRINGS" "Z") (by decide +kernel)) dJ0_isLatin1_aae02_0 ?_
    refine lv_if_eq (tgt := 17) hx hb dJ0_isLatin1_aae02_3 (by decide) (fun c1 => ?_) (fun c1 => ?_)
    · replace hw := hw.1 c1
      exact b17    M H locs ls hH (lv_sub hl [] rfl) hw
    · replace hw := hw.2 c1
      refine lv_aload_n hx hb dJ0_isLatin1_aae02_6 rfl (lv_at hl 0 rfl) ?_
      obtain ⟨h2, hw⟩ := hw
      refine cs_coder hx hb hown hSt hH h2 (hts (.fieldLink RJ0 15 "java/lang/String" "coder" "B") (by decide +kernel)) dJ0_isLatin1_aae02_7 ?_
      refine lv_if_ne (tgt := 17) hx hb dJ0_isLatin1_aae02_10 (by decide) (fun c3 => ?_) (fun c3 => ?_)
      · replace hw := hw.1 c3
        exact b17    M H locs ls hH (lv_sub hl [] rfl) hw
      · replace hw := hw.2 c3
        refine lv_iconst (v := 1) hx hb dJ0_isLatin1_aae02_13 (by decide) ?_
        refine lv_goto (tgt := 18) hx hb dJ0_isLatin1_aae02_14 (by decide) ?_
        exact b18   1 M H locs ls hH (lv_sub hl [] rfl) hw
  exact hst M s.heap [] ls hH hl hw
def fc_J3_checkIndex_8e157_b9 (T : LY) (Q : Int32 → CM → Prop) (v0 : Int32) (v1 : Int32) (v2 : Option Nat) (M : CM) : Prop := False
def fc_J3_checkIndex_8e157 (T : LY)  (a1 : Int32) (a2 : Int32) (a3 : Option Nat) (M : CM) (Q : Int32 → CM → Prop) : Prop := ((a1 < 0 → fc_J3_checkIndex_8e157_b9 T Q  a1 a2 a3 M) ∧ (¬ a1 < 0 → ((a1 < a2 → Q a1 M) ∧ (¬ a1 < a2 → fc_J3_checkIndex_8e157_b9 T Q  a1 a2 a3 M))))
abbrev rmJ3_checkIndex_8e157 : Room := { frames := 0, cells := 0, slots := 0, locals := 0 }
set_option maxHeartbeats 4000000 in
set_option maxRecDepth 100000 in
theorem tc_J3_checkIndex_8e157 (l : Launch) (D : va_G) (kA : Nat → ClassId) (nm : Nat → Nat) (na : Nat) (sa sv : Nat → Nat) (sz : Nat) (T : LY) (a1 : Int32) (a2 : Int32) (a3 : Option Nat) (M : CM) (Q : Int32 → CM → Prop) (hw : fc_J3_checkIndex_8e157 T a1 a2 a3 M Q) : Met l yJ3_checkIndex_8e157 wsJ3_checkIndex_8e157 rmJ3_checkIndex_8e157 (va_Pc [.int a1, .int a2, va_rf a3] (cPc nm na sa sv D kA T M sz)) (va_Qi Q (cB D kA (cF T sz) T) (cF T sz)) 0 0 (cF T sz) := by
  refine Met.ofW (cc := cJ3_checkIndex_8e157) (maxL := 3) (ret := (some .int)) (by decide) rfl ?_
  intro p e s m args below meth c s₁ B hml hv
  obtain ⟨rfl, hsz, hP, hK, hSt⟩ := hv
  have hx := B.exec
  have hb := B.bytes
  have hr := B.returns
  have hts := atoms_spec (ws := wsJ3_checkIndex_8e157) B.pre
  have hown : s.vm.findClass RJ3 = some m.cls := findClass_of_methodNamed B.named
  have hlocks : meth.locks = false := B.notSynchronized
  subst hsz
  have hH : cH D kA (cF T s.heap.size) s.heap T M s.heap [] := ⟨hP.self, va_S.rf⟩
  have hA : ∀ q : Nat, s.heap.size ≤ q → cF T s.heap.size q := fun q z => Or.inr z
  generalize cF T s.heap.size = A at hH hA hSt ⊢
  have hl := lv_entry ([.int a1, .int a2, va_rf a3]) (n := 3) (by first | exact Nat.le_of_ble_eq_true rfl | simp [lg_sl, va_rf_cat, cat_ref, cat_int, cat_long, cat_double])
  rw [lg_entry_eq]
  generalize (lg_sl ([.int a1, .int a2, va_rf a3]) ++ List.replicate (3 - (lg_sl ([.int a1, .int a2, va_rf a3])).length) Slot.unset).toArray = ls at hl ⊢
  generalize ([.int a1, .int a2, va_rf a3] : List Value).toArray = args at hts ⊢
  have hl : lv_has ls 3 [(0, .int a1), (1, .int a2), (2, va_rf a3)] := by simpa [lv_args, va_rf_cat, cat_ref, cat_int, cat_long, cat_double] using hl
  have b9 : ∀ (v0 : Int32) (v1 : Int32) (v2 : Option Nat) (M : CM) (H : Heap) (locs : List Loc) (ls : Array Slot), cH D kA A s.heap T M H locs → lv_has ls 3 [(0, .int v0), (1, .int v1), (2, va_rf v2)] → fc_J3_checkIndex_8e157_b9 T Q  v0 v1 v2 M → W p l e (headSpec wsJ3_checkIndex_8e157 rmJ3_checkIndex_8e157).room s m args below meth c H locs 0 0 (MQ below (va_Qi Q (cB D kA A T) A) args s 0 0 A) (F0 m 9 ls []) := by
    intro   v0 v1 v2 M H locs ls hH hl hw
    unfold fc_J3_checkIndex_8e157_b9 at hw
    exact False.elim hw
  clear hP
  unfold fc_J3_checkIndex_8e157 at hw
  have hst : ∀ (M : CM) (H : Heap) (locs : List Loc) (ls : Array Slot), cH D kA A s.heap T M H locs → lv_has ls 3 [(0, .int a1), (1, .int a2), (2, va_rf a3)] → ((a1 < 0 → fc_J3_checkIndex_8e157_b9 T Q  a1 a2 a3 M) ∧ (¬ a1 < 0 → ((a1 < a2 → Q a1 M) ∧ (¬ a1 < a2 → fc_J3_checkIndex_8e157_b9 T Q  a1 a2 a3 M)))) → W p l e (headSpec wsJ3_checkIndex_8e157 rmJ3_checkIndex_8e157).room s m args below meth c H locs 0 0 (MQ below (va_Qi Q (cB D kA A T) A) args s 0 0 A) (F0 m 0 ls []) := by
    intro M H locs ls hH hl hw
    refine lv_iload_n hx hb dJ3_checkIndex_8e157_0 rfl (lv_at hl 0 rfl) ?_
    refine lv_if_lt (tgt := 9) hx hb dJ3_checkIndex_8e157_1 (by decide) (fun c1 => ?_) (fun c1 => ?_)
    · replace hw := hw.1 c1
      exact b9   a1 a2 a3 M H locs ls hH (lv_sub hl [0, 1, 2] rfl) hw
    · replace hw := hw.2 c1
      refine lv_iload_n hx hb dJ3_checkIndex_8e157_4 rfl (lv_at hl 0 rfl) ?_
      refine lv_iload_n hx hb dJ3_checkIndex_8e157_5 rfl (lv_at hl 1 rfl) ?_
      refine lv_icmp_lt (tgt := 16) hx hb dJ3_checkIndex_8e157_6 (by decide) (fun c2 => ?_) (fun c2 => ?_)
      · replace hw := hw.1 c2
        refine lv_iload_n hx hb dJ3_checkIndex_8e157_16 rfl (lv_at hl 0 rfl) ?_
        exact c_reti hx hb hr hlocks hK hH hw dJ3_checkIndex_8e157_17
      · replace hw := hw.2 c2
        exact b9   a1 a2 a3 M H locs ls hH (lv_sub hl [0, 1, 2] rfl) hw
  exact hst M s.heap [] ls hH hl hw
def fc_J0_checkIndex_df160 (T : LY)  (a1 : Int32) (a2 : Int32) (M : CM) (Q : CM → Prop) : Prop := (∀ x1 : Option Nat, fc_J3_checkIndex_8e157 T a1 a2 x1 M (fun (r3 : Int32) (M2 : CM) => Q M2))
abbrev rmJ0_checkIndex_df160 : Room := { frames := 1, cells := 0, slots := 0, locals := 22 }
set_option maxHeartbeats 4000000 in
set_option maxRecDepth 100000 in
theorem tc_J0_checkIndex_df160 (l : Launch) (D : va_G) (kA : Nat → ClassId) (nm : Nat → Nat) (na : Nat) (sa sv : Nat → Nat) (sz : Nat) (T : LY) (a1 : Int32) (a2 : Int32) (M : CM) (Q : CM → Prop) (hw : fc_J0_checkIndex_df160 T a1 a2 M Q) : Met l yJ0_checkIndex_df160 wsJ0_checkIndex_df160 rmJ0_checkIndex_df160 (va_Pc [.int a1, .int a2] (cPc nm na sa sv D kA T M sz)) (va_Qv Q (cB D kA (cF T sz) T) (cF T sz)) 0 0 (cF T sz) := by
  refine Met.ofW (cc := cJ0_checkIndex_df160) (maxL := 2) (ret := none) (by decide) rfl ?_
  intro p e s m args below meth c s₁ B hml hv
  obtain ⟨rfl, hsz, hP, hK, hSt⟩ := hv
  have hx := B.exec
  have hb := B.bytes
  have hr := B.returns
  have hts := atoms_spec (ws := wsJ0_checkIndex_df160) B.pre
  have hown : s.vm.findClass RJ0 = some m.cls := findClass_of_methodNamed B.named
  have hlocks : meth.locks = false := B.notSynchronized
  subst hsz
  have hH : cH D kA (cF T s.heap.size) s.heap T M s.heap [] := ⟨hP.self, va_S.rf⟩
  have hA : ∀ q : Nat, s.heap.size ≤ q → cF T s.heap.size q := fun q z => Or.inr z
  generalize cF T s.heap.size = A at hH hA hSt ⊢
  have hl := lv_entry ([.int a1, .int a2]) (n := 2) (by first | exact Nat.le_of_ble_eq_true rfl | simp [lg_sl, va_rf_cat, cat_ref, cat_int, cat_long, cat_double])
  rw [lg_entry_eq]
  generalize (lg_sl ([.int a1, .int a2]) ++ List.replicate (2 - (lg_sl ([.int a1, .int a2])).length) Slot.unset).toArray = ls at hl ⊢
  generalize ([.int a1, .int a2] : List Value).toArray = args at hts ⊢
  have hl : lv_has ls 2 [(0, .int a1), (1, .int a2)] := hl
  clear hP
  unfold fc_J0_checkIndex_df160 at hw
  have hst : ∀ (M : CM) (H : Heap) (locs : List Loc) (ls : Array Slot), cH D kA A s.heap T M H locs → lv_has ls 2 [(0, .int a1), (1, .int a2)] → (∀ x1 : Option Nat, fc_J3_checkIndex_8e157 T a1 a2 x1 M (fun (r3 : Int32) (M2 : CM) => Q M2)) → W p l e (headSpec wsJ0_checkIndex_df160 rmJ0_checkIndex_df160).room s m args below meth c H locs 0 0 (MQ below (va_Qv Q (cB D kA A T) A) args s 0 0 A) (F0 m 0 ls []) := by
    intro M H locs ls hH hl hw
    refine lv_iload_n hx hb dJ0_checkIndex_df160_0 rfl (lv_at hl 0 rfl) ?_
    refine lv_iload_n hx hb dJ0_checkIndex_df160_1 rfl (lv_at hl 1 rfl) ?_
    refine cs_form hx hb hown hSt hH (hts (.fieldLink RJ0 1053 "jdk/internal/util/Preconditions" "SIOOBE_FORMATTER" "Ljava/util/function/BiFunction;") (by decide +kernel)) dJ0_checkIndex_df160_2 (fun x1 => ?_)
    replace hw := hw x1
    refine c_calli (va_runS (As := [.int a1, .int a2, va_rf x1]) (rest := []) ⟨hx, hb, hml, hown, hts⟩ (tc_J3_checkIndex_8e157 l D kA nm na sa sv H.size T a1 a2 x1 M _ hw) (va_cwS 3 hts gJ0_checkIndex_df160_J3_checkIndex_8e157 rfl rfl rfl (by decide +kernel) ⟨(show (0 : Nat) + 1 ≤ 1 from Nat.le_of_ble_eq_true rfl), (show 8 + (3 + 11) + (0 : Nat) ≤ 22 from Nat.le_of_ble_eq_true rfl)⟩) (c_preS hK hH hA hSt) rfl rfl hl.1 rfl (lv_room (by first | exact Nat.le_of_ble_eq_true rfl | simp [va_rf_cat, cat_ref, cat_int, cat_long, cat_double, cat_null])) dJ0_checkIndex_df160_5 ⟨Nat.le_of_ble_eq_true rfl, Nat.le_of_ble_eq_true rfl⟩) hH hA (fun r3 M2 H locs hw hH => ?_)
    refine lv_pop hx hb dJ0_checkIndex_df160_8 rfl ?_
    exact c_retv hx hb hr hlocks hK hH hw dJ0_checkIndex_df160_9
  exact hst M s.heap [] ls hH hl hw
def fc_J1_charAt_3b067 (T : LY)  (a1 : Nat) (a2 : Int32) (M : CM) (Q : Int32 → CM → Prop) : Prop := (a1 < 16 ∧ fc_J0_checkIndex_df160 T a2 (nI (sLen a1)) M (fun (M2 : CM) => (vp_in a2 (sLen a1) ∧ (nC ((((sByte a1 a2.toNatClampNeg) &&& 255).toUInt32 % 65536).toInt32) ∧ Q ((((sByte a1 a2.toNatClampNeg) &&& 255).toUInt32 % 65536).toInt32) M2))))
abbrev rmJ1_charAt_3b067 : Room := { frames := 2, cells := 0, slots := 0, locals := 43 }
set_option maxHeartbeats 4000000 in
set_option maxRecDepth 100000 in
theorem tc_J1_charAt_3b067 (l : Launch) (D : va_G) (kA : Nat → ClassId) (nm : Nat → Nat) (na : Nat) (sa sv : Nat → Nat) (sz : Nat) (T : LY) (a1 : Nat) (a2 : Int32) (M : CM) (Q : Int32 → CM → Prop) (hw : fc_J1_charAt_3b067 T a1 a2 M Q) : Met l yJ1_charAt_3b067 wsJ1_charAt_3b067 rmJ1_charAt_3b067 (va_Pc [.ref (sv a1), .int a2] (cPc nm na sa sv D kA T M sz)) (va_Qi Q (cB D kA (cF T sz) T) (cF T sz)) 0 0 (cF T sz) := by
  refine Met.ofW (cc := cJ1_charAt_3b067) (maxL := 2) (ret := (some .char)) (by decide) rfl ?_
  intro p e s m args below meth c s₁ B hml hv
  obtain ⟨rfl, hsz, hP, hK, hSt⟩ := hv
  have hx := B.exec
  have hb := B.bytes
  have hr := B.returns
  have hts := atoms_spec (ws := wsJ1_charAt_3b067) B.pre
  have hown : s.vm.findClass RJ1 = some m.cls := findClass_of_methodNamed B.named
  have hlocks : meth.locks = false := B.notSynchronized
  subst hsz
  have hH : cH D kA (cF T s.heap.size) s.heap T M s.heap [] := ⟨hP.self, va_S.rf⟩
  have hA : ∀ q : Nat, s.heap.size ≤ q → cF T s.heap.size q := fun q z => Or.inr z
  generalize cF T s.heap.size = A at hH hA hSt ⊢
  have hl := lv_entry ([.ref (sv a1), .int a2]) (n := 2) (by first | exact Nat.le_of_ble_eq_true rfl | simp [lg_sl, va_rf_cat, cat_ref, cat_int, cat_long, cat_double])
  rw [lg_entry_eq]
  generalize (lg_sl ([.ref (sv a1), .int a2]) ++ List.replicate (2 - (lg_sl ([.ref (sv a1), .int a2])).length) Slot.unset).toArray = ls at hl ⊢
  generalize ([.ref (sv a1), .int a2] : List Value).toArray = args at hts ⊢
  have hl : lv_has ls 2 [(0, .ref (sv a1)), (1, .int a2)] := hl
  clear hP
  unfold fc_J1_charAt_3b067 at hw
  have hst : ∀ (M : CM) (H : Heap) (locs : List Loc) (ls : Array Slot), cH D kA A s.heap T M H locs → lv_has ls 2 [(0, .ref (sv a1)), (1, .int a2)] → (a1 < 16 ∧ fc_J0_checkIndex_df160 T a2 (nI (sLen a1)) M (fun (M2 : CM) => (vp_in a2 (sLen a1) ∧ (nC ((((sByte a1 a2.toNatClampNeg) &&& 255).toUInt32 % 65536).toInt32) ∧ Q ((((sByte a1 a2.toNatClampNeg) &&& 255).toUInt32 % 65536).toInt32) M2)))) → W p l e (headSpec wsJ1_charAt_3b067 rmJ1_charAt_3b067).room s m args below meth c H locs 0 0 (MQ below (va_Qi Q (cB D kA A T) A) args s 0 0 A) (F0 m 0 ls []) := by
    intro M H locs ls hH hl hw
    refine lv_iload_n hx hb dJ1_charAt_3b067_0 rfl (lv_at hl 1 rfl) ?_
    refine lv_aload_n hx hb dJ1_charAt_3b067_1 rfl (lv_at hl 0 rfl) ?_
    obtain ⟨h1, hw⟩ := hw
    refine cs_len hx hb hSt hH h1 dJ1_charAt_3b067_2 ?_
    refine c_callv (va_runS (As := [.int a2, .int (nI (sLen a1))]) (rest := []) ⟨hx, hb, hml, hown, hts⟩ (tc_J0_checkIndex_df160 l D kA nm na sa sv H.size T a2 (nI (sLen a1)) M _ hw) (va_cwS 2 hts gJ1_charAt_3b067_J0_checkIndex_df160 rfl rfl rfl (by decide +kernel) ⟨(show (1 : Nat) + 1 ≤ 2 from Nat.le_of_ble_eq_true rfl), (show 8 + (2 + 11) + (22 : Nat) ≤ 43 from Nat.le_of_ble_eq_true rfl)⟩) (c_preS hK hH hA hSt) rfl rfl hl.1 rfl (lv_room (by first | exact Nat.le_of_ble_eq_true rfl | simp [va_rf_cat, cat_ref, cat_int, cat_long, cat_double, cat_null])) dJ1_charAt_3b067_3 ⟨Nat.le_of_ble_eq_true rfl, Nat.le_of_ble_eq_true rfl⟩) hH hA (fun M2 H locs hw hH => ?_)
    refine lv_aload_n hx hb dJ1_charAt_3b067_6 rfl (lv_at hl 0 rfl) ?_
    refine lv_iload_n hx hb dJ1_charAt_3b067_7 rfl (lv_at hl 1 rfl) ?_
    obtain ⟨h5, hw⟩ := hw
    refine cs_bld hx hb hSt hH h1 h5 dJ1_charAt_3b067_8 ?_
    refine lv_sipush (v := 255) hx hb dJ1_charAt_3b067_9 (by decide) ?_
    refine lv_iand hx hb dJ1_charAt_3b067_12 ?_
    refine lv_i2c hx hb dJ1_charAt_3b067_13 rfl ?_
    exact c_retz hx hb hr hw.1.1 hlocks hK hH hw.2 dJ1_charAt_3b067_14
  exact hst M s.heap [] ls hH hl hw
def fc_J0_charAt_5068e (T : LY) (h : Nat)  (a1 : Int32) (M : CM) (Q : Int32 → CM → Prop) : Prop := (h < 16 ∧ fc_J0_isLatin1_aae02 T h M (fun (r3 : Int32) (M2 : CM) => ((r3 = 0 → False) ∧ (¬ r3 = 0 → fc_J1_charAt_3b067 T h a1 M2 (fun (r7 : Int32) (M6 : CM) => (nC r7 ∧ Q r7 M6))))))
abbrev rmJ0_charAt_5068e : Room := { frames := 3, cells := 0, slots := 0, locals := 64 }
set_option maxHeartbeats 4000000 in
set_option maxRecDepth 100000 in
theorem tc_J0_charAt_5068e (l : Launch) (D : va_G) (kA : Nat → ClassId) (nm : Nat → Nat) (na : Nat) (sa sv : Nat → Nat) (sz : Nat) (T : LY) (h : Nat) (a1 : Int32) (M : CM) (Q : Int32 → CM → Prop) (hw : fc_J0_charAt_5068e T h a1 M Q) : Met l yJ0_charAt_5068e wsJ0_charAt_5068e rmJ0_charAt_5068e (va_Pc [.ref (sa h), .int a1] (cPc nm na sa sv D kA T M sz)) (va_Qi Q (cB D kA (cF T sz) T) (cF T sz)) 0 0 (cF T sz) := by
  refine Met.ofW (cc := cJ0_charAt_5068e) (maxL := 2) (ret := (some .char)) (by decide) rfl ?_
  intro p e s m args below meth c s₁ B hml hv
  obtain ⟨rfl, hsz, hP, hK, hSt⟩ := hv
  have hx := B.exec
  have hb := B.bytes
  have hr := B.returns
  have hts := atoms_spec (ws := wsJ0_charAt_5068e) B.pre
  have hown : s.vm.findClass RJ0 = some m.cls := findClass_of_methodNamed B.named
  have hlocks : meth.locks = false := B.notSynchronized
  subst hsz
  have hH : cH D kA (cF T s.heap.size) s.heap T M s.heap [] := ⟨hP.self, va_S.rf⟩
  have hA : ∀ q : Nat, s.heap.size ≤ q → cF T s.heap.size q := fun q z => Or.inr z
  generalize cF T s.heap.size = A at hH hA hSt ⊢
  have hl := lv_entry ([.ref (sa h), .int a1]) (n := 2) (by first | exact Nat.le_of_ble_eq_true rfl | simp [lg_sl, va_rf_cat, cat_ref, cat_int, cat_long, cat_double])
  rw [lg_entry_eq]
  generalize (lg_sl ([.ref (sa h), .int a1]) ++ List.replicate (2 - (lg_sl ([.ref (sa h), .int a1])).length) Slot.unset).toArray = ls at hl ⊢
  generalize ([.ref (sa h), .int a1] : List Value).toArray = args at hts ⊢
  have hl : lv_has ls 2 [(0, .ref (sa h)), (1, .int a1)] := hl
  clear hP
  unfold fc_J0_charAt_5068e at hw
  have hst : ∀ (M : CM) (H : Heap) (locs : List Loc) (ls : Array Slot), cH D kA A s.heap T M H locs → lv_has ls 2 [(0, .ref (sa h)), (1, .int a1)] → (h < 16 ∧ fc_J0_isLatin1_aae02 T h M (fun (r3 : Int32) (M2 : CM) => ((r3 = 0 → False) ∧ (¬ r3 = 0 → fc_J1_charAt_3b067 T h a1 M2 (fun (r7 : Int32) (M6 : CM) => (nC r7 ∧ Q r7 M6)))))) → W p l e (headSpec wsJ0_charAt_5068e rmJ0_charAt_5068e).room s m args below meth c H locs 0 0 (MQ below (va_Qi Q (cB D kA A T) A) args s 0 0 A) (F0 m 0 ls []) := by
    intro M H locs ls hH hl hw
    refine lv_aload_n hx hb dJ0_charAt_5068e_0 rfl (lv_at hl 0 rfl) ?_
    obtain ⟨h1, hw⟩ := hw
    refine c_calli (va_runV (As := []) (rest := []) ⟨hx, hb, hml, hown, hts⟩ (tc_J0_isLatin1_aae02 l D kA nm na sa sv H.size T h M _ hw) (cwV 0 hts gJ0_charAt_5068e_J0_isLatin1_aae02 rfl rfl rfl (by decide +kernel) ⟨(show (0 : Nat) + 1 ≤ 3 from Nat.le_of_ble_eq_true rfl), (show 8 + (1 + 11) + (0 : Nat) ≤ 64 from Nat.le_of_ble_eq_true rfl)⟩) (c_preV hK hH hA hSt (c_recvS hSt hH h1)) rfl rfl hl.1 rfl (lv_room (by first | exact Nat.le_of_ble_eq_true rfl | simp [va_rf_cat, cat_ref, cat_int, cat_long, cat_double, cat_null])) dJ0_charAt_5068e_1 ⟨Nat.le_of_ble_eq_true rfl, Nat.le_of_ble_eq_true rfl⟩) hH hA (fun r3 M2 H locs hw hH => ?_)
    refine lv_if_eq (tgt := 16) hx hb dJ0_charAt_5068e_4 (by decide) (fun c5 => ?_) (fun c5 => ?_)
    · replace hw := hw.1 c5
      exact False.elim hw
    · replace hw := hw.2 c5
      refine lv_aload_n hx hb dJ0_charAt_5068e_7 rfl (lv_at hl 0 rfl) ?_
      refine cs_value hx hb hown hSt hH h1 (hts (.fieldLink RJ0 9 "java/lang/String" "value" "[B") (by decide +kernel)) dJ0_charAt_5068e_8 ?_
      refine lv_iload_n hx hb dJ0_charAt_5068e_11 rfl (lv_at hl 1 rfl) ?_
      refine c_calli (va_runS (As := [.ref (sv h), .int a1]) (rest := []) ⟨hx, hb, hml, hown, hts⟩ (tc_J1_charAt_3b067 l D kA nm na sa sv H.size T h a1 M2 _ hw) (va_cwS 2 hts gJ0_charAt_5068e_J1_charAt_3b067 rfl rfl rfl (by decide +kernel) ⟨(show (2 : Nat) + 1 ≤ 3 from Nat.le_of_ble_eq_true rfl), (show 8 + (2 + 11) + (43 : Nat) ≤ 64 from Nat.le_of_ble_eq_true rfl)⟩) (c_preS hK hH hA hSt) rfl rfl hl.1 rfl (lv_room (by first | exact Nat.le_of_ble_eq_true rfl | simp [va_rf_cat, cat_ref, cat_int, cat_long, cat_double, cat_null])) dJ0_charAt_5068e_12 ⟨Nat.le_of_ble_eq_true rfl, Nat.le_of_ble_eq_true rfl⟩) hH hA (fun r7 M6 H locs hw hH => ?_)
      exact c_retz hx hb hr hw.1.1 hlocks hK hH hw.2 dJ0_charAt_5068e_15
  exact hst M s.heap [] ls hH hl hw
def fc_X7_appendLetters_c2 (T : LY) (h : Nat) (Q : CM → Prop) (k2 : Nat → Int32 → CM → Prop) (v1 : Nat) (v2 : Int32) (M : CM) : Prop := (v1 < 16 ∧ fc_J0_length_8abf5 T v1 M (fun (r3 : Int32) (M2 : CM) => ((r3 ≤ v2 → Q M2) ∧ (¬ r3 ≤ v2 → fc_J0_charAt_5068e T v1 v2 M2 (fun (r7 : Int32) (M6 : CM) => (tg T h = 8 ∧ fc_X7_append T h r7 M6 (fun (M10 : CM) => (∀ x13 : Int32, x13 = v2 + 1 → k2 v1 x13 M10))))))))
def fc_X7_appendLetters_l2 (T : LY) (h : Nat) (Q : CM → Prop) : Nat → Nat → Int32 → CM → Prop := lit (τ := Nat → Int32 → CM → Prop) (fun _ _ _ => False) (fun k => fc_X7_appendLetters_c2 T h Q  k)
def fc_X7_appendLetters (T : LY) (h : Nat)  (a1 : Nat) (M : CM) (Q : CM → Prop) : Prop := (∃ nn : Nat, fc_X7_appendLetters_l2 T h Q  nn a1 0 M)
abbrev rmX7_appendLetters : Room := { frames := 4, cells := 0, slots := 0, locals := 85 }
set_option maxHeartbeats 4000000 in
set_option maxRecDepth 100000 in
theorem tc_X7_appendLetters (l : Launch) (D : va_G) (kA : Nat → ClassId) (nm : Nat → Nat) (na : Nat) (sa sv : Nat → Nat) (sz : Nat) (T : LY) (h : Nat) (a1 : Nat) (M : CM) (Q : CM → Prop) (hw : fc_X7_appendLetters T h a1 M Q) : Met l yX7_appendLetters wsX7_appendLetters rmX7_appendLetters (va_Pc [.ref h, .ref (sa a1)] (cPc nm na sa sv D kA T M sz)) (va_Qv Q (cB D kA (cF T sz) T) (cF T sz)) 0 0 (cF T sz) := by
  refine Met.ofW (cc := cX7_appendLetters) (maxL := 3) (ret := none) (by decide) rfl ?_
  intro p e s m args below meth c s₁ B hml hv
  obtain ⟨rfl, hsz, hP, hK, hSt⟩ := hv
  have hx := B.exec
  have hb := B.bytes
  have hr := B.returns
  have hts := atoms_spec (ws := wsX7_appendLetters) B.pre
  have hown : s.vm.findClass RX7 = some m.cls := findClass_of_methodNamed B.named
  have hlocks : meth.locks = false := B.notSynchronized
  subst hsz
  have hH : cH D kA (cF T s.heap.size) s.heap T M s.heap [] := ⟨hP.self, va_S.rf⟩
  have hA : ∀ q : Nat, s.heap.size ≤ q → cF T s.heap.size q := fun q z => Or.inr z
  generalize cF T s.heap.size = A at hH hA hSt ⊢
  have hl := lv_entry ([.ref h, .ref (sa a1)]) (n := 3) (by first | exact Nat.le_of_ble_eq_true rfl | simp [lg_sl, va_rf_cat, cat_ref, cat_int, cat_long, cat_double])
  rw [lg_entry_eq]
  generalize (lg_sl ([.ref h, .ref (sa a1)]) ++ List.replicate (3 - (lg_sl ([.ref h, .ref (sa a1)])).length) Slot.unset).toArray = ls at hl ⊢
  generalize ([.ref h, .ref (sa a1)] : List Value).toArray = args at hts ⊢
  have hl : lv_has ls 3 [(0, .ref h), (1, .ref (sa a1))] := hl
  have l2 : ∀ (nn : Nat) (v1 : Nat) (v2 : Int32) (M : CM) (H : Heap) (locs : List Loc) (ls : Array Slot), cH D kA A s.heap T M H locs → lv_has ls 3 [(0, .ref h), (1, .ref (sa v1)), (2, .int v2)] → fc_X7_appendLetters_l2 T h Q  nn v1 v2 M → W p l e (headSpec wsX7_appendLetters rmX7_appendLetters).room s m args below meth c H locs 0 0 (MQ below (va_Qv Q (cB D kA A T) A) args s 0 0 A) (F0 m 2 ls []) := by
    intro   nn
    induction nn with
    | zero => intro v1 v2 M H locs ls hH hl hw; exact False.elim hw
    | succ nn hk2 =>
      intro v1 v2 M H locs ls hH hl hw
      replace hw : fc_X7_appendLetters_c2 T h Q  (fc_X7_appendLetters_l2 T h Q  nn) v1 v2 M := hw
      unfold fc_X7_appendLetters_c2 at hw
      refine lv_iload_n hx hb dX7_appendLetters_2 rfl (lv_at hl 2 rfl) ?_
      refine lv_aload_n hx hb dX7_appendLetters_3 rfl (lv_at hl 1 rfl) ?_
      obtain ⟨h1, hw⟩ := hw
      refine c_calli (va_runV (As := []) (rest := [.int v2]) ⟨hx, hb, hml, hown, hts⟩ (tc_J0_length_8abf5 l D kA nm na sa sv H.size T v1 M _ hw) (cwV 0 hts gX7_appendLetters_J0_length_8abf5 rfl rfl rfl (by decide +kernel) ⟨(show (1 : Nat) + 1 ≤ 4 from Nat.le_of_ble_eq_true rfl), (show 8 + (1 + 11) + (20 : Nat) ≤ 85 from Nat.le_of_ble_eq_true rfl)⟩) (c_preV hK hH hA hSt (c_recvS hSt hH h1)) rfl rfl hl.1 rfl (lv_room (by first | exact Nat.le_of_ble_eq_true rfl | simp [va_rf_cat, cat_ref, cat_int, cat_long, cat_double, cat_null])) dX7_appendLetters_4 ⟨Nat.le_of_ble_eq_true rfl, Nat.le_of_ble_eq_true rfl⟩) hH hA (fun r3 M2 H locs hw hH => ?_)
      refine lv_icmp_ge (tgt := 25) hx hb dX7_appendLetters_7 (by decide) (fun c5 => ?_) (fun c5 => ?_)
      · replace hw := hw.1 c5
        exact c_retv hx hb hr hlocks hK hH hw dX7_appendLetters_25
      · replace hw := hw.2 c5
        refine lv_aload_n hx hb dX7_appendLetters_10 rfl (lv_at hl 0 rfl) ?_
        refine lv_aload_n hx hb dX7_appendLetters_11 rfl (lv_at hl 1 rfl) ?_
        refine lv_iload_n hx hb dX7_appendLetters_12 rfl (lv_at hl 2 rfl) ?_
        refine c_calli (va_runV (As := [.int v2]) (rest := [.ref h]) ⟨hx, hb, hml, hown, hts⟩ (tc_J0_charAt_5068e l D kA nm na sa sv H.size T v1 v2 M2 _ hw) (cwV 1 hts gX7_appendLetters_J0_charAt_5068e rfl rfl rfl (by decide +kernel) ⟨(show (3 : Nat) + 1 ≤ 4 from Nat.le_of_ble_eq_true rfl), (show 8 + (2 + 11) + (64 : Nat) ≤ 85 from Nat.le_of_ble_eq_true rfl)⟩) (c_preV hK hH hA hSt (c_recvS hSt hH h1)) rfl rfl hl.1 rfl (lv_room (by first | exact Nat.le_of_ble_eq_true rfl | simp [va_rf_cat, cat_ref, cat_int, cat_long, cat_double, cat_null])) dX7_appendLetters_13 ⟨Nat.le_of_ble_eq_true rfl, Nat.le_of_ble_eq_true rfl⟩) hH hA (fun r7 M6 H locs hw hH => ?_)
        obtain ⟨h9, hw⟩ := hw
        refine c_callv (va_runV (As := [.int r7]) (rest := []) ⟨hx, hb, hml, hown, hts⟩ (tc_X7_append l D kA nm na sa sv H.size T h r7 M6 _ hw) (cwV 1 hts gX7_appendLetters_X7_append rfl rfl rfl (by decide +kernel) ⟨(show (0 : Nat) + 1 ≤ 4 from Nat.le_of_ble_eq_true rfl), (show 8 + (2 + 11) + (0 : Nat) ≤ 85 from Nat.le_of_ble_eq_true rfl)⟩) (c_preV hK hH hA hSt (c_recv7 hK hH h9)) rfl rfl hl.1 rfl (lv_room (by first | exact Nat.le_of_ble_eq_true rfl | simp [va_rf_cat, cat_ref, cat_int, cat_long, cat_double, cat_null])) dX7_appendLetters_16 ⟨Nat.le_of_ble_eq_true rfl, Nat.le_of_ble_eq_true rfl⟩) hH hA (fun M10 H locs hw hH => ?_)
        obtain ⟨x13, ex13⟩ : ∃ y : Int32, y = v2 + 1 := ⟨_, rfl⟩
        replace hw := hw x13 ex13
        refine lv_iinc (v := x13) (lv' := [(2, .int x13), (0, .ref h), (1, .ref (sa v1))]) hx hb dX7_appendLetters_19 hl (k := 2) rfl (by rw [ex13]; rfl) (by decide) rfl (fun ls hl => ?_)
        refine lv_goto (tgt := 2) hx hb dX7_appendLetters_22 (by decide) ?_
        exact hk2 v1 x13 M10 H locs ls hH (lv_sub hl [1, 2, 0] rfl) hw
  clear hP
  unfold fc_X7_appendLetters at hw
  have hst : ∀ (M : CM) (H : Heap) (locs : List Loc) (ls : Array Slot), cH D kA A s.heap T M H locs → lv_has ls 3 [(0, .ref h), (1, .ref (sa a1))] → (∃ nn : Nat, fc_X7_appendLetters_l2 T h Q  nn a1 0 M) → W p l e (headSpec wsX7_appendLetters rmX7_appendLetters).room s m args below meth c H locs 0 0 (MQ below (va_Qv Q (cB D kA A T) A) args s 0 0 A) (F0 m 0 ls []) := by
    intro M H locs ls hH hl hw
    refine lv_iconst (v := 0) hx hb dX7_appendLetters_0 (by decide) ?_
    refine lv_istore_n (i := 2) (lv' := [(2, .int 0), (0, .ref h), (1, .ref (sa a1))]) hx hb dX7_appendLetters_1 rfl hl (by decide) rfl (fun ls hl => ?_)
    obtain ⟨nn, hw⟩ := hw
    exact l2   nn a1 0 M H locs ls hH (lv_sub hl [1, 2, 0] rfl) hw
  exact hst M s.heap [] ls hH hl hw
def fc_X7_appendDigits_b64 (T : LY) (h : Nat) (Q : CM → Prop) (k7 : Int64 → Int32 → Int64 → CM → Prop) (v1 : Int64) (v3 : Int32) (v4 : Int64) (M : CM) : Prop := (¬ (10 : Int64) = 0 ∧ (∀ x2 : Int64, x2 = v4 / 10 → k7 v1 v3 x2 M))
def fc_X7_appendDigits_b47 (T : LY) (h : Nat) (Q : CM → Prop) (k7 : Int64 → Int32 → Int64 → CM → Prop) (v1 : Int64) (v4 : Int64) (v6 : Int64) (s0 : Int32) (M : CM) : Prop := ((s0 = 0 → fc_X7_appendDigits_b64 T h Q k7 v1 s0 v4 M) ∧ (¬ s0 = 0 → (tg T h = 8 ∧ fc_X7_append T h ((((48 + v6).toInt32).toUInt32 % 65536).toInt32) M (fun (M5 : CM) => fc_X7_appendDigits_b64 T h Q k7 v1 s0 v4 M5))))
def fc_X7_appendDigits_b42 (T : LY) (h : Nat) (Q : CM → Prop) (k7 : Int64 → Int32 → Int64 → CM → Prop) (v1 : Int64) (v4 : Int64) (v6 : Int64) (M : CM) : Prop := fc_X7_appendDigits_b47 T h Q k7 v1 v4 v6 1 M
def fc_X7_appendDigits_c7 (T : LY) (h : Nat) (Q : CM → Prop) (k7 : Int64 → Int32 → Int64 → CM → Prop) (v1 : Int64) (v3 : Int32) (v4 : Int64) (M : CM) : Prop := (((lg_cmp v4 0) ≤ 0 → Q M) ∧ (¬ (lg_cmp v4 0) ≤ 0 → (¬ v4 = 0 ∧ (¬ (10 : Int64) = 0 ∧ (∀ x11 : Int64, x11 = (v1 / v4) - (v1 / v4) / 10 * 10 → ((¬ v3 = 0 → fc_X7_appendDigits_b42 T h Q k7 v1 v4 x11 M) ∧ (v3 = 0 → ((¬ (lg_cmp x11 0) = 0 → fc_X7_appendDigits_b42 T h Q k7 v1 v4 x11 M) ∧ ((lg_cmp x11 0) = 0 → ((¬ (lg_cmp v4 1) = 0 → fc_X7_appendDigits_b47 T h Q k7 v1 v4 x11 0 M) ∧ ((lg_cmp v4 1) = 0 → fc_X7_appendDigits_b42 T h Q k7 v1 v4 x11 M)))))))))))
def fc_X7_appendDigits_l7 (T : LY) (h : Nat) (Q : CM → Prop) : Nat → Int64 → Int32 → Int64 → CM → Prop := lit (τ := Int64 → Int32 → Int64 → CM → Prop) (fun _ _ _ _ => False) (fun k => fc_X7_appendDigits_c7 T h Q  k)
def fc_X7_appendDigits (T : LY) (h : Nat)  (a1 : Int64) (M : CM) (Q : CM → Prop) : Prop := (∃ nn : Nat, fc_X7_appendDigits_l7 T h Q  nn a1 0 1000000000 M)
abbrev rmX7_appendDigits : Room := { frames := 1, cells := 0, slots := 0, locals := 21 }
set_option maxHeartbeats 4000000 in
set_option maxRecDepth 100000 in
theorem tc_X7_appendDigits (l : Launch) (D : va_G) (kA : Nat → ClassId) (nm : Nat → Nat) (na : Nat) (sa sv : Nat → Nat) (sz : Nat) (T : LY) (h : Nat) (a1 : Int64) (M : CM) (Q : CM → Prop) (hw : fc_X7_appendDigits T h a1 M Q) : Met l yX7_appendDigits wsX7_appendDigits rmX7_appendDigits (va_Pc [.ref h, .long a1] (cPc nm na sa sv D kA T M sz)) (va_Qv Q (cB D kA (cF T sz) T) (cF T sz)) 0 0 (cF T sz) := by
  refine Met.ofW (cc := cX7_appendDigits) (maxL := 8) (ret := none) (by decide) rfl ?_
  intro p e s m args below meth c s₁ B hml hv
  obtain ⟨rfl, hsz, hP, hK, hSt⟩ := hv
  have hx := B.exec
  have hb := B.bytes
  have hr := B.returns
  have hts := atoms_spec (ws := wsX7_appendDigits) B.pre
  have hown : s.vm.findClass RX7 = some m.cls := findClass_of_methodNamed B.named
  have hlocks : meth.locks = false := B.notSynchronized
  subst hsz
  have hH : cH D kA (cF T s.heap.size) s.heap T M s.heap [] := ⟨hP.self, va_S.rf⟩
  have hA : ∀ q : Nat, s.heap.size ≤ q → cF T s.heap.size q := fun q z => Or.inr z
  generalize cF T s.heap.size = A at hH hA hSt ⊢
  have hl := lv_entry ([.ref h, .long a1]) (n := 8) (by first | exact Nat.le_of_ble_eq_true rfl | simp [lg_sl, va_rf_cat, cat_ref, cat_int, cat_long, cat_double])
  rw [lg_entry_eq]
  generalize (lg_sl ([.ref h, .long a1]) ++ List.replicate (8 - (lg_sl ([.ref h, .long a1])).length) Slot.unset).toArray = ls at hl ⊢
  generalize ([.ref h, .long a1] : List Value).toArray = args at hts ⊢
  have hl : lv_has ls 8 [(0, .ref h), (1, .long a1)] := hl
  have b64 : ∀ (k7 : Int64 → Int32 → Int64 → CM → Prop) (hk7 : ∀ (v1 : Int64) (v3 : Int32) (v4 : Int64) (M : CM) (H : Heap) (locs : List Loc) (ls : Array Slot), cH D kA A s.heap T M H locs → lv_has ls 8 [(0, .ref h), (1, .long v1), (3, .int v3), (4, .long v4)] → k7 v1 v3 v4 M → W p l e (headSpec wsX7_appendDigits rmX7_appendDigits).room s m args below meth c H locs 0 0 (MQ below (va_Qv Q (cB D kA A T) A) args s 0 0 A) (F0 m 7 ls [])) (v1 : Int64) (v3 : Int32) (v4 : Int64) (M : CM) (H : Heap) (locs : List Loc) (ls : Array Slot), cH D kA A s.heap T M H locs → lv_has ls 8 [(0, .ref h), (1, .long v1), (3, .int v3), (4, .long v4)] → fc_X7_appendDigits_b64 T h Q k7 v1 v3 v4 M → W p l e (headSpec wsX7_appendDigits rmX7_appendDigits).room s m args below meth c H locs 0 0 (MQ below (va_Qv Q (cB D kA A T) A) args s 0 0 A) (F0 m 64 ls []) := by
    intro k7 hk7 v1 v3 v4 M H locs ls hH hl hw
    unfold fc_X7_appendDigits_b64 at hw
    refine lv_lload hx hb dX7_appendDigits_64 (lv_at hl 3 rfl) ?_
    refine lv_ldc2 (v := 10) hx hb hown (hts (.constantLong RX7 52 10) (by decide +kernel)) dX7_appendDigits_66 ?_
    obtain ⟨h1, hw⟩ := hw
    refine lv_ldiv hx hb dX7_appendDigits_69 h1 ?_
    refine lv_topl (fun x2 ex2 => ?_)
    replace hw := hw x2 ex2
    refine lv_lstore (i := 4) (lv' := [(4, .long x2), (0, .ref h), (1, .long v1), (3, .int v3)]) hx hb dX7_appendDigits_70 hl (by decide) rfl (fun ls hl => ?_)
    refine lv_goto (tgt := 7) hx hb dX7_appendDigits_72 (by decide) ?_
    exact hk7 v1 v3 x2 M H locs ls hH (lv_sub hl [1, 2, 3, 0] rfl) hw
  have b47 : ∀ (k7 : Int64 → Int32 → Int64 → CM → Prop) (hk7 : ∀ (v1 : Int64) (v3 : Int32) (v4 : Int64) (M : CM) (H : Heap) (locs : List Loc) (ls : Array Slot), cH D kA A s.heap T M H locs → lv_has ls 8 [(0, .ref h), (1, .long v1), (3, .int v3), (4, .long v4)] → k7 v1 v3 v4 M → W p l e (headSpec wsX7_appendDigits rmX7_appendDigits).room s m args below meth c H locs 0 0 (MQ below (va_Qv Q (cB D kA A T) A) args s 0 0 A) (F0 m 7 ls [])) (v1 : Int64) (v4 : Int64) (v6 : Int64) (s0 : Int32) (M : CM) (H : Heap) (locs : List Loc) (ls : Array Slot), cH D kA A s.heap T M H locs → lv_has ls 8 [(0, .ref h), (1, .long v1), (4, .long v4), (6, .long v6)] → fc_X7_appendDigits_b47 T h Q k7 v1 v4 v6 s0 M → W p l e (headSpec wsX7_appendDigits rmX7_appendDigits).room s m args below meth c H locs 0 0 (MQ below (va_Qv Q (cB D kA A T) A) args s 0 0 A) (F0 m 47 ls [.int s0]) := by
    intro k7 hk7 v1 v4 v6 s0 M H locs ls hH hl hw
    unfold fc_X7_appendDigits_b47 at hw
    refine lv_istore_n (i := 3) (lv' := [(3, .int s0), (0, .ref h), (1, .long v1), (4, .long v4), (6, .long v6)]) hx hb dX7_appendDigits_47 rfl hl (by decide) rfl (fun ls hl => ?_)
    refine lv_iload_n hx hb dX7_appendDigits_48 rfl (lv_at hl 0 rfl) ?_
    refine lv_if_eq (tgt := 64) hx hb dX7_appendDigits_49 (by decide) (fun c3 => ?_) (fun c3 => ?_)
    · replace hw := hw.1 c3
      exact b64 _ hk7 v1 s0 v4 M H locs ls hH (lv_sub hl [1, 2, 0, 3] rfl) hw
    · replace hw := hw.2 c3
      refine lv_aload_n hx hb dX7_appendDigits_52 rfl (lv_at hl 1 rfl) ?_
      refine lv_ldc2 (v := 48) hx hb hown (hts (.constantLong RX7 48 48) (by decide +kernel)) dX7_appendDigits_53 ?_
      refine lv_lload hx hb dX7_appendDigits_56 (lv_at hl 4 rfl) ?_
      refine lv_ladd hx hb dX7_appendDigits_58 ?_
      refine lv_l2i hx hb dX7_appendDigits_59 rfl ?_
      refine lv_i2c hx hb dX7_appendDigits_60 rfl ?_
      obtain ⟨h4, hw⟩ := hw
      refine c_callv (va_runV (As := [.int ((((48 + v6).toInt32).toUInt32 % 65536).toInt32)]) (rest := []) ⟨hx, hb, hml, hown, hts⟩ (tc_X7_append l D kA nm na sa sv H.size T h ((((48 + v6).toInt32).toUInt32 % 65536).toInt32) M _ hw) (cwV 1 hts gX7_appendDigits_X7_append rfl rfl rfl (by decide +kernel) ⟨(show (0 : Nat) + 1 ≤ 1 from Nat.le_of_ble_eq_true rfl), (show 8 + (2 + 11) + (0 : Nat) ≤ 21 from Nat.le_of_ble_eq_true rfl)⟩) (c_preV hK hH hA hSt (c_recv7 hK hH h4)) rfl rfl hl.1 rfl (lv_room (by first | exact Nat.le_of_ble_eq_true rfl | simp [va_rf_cat, cat_ref, cat_int, cat_long, cat_double, cat_null])) dX7_appendDigits_61 ⟨Nat.le_of_ble_eq_true rfl, Nat.le_of_ble_eq_true rfl⟩) hH hA (fun M5 H locs hw hH => ?_)
      exact b64 _ hk7 v1 s0 v4 M5 H locs ls hH (lv_sub hl [1, 2, 0, 3] rfl) hw
  have b42 : ∀ (k7 : Int64 → Int32 → Int64 → CM → Prop) (hk7 : ∀ (v1 : Int64) (v3 : Int32) (v4 : Int64) (M : CM) (H : Heap) (locs : List Loc) (ls : Array Slot), cH D kA A s.heap T M H locs → lv_has ls 8 [(0, .ref h), (1, .long v1), (3, .int v3), (4, .long v4)] → k7 v1 v3 v4 M → W p l e (headSpec wsX7_appendDigits rmX7_appendDigits).room s m args below meth c H locs 0 0 (MQ below (va_Qv Q (cB D kA A T) A) args s 0 0 A) (F0 m 7 ls [])) (v1 : Int64) (v4 : Int64) (v6 : Int64) (M : CM) (H : Heap) (locs : List Loc) (ls : Array Slot), cH D kA A s.heap T M H locs → lv_has ls 8 [(0, .ref h), (1, .long v1), (4, .long v4), (6, .long v6)] → fc_X7_appendDigits_b42 T h Q k7 v1 v4 v6 M → W p l e (headSpec wsX7_appendDigits rmX7_appendDigits).room s m args below meth c H locs 0 0 (MQ below (va_Qv Q (cB D kA A T) A) args s 0 0 A) (F0 m 42 ls []) := by
    intro k7 hk7 v1 v4 v6 M H locs ls hH hl hw
    unfold fc_X7_appendDigits_b42 at hw
    refine lv_iconst (v := 1) hx hb dX7_appendDigits_42 (by decide) ?_
    refine lv_goto (tgt := 47) hx hb dX7_appendDigits_43 (by decide) ?_
    exact b47 _ hk7 v1 v4 v6 1 M H locs ls hH (lv_sub hl [0, 1, 2, 3] rfl) hw
  have l7 : ∀ (nn : Nat) (v1 : Int64) (v3 : Int32) (v4 : Int64) (M : CM) (H : Heap) (locs : List Loc) (ls : Array Slot), cH D kA A s.heap T M H locs → lv_has ls 8 [(0, .ref h), (1, .long v1), (3, .int v3), (4, .long v4)] → fc_X7_appendDigits_l7 T h Q  nn v1 v3 v4 M → W p l e (headSpec wsX7_appendDigits rmX7_appendDigits).room s m args below meth c H locs 0 0 (MQ below (va_Qv Q (cB D kA A T) A) args s 0 0 A) (F0 m 7 ls []) := by
    intro   nn
    induction nn with
    | zero => intro v1 v3 v4 M H locs ls hH hl hw; exact False.elim hw
    | succ nn hk7 =>
      intro v1 v3 v4 M H locs ls hH hl hw
      replace hw : fc_X7_appendDigits_c7 T h Q  (fc_X7_appendDigits_l7 T h Q  nn) v1 v3 v4 M := hw
      unfold fc_X7_appendDigits_c7 at hw
      refine lv_lload hx hb dX7_appendDigits_7 (lv_at hl 3 rfl) ?_
      refine lv_lconst (v := 0) hx hb dX7_appendDigits_9 (by decide) ?_
      refine W.lcmp hx hb dX7_appendDigits_10 ?_
      refine lv_if_le (tgt := 75) hx hb dX7_appendDigits_11 (by decide) (fun c8 => ?_) (fun c8 => ?_)
      · replace hw := hw.1 c8
        exact c_retv hx hb hr hlocks hK hH hw dX7_appendDigits_75
      · replace hw := hw.2 c8
        refine lv_lload_n hx hb dX7_appendDigits_14 rfl (lv_at hl 1 rfl) ?_
        refine lv_lload hx hb dX7_appendDigits_15 (lv_at hl 3 rfl) ?_
        obtain ⟨h9, hw⟩ := hw
        refine lv_ldiv hx hb dX7_appendDigits_17 h9 ?_
        refine lv_ldc2 (v := 10) hx hb hown (hts (.constantLong RX7 52 10) (by decide +kernel)) dX7_appendDigits_18 ?_
        obtain ⟨h10, hw⟩ := hw
        refine lv_lrem hx hb dX7_appendDigits_21 h10 ?_
        refine lv_topl (fun x11 ex11 => ?_)
        replace hw := hw x11 ex11
        refine lv_lstore (i := 6) (lv' := [(6, .long x11), (0, .ref h), (1, .long v1), (3, .int v3), (4, .long v4)]) hx hb dX7_appendDigits_22 hl (by decide) rfl (fun ls hl => ?_)
        refine lv_iload_n hx hb dX7_appendDigits_24 rfl (lv_at hl 3 rfl) ?_
        refine lv_if_ne (tgt := 42) hx hb dX7_appendDigits_25 (by decide) (fun c12 => ?_) (fun c12 => ?_)
        · replace hw := hw.1 c12
          exact b42 _ hk7 v1 v4 x11 M H locs ls hH (lv_sub hl [1, 2, 4, 0] rfl) hw
        · replace hw := hw.2 c12
          refine lv_lload hx hb dX7_appendDigits_28 (lv_at hl 0 rfl) ?_
          refine lv_lconst (v := 0) hx hb dX7_appendDigits_30 (by decide) ?_
          refine W.lcmp hx hb dX7_appendDigits_31 ?_
          refine lv_if_ne (tgt := 42) hx hb dX7_appendDigits_32 (by decide) (fun c13 => ?_) (fun c13 => ?_)
          · replace hw := hw.1 c13
            exact b42 _ hk7 v1 v4 x11 M H locs ls hH (lv_sub hl [1, 2, 4, 0] rfl) hw
          · replace hw := hw.2 c13
            refine lv_lload hx hb dX7_appendDigits_35 (lv_at hl 4 rfl) ?_
            refine lv_lconst (v := 1) hx hb dX7_appendDigits_37 (by decide) ?_
            refine W.lcmp hx hb dX7_appendDigits_38 ?_
            refine lv_if_ne (tgt := 46) hx hb dX7_appendDigits_39 (by decide) (fun c14 => ?_) (fun c14 => ?_)
            · replace hw := hw.1 c14
              refine lv_iconst (v := 0) hx hb dX7_appendDigits_46 (by decide) ?_
              exact b47 _ hk7 v1 v4 x11 0 M H locs ls hH (lv_sub hl [1, 2, 4, 0] rfl) hw
            · replace hw := hw.2 c14
              exact b42 _ hk7 v1 v4 x11 M H locs ls hH (lv_sub hl [1, 2, 4, 0] rfl) hw
  clear hP
  unfold fc_X7_appendDigits at hw
  have hst : ∀ (M : CM) (H : Heap) (locs : List Loc) (ls : Array Slot), cH D kA A s.heap T M H locs → lv_has ls 8 [(0, .ref h), (1, .long a1)] → (∃ nn : Nat, fc_X7_appendDigits_l7 T h Q  nn a1 0 1000000000 M) → W p l e (headSpec wsX7_appendDigits rmX7_appendDigits).room s m args below meth c H locs 0 0 (MQ below (va_Qv Q (cB D kA A T) A) args s 0 0 A) (F0 m 0 ls []) := by
    intro M H locs ls hH hl hw
    refine lv_iconst (v := 0) hx hb dX7_appendDigits_0 (by decide) ?_
    refine lv_istore_n (i := 3) (lv' := [(3, .int 0), (0, .ref h), (1, .long a1)]) hx hb dX7_appendDigits_1 rfl hl (by decide) rfl (fun ls hl => ?_)
    refine lv_ldc2 (v := 1000000000) hx hb hown (hts (.constantLong RX7 54 1000000000) (by decide +kernel)) dX7_appendDigits_2 ?_
    refine lv_lstore (i := 4) (lv' := [(4, .long 1000000000), (3, .int 0), (0, .ref h), (1, .long a1)]) hx hb dX7_appendDigits_5 hl (by decide) rfl (fun ls hl => ?_)
    obtain ⟨nn, hw⟩ := hw
    exact l7   nn a1 0 1000000000 M H locs ls hH (lv_sub hl [2, 3, 1, 0] rfl) hw
  exact hst M s.heap [] ls hH hl hw
def fc_X7_appendNumber_b111 (T : LY) (h : Nat) (Q : CM → Prop) (M : CM) : Prop := Q M
def fc_X7_appendNumber_c64 (T : LY) (h : Nat) (Q : CM → Prop) (k64 : Int64 → Int32 → CM → Prop) (v5 : Int64) (v7 : Int32) (M : CM) : Prop := ((3 ≤ v7 → fc_X7_appendNumber_b111 T h Q   M) ∧ (¬ 3 ≤ v7 → (((lg_cmp v5 0) = 0 → fc_X7_appendNumber_b111 T h Q   M) ∧ (¬ (lg_cmp v5 0) = 0 → (¬ (100 : Int64) = 0 ∧ (tg T h = 8 ∧ fc_X7_append T h ((((48 + (v5 / 100)).toInt32).toUInt32 % 65536).toInt32) M (fun (M5 : CM) => (¬ (100 : Int64) = 0 ∧ (∀ x9 : Int64, x9 = (v5 - v5 / 100 * 100) * 10 → (∀ x10 : Int32, x10 = v7 + 1 → k64 x9 x10 M5))))))))))
def fc_X7_appendNumber_l64 (T : LY) (h : Nat) (Q : CM → Prop) : Nat → Int64 → Int32 → CM → Prop := lit (τ := Int64 → Int32 → CM → Prop) (fun _ _ _ => False) (fun k => fc_X7_appendNumber_c64 T h Q  k)
def fc_X7_appendNumber_b61 (T : LY) (h : Nat) (Q : CM → Prop) (v5 : Int64) (M : CM) : Prop := (∃ nn : Nat, fc_X7_appendNumber_l64 T h Q  nn v5 0 M)
def fc_X7_appendNumber_b24 (T : LY) (h : Nat) (Q : CM → Prop) (s0 : UInt64) (M : CM) : Prop := (vf_n64 (FP.dmul s0 4620693217682128896) ∧ (∀ x12 : Int64, x12 = FP.d2l (FP.dmul s0 4620693217682128896) → (tg T h = 8 ∧ fc_X7_appendDigits T h (x12 >>> ((3 : Int32).toInt64 &&& 63)) M (fun (M14 : CM) => (∀ x17 : Int64, x17 = (x12 &&& 7) * 125 → (((lg_cmp x17 0) = 0 → fc_X7_appendNumber_b61 T h Q  x17 M14) ∧ (¬ (lg_cmp x17 0) = 0 → fc_X7_append T h 46 M14 (fun (M19 : CM) => fc_X7_appendNumber_b61 T h Q  x17 M19))))))))
def fc_X7_appendNumber_b12 (T : LY) (h : Nat) (Q : CM → Prop) (v1 : UInt64) (M : CM) : Prop := ((0 ≤ (Op.cmpValue (FP.dcmp v1 FP.dconst0) .g) → fc_X7_appendNumber_b24 T h Q  v1 M) ∧ (¬ 0 ≤ (Op.cmpValue (FP.dcmp v1 FP.dconst0) .g) → fc_X7_appendNumber_b24 T h Q  (FP.dneg v1) M))
def fc_X7_appendNumber (T : LY) (h : Nat)  (a1 : UInt64) (M : CM) (Q : CM → Prop) : Prop := ((0 ≤ (Op.cmpValue (FP.dcmp a1 FP.dconst0) .g) → fc_X7_appendNumber_b12 T h Q  a1 M) ∧ (¬ 0 ≤ (Op.cmpValue (FP.dcmp a1 FP.dconst0) .g) → (tg T h = 8 ∧ fc_X7_append T h 45 M (fun (M25 : CM) => fc_X7_appendNumber_b12 T h Q  a1 M25))))
abbrev rmX7_appendNumber : Room := { frames := 2, cells := 0, slots := 0, locals := 48 }
set_option maxHeartbeats 4000000 in
set_option maxRecDepth 100000 in
theorem tc_X7_appendNumber (l : Launch) (D : va_G) (kA : Nat → ClassId) (nm : Nat → Nat) (na : Nat) (sa sv : Nat → Nat) (sz : Nat) (T : LY) (h : Nat) (a1 : UInt64) (M : CM) (Q : CM → Prop) (hw : fc_X7_appendNumber T h a1 M Q) : Met l yX7_appendNumber wsX7_appendNumber rmX7_appendNumber (va_Pc [.ref h, .double a1] (cPc nm na sa sv D kA T M sz)) (va_Qv Q (cB D kA (cF T sz) T) (cF T sz)) 0 0 (cF T sz) := by
  refine Met.ofW (cc := cX7_appendNumber) (maxL := 8) (ret := none) (by decide) rfl ?_
  intro p e s m args below meth c s₁ B hml hv
  obtain ⟨rfl, hsz, hP, hK, hSt⟩ := hv
  have hx := B.exec
  have hb := B.bytes
  have hr := B.returns
  have hts := atoms_spec (ws := wsX7_appendNumber) B.pre
  have hown : s.vm.findClass RX7 = some m.cls := findClass_of_methodNamed B.named
  have hlocks : meth.locks = false := B.notSynchronized
  subst hsz
  have hH : cH D kA (cF T s.heap.size) s.heap T M s.heap [] := ⟨hP.self, va_S.rf⟩
  have hA : ∀ q : Nat, s.heap.size ≤ q → cF T s.heap.size q := fun q z => Or.inr z
  generalize cF T s.heap.size = A at hH hA hSt ⊢
  have hl := lv_entry ([.ref h, .double a1]) (n := 8) (by first | exact Nat.le_of_ble_eq_true rfl | simp [lg_sl, va_rf_cat, cat_ref, cat_int, cat_long, cat_double])
  rw [lg_entry_eq]
  generalize (lg_sl ([.ref h, .double a1]) ++ List.replicate (8 - (lg_sl ([.ref h, .double a1])).length) Slot.unset).toArray = ls at hl ⊢
  generalize ([.ref h, .double a1] : List Value).toArray = args at hts ⊢
  have hl : lv_has ls 8 [(0, .ref h), (1, .double a1)] := hl
  have b111 : ∀ (M : CM) (H : Heap) (locs : List Loc) (ls : Array Slot), cH D kA A s.heap T M H locs → lv_has ls 8 [] → fc_X7_appendNumber_b111 T h Q   M → W p l e (headSpec wsX7_appendNumber rmX7_appendNumber).room s m args below meth c H locs 0 0 (MQ below (va_Qv Q (cB D kA A T) A) args s 0 0 A) (F0 m 111 ls []) := by
    intro    M H locs ls hH hl hw
    unfold fc_X7_appendNumber_b111 at hw
    exact c_retv hx hb hr hlocks hK hH hw dX7_appendNumber_111
  have l64 : ∀ (nn : Nat) (v5 : Int64) (v7 : Int32) (M : CM) (H : Heap) (locs : List Loc) (ls : Array Slot), cH D kA A s.heap T M H locs → lv_has ls 8 [(0, .ref h), (5, .long v5), (7, .int v7)] → fc_X7_appendNumber_l64 T h Q  nn v5 v7 M → W p l e (headSpec wsX7_appendNumber rmX7_appendNumber).room s m args below meth c H locs 0 0 (MQ below (va_Qv Q (cB D kA A T) A) args s 0 0 A) (F0 m 64 ls []) := by
    intro   nn
    induction nn with
    | zero => intro v5 v7 M H locs ls hH hl hw; exact False.elim hw
    | succ nn hk64 =>
      intro v5 v7 M H locs ls hH hl hw
      replace hw : fc_X7_appendNumber_c64 T h Q  (fc_X7_appendNumber_l64 T h Q  nn) v5 v7 M := hw
      unfold fc_X7_appendNumber_c64 at hw
      refine lv_iload hx hb dX7_appendNumber_64 (lv_at hl 2 rfl) ?_
      refine lv_iconst (v := 3) hx hb dX7_appendNumber_66 (by decide) ?_
      refine lv_icmp_ge (tgt := 111) hx hb dX7_appendNumber_67 (by decide) (fun c1 => ?_) (fun c1 => ?_)
      · replace hw := hw.1 c1
        exact b111    M H locs ls hH (lv_sub hl [] rfl) hw
      · replace hw := hw.2 c1
        refine lv_lload hx hb dX7_appendNumber_70 (lv_at hl 1 rfl) ?_
        refine lv_lconst (v := 0) hx hb dX7_appendNumber_72 (by decide) ?_
        refine W.lcmp hx hb dX7_appendNumber_73 ?_
        refine lv_if_eq (tgt := 111) hx hb dX7_appendNumber_74 (by decide) (fun c2 => ?_) (fun c2 => ?_)
        · replace hw := hw.1 c2
          exact b111    M H locs ls hH (lv_sub hl [] rfl) hw
        · replace hw := hw.2 c2
          refine lv_aload_n hx hb dX7_appendNumber_77 rfl (lv_at hl 0 rfl) ?_
          refine lv_ldc2 (v := 48) hx hb hown (hts (.constantLong RX7 48 48) (by decide +kernel)) dX7_appendNumber_78 ?_
          refine lv_lload hx hb dX7_appendNumber_81 (lv_at hl 1 rfl) ?_
          refine lv_ldc2 (v := 100) hx hb hown (hts (.constantLong RX7 50 100) (by decide +kernel)) dX7_appendNumber_83 ?_
          obtain ⟨h3, hw⟩ := hw
          refine lv_ldiv hx hb dX7_appendNumber_86 h3 ?_
          refine lv_ladd hx hb dX7_appendNumber_87 ?_
          refine lv_l2i hx hb dX7_appendNumber_88 rfl ?_
          refine lv_i2c hx hb dX7_appendNumber_89 rfl ?_
          obtain ⟨h4, hw⟩ := hw
          refine c_callv (va_runV (As := [.int ((((48 + (v5 / 100)).toInt32).toUInt32 % 65536).toInt32)]) (rest := []) ⟨hx, hb, hml, hown, hts⟩ (tc_X7_append l D kA nm na sa sv H.size T h ((((48 + (v5 / 100)).toInt32).toUInt32 % 65536).toInt32) M _ hw) (cwV 1 hts gX7_appendNumber_X7_append rfl rfl rfl (by decide +kernel) ⟨(show (0 : Nat) + 1 ≤ 2 from Nat.le_of_ble_eq_true rfl), (show 8 + (2 + 11) + (0 : Nat) ≤ 48 from Nat.le_of_ble_eq_true rfl)⟩) (c_preV hK hH hA hSt (c_recv7 hK hH h4)) rfl rfl hl.1 rfl (lv_room (by first | exact Nat.le_of_ble_eq_true rfl | simp [va_rf_cat, cat_ref, cat_int, cat_long, cat_double, cat_null])) dX7_appendNumber_90 ⟨Nat.le_of_ble_eq_true rfl, Nat.le_of_ble_eq_true rfl⟩) hH hA (fun M5 H locs hw hH => ?_)
          refine lv_lload hx hb dX7_appendNumber_93 (lv_at hl 1 rfl) ?_
          refine lv_ldc2 (v := 100) hx hb hown (hts (.constantLong RX7 50 100) (by decide +kernel)) dX7_appendNumber_95 ?_
          obtain ⟨h8, hw⟩ := hw
          refine lv_lrem hx hb dX7_appendNumber_98 h8 ?_
          refine lv_ldc2 (v := 10) hx hb hown (hts (.constantLong RX7 52 10) (by decide +kernel)) dX7_appendNumber_99 ?_
          refine lv_lmul hx hb dX7_appendNumber_102 ?_
          refine lv_topl (fun x9 ex9 => ?_)
          replace hw := hw x9 ex9
          refine lv_lstore (i := 5) (lv' := [(5, .long x9), (0, .ref h), (7, .int v7)]) hx hb dX7_appendNumber_103 hl (by decide) rfl (fun ls hl => ?_)
          obtain ⟨x10, ex10⟩ : ∃ y : Int32, y = v7 + 1 := ⟨_, rfl⟩
          replace hw := hw x10 ex10
          refine lv_iinc (v := x10) (lv' := [(7, .int x10), (5, .long x9), (0, .ref h)]) hx hb dX7_appendNumber_105 hl (k := 2) rfl (by rw [ex10]; rfl) (by decide) rfl (fun ls hl => ?_)
          refine lv_goto (tgt := 64) hx hb dX7_appendNumber_108 (by decide) ?_
          exact hk64 x9 x10 M5 H locs ls hH (lv_sub hl [2, 1, 0] rfl) hw
  have b61 : ∀ (v5 : Int64) (M : CM) (H : Heap) (locs : List Loc) (ls : Array Slot), cH D kA A s.heap T M H locs → lv_has ls 8 [(0, .ref h), (5, .long v5)] → fc_X7_appendNumber_b61 T h Q  v5 M → W p l e (headSpec wsX7_appendNumber rmX7_appendNumber).room s m args below meth c H locs 0 0 (MQ below (va_Qv Q (cB D kA A T) A) args s 0 0 A) (F0 m 61 ls []) := by
    intro   v5 M H locs ls hH hl hw
    unfold fc_X7_appendNumber_b61 at hw
    refine lv_iconst (v := 0) hx hb dX7_appendNumber_61 (by decide) ?_
    refine lv_istore (i := 7) (lv' := [(7, .int 0), (0, .ref h), (5, .long v5)]) hx hb dX7_appendNumber_62 hl (by decide) rfl (fun ls hl => ?_)
    obtain ⟨nn, hw⟩ := hw
    exact l64   nn v5 0 M H locs ls hH (lv_sub hl [1, 2, 0] rfl) hw
  have b24 : ∀ (s0 : UInt64) (M : CM) (H : Heap) (locs : List Loc) (ls : Array Slot), cH D kA A s.heap T M H locs → lv_has ls 8 [(0, .ref h)] → fc_X7_appendNumber_b24 T h Q  s0 M → W p l e (headSpec wsX7_appendNumber rmX7_appendNumber).room s m args below meth c H locs 0 0 (MQ below (va_Qv Q (cB D kA A T) A) args s 0 0 A) (F0 m 24 ls [.double s0]) := by
    intro   s0 M H locs ls hH hl hw
    unfold fc_X7_appendNumber_b24 at hw
    refine lv_ldc2d (v := 4620693217682128896) hx hb hown (hts (.constantDouble RX7 38 4620693217682128896) (by decide +kernel)) dX7_appendNumber_24 ?_
    obtain ⟨h11, hw⟩ := hw
    refine lv_dmul hx hb dX7_appendNumber_27 h11 ?_
    refine lv_d2l hx hb dX7_appendNumber_28 ?_
    refine lv_topl (fun x12 ex12 => ?_)
    replace hw := hw x12 ex12
    refine lv_lstore_n (i := 3) (lv' := [(3, .long x12), (0, .ref h)]) hx hb dX7_appendNumber_29 rfl hl (by decide) rfl (fun ls hl => ?_)
    refine lv_aload_n hx hb dX7_appendNumber_30 rfl (lv_at hl 1 rfl) ?_
    refine lv_lload_n hx hb dX7_appendNumber_31 rfl (lv_at hl 0 rfl) ?_
    refine lv_iconst (v := 3) hx hb dX7_appendNumber_32 (by decide) ?_
    refine lv_lshr hx hb dX7_appendNumber_33 rfl ?_
    obtain ⟨h13, hw⟩ := hw
    refine c_callv (va_runV (As := [.long (x12 >>> ((3 : Int32).toInt64 &&& 63))]) (rest := []) ⟨hx, hb, hml, hown, hts⟩ (tc_X7_appendDigits l D kA nm na sa sv H.size T h (x12 >>> ((3 : Int32).toInt64 &&& 63)) M _ hw) (cwV 1 hts gX7_appendNumber_X7_appendDigits rfl rfl rfl (by decide +kernel) ⟨(show (1 : Nat) + 1 ≤ 2 from Nat.le_of_ble_eq_true rfl), (show 8 + (8 + 11) + (21 : Nat) ≤ 48 from Nat.le_of_ble_eq_true rfl)⟩) (c_preV hK hH hA hSt (c_recv7 hK hH h13)) rfl rfl hl.1 rfl (lv_room (by first | exact Nat.le_of_ble_eq_true rfl | simp [va_rf_cat, cat_ref, cat_int, cat_long, cat_double, cat_null])) dX7_appendNumber_34 ⟨Nat.le_of_ble_eq_true rfl, Nat.le_of_ble_eq_true rfl⟩) hH hA (fun M14 H locs hw hH => ?_)
    refine lv_lload_n hx hb dX7_appendNumber_37 rfl (lv_at hl 0 rfl) ?_
    refine lv_ldc2 (v := 7) hx hb hown (hts (.constantLong RX7 44 7) (by decide +kernel)) dX7_appendNumber_38 ?_
    refine lv_land hx hb dX7_appendNumber_41 ?_
    refine lv_ldc2 (v := 125) hx hb hown (hts (.constantLong RX7 46 125) (by decide +kernel)) dX7_appendNumber_42 ?_
    refine lv_lmul hx hb dX7_appendNumber_45 ?_
    refine lv_topl (fun x17 ex17 => ?_)
    replace hw := hw x17 ex17
    refine lv_lstore (i := 5) (lv' := [(5, .long x17), (3, .long x12), (0, .ref h)]) hx hb dX7_appendNumber_46 hl (by decide) rfl (fun ls hl => ?_)
    refine lv_lload hx hb dX7_appendNumber_48 (lv_at hl 0 rfl) ?_
    refine lv_lconst (v := 0) hx hb dX7_appendNumber_50 (by decide) ?_
    refine W.lcmp hx hb dX7_appendNumber_51 ?_
    refine lv_if_eq (tgt := 61) hx hb dX7_appendNumber_52 (by decide) (fun c18 => ?_) (fun c18 => ?_)
    · replace hw := hw.1 c18
      exact b61   x17 M14 H locs ls hH (lv_sub hl [2, 0] rfl) hw
    · replace hw := hw.2 c18
      refine lv_aload_n hx hb dX7_appendNumber_55 rfl (lv_at hl 2 rfl) ?_
      refine lv_bipush (v := 46) hx hb dX7_appendNumber_56 (by decide) ?_
      refine c_callv (va_runV (As := [.int 46]) (rest := []) ⟨hx, hb, hml, hown, hts⟩ (tc_X7_append l D kA nm na sa sv H.size T h 46 M14 _ hw) (cwV 1 hts gX7_appendNumber_X7_append rfl rfl rfl (by decide +kernel) ⟨(show (0 : Nat) + 1 ≤ 2 from Nat.le_of_ble_eq_true rfl), (show 8 + (2 + 11) + (0 : Nat) ≤ 48 from Nat.le_of_ble_eq_true rfl)⟩) (c_preV hK hH hA hSt (c_recv7 hK hH h13)) rfl rfl hl.1 rfl (lv_room (by first | exact Nat.le_of_ble_eq_true rfl | simp [va_rf_cat, cat_ref, cat_int, cat_long, cat_double, cat_null])) dX7_appendNumber_58 ⟨Nat.le_of_ble_eq_true rfl, Nat.le_of_ble_eq_true rfl⟩) hH hA (fun M19 H locs hw hH => ?_)
      exact b61   x17 M19 H locs ls hH (lv_sub hl [2, 0] rfl) hw
  have b12 : ∀ (v1 : UInt64) (M : CM) (H : Heap) (locs : List Loc) (ls : Array Slot), cH D kA A s.heap T M H locs → lv_has ls 8 [(0, .ref h), (1, .double v1)] → fc_X7_appendNumber_b12 T h Q  v1 M → W p l e (headSpec wsX7_appendNumber rmX7_appendNumber).room s m args below meth c H locs 0 0 (MQ below (va_Qv Q (cB D kA A T) A) args s 0 0 A) (F0 m 12 ls []) := by
    intro   v1 M H locs ls hH hl hw
    unfold fc_X7_appendNumber_b12 at hw
    refine lv_dload_n hx hb dX7_appendNumber_12 rfl (lv_at hl 1 rfl) ?_
    refine lv_dconst0 hx hb dX7_appendNumber_13 ?_
    refine lv_dcmp hx hb dX7_appendNumber_14 ?_
    refine lv_if_ge (tgt := 23) hx hb dX7_appendNumber_15 (by decide) (fun c22 => ?_) (fun c22 => ?_)
    · replace hw := hw.1 c22
      refine lv_dload_n hx hb dX7_appendNumber_23 rfl (lv_at hl 1 rfl) ?_
      exact b24   v1 M H locs ls hH (lv_sub hl [0] rfl) hw
    · replace hw := hw.2 c22
      refine lv_dload_n hx hb dX7_appendNumber_18 rfl (lv_at hl 1 rfl) ?_
      refine lv_dneg hx hb dX7_appendNumber_19 ?_
      refine lv_goto (tgt := 24) hx hb dX7_appendNumber_20 (by decide) ?_
      exact b24   (FP.dneg v1) M H locs ls hH (lv_sub hl [0] rfl) hw
  clear hP
  unfold fc_X7_appendNumber at hw
  have hst : ∀ (M : CM) (H : Heap) (locs : List Loc) (ls : Array Slot), cH D kA A s.heap T M H locs → lv_has ls 8 [(0, .ref h), (1, .double a1)] → ((0 ≤ (Op.cmpValue (FP.dcmp a1 FP.dconst0) .g) → fc_X7_appendNumber_b12 T h Q  a1 M) ∧ (¬ 0 ≤ (Op.cmpValue (FP.dcmp a1 FP.dconst0) .g) → (tg T h = 8 ∧ fc_X7_append T h 45 M (fun (M25 : CM) => fc_X7_appendNumber_b12 T h Q  a1 M25)))) → W p l e (headSpec wsX7_appendNumber rmX7_appendNumber).room s m args below meth c H locs 0 0 (MQ below (va_Qv Q (cB D kA A T) A) args s 0 0 A) (F0 m 0 ls []) := by
    intro M H locs ls hH hl hw
    refine lv_dload_n hx hb dX7_appendNumber_0 rfl (lv_at hl 1 rfl) ?_
    refine lv_dconst0 hx hb dX7_appendNumber_1 ?_
    refine lv_dcmp hx hb dX7_appendNumber_2 ?_
    refine lv_if_ge (tgt := 12) hx hb dX7_appendNumber_3 (by decide) (fun c23 => ?_) (fun c23 => ?_)
    · replace hw := hw.1 c23
      exact b12   a1 M H locs ls hH (lv_sub hl [0, 1] rfl) hw
    · replace hw := hw.2 c23
      refine lv_aload_n hx hb dX7_appendNumber_6 rfl (lv_at hl 0 rfl) ?_
      refine lv_bipush (v := 45) hx hb dX7_appendNumber_7 (by decide) ?_
      obtain ⟨h24, hw⟩ := hw
      refine c_callv (va_runV (As := [.int 45]) (rest := []) ⟨hx, hb, hml, hown, hts⟩ (tc_X7_append l D kA nm na sa sv H.size T h 45 M _ hw) (cwV 1 hts gX7_appendNumber_X7_append rfl rfl rfl (by decide +kernel) ⟨(show (0 : Nat) + 1 ≤ 2 from Nat.le_of_ble_eq_true rfl), (show 8 + (2 + 11) + (0 : Nat) ≤ 48 from Nat.le_of_ble_eq_true rfl)⟩) (c_preV hK hH hA hSt (c_recv7 hK hH h24)) rfl rfl hl.1 rfl (lv_room (by first | exact Nat.le_of_ble_eq_true rfl | simp [va_rf_cat, cat_ref, cat_int, cat_long, cat_double, cat_null])) dX7_appendNumber_9 ⟨Nat.le_of_ble_eq_true rfl, Nat.le_of_ble_eq_true rfl⟩) hH hA (fun M25 H locs hw hH => ?_)
      exact b12   a1 M25 H locs ls hH (lv_sub hl [0, 1] rfl) hw
  exact hst M s.heap [] ls hH hl hw
def fc_X7_isLetter_b17 (T : LY) (Q : Int32 → CM → Prop) (s0 : Int32) (M : CM) : Prop := (nZ s0 ∧ Q s0 M)
def fc_X7_isLetter_b16 (T : LY) (Q : Int32 → CM → Prop) (M : CM) : Prop := fc_X7_isLetter_b17 T Q  0 M
def fc_X7_isLetter (T : LY)  (a1 : Int32) (M : CM) (Q : Int32 → CM → Prop) : Prop := ((a1 < 97 → fc_X7_isLetter_b16 T Q   M) ∧ (¬ a1 < 97 → ((122 < a1 → fc_X7_isLetter_b16 T Q   M) ∧ (¬ 122 < a1 → fc_X7_isLetter_b17 T Q  1 M))))
abbrev rmX7_isLetter : Room := { frames := 0, cells := 0, slots := 0, locals := 0 }
set_option maxHeartbeats 4000000 in
set_option maxRecDepth 100000 in
theorem tc_X7_isLetter (l : Launch) (D : va_G) (kA : Nat → ClassId) (nm : Nat → Nat) (na : Nat) (sa sv : Nat → Nat) (sz : Nat) (T : LY) (a1 : Int32) (M : CM) (Q : Int32 → CM → Prop) (hw : fc_X7_isLetter T a1 M Q) : Met l yX7_isLetter wsX7_isLetter rmX7_isLetter (va_Pc [.int a1] (cPc nm na sa sv D kA T M sz)) (va_Qi Q (cB D kA (cF T sz) T) (cF T sz)) 0 0 (cF T sz) := by
  refine Met.ofW (cc := cX7_isLetter) (maxL := 1) (ret := (some .boolean)) (by decide) rfl ?_
  intro p e s m args below meth c s₁ B hml hv
  obtain ⟨rfl, hsz, hP, hK, hSt⟩ := hv
  have hx := B.exec
  have hb := B.bytes
  have hr := B.returns
  have hts := atoms_spec (ws := wsX7_isLetter) B.pre
  have hown : s.vm.findClass RX7 = some m.cls := findClass_of_methodNamed B.named
  have hlocks : meth.locks = false := B.notSynchronized
  subst hsz
  have hH : cH D kA (cF T s.heap.size) s.heap T M s.heap [] := ⟨hP.self, va_S.rf⟩
  have hA : ∀ q : Nat, s.heap.size ≤ q → cF T s.heap.size q := fun q z => Or.inr z
  generalize cF T s.heap.size = A at hH hA hSt ⊢
  have hl := lv_entry ([.int a1]) (n := 1) (by first | exact Nat.le_of_ble_eq_true rfl | simp [lg_sl, va_rf_cat, cat_ref, cat_int, cat_long, cat_double])
  rw [lg_entry_eq]
  generalize (lg_sl ([.int a1]) ++ List.replicate (1 - (lg_sl ([.int a1])).length) Slot.unset).toArray = ls at hl ⊢
  generalize ([.int a1] : List Value).toArray = args at hts ⊢
  have hl : lv_has ls 1 [(0, .int a1)] := hl
  have b17 : ∀ (s0 : Int32) (M : CM) (H : Heap) (locs : List Loc) (ls : Array Slot), cH D kA A s.heap T M H locs → lv_has ls 1 [] → fc_X7_isLetter_b17 T Q  s0 M → W p l e (headSpec wsX7_isLetter rmX7_isLetter).room s m args below meth c H locs 0 0 (MQ below (va_Qi Q (cB D kA A T) A) args s 0 0 A) (F0 m 17 ls [.int s0]) := by
    intro   s0 M H locs ls hH hl hw
    unfold fc_X7_isLetter_b17 at hw
    exact c_retz hx hb hr hw.1.1 hlocks hK hH hw.2 dX7_isLetter_17
  have b16 : ∀ (M : CM) (H : Heap) (locs : List Loc) (ls : Array Slot), cH D kA A s.heap T M H locs → lv_has ls 1 [] → fc_X7_isLetter_b16 T Q   M → W p l e (headSpec wsX7_isLetter rmX7_isLetter).room s m args below meth c H locs 0 0 (MQ below (va_Qi Q (cB D kA A T) A) args s 0 0 A) (F0 m 16 ls []) := by
    intro    M H locs ls hH hl hw
    unfold fc_X7_isLetter_b16 at hw
    refine lv_iconst (v := 0) hx hb dX7_isLetter_16 (by decide) ?_
    exact b17   0 M H locs ls hH (lv_sub hl [] rfl) hw
  clear hP
  unfold fc_X7_isLetter at hw
  have hst : ∀ (M : CM) (H : Heap) (locs : List Loc) (ls : Array Slot), cH D kA A s.heap T M H locs → lv_has ls 1 [(0, .int a1)] → ((a1 < 97 → fc_X7_isLetter_b16 T Q   M) ∧ (¬ a1 < 97 → ((122 < a1 → fc_X7_isLetter_b16 T Q   M) ∧ (¬ 122 < a1 → fc_X7_isLetter_b17 T Q  1 M)))) → W p l e (headSpec wsX7_isLetter rmX7_isLetter).room s m args below meth c H locs 0 0 (MQ below (va_Qi Q (cB D kA A T) A) args s 0 0 A) (F0 m 0 ls []) := by
    intro M H locs ls hH hl hw
    refine lv_iload_n hx hb dX7_isLetter_0 rfl (lv_at hl 0 rfl) ?_
    refine lv_bipush (v := 97) hx hb dX7_isLetter_1 (by decide) ?_
    refine lv_icmp_lt (tgt := 16) hx hb dX7_isLetter_3 (by decide) (fun c1 => ?_) (fun c1 => ?_)
    · replace hw := hw.1 c1
      exact b16    M H locs ls hH (lv_sub hl [] rfl) hw
    · replace hw := hw.2 c1
      refine lv_iload_n hx hb dX7_isLetter_6 rfl (lv_at hl 0 rfl) ?_
      refine lv_bipush (v := 122) hx hb dX7_isLetter_7 (by decide) ?_
      refine lv_icmp_gt (tgt := 16) hx hb dX7_isLetter_9 (by decide) (fun c2 => ?_) (fun c2 => ?_)
      · replace hw := hw.1 c2
        exact b16    M H locs ls hH (lv_sub hl [] rfl) hw
      · replace hw := hw.2 c2
        refine lv_iconst (v := 1) hx hb dX7_isLetter_12 (by decide) ?_
        refine lv_goto (tgt := 17) hx hb dX7_isLetter_13 (by decide) ?_
        exact b17   1 M H locs ls hH (lv_sub hl [] rfl) hw
  exact hst M s.heap [] ls hH hl hw
def fc_X7_withLetter (T : LY)  (a1 : Int64) (a2 : Int32) (M : CM) (Q : Int64 → CM → Prop) : Prop := Q ((a1 * 32) + (((a2 - 97) + 1).toInt64)) M
abbrev rmX7_withLetter : Room := { frames := 0, cells := 0, slots := 0, locals := 0 }
set_option maxHeartbeats 4000000 in
set_option maxRecDepth 100000 in
theorem tc_X7_withLetter (l : Launch) (D : va_G) (kA : Nat → ClassId) (nm : Nat → Nat) (na : Nat) (sa sv : Nat → Nat) (sz : Nat) (T : LY) (a1 : Int64) (a2 : Int32) (M : CM) (Q : Int64 → CM → Prop) (hw : fc_X7_withLetter T a1 a2 M Q) : Met l yX7_withLetter wsX7_withLetter rmX7_withLetter (va_Pc [.long a1, .int a2] (cPc nm na sa sv D kA T M sz)) (va_Ql Q (cB D kA (cF T sz) T) (cF T sz)) 0 0 (cF T sz) := by
  refine Met.ofW (cc := cX7_withLetter) (maxL := 3) (ret := (some .long)) (by decide) rfl ?_
  intro p e s m args below meth c s₁ B hml hv
  obtain ⟨rfl, hsz, hP, hK, hSt⟩ := hv
  have hx := B.exec
  have hb := B.bytes
  have hr := B.returns
  have hts := atoms_spec (ws := wsX7_withLetter) B.pre
  have hown : s.vm.findClass RX7 = some m.cls := findClass_of_methodNamed B.named
  have hlocks : meth.locks = false := B.notSynchronized
  subst hsz
  have hH : cH D kA (cF T s.heap.size) s.heap T M s.heap [] := ⟨hP.self, va_S.rf⟩
  have hA : ∀ q : Nat, s.heap.size ≤ q → cF T s.heap.size q := fun q z => Or.inr z
  generalize cF T s.heap.size = A at hH hA hSt ⊢
  have hl := lv_entry ([.long a1, .int a2]) (n := 3) (by first | exact Nat.le_of_ble_eq_true rfl | simp [lg_sl, va_rf_cat, cat_ref, cat_int, cat_long, cat_double])
  rw [lg_entry_eq]
  generalize (lg_sl ([.long a1, .int a2]) ++ List.replicate (3 - (lg_sl ([.long a1, .int a2])).length) Slot.unset).toArray = ls at hl ⊢
  generalize ([.long a1, .int a2] : List Value).toArray = args at hts ⊢
  have hl : lv_has ls 3 [(0, .long a1), (2, .int a2)] := hl
  clear hP
  unfold fc_X7_withLetter at hw
  have hst : ∀ (M : CM) (H : Heap) (locs : List Loc) (ls : Array Slot), cH D kA A s.heap T M H locs → lv_has ls 3 [(0, .long a1), (2, .int a2)] → Q ((a1 * 32) + (((a2 - 97) + 1).toInt64)) M → W p l e (headSpec wsX7_withLetter rmX7_withLetter).room s m args below meth c H locs 0 0 (MQ below (va_Ql Q (cB D kA A T) A) args s 0 0 A) (F0 m 0 ls []) := by
    intro M H locs ls hH hl hw
    refine lv_lload_n hx hb dX7_withLetter_0 rfl (lv_at hl 0 rfl) ?_
    refine lv_ldc2 (v := 32) hx hb hown (hts (.constantLong RX7 67 32) (by decide +kernel)) dX7_withLetter_1 ?_
    refine lv_lmul hx hb dX7_withLetter_4 ?_
    refine lv_iload_n hx hb dX7_withLetter_5 rfl (lv_at hl 1 rfl) ?_
    refine lv_bipush (v := 97) hx hb dX7_withLetter_6 (by decide) ?_
    refine lv_isub hx hb dX7_withLetter_8 ?_
    refine lv_iconst (v := 1) hx hb dX7_withLetter_9 (by decide) ?_
    refine lv_iadd hx hb dX7_withLetter_10 ?_
    refine lv_i2l hx hb dX7_withLetter_11 rfl ?_
    refine lv_ladd hx hb dX7_withLetter_12 ?_
    exact c_retl hx hb hr hlocks hK hH hw dX7_withLetter_13
  exact hst M s.heap [] ls hH hl hw
