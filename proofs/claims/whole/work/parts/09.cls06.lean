def fc_X6_nameOf_b43 (nm : Nat → Nat) (T : LY) (Q : Option Nat → CM → Prop) (k10 : Int64 → Int32 → Int32 → CM → Prop) (v0 : Int64) (v3 : Int32) (v4 : Int32) (M : CM) : Prop := (∀ x1 : Int32, x1 = v4 + 1 → k10 v0 v3 x1 M)
def fc_X6_nameOf_c10 (nm : Nat → Nat) (T : LY) (Q : Option Nat → CM → Prop) (k10 : Int64 → Int32 → Int32 → CM → Prop) (v0 : Int64) (v3 : Int32) (v4 : Int32) (M : CM) : Prop := ((v3 ≤ v4 → Q none M) ∧ (¬ v3 ≤ v4 → (vp_in v4 10 ∧ (∃ i4 : Nat, (some (nm v4.toNatClampNeg)) = some (nm i4) ∧ i4 < 10 ∧ fc_X7_codeOf T i4 M (fun (r6 : Int64) (M5 : CM) => ((¬ (lg_cmp r6 v0) = 0 → fc_X6_nameOf_b43 nm T Q k10 v0 v3 v4 M5) ∧ ((lg_cmp r6 v0) = 0 → Q (some (nm v4.toNatClampNeg)) M5)))))))
def fc_X6_nameOf_l10 (nm : Nat → Nat) (T : LY) (Q : Option Nat → CM → Prop) : Nat → Int64 → Int32 → Int32 → CM → Prop := lit (τ := Int64 → Int32 → Int32 → CM → Prop) (fun _ _ _ _ => False) (fun k => fc_X6_nameOf_c10 nm T Q  k)
def fc_X6_nameOf (nm : Nat → Nat) (T : LY)  (a1 : Int64) (M : CM) (Q : Option Nat → CM → Prop) : Prop := (∃ nn : Nat, fc_X6_nameOf_l10 nm T Q  nn a1 10 0 M)
abbrev rmX6_nameOf : Room := { frames := 5, cells := 0, slots := 0, locals := 108 }
set_option maxHeartbeats 4000000 in
set_option maxRecDepth 100000 in
theorem tc_X6_nameOf (l : Launch) (D : va_G) (kA : Nat → ClassId) (nm : Nat → Nat) (na : Nat) (sa sv : Nat → Nat) (sz : Nat) (T : LY) (a1 : Int64) (M : CM) (Q : Option Nat → CM → Prop) (hw : fc_X6_nameOf nm T a1 M Q) : Met l yX6_nameOf wsX6_nameOf rmX6_nameOf (va_Pc [.long a1] (cPc nm na sa sv D kA T M sz)) (va_Qq Q (cB D kA (cF T sz) T) (cF T sz)) 0 0 (cF T sz) := by
  refine Met.ofW (cc := cX6_nameOf) (maxL := 6) (ret := (some (.object "IdlCaller$Name"))) (by decide) rfl ?_
  intro p e s m args below meth c s₁ B hml hv
  obtain ⟨rfl, hsz, hP, hK, hSt⟩ := hv
  have hx := B.exec
  have hb := B.bytes
  have hr := B.returns
  have hts := atoms_spec (ws := wsX6_nameOf) B.pre
  have hown : s.vm.findClass RX6 = some m.cls := findClass_of_methodNamed B.named
  have hlocks : meth.locks = false := B.notSynchronized
  subst hsz
  have hH : cH D kA (cF T s.heap.size) s.heap T M s.heap [] := ⟨hP.self, va_S.rf⟩
  have hA : ∀ q : Nat, s.heap.size ≤ q → cF T s.heap.size q := fun q z => Or.inr z
  generalize cF T s.heap.size = A at hH hA hSt ⊢
  have hl := lv_entry ([.long a1]) (n := 6) (by first | exact Nat.le_of_ble_eq_true rfl | simp [lg_sl, va_rf_cat, cat_ref, cat_int, cat_long, cat_double])
  rw [lg_entry_eq]
  generalize (lg_sl ([.long a1]) ++ List.replicate (6 - (lg_sl ([.long a1])).length) Slot.unset).toArray = ls at hl ⊢
  generalize ([.long a1] : List Value).toArray = args at hts ⊢
  have hl : lv_has ls 6 [(0, .long a1)] := hl
  have b43 : ∀ (k10 : Int64 → Int32 → Int32 → CM → Prop) (hk10 : ∀ (v0 : Int64) (v3 : Int32) (v4 : Int32) (M : CM) (H : Heap) (locs : List Loc) (ls : Array Slot), cH D kA A s.heap T M H locs → lv_has ls 6 [(0, .long v0), (2, .ref na), (3, .int v3), (4, .int v4)] → k10 v0 v3 v4 M → W p l e (headSpec wsX6_nameOf rmX6_nameOf).room s m args below meth c H locs 0 0 (MQ below (va_Qq Q (cB D kA A T) A) args s 0 0 A) (F0 m 10 ls [])) (v0 : Int64) (v3 : Int32) (v4 : Int32) (M : CM) (H : Heap) (locs : List Loc) (ls : Array Slot), cH D kA A s.heap T M H locs → lv_has ls 6 [(0, .long v0), (2, .ref na), (3, .int v3), (4, .int v4)] → fc_X6_nameOf_b43 nm T Q k10 v0 v3 v4 M → W p l e (headSpec wsX6_nameOf rmX6_nameOf).room s m args below meth c H locs 0 0 (MQ below (va_Qq Q (cB D kA A T) A) args s 0 0 A) (F0 m 43 ls []) := by
    intro k10 hk10 v0 v3 v4 M H locs ls hH hl hw
    unfold fc_X6_nameOf_b43 at hw
    obtain ⟨x1, ex1⟩ : ∃ y : Int32, y = v4 + 1 := ⟨_, rfl⟩
    replace hw := hw x1 ex1
    refine lv_iinc (v := x1) (lv' := [(4, .int x1), (0, .long v0), (2, .ref na), (3, .int v3)]) hx hb dX6_nameOf_43 hl (k := 3) rfl (by rw [ex1]; rfl) (by decide) rfl (fun ls hl => ?_)
    refine lv_goto (tgt := 10) hx hb dX6_nameOf_46 (by decide) ?_
    exact hk10 v0 v3 x1 M H locs ls hH (lv_sub hl [1, 2, 3, 0] rfl) hw
  have l10 : ∀ (nn : Nat) (v0 : Int64) (v3 : Int32) (v4 : Int32) (M : CM) (H : Heap) (locs : List Loc) (ls : Array Slot), cH D kA A s.heap T M H locs → lv_has ls 6 [(0, .long v0), (2, .ref na), (3, .int v3), (4, .int v4)] → fc_X6_nameOf_l10 nm T Q  nn v0 v3 v4 M → W p l e (headSpec wsX6_nameOf rmX6_nameOf).room s m args below meth c H locs 0 0 (MQ below (va_Qq Q (cB D kA A T) A) args s 0 0 A) (F0 m 10 ls []) := by
    intro   nn
    induction nn with
    | zero => intro v0 v3 v4 M H locs ls hH hl hw; exact False.elim hw
    | succ nn hk10 =>
      intro v0 v3 v4 M H locs ls hH hl hw
      replace hw : fc_X6_nameOf_c10 nm T Q  (fc_X6_nameOf_l10 nm T Q  nn) v0 v3 v4 M := hw
      unfold fc_X6_nameOf_c10 at hw
      refine lv_iload hx hb dX6_nameOf_10 (lv_at hl 3 rfl) ?_
      refine lv_iload_n hx hb dX6_nameOf_12 rfl (lv_at hl 2 rfl) ?_
      refine lv_icmp_ge (tgt := 49) hx hb dX6_nameOf_13 (by decide) (fun c2 => ?_) (fun c2 => ?_)
      · replace hw := hw.1 c2
        refine lv_null hx hb dX6_nameOf_49 ?_
        exact c_retq (v := none) hx hb hr (Or.inl ⟨_, rfl⟩) hlocks hK hH hw dX6_nameOf_50
      · replace hw := hw.2 c2
        refine lv_aload_n hx hb dX6_nameOf_16 rfl (lv_at hl 1 rfl) ?_
        refine lv_iload hx hb dX6_nameOf_17 (lv_at hl 3 rfl) ?_
        obtain ⟨h3, hw⟩ := hw
        refine ce_ald hx hb hSt hH h3 dX6_nameOf_19 ?_
        refine lv_astore (i := 5) (lv' := [(5, .ref (nm v4.toNatClampNeg)), (0, .long v0), (2, .ref na), (3, .int v3), (4, .int v4)]) hx hb dX6_nameOf_20 hl (by decide) rfl (fun ls hl => ?_)
        refine lv_aload hx hb dX6_nameOf_22 (lv_at hl 0 rfl) ?_
        refine lv_ifnull hx hb dX6_nameOf_24 ?_
        refine lv_aload hx hb dX6_nameOf_27 (lv_at hl 0 rfl) ?_
        obtain ⟨i4, ei4, hi4, hw⟩ := hw
        refine W.st (st' := [.ref (nm i4)]) (by first | (rw [ei4]; rfl) | (have z := Option.some.inj ei4; rw [z])) ?_
        refine ce_letters hx hb hown hSt hH hi4 (hts (.fieldLink RX6 148 "IdlCaller$Name" "letters" "Ljava/lang/String;") (by decide +kernel)) dX6_nameOf_29 ?_
        refine c_calll (va_runS (As := [.ref (sa i4)]) (rest := []) ⟨hx, hb, hml, hown, hts⟩ (tc_X7_codeOf l D kA nm na sa sv H.size T i4 M _ hw) (va_cwS 1 hts gX6_nameOf_X7_codeOf rfl rfl rfl (by decide +kernel) ⟨(show (4 : Nat) + 1 ≤ 5 from Nat.le_of_ble_eq_true rfl), (show 8 + (4 + 11) + (85 : Nat) ≤ 108 from Nat.le_of_ble_eq_true rfl)⟩) (c_preS hK hH hA hSt) rfl rfl hl.1 rfl (lv_room (by first | exact Nat.le_of_ble_eq_true rfl | simp [va_rf_cat, cat_ref, cat_int, cat_long, cat_double, cat_null])) dX6_nameOf_32 ⟨Nat.le_of_ble_eq_true rfl, Nat.le_of_ble_eq_true rfl⟩) hH hA (fun r6 M5 H locs hw hH => ?_)
        refine lv_lload_n hx hb dX6_nameOf_35 rfl (lv_at hl 1 rfl) ?_
        refine W.lcmp hx hb dX6_nameOf_36 ?_
        refine lv_if_ne (tgt := 43) hx hb dX6_nameOf_37 (by decide) (fun c8 => ?_) (fun c8 => ?_)
        · replace hw := hw.1 c8
          exact b43 _ hk10 v0 v3 v4 M5 H locs ls hH (lv_sub hl [1, 2, 3, 4] rfl) hw
        · replace hw := hw.2 c8
          refine lv_aload hx hb dX6_nameOf_40 (lv_at hl 0 rfl) ?_
          exact c_retq (v := (some (nm v4.toNatClampNeg))) hx hb hr (Or.inl ⟨_, rfl⟩) hlocks hK hH hw dX6_nameOf_42
  clear hP
  unfold fc_X6_nameOf at hw
  have hst : ∀ (M : CM) (H : Heap) (locs : List Loc) (ls : Array Slot), cH D kA A s.heap T M H locs → lv_has ls 6 [(0, .long a1)] → (∃ nn : Nat, fc_X6_nameOf_l10 nm T Q  nn a1 10 0 M) → W p l e (headSpec wsX6_nameOf rmX6_nameOf).room s m args below meth c H locs 0 0 (MQ below (va_Qq Q (cB D kA A T) A) args s 0 0 A) (F0 m 0 ls []) := by
    intro M H locs ls hH hl hw
    refine ce_NAMES hx hb hown hSt hH (va_Nw.use rfl hSt.2.2.2.2.2.2.2.2.2.2.2.2.2.2.2.2.2.2.1) dX6_nameOf_0 ?_
    refine lv_astore_n (i := 2) (lv' := [(2, .ref na), (0, .long a1)]) hx hb dX6_nameOf_3 rfl hl (by decide) rfl (fun ls hl => ?_)
    refine lv_aload_n hx hb dX6_nameOf_4 rfl (lv_at hl 0 rfl) ?_
    refine ce_len hx hb hSt hH dX6_nameOf_5 ?_
    refine lv_istore_n (i := 3) (lv' := [(3, .int 10), (2, .ref na), (0, .long a1)]) hx hb dX6_nameOf_6 rfl hl (by decide) rfl (fun ls hl => ?_)
    refine lv_iconst (v := 0) hx hb dX6_nameOf_7 (by decide) ?_
    refine lv_istore (i := 4) (lv' := [(4, .int 0), (3, .int 10), (2, .ref na), (0, .long a1)]) hx hb dX6_nameOf_8 hl (by decide) rfl (fun ls hl => ?_)
    obtain ⟨nn, hw⟩ := hw
    exact l10   nn a1 10 0 M H locs ls hH (lv_sub hl [3, 2, 1, 0] rfl) hw
  exact hst M s.heap [] ls hH hl hw
def fc_X3_hasBounds_b17 (T : LY) (h : Nat) (Q : Int32 → CM → Prop) (s0 : Int32) (M : CM) : Prop := (nZ s0 ∧ Q s0 M)
def fc_X3_hasBounds (T : LY) (h : Nat)  (M : CM) (Q : Int32 → CM → Prop) : Prop := (h < 10 ∧ ((0 ≤ (lg_cmp (nLeast h) (nMost h)) → fc_X3_hasBounds_b17 T h Q  0 M) ∧ (¬ 0 ≤ (lg_cmp (nLeast h) (nMost h)) → fc_X3_hasBounds_b17 T h Q  1 M)))
abbrev rmX3_hasBounds : Room := { frames := 0, cells := 0, slots := 0, locals := 0 }
set_option maxHeartbeats 4000000 in
set_option maxRecDepth 100000 in
theorem tc_X3_hasBounds (l : Launch) (D : va_G) (kA : Nat → ClassId) (nm : Nat → Nat) (na : Nat) (sa sv : Nat → Nat) (sz : Nat) (T : LY) (h : Nat) (M : CM) (Q : Int32 → CM → Prop) (hw : fc_X3_hasBounds T h  M Q) : Met l yX3_hasBounds wsX3_hasBounds rmX3_hasBounds (va_Pc [.ref (nm h)] (cPc nm na sa sv D kA T M sz)) (va_Qi Q (cB D kA (cF T sz) T) (cF T sz)) 0 0 (cF T sz) := by
  refine Met.ofW (cc := cX3_hasBounds) (maxL := 1) (ret := (some .boolean)) (by decide) rfl ?_
  intro p e s m args below meth c s₁ B hml hv
  obtain ⟨rfl, hsz, hP, hK, hSt⟩ := hv
  have hx := B.exec
  have hb := B.bytes
  have hr := B.returns
  have hts := atoms_spec (ws := wsX3_hasBounds) B.pre
  have hown : s.vm.findClass RX3 = some m.cls := findClass_of_methodNamed B.named
  have hlocks : meth.locks = false := B.notSynchronized
  subst hsz
  have hH : cH D kA (cF T s.heap.size) s.heap T M s.heap [] := ⟨hP.self, va_S.rf⟩
  have hA : ∀ q : Nat, s.heap.size ≤ q → cF T s.heap.size q := fun q z => Or.inr z
  generalize cF T s.heap.size = A at hH hA hSt ⊢
  have hl := lv_entry ([.ref (nm h)]) (n := 1) (by first | exact Nat.le_of_ble_eq_true rfl | simp [lg_sl, va_rf_cat, cat_ref, cat_int, cat_long, cat_double])
  rw [lg_entry_eq]
  generalize (lg_sl ([.ref (nm h)]) ++ List.replicate (1 - (lg_sl ([.ref (nm h)])).length) Slot.unset).toArray = ls at hl ⊢
  generalize ([.ref (nm h)] : List Value).toArray = args at hts ⊢
  have hl : lv_has ls 1 [(0, .ref (nm h))] := hl
  have b17 : ∀ (s0 : Int32) (M : CM) (H : Heap) (locs : List Loc) (ls : Array Slot), cH D kA A s.heap T M H locs → lv_has ls 1 [] → fc_X3_hasBounds_b17 T h Q  s0 M → W p l e (headSpec wsX3_hasBounds rmX3_hasBounds).room s m args below meth c H locs 0 0 (MQ below (va_Qi Q (cB D kA A T) A) args s 0 0 A) (F0 m 17 ls [.int s0]) := by
    intro   s0 M H locs ls hH hl hw
    unfold fc_X3_hasBounds_b17 at hw
    exact c_retz hx hb hr hw.1.1 hlocks hK hH hw.2 dX3_hasBounds_17
  clear hP
  unfold fc_X3_hasBounds at hw
  have hst : ∀ (M : CM) (H : Heap) (locs : List Loc) (ls : Array Slot), cH D kA A s.heap T M H locs → lv_has ls 1 [(0, .ref (nm h))] → (h < 10 ∧ ((0 ≤ (lg_cmp (nLeast h) (nMost h)) → fc_X3_hasBounds_b17 T h Q  0 M) ∧ (¬ 0 ≤ (lg_cmp (nLeast h) (nMost h)) → fc_X3_hasBounds_b17 T h Q  1 M))) → W p l e (headSpec wsX3_hasBounds rmX3_hasBounds).room s m args below meth c H locs 0 0 (MQ below (va_Qi Q (cB D kA A T) A) args s 0 0 A) (F0 m 0 ls []) := by
    intro M H locs ls hH hl hw
    refine lv_aload_n hx hb dX3_hasBounds_0 rfl (lv_at hl 0 rfl) ?_
    obtain ⟨h1, hw⟩ := hw
    refine ce_least hx hb hown hSt hH h1 (hts (.fieldLink RX3 63 "IdlCaller$Name" "least" "J") (by decide +kernel)) dX3_hasBounds_1 ?_
    refine lv_aload_n hx hb dX3_hasBounds_4 rfl (lv_at hl 0 rfl) ?_
    refine ce_most hx hb hown hSt hH h1 (hts (.fieldLink RX3 67 "IdlCaller$Name" "most" "J") (by decide +kernel)) dX3_hasBounds_5 ?_
    refine W.lcmp hx hb dX3_hasBounds_8 ?_
    refine lv_if_ge (tgt := 16) hx hb dX3_hasBounds_9 (by decide) (fun c2 => ?_) (fun c2 => ?_)
    · replace hw := hw.1 c2
      refine lv_iconst (v := 0) hx hb dX3_hasBounds_16 (by decide) ?_
      exact b17   0 M H locs ls hH (lv_sub hl [] rfl) hw
    · replace hw := hw.2 c2
      refine lv_iconst (v := 1) hx hb dX3_hasBounds_12 (by decide) ?_
      refine lv_goto (tgt := 17) hx hb dX3_hasBounds_13 (by decide) ?_
      exact b17   1 M H locs ls hH (lv_sub hl [] rfl) hw
  exact hst M s.heap [] ls hH hl hw
def fc_X6_readName_b122 (nm : Nat → Nat) (T : LY) (h : Nat) (Q : Option Nat → CM → Prop) (v3 : Option Nat) (M : CM) : Prop := Q v3 M
def fc_X6_readName_b114 (nm : Nat → Nat) (T : LY) (h : Nat) (Q : Option Nat → CM → Prop) (v2 : Int32) (M : CM) : Prop := (tg T h = 7 ∧ fc_X6_failAt T h v2 M (fun (r3 : Int32) (M2 : CM) => Q none M2))
def fc_X6_readName_b103 (nm : Nat → Nat) (T : LY) (h : Nat) (Q : Option Nat → CM → Prop) (v1 : Int32) (v2 : Int32) (v3 : Option Nat) (M : CM) : Prop := ((¬ v3 = (some (nm 9)) → fc_X6_readName_b122 nm T h Q  v3 M) ∧ (v3 = (some (nm 9)) → ((¬ v1 = 0 → fc_X6_readName_b122 nm T h Q  v3 M) ∧ (v1 = 0 → fc_X6_readName_b114 nm T h Q  v2 M))))
def fc_X6_readName_b72 (nm : Nat → Nat) (T : LY) (h : Nat) (Q : Option Nat → CM → Prop) (v1 : Int32) (M : CM) : Prop := (tg T h = 7 ∧ (∀ x8 : Int32, x8 = cI M 64 h → fc_X6_readWord T h M (fun (r10 : Int64) (M9 : CM) => fc_X6_nameOf nm T r10 M9 (fun (r13 : Option Nat) (M12 : CM) => ((r13 = none → fc_X6_readName_b114 nm T h Q  x8 M12) ∧ (¬ r13 = none → (((cI M12 65 h) = 0 → fc_X6_readName_b103 nm T h Q  v1 x8 r13 M12) ∧ (¬ (cI M12 65 h) = 0 → (∃ i17 : Nat, r13 = some (nm i17) ∧ i17 < 10 ∧ fc_X3_hasBounds T i17 M12 (fun (r19 : Int32) (M18 : CM) => ((r19 = 0 → fc_X6_readName_b114 nm T h Q  x8 M18) ∧ (¬ r19 = 0 → fc_X6_readName_b103 nm T h Q  v1 x8 r13 M18))))))))))))
def fc_X6_readName_b61 (nm : Nat → Nat) (T : LY) (h : Nat) (Q : Option Nat → CM → Prop) (M : CM) : Prop := (tg T h = 7 ∧ fc_X6_failAt T h (cI M 64 h) M (fun (r24 : Int32) (M23 : CM) => Q none M23))
def fc_X6_readName_b42 (nm : Nat → Nat) (T : LY) (h : Nat) (Q : Option Nat → CM → Prop) (v1 : Int32) (s0 : Int32) (M : CM) : Prop := (tg T h = 7 ∧ (∀ M27 : CM, M27 = sI M 65 h s0 → (((cI M27 65 h) = 0 → fc_X6_readName_b61 nm T h Q   M27) ∧ (¬ (cI M27 65 h) = 0 → fc_X6_take T h 93 M27 (fun (r30 : Int32) (M29 : CM) => ((¬ r30 = 0 → fc_X6_readName_b72 nm T h Q  v1 M29) ∧ (r30 = 0 → fc_X6_readName_b61 nm T h Q   M29)))))))
def fc_X6_readName (nm : Nat → Nat) (T : LY) (h : Nat)  (a1 : Int32) (M : CM) (Q : Option Nat → CM → Prop) : Prop := (tg T h = 7 ∧ (∀ M34 : CM, M34 = sI M 65 h 0 → fc_X6_take T h 91 M34 (fun (r36 : Int32) (M35 : CM) => ((r36 = 0 → fc_X6_readName_b72 nm T h Q  a1 M35) ∧ (¬ r36 = 0 → fc_X6_take T h 67 M35 (fun (r40 : Int32) (M39 : CM) => ((r40 = 0 → fc_X6_take T h 69 M39 (fun (r44 : Int32) (M43 : CM) => ((r44 = 0 → fc_X6_readName_b42 nm T h Q  a1 0 M43) ∧ (¬ r44 = 0 → fc_X6_readName_b42 nm T h Q  a1 2 M43)))) ∧ (¬ r40 = 0 → fc_X6_readName_b42 nm T h Q  a1 1 M39))))))))
abbrev rmX6_readName : Room := { frames := 6, cells := 0, slots := 0, locals := 133 }
set_option maxHeartbeats 4000000 in
set_option maxRecDepth 100000 in
theorem tc_X6_readName (l : Launch) (D : va_G) (kA : Nat → ClassId) (nm : Nat → Nat) (na : Nat) (sa sv : Nat → Nat) (sz : Nat) (T : LY) (h : Nat) (a1 : Int32) (M : CM) (Q : Option Nat → CM → Prop) (hw : fc_X6_readName nm T h a1 M Q) : Met l yX6_readName wsX6_readName rmX6_readName (va_Pc [.ref h, .int a1] (cPc nm na sa sv D kA T M sz)) (va_Qq Q (cB D kA (cF T sz) T) (cF T sz)) 0 0 (cF T sz) := by
  refine Met.ofW (cc := cX6_readName) (maxL := 4) (ret := (some (.object "IdlCaller$Name"))) (by decide) rfl ?_
  intro p e s m args below meth c s₁ B hml hv
  obtain ⟨rfl, hsz, hP, hK, hSt⟩ := hv
  have hx := B.exec
  have hb := B.bytes
  have hr := B.returns
  have hts := atoms_spec (ws := wsX6_readName) B.pre
  have hown : s.vm.findClass RX6 = some m.cls := findClass_of_methodNamed B.named
  have hlocks : meth.locks = false := B.notSynchronized
  subst hsz
  have hH : cH D kA (cF T s.heap.size) s.heap T M s.heap [] := ⟨hP.self, va_S.rf⟩
  have hA : ∀ q : Nat, s.heap.size ≤ q → cF T s.heap.size q := fun q z => Or.inr z
  generalize cF T s.heap.size = A at hH hA hSt ⊢
  have hl := lv_entry ([.ref h, .int a1]) (n := 4) (by first | exact Nat.le_of_ble_eq_true rfl | simp [lg_sl, va_rf_cat, cat_ref, cat_int, cat_long, cat_double])
  rw [lg_entry_eq]
  generalize (lg_sl ([.ref h, .int a1]) ++ List.replicate (4 - (lg_sl ([.ref h, .int a1])).length) Slot.unset).toArray = ls at hl ⊢
  generalize ([.ref h, .int a1] : List Value).toArray = args at hts ⊢
  have hl : lv_has ls 4 [(0, .ref h), (1, .int a1)] := hl
  have hin6 : ∀ w ∈ wsX60, w ∈ wsX6_readName := by decide +kernel
  have b122 : ∀ (v3 : Option Nat) (M : CM) (H : Heap) (locs : List Loc) (ls : Array Slot), cH D kA A s.heap T M H locs → lv_has ls 4 [(3, va_rf v3)] → fc_X6_readName_b122 nm T h Q  v3 M → W p l e (headSpec wsX6_readName rmX6_readName).room s m args below meth c H locs 0 0 (MQ below (va_Qq Q (cB D kA A T) A) args s 0 0 A) (F0 m 122 ls []) := by
    intro   v3 M H locs ls hH hl hw
    unfold fc_X6_readName_b122 at hw
    refine s_aload_n hx hb dX6_readName_122 rfl (lv_at hl 0 rfl) ?_
    exact c_retq (v := v3) hx hb hr (Or.inl ⟨_, rfl⟩) hlocks hK hH hw dX6_readName_123
  have b114 : ∀ (v2 : Int32) (M : CM) (H : Heap) (locs : List Loc) (ls : Array Slot), cH D kA A s.heap T M H locs → lv_has ls 4 [(0, .ref h), (2, .int v2)] → fc_X6_readName_b114 nm T h Q  v2 M → W p l e (headSpec wsX6_readName rmX6_readName).room s m args below meth c H locs 0 0 (MQ below (va_Qq Q (cB D kA A T) A) args s 0 0 A) (F0 m 114 ls []) := by
    intro   v2 M H locs ls hH hl hw
    unfold fc_X6_readName_b114 at hw
    refine lv_aload_n hx hb dX6_readName_114 rfl (lv_at hl 0 rfl) ?_
    refine lv_iload_n hx hb dX6_readName_115 rfl (lv_at hl 1 rfl) ?_
    obtain ⟨h1, hw⟩ := hw
    refine c_calli (va_runV (As := [.int v2]) (rest := []) ⟨hx, hb, hml, hown, hts⟩ (tc_X6_failAt l D kA nm na sa sv H.size T h v2 M _ hw) (cwV 1 hts gX6_readName_X6_failAt rfl rfl rfl (by decide +kernel) ⟨(show (1 : Nat) + 1 ≤ 6 from Nat.le_of_ble_eq_true rfl), (show 8 + (2 + 11) + (21 : Nat) ≤ 133 from Nat.le_of_ble_eq_true rfl)⟩) (c_preV hK hH hA hSt (c_recv6 hK hH h1)) rfl rfl hl.1 rfl (lv_room (by first | exact Nat.le_of_ble_eq_true rfl | simp [va_rf_cat, cat_ref, cat_int, cat_long, cat_double, cat_null])) dX6_readName_116 ⟨Nat.le_of_ble_eq_true rfl, Nat.le_of_ble_eq_true rfl⟩) hH hA (fun r3 M2 H locs hw hH => ?_)
    refine lv_pop hx hb dX6_readName_119 rfl ?_
    refine lv_null hx hb dX6_readName_120 ?_
    exact c_retq (v := none) hx hb hr (Or.inl ⟨_, rfl⟩) hlocks hK hH hw dX6_readName_121
  have b103 : ∀ (v1 : Int32) (v2 : Int32) (v3 : Option Nat) (M : CM) (H : Heap) (locs : List Loc) (ls : Array Slot), cH D kA A s.heap T M H locs → lv_has ls 4 [(0, .ref h), (1, .int v1), (2, .int v2), (3, va_rf v3)] → fc_X6_readName_b103 nm T h Q  v1 v2 v3 M → W p l e (headSpec wsX6_readName rmX6_readName).room s m args below meth c H locs 0 0 (MQ below (va_Qq Q (cB D kA A T) A) args s 0 0 A) (F0 m 103 ls []) := by
    intro   v1 v2 v3 M H locs ls hH hl hw
    unfold fc_X6_readName_b103 at hw
    refine s_aload_n hx hb dX6_readName_103 rfl (lv_at hl 3 rfl) ?_
    refine ce_9 hx hb hown hSt hH (hts (.fieldLink RX6 116 "IdlCaller$Name" "LIST" "LIdlCaller$Name;") (by decide +kernel)) dX6_readName_104 ?_
    refine lv_acmp_ne (rx := v3) (ry := (some (nm 9))) (tgt := 122) hx hb dX6_readName_107 (by decide) (fun c5 => ?_) (fun c5 => ?_)
    · replace hw := hw.1 c5
      exact b122   v3 M H locs ls hH (lv_sub hl [3] rfl) hw
    · replace hw := hw.2 c5
      refine lv_iload_n hx hb dX6_readName_110 rfl (lv_at hl 1 rfl) ?_
      refine lv_if_ne (tgt := 122) hx hb dX6_readName_111 (by decide) (fun c6 => ?_) (fun c6 => ?_)
      · replace hw := hw.1 c6
        exact b122   v3 M H locs ls hH (lv_sub hl [3] rfl) hw
      · replace hw := hw.2 c6
        exact b114   v2 M H locs ls hH (lv_sub hl [0, 2] rfl) hw
  have b72 : ∀ (v1 : Int32) (M : CM) (H : Heap) (locs : List Loc) (ls : Array Slot), cH D kA A s.heap T M H locs → lv_has ls 4 [(0, .ref h), (1, .int v1)] → fc_X6_readName_b72 nm T h Q  v1 M → W p l e (headSpec wsX6_readName rmX6_readName).room s m args below meth c H locs 0 0 (MQ below (va_Qq Q (cB D kA A T) A) args s 0 0 A) (F0 m 72 ls []) := by
    intro   v1 M H locs ls hH hl hw
    unfold fc_X6_readName_b72 at hw
    refine lv_aload_n hx hb dX6_readName_72 rfl (lv_at hl 0 rfl) ?_
    obtain ⟨h7, hw⟩ := hw
    refine cg_64 hx hb hts hin6 hown hK hH h7 (hts (.fieldLink RX6 26 "IdlCaller$Reader" "at" "I") (by decide +kernel)) dX6_readName_73 ?_
    refine lv_topi (fun x8 ex8 => ?_)
    replace hw := hw x8 ex8
    refine lv_istore_n (i := 2) (lv' := [(2, .int x8), (0, .ref h), (1, .int v1)]) hx hb dX6_readName_76 rfl hl (by decide) rfl (fun ls hl => ?_)
    refine lv_aload_n hx hb dX6_readName_77 rfl (lv_at hl 1 rfl) ?_
    refine c_calll (va_runV (As := []) (rest := []) ⟨hx, hb, hml, hown, hts⟩ (tc_X6_readWord l D kA nm na sa sv H.size T h M _ hw) (cwV 0 hts gX6_readName_X6_readWord rfl rfl rfl (by decide +kernel) ⟨(show (1 : Nat) + 1 ≤ 6 from Nat.le_of_ble_eq_true rfl), (show 8 + (5 + 11) + (22 : Nat) ≤ 133 from Nat.le_of_ble_eq_true rfl)⟩) (c_preV hK hH hA hSt (c_recv6 hK hH h7)) rfl rfl hl.1 rfl (lv_room (by first | exact Nat.le_of_ble_eq_true rfl | simp [va_rf_cat, cat_ref, cat_int, cat_long, cat_double, cat_null])) dX6_readName_78 ⟨Nat.le_of_ble_eq_true rfl, Nat.le_of_ble_eq_true rfl⟩) hH hA (fun r10 M9 H locs hw hH => ?_)
    refine c_callq (va_runS (As := [.long r10]) (rest := []) ⟨hx, hb, hml, hown, hts⟩ (tc_X6_nameOf l D kA nm na sa sv H.size T r10 M9 _ hw) (va_cwS 1 hts gX6_readName_X6_nameOf rfl rfl rfl (by decide +kernel) ⟨(show (5 : Nat) + 1 ≤ 6 from Nat.le_of_ble_eq_true rfl), (show 8 + (6 + 11) + (108 : Nat) ≤ 133 from Nat.le_of_ble_eq_true rfl)⟩) (c_preS hK hH hA hSt) rfl rfl hl.1 rfl (lv_room (by first | exact Nat.le_of_ble_eq_true rfl | simp [va_rf_cat, cat_ref, cat_int, cat_long, cat_double, cat_null])) dX6_readName_81 ⟨Nat.le_of_ble_eq_true rfl, Nat.le_of_ble_eq_true rfl⟩) hH hA (fun r13 M12 H locs hw hH => ?_)
    refine s_astore_n (i := 3) (lv' := [(3, va_rf r13), (2, .int x8), (0, .ref h), (1, .int v1)]) hx hb dX6_readName_84 rfl hl (by decide) (by first | rfl | simp [va_rf_cat, cat_ref, cat_int, cat_long, cat_double, cat_null]) (fun ls hl => ?_)
    refine s_aload_n hx hb dX6_readName_85 rfl (lv_at hl 0 rfl) ?_
    refine s_ifnull (tgt := 114) hx hb dX6_readName_86 (by decide) (fun c15 => ?_) (fun c15 => ?_)
    · replace hw := hw.1 c15
      exact b114   x8 M12 H locs ls hH (lv_sub hl [2, 1] rfl) hw
    · replace hw := hw.2 c15
      refine lv_aload_n hx hb dX6_readName_89 rfl (lv_at hl 2 rfl) ?_
      refine cg_65 hx hb hts hin6 hown hK hH h7 (hts (.fieldLink RX6 29 "IdlCaller$Reader" "mode" "I") (by decide +kernel)) dX6_readName_90 ?_
      refine lv_if_eq (tgt := 103) hx hb dX6_readName_93 (by decide) (fun c16 => ?_) (fun c16 => ?_)
      · replace hw := hw.1 c16
        exact b103   v1 x8 r13 M12 H locs ls hH (lv_sub hl [2, 3, 1, 0] rfl) hw
      · replace hw := hw.2 c16
        refine s_aload_n hx hb dX6_readName_96 rfl (lv_at hl 0 rfl) ?_
        obtain ⟨i17, ei17, hi17, hw⟩ := hw
        refine W.st (st' := [.ref (nm i17)]) (by first | (rw [ei17]; rfl) | (have z := Option.some.inj ei17; rw [z])) ?_
        refine c_calli (va_runV (As := []) (rest := []) ⟨hx, hb, hml, hown, hts⟩ (tc_X3_hasBounds l D kA nm na sa sv H.size T i17 M12 _ hw) (cwV 0 hts gX6_readName_X3_hasBounds rfl rfl rfl (by decide +kernel) ⟨(show (0 : Nat) + 1 ≤ 6 from Nat.le_of_ble_eq_true rfl), (show 8 + (1 + 11) + (0 : Nat) ≤ 133 from Nat.le_of_ble_eq_true rfl)⟩) (c_preV hK hH hA hSt (c_recv3 hSt hH hi17)) rfl rfl hl.1 rfl (lv_room (by first | exact Nat.le_of_ble_eq_true rfl | simp [va_rf_cat, cat_ref, cat_int, cat_long, cat_double, cat_null])) dX6_readName_97 ⟨Nat.le_of_ble_eq_true rfl, Nat.le_of_ble_eq_true rfl⟩) hH hA (fun r19 M18 H locs hw hH => ?_)
        refine lv_if_eq (tgt := 114) hx hb dX6_readName_100 (by decide) (fun c21 => ?_) (fun c21 => ?_)
        · replace hw := hw.1 c21
          exact b114   x8 M18 H locs ls hH (lv_sub hl [2, 1] rfl) hw
        · replace hw := hw.2 c21
          exact b103   v1 x8 r13 M18 H locs ls hH (lv_sub hl [2, 3, 1, 0] rfl) hw
  have b61 : ∀ (M : CM) (H : Heap) (locs : List Loc) (ls : Array Slot), cH D kA A s.heap T M H locs → lv_has ls 4 [(0, .ref h)] → fc_X6_readName_b61 nm T h Q   M → W p l e (headSpec wsX6_readName rmX6_readName).room s m args below meth c H locs 0 0 (MQ below (va_Qq Q (cB D kA A T) A) args s 0 0 A) (F0 m 61 ls []) := by
    intro    M H locs ls hH hl hw
    unfold fc_X6_readName_b61 at hw
    refine lv_aload_n hx hb dX6_readName_61 rfl (lv_at hl 0 rfl) ?_
    refine lv_aload_n hx hb dX6_readName_62 rfl (lv_at hl 0 rfl) ?_
    obtain ⟨h22, hw⟩ := hw
    refine cg_64 hx hb hts hin6 hown hK hH h22 (hts (.fieldLink RX6 26 "IdlCaller$Reader" "at" "I") (by decide +kernel)) dX6_readName_63 ?_
    refine c_calli (va_runV (As := [.int (cI M 64 h)]) (rest := []) ⟨hx, hb, hml, hown, hts⟩ (tc_X6_failAt l D kA nm na sa sv H.size T h (cI M 64 h) M _ hw) (cwV 1 hts gX6_readName_X6_failAt rfl rfl rfl (by decide +kernel) ⟨(show (1 : Nat) + 1 ≤ 6 from Nat.le_of_ble_eq_true rfl), (show 8 + (2 + 11) + (21 : Nat) ≤ 133 from Nat.le_of_ble_eq_true rfl)⟩) (c_preV hK hH hA hSt (c_recv6 hK hH h22)) rfl rfl hl.1 rfl (lv_room (by first | exact Nat.le_of_ble_eq_true rfl | simp [va_rf_cat, cat_ref, cat_int, cat_long, cat_double, cat_null])) dX6_readName_66 ⟨Nat.le_of_ble_eq_true rfl, Nat.le_of_ble_eq_true rfl⟩) hH hA (fun r24 M23 H locs hw hH => ?_)
    refine lv_pop hx hb dX6_readName_69 rfl ?_
    refine lv_null hx hb dX6_readName_70 ?_
    exact c_retq (v := none) hx hb hr (Or.inl ⟨_, rfl⟩) hlocks hK hH hw dX6_readName_71
  have b42 : ∀ (v1 : Int32) (s0 : Int32) (M : CM) (H : Heap) (locs : List Loc) (ls : Array Slot), cH D kA A s.heap T M H locs → lv_has ls 4 [(0, .ref h), (1, .int v1)] → fc_X6_readName_b42 nm T h Q  v1 s0 M → W p l e (headSpec wsX6_readName rmX6_readName).room s m args below meth c H locs 0 0 (MQ below (va_Qq Q (cB D kA A T) A) args s 0 0 A) (F0 m 42 ls [.int s0, .ref h]) := by
    intro   v1 s0 M H locs ls hH hl hw
    unfold fc_X6_readName_b42 at hw
    obtain ⟨h26, hw⟩ := hw
    refine cp_65 (x := s0) hx hb hts hin6 hown hK hH h26 (hts (.fieldLink RX6 29 "IdlCaller$Reader" "mode" "I") (by decide +kernel)) dX6_readName_42 (fun M27 H locs eM27 hH => ?_)
    replace hw := hw M27 eM27
    refine lv_aload_n hx hb dX6_readName_45 rfl (lv_at hl 0 rfl) ?_
    refine cg_65 hx hb hts hin6 hown hK hH h26 (hts (.fieldLink RX6 29 "IdlCaller$Reader" "mode" "I") (by decide +kernel)) dX6_readName_46 ?_
    refine lv_if_eq (tgt := 61) hx hb dX6_readName_49 (by decide) (fun c28 => ?_) (fun c28 => ?_)
    · replace hw := hw.1 c28
      exact b61    M27 H locs ls hH (lv_sub hl [0] rfl) hw
    · replace hw := hw.2 c28
      refine lv_aload_n hx hb dX6_readName_52 rfl (lv_at hl 0 rfl) ?_
      refine lv_bipush (v := 93) hx hb dX6_readName_53 (by decide) ?_
      refine c_calli (va_runV (As := [.int 93]) (rest := []) ⟨hx, hb, hml, hown, hts⟩ (tc_X6_take l D kA nm na sa sv H.size T h 93 M27 _ hw) (cwV 1 hts gX6_readName_X6_take rfl rfl rfl (by decide +kernel) ⟨(show (1 : Nat) + 1 ≤ 6 from Nat.le_of_ble_eq_true rfl), (show 8 + (2 + 11) + (21 : Nat) ≤ 133 from Nat.le_of_ble_eq_true rfl)⟩) (c_preV hK hH hA hSt (c_recv6 hK hH h26)) rfl rfl hl.1 rfl (lv_room (by first | exact Nat.le_of_ble_eq_true rfl | simp [va_rf_cat, cat_ref, cat_int, cat_long, cat_double, cat_null])) dX6_readName_55 ⟨Nat.le_of_ble_eq_true rfl, Nat.le_of_ble_eq_true rfl⟩) hH hA (fun r30 M29 H locs hw hH => ?_)
      refine lv_if_ne (tgt := 72) hx hb dX6_readName_58 (by decide) (fun c32 => ?_) (fun c32 => ?_)
      · replace hw := hw.1 c32
        exact b72   v1 M29 H locs ls hH (lv_sub hl [0, 1] rfl) hw
      · replace hw := hw.2 c32
        exact b61    M29 H locs ls hH (lv_sub hl [0] rfl) hw
  clear hP
  unfold fc_X6_readName at hw
  have hst : ∀ (M : CM) (H : Heap) (locs : List Loc) (ls : Array Slot), cH D kA A s.heap T M H locs → lv_has ls 4 [(0, .ref h), (1, .int a1)] → (tg T h = 7 ∧ (∀ M34 : CM, M34 = sI M 65 h 0 → fc_X6_take T h 91 M34 (fun (r36 : Int32) (M35 : CM) => ((r36 = 0 → fc_X6_readName_b72 nm T h Q  a1 M35) ∧ (¬ r36 = 0 → fc_X6_take T h 67 M35 (fun (r40 : Int32) (M39 : CM) => ((r40 = 0 → fc_X6_take T h 69 M39 (fun (r44 : Int32) (M43 : CM) => ((r44 = 0 → fc_X6_readName_b42 nm T h Q  a1 0 M43) ∧ (¬ r44 = 0 → fc_X6_readName_b42 nm T h Q  a1 2 M43)))) ∧ (¬ r40 = 0 → fc_X6_readName_b42 nm T h Q  a1 1 M39)))))))) → W p l e (headSpec wsX6_readName rmX6_readName).room s m args below meth c H locs 0 0 (MQ below (va_Qq Q (cB D kA A T) A) args s 0 0 A) (F0 m 0 ls []) := by
    intro M H locs ls hH hl hw
    refine lv_aload_n hx hb dX6_readName_0 rfl (lv_at hl 0 rfl) ?_
    refine lv_iconst (v := 0) hx hb dX6_readName_1 (by decide) ?_
    obtain ⟨h33, hw⟩ := hw
    refine cp_65 (x := 0) hx hb hts hin6 hown hK hH h33 (hts (.fieldLink RX6 29 "IdlCaller$Reader" "mode" "I") (by decide +kernel)) dX6_readName_2 (fun M34 H locs eM34 hH => ?_)
    replace hw := hw M34 eM34
    refine lv_aload_n hx hb dX6_readName_5 rfl (lv_at hl 0 rfl) ?_
    refine lv_bipush (v := 91) hx hb dX6_readName_6 (by decide) ?_
    refine c_calli (va_runV (As := [.int 91]) (rest := []) ⟨hx, hb, hml, hown, hts⟩ (tc_X6_take l D kA nm na sa sv H.size T h 91 M34 _ hw) (cwV 1 hts gX6_readName_X6_take rfl rfl rfl (by decide +kernel) ⟨(show (1 : Nat) + 1 ≤ 6 from Nat.le_of_ble_eq_true rfl), (show 8 + (2 + 11) + (21 : Nat) ≤ 133 from Nat.le_of_ble_eq_true rfl)⟩) (c_preV hK hH hA hSt (c_recv6 hK hH h33)) rfl rfl hl.1 rfl (lv_room (by first | exact Nat.le_of_ble_eq_true rfl | simp [va_rf_cat, cat_ref, cat_int, cat_long, cat_double, cat_null])) dX6_readName_8 ⟨Nat.le_of_ble_eq_true rfl, Nat.le_of_ble_eq_true rfl⟩) hH hA (fun r36 M35 H locs hw hH => ?_)
    refine lv_if_eq (tgt := 72) hx hb dX6_readName_11 (by decide) (fun c38 => ?_) (fun c38 => ?_)
    · replace hw := hw.1 c38
      exact b72   a1 M35 H locs ls hH (lv_sub hl [0, 1] rfl) hw
    · replace hw := hw.2 c38
      refine lv_aload_n hx hb dX6_readName_14 rfl (lv_at hl 0 rfl) ?_
      refine lv_aload_n hx hb dX6_readName_15 rfl (lv_at hl 0 rfl) ?_
      refine lv_bipush (v := 67) hx hb dX6_readName_16 (by decide) ?_
      refine c_calli (va_runV (As := [.int 67]) (rest := [.ref h]) ⟨hx, hb, hml, hown, hts⟩ (tc_X6_take l D kA nm na sa sv H.size T h 67 M35 _ hw) (cwV 1 hts gX6_readName_X6_take rfl rfl rfl (by decide +kernel) ⟨(show (1 : Nat) + 1 ≤ 6 from Nat.le_of_ble_eq_true rfl), (show 8 + (2 + 11) + (21 : Nat) ≤ 133 from Nat.le_of_ble_eq_true rfl)⟩) (c_preV hK hH hA hSt (c_recv6 hK hH h33)) rfl rfl hl.1 rfl (lv_room (by first | exact Nat.le_of_ble_eq_true rfl | simp [va_rf_cat, cat_ref, cat_int, cat_long, cat_double, cat_null])) dX6_readName_18 ⟨Nat.le_of_ble_eq_true rfl, Nat.le_of_ble_eq_true rfl⟩) hH hA (fun r40 M39 H locs hw hH => ?_)
      refine lv_if_eq (tgt := 28) hx hb dX6_readName_21 (by decide) (fun c42 => ?_) (fun c42 => ?_)
      · replace hw := hw.1 c42
        refine lv_aload_n hx hb dX6_readName_28 rfl (lv_at hl 0 rfl) ?_
        refine lv_bipush (v := 69) hx hb dX6_readName_29 (by decide) ?_
        refine c_calli (va_runV (As := [.int 69]) (rest := [.ref h]) ⟨hx, hb, hml, hown, hts⟩ (tc_X6_take l D kA nm na sa sv H.size T h 69 M39 _ hw) (cwV 1 hts gX6_readName_X6_take rfl rfl rfl (by decide +kernel) ⟨(show (1 : Nat) + 1 ≤ 6 from Nat.le_of_ble_eq_true rfl), (show 8 + (2 + 11) + (21 : Nat) ≤ 133 from Nat.le_of_ble_eq_true rfl)⟩) (c_preV hK hH hA hSt (c_recv6 hK hH h33)) rfl rfl hl.1 rfl (lv_room (by first | exact Nat.le_of_ble_eq_true rfl | simp [va_rf_cat, cat_ref, cat_int, cat_long, cat_double, cat_null])) dX6_readName_31 ⟨Nat.le_of_ble_eq_true rfl, Nat.le_of_ble_eq_true rfl⟩) hH hA (fun r44 M43 H locs hw hH => ?_)
        refine lv_if_eq (tgt := 41) hx hb dX6_readName_34 (by decide) (fun c46 => ?_) (fun c46 => ?_)
        · replace hw := hw.1 c46
          refine lv_iconst (v := 0) hx hb dX6_readName_41 (by decide) ?_
          exact b42   a1 0 M43 H locs ls hH (lv_sub hl [0, 1] rfl) hw
        · replace hw := hw.2 c46
          refine lv_iconst (v := 2) hx hb dX6_readName_37 (by decide) ?_
          refine lv_goto (tgt := 42) hx hb dX6_readName_38 (by decide) ?_
          exact b42   a1 2 M43 H locs ls hH (lv_sub hl [0, 1] rfl) hw
      · replace hw := hw.2 c42
        refine lv_iconst (v := 1) hx hb dX6_readName_24 (by decide) ?_
        refine lv_goto (tgt := 42) hx hb dX6_readName_25 (by decide) ?_
        exact b42   a1 1 M39 H locs ls hH (lv_sub hl [0, 1] rfl) hw
  exact hst M s.heap [] ls hH hl hw
def fc_X6_hasCode_c9 (T : LY) (Q : Int32 → CM → Prop) (k9 : Int64 → Option Nat → Int32 → Int32 → CM → Prop) (v1 : Int64) (v3 : Option Nat) (v4 : Int32) (v5 : Int32) (M : CM) : Prop := ((v4 ≤ v5 → Q 0 M) ∧ (¬ v4 ≤ v5 → (∃ p2 : Nat, v3 = some p2 ∧ (tg T p2 = 23 ∧ (vp_in v5 (ln T p2) ∧ (∀ x5 : Int64, x5 = xJ M p2 v5.toNatClampNeg → ((¬ (lg_cmp x5 v1) = 0 → (∀ x7 : Int32, x7 = v5 + 1 → k9 v1 v3 v4 x7 M)) ∧ ((lg_cmp x5 v1) = 0 → Q 1 M))))))))
def fc_X6_hasCode_l9 (T : LY) (Q : Int32 → CM → Prop) : Nat → Int64 → Option Nat → Int32 → Int32 → CM → Prop := lit (τ := Int64 → Option Nat → Int32 → Int32 → CM → Prop) (fun _ _ _ _ _ => False) (fun k => fc_X6_hasCode_c9 T Q  k)
def fc_X6_hasCode (T : LY)  (a1 : Option Nat) (a2 : Int64) (M : CM) (Q : Int32 → CM → Prop) : Prop := (∃ p8 : Nat, a1 = some p8 ∧ (tg T p8 = 23 ∧ (∀ x10 : Int32, x10 = nI (ln T p8) → (∃ nn : Nat, fc_X6_hasCode_l9 T Q  nn a2 a1 x10 0 M))))
abbrev rmX6_hasCode : Room := { frames := 0, cells := 0, slots := 0, locals := 0 }
set_option maxHeartbeats 4000000 in
set_option maxRecDepth 100000 in
theorem tc_X6_hasCode (l : Launch) (D : va_G) (kA : Nat → ClassId) (nm : Nat → Nat) (na : Nat) (sa sv : Nat → Nat) (sz : Nat) (T : LY) (a1 : Option Nat) (a2 : Int64) (M : CM) (Q : Int32 → CM → Prop) (hw : fc_X6_hasCode T a1 a2 M Q) : Met l yX6_hasCode wsX6_hasCode rmX6_hasCode (va_Pc [va_rf a1, .long a2] (cPc nm na sa sv D kA T M sz)) (va_Qi Q (cB D kA (cF T sz) T) (cF T sz)) 0 0 (cF T sz) := by
  refine Met.ofW (cc := cX6_hasCode) (maxL := 8) (ret := (some .boolean)) (by decide) rfl ?_
  intro p e s m args below meth c s₁ B hml hv
  obtain ⟨rfl, hsz, hP, hK, hSt⟩ := hv
  have hx := B.exec
  have hb := B.bytes
  have hr := B.returns
  have hts := atoms_spec (ws := wsX6_hasCode) B.pre
  have hown : s.vm.findClass RX6 = some m.cls := findClass_of_methodNamed B.named
  have hlocks : meth.locks = false := B.notSynchronized
  subst hsz
  have hH : cH D kA (cF T s.heap.size) s.heap T M s.heap [] := ⟨hP.self, va_S.rf⟩
  have hA : ∀ q : Nat, s.heap.size ≤ q → cF T s.heap.size q := fun q z => Or.inr z
  generalize cF T s.heap.size = A at hH hA hSt ⊢
  have hl := lv_entry ([va_rf a1, .long a2]) (n := 8) (by first | exact Nat.le_of_ble_eq_true rfl | simp [lg_sl, va_rf_cat, cat_ref, cat_int, cat_long, cat_double])
  rw [lg_entry_eq]
  generalize (lg_sl ([va_rf a1, .long a2]) ++ List.replicate (8 - (lg_sl ([va_rf a1, .long a2])).length) Slot.unset).toArray = ls at hl ⊢
  generalize ([va_rf a1, .long a2] : List Value).toArray = args at hts ⊢
  have hl : lv_has ls 8 [(0, va_rf a1), (1, .long a2)] := by simpa [lv_args, va_rf_cat, cat_ref, cat_int, cat_long, cat_double] using hl
  have l9 : ∀ (nn : Nat) (v1 : Int64) (v3 : Option Nat) (v4 : Int32) (v5 : Int32) (M : CM) (H : Heap) (locs : List Loc) (ls : Array Slot), cH D kA A s.heap T M H locs → lv_has ls 8 [(1, .long v1), (3, va_rf v3), (4, .int v4), (5, .int v5)] → fc_X6_hasCode_l9 T Q  nn v1 v3 v4 v5 M → W p l e (headSpec wsX6_hasCode rmX6_hasCode).room s m args below meth c H locs 0 0 (MQ below (va_Qi Q (cB D kA A T) A) args s 0 0 A) (F0 m 9 ls []) := by
    intro   nn
    induction nn with
    | zero => intro v1 v3 v4 v5 M H locs ls hH hl hw; exact False.elim hw
    | succ nn hk9 =>
      intro v1 v3 v4 v5 M H locs ls hH hl hw
      replace hw : fc_X6_hasCode_c9 T Q  (fc_X6_hasCode_l9 T Q  nn) v1 v3 v4 v5 M := hw
      unfold fc_X6_hasCode_c9 at hw
      refine lv_iload hx hb dX6_hasCode_9 (lv_at hl 3 rfl) ?_
      refine lv_iload hx hb dX6_hasCode_11 (lv_at hl 2 rfl) ?_
      refine lv_icmp_ge (tgt := 37) hx hb dX6_hasCode_13 (by decide) (fun c1 => ?_) (fun c1 => ?_)
      · replace hw := hw.1 c1
        refine lv_iconst (v := 0) hx hb dX6_hasCode_37 (by decide) ?_
        exact c_retz hx hb hr rfl hlocks hK hH hw dX6_hasCode_38
      · replace hw := hw.2 c1
        refine s_aload_n hx hb dX6_hasCode_16 rfl (lv_at hl 1 rfl) ?_
        refine lv_iload hx hb dX6_hasCode_17 (lv_at hl 3 rfl) ?_
        obtain ⟨p2, ep2, hw⟩ := hw
        refine W.st (st' := [.int v5, .ref p2]) (by rw [ep2]; rfl) ?_
        obtain ⟨h3, hw⟩ := hw
        obtain ⟨h4, hw⟩ := hw
        refine cl_3 hx hb hK hH h3 h4 dX6_hasCode_19 ?_
        refine lv_topl (fun x5 ex5 => ?_)
        replace hw := hw x5 ex5
        refine lv_lstore (i := 6) (lv' := [(6, .long x5), (1, .long v1), (3, va_rf v3), (4, .int v4), (5, .int v5)]) hx hb dX6_hasCode_20 hl (by decide) (by first | rfl | simp [va_rf_cat, cat_ref, cat_int, cat_long, cat_double, cat_null]) (fun ls hl => ?_)
        refine lv_lload hx hb dX6_hasCode_22 (lv_at hl 0 rfl) ?_
        refine lv_lload_n hx hb dX6_hasCode_24 rfl (lv_at hl 1 rfl) ?_
        refine W.lcmp hx hb dX6_hasCode_25 ?_
        refine lv_if_ne (tgt := 31) hx hb dX6_hasCode_26 (by decide) (fun c6 => ?_) (fun c6 => ?_)
        · replace hw := hw.1 c6
          obtain ⟨x7, ex7⟩ : ∃ y : Int32, y = v5 + 1 := ⟨_, rfl⟩
          replace hw := hw x7 ex7
          refine lv_iinc (v := x7) (lv' := [(5, .int x7), (6, .long x5), (1, .long v1), (3, va_rf v3), (4, .int v4)]) hx hb dX6_hasCode_31 hl (k := 4) rfl (by rw [ex7]; rfl) (by decide) (by first | rfl | simp [va_rf_cat, cat_ref, cat_int, cat_long, cat_double, cat_null]) (fun ls hl => ?_)
          refine lv_goto (tgt := 9) hx hb dX6_hasCode_34 (by decide) ?_
          exact hk9 v1 v3 v4 x7 M H locs ls hH (lv_sub hl [2, 3, 4, 0] rfl) hw
        · replace hw := hw.2 c6
          refine lv_iconst (v := 1) hx hb dX6_hasCode_29 (by decide) ?_
          exact c_retz hx hb hr rfl hlocks hK hH hw dX6_hasCode_30
  clear hP
  unfold fc_X6_hasCode at hw
  have hst : ∀ (M : CM) (H : Heap) (locs : List Loc) (ls : Array Slot), cH D kA A s.heap T M H locs → lv_has ls 8 [(0, va_rf a1), (1, .long a2)] → (∃ p8 : Nat, a1 = some p8 ∧ (tg T p8 = 23 ∧ (∀ x10 : Int32, x10 = nI (ln T p8) → (∃ nn : Nat, fc_X6_hasCode_l9 T Q  nn a2 a1 x10 0 M)))) → W p l e (headSpec wsX6_hasCode rmX6_hasCode).room s m args below meth c H locs 0 0 (MQ below (va_Qi Q (cB D kA A T) A) args s 0 0 A) (F0 m 0 ls []) := by
    intro M H locs ls hH hl hw
    refine s_aload_n hx hb dX6_hasCode_0 rfl (lv_at hl 0 rfl) ?_
    refine s_astore_n (i := 3) (lv' := [(3, va_rf a1), (0, va_rf a1), (1, .long a2)]) hx hb dX6_hasCode_1 rfl hl (by decide) (by first | rfl | simp [va_rf_cat, cat_ref, cat_int, cat_long, cat_double, cat_null]) (fun ls hl => ?_)
    refine s_aload_n hx hb dX6_hasCode_2 rfl (lv_at hl 0 rfl) ?_
    obtain ⟨p8, ep8, hw⟩ := hw
    refine W.st (st' := [.ref p8]) (by rw [ep8]; rfl) ?_
    obtain ⟨h9, hw⟩ := hw
    refine cn_3 hx hb hK hH h9 dX6_hasCode_3 ?_
    refine lv_topi (fun x10 ex10 => ?_)
    replace hw := hw x10 ex10
    refine lv_istore (i := 4) (lv' := [(4, .int x10), (3, va_rf a1), (0, va_rf a1), (1, .long a2)]) hx hb dX6_hasCode_4 hl (by decide) (by first | rfl | simp [va_rf_cat, cat_ref, cat_int, cat_long, cat_double, cat_null]) (fun ls hl => ?_)
    refine lv_iconst (v := 0) hx hb dX6_hasCode_6 (by decide) ?_
    refine lv_istore (i := 5) (lv' := [(5, .int 0), (4, .int x10), (3, va_rf a1), (0, va_rf a1), (1, .long a2)]) hx hb dX6_hasCode_7 hl (by decide) (by first | rfl | simp [va_rf_cat, cat_ref, cat_int, cat_long, cat_double, cat_null]) (fun ls hl => ?_)
    obtain ⟨nn, hw⟩ := hw
    exact l9   nn a2 a1 x10 0 M H locs ls hH (lv_sub hl [4, 2, 1, 0] rfl) hw
  exact hst M s.heap [] ls hH hl hw
def fc_X6_readWords_b103 (mc ms : Nat) (h : Nat) (Q : Option Nat → LY → CM → Prop) (s0 : Option Nat) (T : LY) (M : CM) (K N : Nat) : Prop := (K ≤ mc ∧ N ≤ ms ∧ Q s0 T M)
def fc_X6_readWords_b89 (mc ms : Nat) (h : Nat) (Q : Option Nat → LY → CM → Prop) (v1 : Nat) (T : LY) (M : CM) (K N : Nat) : Prop := (tg T h = 7 ∧ (K ≤ mc ∧ (N ≤ ms ∧ fc_X6_need T h 41 M (fun (r3 : Int32) (M2 : CM) => ((r3 = 0 → fc_X6_readWords_b103 mc ms h Q  none T M2 K N) ∧ (¬ r3 = 0 → fc_X6_readWords_b103 mc ms h Q  (some v1) T M2 K N))))))
def fc_X6_readWords_b50 (mc ms : Nat) (h : Nat) (Q : Option Nat → LY → CM → Prop) (v3 : Int32) (T : LY) (M : CM) (K N : Nat) : Prop := (tg T h = 7 ∧ (K ≤ mc ∧ (N ≤ ms ∧ fc_X6_failAt T h v3 M (fun (r10 : Int32) (M9 : CM) => (K ≤ mc ∧ N ≤ ms ∧ Q none T M9)))))
def fc_X6_readWords_c17 (mc ms : Nat) (h : Nat) (Q : Option Nat → LY → CM → Prop) (k17 : Nat → Int32 → LY → CM → Nat → Nat → Prop) (v1 : Nat) (v2 : Int32) (T : LY) (M : CM) (K N : Nat) : Prop := (tg T v1 = 23 ∧ (((nI (ln T v1)) ≤ v2 → fc_X6_readWords_b89 mc ms h Q  v1 T M K N) ∧ (¬ (nI (ln T v1)) ≤ v2 → (tg T h = 7 ∧ (∀ x17 : Int32, x17 = cI M 64 h → (K ≤ mc ∧ (N ≤ ms ∧ fc_X6_readWord T h M (fun (r19 : Int64) (M18 : CM) => (((lg_cmp r19 0) = 0 → fc_X6_readWords_b50 mc ms h Q  x17 T M18 K N) ∧ (¬ (lg_cmp r19 0) = 0 → (K ≤ mc ∧ (N ≤ ms ∧ fc_X6_hasCode T (some v1) r19 M18 (fun (r25 : Int32) (M24 : CM) => ((r25 = 0 → (vp_in v2 (ln T v1) ∧ (∀ M30 : CM, M30 = yJ M24 v1 v2.toNatClampNeg r19 → ((v2 = ((nI (ln T v1)) - 1) → fc_X6_readWords_b89 mc ms h Q  v1 T M30 K N) ∧ (¬ v2 = ((nI (ln T v1)) - 1) → (K ≤ mc ∧ (N ≤ ms ∧ fc_X6_take T h 44 M30 (fun (r34 : Int32) (M33 : CM) => ((¬ r34 = 0 → (∀ x39 : Int32, x39 = v2 + 1 → k17 v1 x39 T M33 K N)) ∧ (r34 = 0 → fc_X6_readWords_b89 mc ms h Q  v1 T M33 K N)))))))))) ∧ (¬ r25 = 0 → fc_X6_readWords_b50 mc ms h Q  x17 T M24 K N)))))))))))))))
def fc_X6_readWords_l17 (mc ms : Nat) (h : Nat) (Q : Option Nat → LY → CM → Prop) : Nat → Nat → Int32 → LY → CM → Nat → Nat → Prop := lit (τ := Nat → Int32 → LY → CM → Nat → Nat → Prop) (fun _ _ _ _ _ _ => False) (fun k => fc_X6_readWords_c17 mc ms h Q  k)
def fc_X6_readWords (mc ms : Nat) (h : Nat)  (T : LY) (M : CM) (Q : Option Nat → LY → CM → Prop) : Prop := (tg T h = 7 ∧ (0 ≤ mc ∧ (0 ≤ ms ∧ fc_X6_need T h 40 M (fun (r42 : Int32) (M41 : CM) => ((¬ r42 = 0 → (¬ (5 : Int32) < 0 ∧ ((5 : Int32).toNatClampNeg ≤ 60000000 ∧ (0 + 1 ≤ mc ∧ (0 + (5 : Int32).toNatClampNeg ≤ ms ∧ (∀ (q47 : Nat) (T48 : LY) (M49 : CM), tg T q47 = 0 → T48 = mkT T 23 ((5 : Int32).toNatClampNeg) q47 → M49 = mkM M41 q47 → (∃ nn : Nat, fc_X6_readWords_l17 mc ms h Q  nn q47 0 T48 M49 (0 + 1) (0 + (5 : Int32).toNatClampNeg)))))))) ∧ (r42 = 0 → (0 ≤ mc ∧ 0 ≤ ms ∧ Q none T M41)))))))
abbrev rmX6_readWords (mc ms : Nat) : Room := { frames := 3, cells := mc, slots := ms, locals := 63 }
set_option maxHeartbeats 4000000 in
set_option maxRecDepth 100000 in
theorem tc_X6_readWords (l : Launch) (D : va_G) (kA : Nat → ClassId) (nm : Nat → Nat) (na : Nat) (sa sv : Nat → Nat) (sz : Nat) (mc ms : Nat) (h : Nat) (T : LY) (M : CM) (Q : Option Nat → LY → CM → Prop) (hw : fc_X6_readWords mc ms h  T M Q) : Met l yX6_readWords wsX6_readWords (rmX6_readWords mc ms) (va_Pc [.ref h] (cPc nm na sa sv D kA T M sz)) (va_Qq (fun r (u : LY × CM) => Q r u.1 u.2) (cBT D kA (cF T sz)) (cF T sz)) mc ms (cF T sz) := by
  refine Met.ofW (cc := cX6_readWords) (maxL := 6) (ret := (some (.array .long))) (by decide) rfl ?_
  intro p e s m args below meth c s₁ B hml hv
  obtain ⟨rfl, hsz, hP, hK, hSt⟩ := hv
  have hx := B.exec
  have hb := B.bytes
  have hr := B.returns
  have hts := atoms_spec (ws := wsX6_readWords) B.pre
  have hown : s.vm.findClass RX6 = some m.cls := findClass_of_methodNamed B.named
  have hlocks : meth.locks = false := B.notSynchronized
  subst hsz
  have hH : cH D kA (cF T s.heap.size) s.heap T M s.heap [] := ⟨hP.self, va_S.rf⟩
  have hA : ∀ q : Nat, s.heap.size ≤ q → cF T s.heap.size q := fun q z => Or.inr z
  generalize cF T s.heap.size = A at hH hA hSt ⊢
  have hl := lv_entry ([.ref h]) (n := 6) (by first | exact Nat.le_of_ble_eq_true rfl | simp [lg_sl, va_rf_cat, cat_ref, cat_int, cat_long, cat_double])
  rw [lg_entry_eq]
  generalize (lg_sl ([.ref h]) ++ List.replicate (6 - (lg_sl ([.ref h])).length) Slot.unset).toArray = ls at hl ⊢
  generalize ([.ref h] : List Value).toArray = args at hts ⊢
  have hl : lv_has ls 6 [(0, .ref h)] := hl
  have hin6 : ∀ w ∈ wsX60, w ∈ wsX6_readWords := by decide +kernel
  have b103 : ∀ (s0 : Option Nat) (T : LY) (M : CM) (K N : Nat) (H : Heap) (locs : List Loc) (ls : Array Slot), cH D kA A s.heap T M H locs → lv_has ls 6 [] → fc_X6_readWords_b103 mc ms h Q  s0 T M K N → W p l e (headSpec wsX6_readWords (rmX6_readWords mc ms)).room s m args below meth c H locs K N (MQ below (va_Qq (fun r (u : LY × CM) => Q r u.1 u.2) (cBT D kA A) A) args s mc ms A) (F0 m 103 ls [va_rf s0]) := by
    intro   s0 T M K N H locs ls hH hl hw
    unfold fc_X6_readWords_b103 at hw
    exact c_retTq (v := s0) hw.1 hw.2.1 hx hb hr (Or.inr ⟨_, rfl⟩) hlocks hK hH hw.2.2 dX6_readWords_103
  have b89 : ∀ (v1 : Nat) (T : LY) (M : CM) (K N : Nat) (H : Heap) (locs : List Loc) (ls : Array Slot), cH D kA A s.heap T M H locs → lv_has ls 6 [(0, .ref h), (1, .ref v1)] → fc_X6_readWords_b89 mc ms h Q  v1 T M K N → W p l e (headSpec wsX6_readWords (rmX6_readWords mc ms)).room s m args below meth c H locs K N (MQ below (va_Qq (fun r (u : LY × CM) => Q r u.1 u.2) (cBT D kA A) A) args s mc ms A) (F0 m 89 ls []) := by
    intro   v1 T M K N H locs ls hH hl hw
    unfold fc_X6_readWords_b89 at hw
    refine lv_aload_n hx hb dX6_readWords_89 rfl (lv_at hl 0 rfl) ?_
    refine lv_bipush (v := 41) hx hb dX6_readWords_90 (by decide) ?_
    obtain ⟨h1, hw⟩ := hw
    obtain ⟨h5, hw⟩ := hw
    obtain ⟨h6, hw⟩ := hw
    refine c_calli (va_runV (As := [.int 41]) (rest := []) ⟨hx, hb, hml, hown, hts⟩ (tc_X6_need l D kA nm na sa sv H.size T h 41 M _ hw) (cwV 1 hts gX6_readWords_X6_need rfl rfl rfl (by decide +kernel) ⟨(show (2 : Nat) + 1 ≤ 3 from Nat.le_of_ble_eq_true rfl), (show 8 + (2 + 11) + (42 : Nat) ≤ 63 from Nat.le_of_ble_eq_true rfl)⟩) (c_preV hK hH hA hSt (c_recv6 hK hH h1)) rfl rfl hl.1 rfl (lv_room (by first | exact Nat.le_of_ble_eq_true rfl | simp [va_rf_cat, cat_ref, cat_int, cat_long, cat_double, cat_null])) dX6_readWords_92 ⟨h5, h6⟩) hH hA (fun r3 M2 H locs hw hH => ?_)
    refine lv_if_eq (tgt := 102) hx hb dX6_readWords_95 (by decide) (fun c7 => ?_) (fun c7 => ?_)
    · replace hw := hw.1 c7
      refine lv_null hx hb dX6_readWords_102 ?_
      exact b103   none T M2 K N H locs ls hH (lv_sub hl [] rfl) hw
    · replace hw := hw.2 c7
      refine lv_aload_n hx hb dX6_readWords_98 rfl (lv_at hl 1 rfl) ?_
      refine lv_goto (tgt := 103) hx hb dX6_readWords_99 (by decide) ?_
      exact b103   (some v1) T M2 K N H locs ls hH (lv_sub hl [] rfl) hw
  have b50 : ∀ (v3 : Int32) (T : LY) (M : CM) (K N : Nat) (H : Heap) (locs : List Loc) (ls : Array Slot), cH D kA A s.heap T M H locs → lv_has ls 6 [(0, .ref h), (3, .int v3)] → fc_X6_readWords_b50 mc ms h Q  v3 T M K N → W p l e (headSpec wsX6_readWords (rmX6_readWords mc ms)).room s m args below meth c H locs K N (MQ below (va_Qq (fun r (u : LY × CM) => Q r u.1 u.2) (cBT D kA A) A) args s mc ms A) (F0 m 50 ls []) := by
    intro   v3 T M K N H locs ls hH hl hw
    unfold fc_X6_readWords_b50 at hw
    refine lv_aload_n hx hb dX6_readWords_50 rfl (lv_at hl 0 rfl) ?_
    refine lv_iload_n hx hb dX6_readWords_51 rfl (lv_at hl 1 rfl) ?_
    obtain ⟨h8, hw⟩ := hw
    obtain ⟨h12, hw⟩ := hw
    obtain ⟨h13, hw⟩ := hw
    refine c_calli (va_runV (As := [.int v3]) (rest := []) ⟨hx, hb, hml, hown, hts⟩ (tc_X6_failAt l D kA nm na sa sv H.size T h v3 M _ hw) (cwV 1 hts gX6_readWords_X6_failAt rfl rfl rfl (by decide +kernel) ⟨(show (1 : Nat) + 1 ≤ 3 from Nat.le_of_ble_eq_true rfl), (show 8 + (2 + 11) + (21 : Nat) ≤ 63 from Nat.le_of_ble_eq_true rfl)⟩) (c_preV hK hH hA hSt (c_recv6 hK hH h8)) rfl rfl hl.1 rfl (lv_room (by first | exact Nat.le_of_ble_eq_true rfl | simp [va_rf_cat, cat_ref, cat_int, cat_long, cat_double, cat_null])) dX6_readWords_52 ⟨h12, h13⟩) hH hA (fun r10 M9 H locs hw hH => ?_)
    refine lv_pop hx hb dX6_readWords_55 rfl ?_
    refine lv_null hx hb dX6_readWords_56 ?_
    exact c_retTq (v := none) hw.1 hw.2.1 hx hb hr (Or.inr ⟨_, rfl⟩) hlocks hK hH hw.2.2 dX6_readWords_57
  have l17 : ∀ (nn : Nat) (v1 : Nat) (v2 : Int32) (T : LY) (M : CM) (K N : Nat) (H : Heap) (locs : List Loc) (ls : Array Slot), cH D kA A s.heap T M H locs → lv_has ls 6 [(0, .ref h), (1, .ref v1), (2, .int v2)] → fc_X6_readWords_l17 mc ms h Q  nn v1 v2 T M K N → W p l e (headSpec wsX6_readWords (rmX6_readWords mc ms)).room s m args below meth c H locs K N (MQ below (va_Qq (fun r (u : LY × CM) => Q r u.1 u.2) (cBT D kA A) A) args s mc ms A) (F0 m 17 ls []) := by
    intro   nn
    induction nn with
    | zero => intro v1 v2 T M K N H locs ls hH hl hw; exact False.elim hw
    | succ nn hk17 =>
      intro v1 v2 T M K N H locs ls hH hl hw
      replace hw : fc_X6_readWords_c17 mc ms h Q  (fc_X6_readWords_l17 mc ms h Q  nn) v1 v2 T M K N := hw
      unfold fc_X6_readWords_c17 at hw
      refine lv_iload_n hx hb dX6_readWords_17 rfl (lv_at hl 2 rfl) ?_
      refine lv_aload_n hx hb dX6_readWords_18 rfl (lv_at hl 1 rfl) ?_
      obtain ⟨h14, hw⟩ := hw
      refine cn_3 hx hb hK hH h14 dX6_readWords_19 ?_
      refine lv_icmp_ge (tgt := 89) hx hb dX6_readWords_20 (by decide) (fun c15 => ?_) (fun c15 => ?_)
      · replace hw := hw.1 c15
        exact b89   v1 T M K N H locs ls hH (lv_sub hl [0, 1] rfl) hw
      · replace hw := hw.2 c15
        refine lv_aload_n hx hb dX6_readWords_23 rfl (lv_at hl 0 rfl) ?_
        obtain ⟨h16, hw⟩ := hw
        refine cg_64 hx hb hts hin6 hown hK hH h16 (hts (.fieldLink RX6 26 "IdlCaller$Reader" "at" "I") (by decide +kernel)) dX6_readWords_24 ?_
        refine lv_topi (fun x17 ex17 => ?_)
        replace hw := hw x17 ex17
        refine lv_istore_n (i := 3) (lv' := [(3, .int x17), (0, .ref h), (1, .ref v1), (2, .int v2)]) hx hb dX6_readWords_27 rfl hl (by decide) rfl (fun ls hl => ?_)
        refine lv_aload_n hx hb dX6_readWords_28 rfl (lv_at hl 1 rfl) ?_
        obtain ⟨h21, hw⟩ := hw
        obtain ⟨h22, hw⟩ := hw
        refine c_calll (va_runV (As := []) (rest := []) ⟨hx, hb, hml, hown, hts⟩ (tc_X6_readWord l D kA nm na sa sv H.size T h M _ hw) (cwV 0 hts gX6_readWords_X6_readWord rfl rfl rfl (by decide +kernel) ⟨(show (1 : Nat) + 1 ≤ 3 from Nat.le_of_ble_eq_true rfl), (show 8 + (5 + 11) + (22 : Nat) ≤ 63 from Nat.le_of_ble_eq_true rfl)⟩) (c_preV hK hH hA hSt (c_recv6 hK hH h16)) rfl rfl hl.1 rfl (lv_room (by first | exact Nat.le_of_ble_eq_true rfl | simp [va_rf_cat, cat_ref, cat_int, cat_long, cat_double, cat_null])) dX6_readWords_29 ⟨h21, h22⟩) hH hA (fun r19 M18 H locs hw hH => ?_)
        refine lv_lstore (i := 4) (lv' := [(4, .long r19), (3, .int x17), (0, .ref h), (1, .ref v1), (2, .int v2)]) hx hb dX6_readWords_32 hl (by decide) rfl (fun ls hl => ?_)
        refine lv_lload hx hb dX6_readWords_34 (lv_at hl 0 rfl) ?_
        refine lv_lconst (v := 0) hx hb dX6_readWords_36 (by decide) ?_
        refine W.lcmp hx hb dX6_readWords_37 ?_
        refine lv_if_eq (tgt := 50) hx hb dX6_readWords_38 (by decide) (fun c23 => ?_) (fun c23 => ?_)
        · replace hw := hw.1 c23
          exact b50   x17 T M18 K N H locs ls hH (lv_sub hl [2, 1] rfl) hw
        · replace hw := hw.2 c23
          refine lv_aload_n hx hb dX6_readWords_41 rfl (lv_at hl 3 rfl) ?_
          refine lv_lload hx hb dX6_readWords_42 (lv_at hl 0 rfl) ?_
          obtain ⟨h27, hw⟩ := hw
          obtain ⟨h28, hw⟩ := hw
          refine c_calli (va_runS (As := [va_rf (some v1), .long r19]) (rest := []) ⟨hx, hb, hml, hown, hts⟩ (tc_X6_hasCode l D kA nm na sa sv H.size T (some v1) r19 M18 _ hw) (va_cwS 2 hts gX6_readWords_X6_hasCode rfl rfl rfl (by decide +kernel) ⟨(show (0 : Nat) + 1 ≤ 3 from Nat.le_of_ble_eq_true rfl), (show 8 + (8 + 11) + (0 : Nat) ≤ 63 from Nat.le_of_ble_eq_true rfl)⟩) (c_preS hK hH hA hSt) rfl rfl hl.1 rfl (lv_room (by first | exact Nat.le_of_ble_eq_true rfl | simp [va_rf_cat, cat_ref, cat_int, cat_long, cat_double, cat_null])) dX6_readWords_44 ⟨h27, h28⟩) hH hA (fun r25 M24 H locs hw hH => ?_)
          refine lv_if_eq (tgt := 58) hx hb dX6_readWords_47 (by decide) (fun c29 => ?_) (fun c29 => ?_)
          · replace hw := hw.1 c29
            refine lv_aload_n hx hb dX6_readWords_58 rfl (lv_at hl 3 rfl) ?_
            refine lv_iload_n hx hb dX6_readWords_59 rfl (lv_at hl 4 rfl) ?_
            refine lv_lload hx hb dX6_readWords_60 (lv_at hl 0 rfl) ?_
            obtain ⟨h31, hw⟩ := hw
            refine cs_3 hx hb hK hH h14 h31 dX6_readWords_62 (fun M30 H locs eM30 hH => ?_)
            replace hw := hw M30 eM30
            refine lv_iload_n hx hb dX6_readWords_63 rfl (lv_at hl 4 rfl) ?_
            refine lv_aload_n hx hb dX6_readWords_64 rfl (lv_at hl 3 rfl) ?_
            refine cn_3 hx hb hK hH h14 dX6_readWords_65 ?_
            refine lv_iconst (v := 1) hx hb dX6_readWords_66 (by decide) ?_
            refine lv_isub hx hb dX6_readWords_67 ?_
            refine lv_icmp_eq (tgt := 89) hx hb dX6_readWords_68 (by decide) (fun c32 => ?_) (fun c32 => ?_)
            · replace hw := hw.1 c32
              exact b89   v1 T M30 K N H locs ls hH (lv_sub hl [2, 3] rfl) hw
            · replace hw := hw.2 c32
              refine lv_aload_n hx hb dX6_readWords_71 rfl (lv_at hl 2 rfl) ?_
              refine lv_bipush (v := 44) hx hb dX6_readWords_72 (by decide) ?_
              obtain ⟨h36, hw⟩ := hw
              obtain ⟨h37, hw⟩ := hw
              refine c_calli (va_runV (As := [.int 44]) (rest := []) ⟨hx, hb, hml, hown, hts⟩ (tc_X6_take l D kA nm na sa sv H.size T h 44 M30 _ hw) (cwV 1 hts gX6_readWords_X6_take rfl rfl rfl (by decide +kernel) ⟨(show (1 : Nat) + 1 ≤ 3 from Nat.le_of_ble_eq_true rfl), (show 8 + (2 + 11) + (21 : Nat) ≤ 63 from Nat.le_of_ble_eq_true rfl)⟩) (c_preV hK hH hA hSt (c_recv6 hK hH h16)) rfl rfl hl.1 rfl (lv_room (by first | exact Nat.le_of_ble_eq_true rfl | simp [va_rf_cat, cat_ref, cat_int, cat_long, cat_double, cat_null])) dX6_readWords_74 ⟨h36, h37⟩) hH hA (fun r34 M33 H locs hw hH => ?_)
              refine lv_if_ne (tgt := 83) hx hb dX6_readWords_77 (by decide) (fun c38 => ?_) (fun c38 => ?_)
              · replace hw := hw.1 c38
                obtain ⟨x39, ex39⟩ : ∃ y : Int32, y = v2 + 1 := ⟨_, rfl⟩
                replace hw := hw x39 ex39
                refine lv_iinc (v := x39) (lv' := [(2, .int x39), (4, .long r19), (3, .int x17), (0, .ref h), (1, .ref v1)]) hx hb dX6_readWords_83 hl (k := 4) rfl (by rw [ex39]; rfl) (by decide) rfl (fun ls hl => ?_)
                refine lv_goto (tgt := 17) hx hb dX6_readWords_86 (by decide) ?_
                exact hk17 v1 x39 T M33 K N H locs ls hH (lv_sub hl [3, 4, 0] rfl) hw
              · replace hw := hw.2 c38
                refine lv_goto (tgt := 89) hx hb dX6_readWords_80 (by decide) ?_
                exact b89   v1 T M33 K N H locs ls hH (lv_sub hl [2, 3] rfl) hw
          · replace hw := hw.2 c29
            exact b50   x17 T M24 K N H locs ls hH (lv_sub hl [2, 1] rfl) hw
  clear hP
  unfold fc_X6_readWords at hw
  have hst : ∀ (T : LY) (M : CM) (H : Heap) (locs : List Loc) (ls : Array Slot), cH D kA A s.heap T M H locs → lv_has ls 6 [(0, .ref h)] → (tg T h = 7 ∧ (0 ≤ mc ∧ (0 ≤ ms ∧ fc_X6_need T h 40 M (fun (r42 : Int32) (M41 : CM) => ((¬ r42 = 0 → (¬ (5 : Int32) < 0 ∧ ((5 : Int32).toNatClampNeg ≤ 60000000 ∧ (0 + 1 ≤ mc ∧ (0 + (5 : Int32).toNatClampNeg ≤ ms ∧ (∀ (q47 : Nat) (T48 : LY) (M49 : CM), tg T q47 = 0 → T48 = mkT T 23 ((5 : Int32).toNatClampNeg) q47 → M49 = mkM M41 q47 → (∃ nn : Nat, fc_X6_readWords_l17 mc ms h Q  nn q47 0 T48 M49 (0 + 1) (0 + (5 : Int32).toNatClampNeg)))))))) ∧ (r42 = 0 → (0 ≤ mc ∧ 0 ≤ ms ∧ Q none T M41))))))) → W p l e (headSpec wsX6_readWords (rmX6_readWords mc ms)).room s m args below meth c H locs 0 0 (MQ below (va_Qq (fun r (u : LY × CM) => Q r u.1 u.2) (cBT D kA A) A) args s mc ms A) (F0 m 0 ls []) := by
    intro T M H locs ls hH hl hw
    refine lv_aload_n hx hb dX6_readWords_0 rfl (lv_at hl 0 rfl) ?_
    refine lv_bipush (v := 40) hx hb dX6_readWords_1 (by decide) ?_
    obtain ⟨h40, hw⟩ := hw
    obtain ⟨h44, hw⟩ := hw
    obtain ⟨h45, hw⟩ := hw
    refine c_calli (va_runV (As := [.int 40]) (rest := []) ⟨hx, hb, hml, hown, hts⟩ (tc_X6_need l D kA nm na sa sv H.size T h 40 M _ hw) (cwV 1 hts gX6_readWords_X6_need rfl rfl rfl (by decide +kernel) ⟨(show (2 : Nat) + 1 ≤ 3 from Nat.le_of_ble_eq_true rfl), (show 8 + (2 + 11) + (42 : Nat) ≤ 63 from Nat.le_of_ble_eq_true rfl)⟩) (c_preV hK hH hA hSt (c_recv6 hK hH h40)) rfl rfl hl.1 rfl (lv_room (by first | exact Nat.le_of_ble_eq_true rfl | simp [va_rf_cat, cat_ref, cat_int, cat_long, cat_double, cat_null])) dX6_readWords_3 ⟨h44, h45⟩) hH hA (fun r42 M41 H locs hw hH => ?_)
    refine lv_if_ne (tgt := 11) hx hb dX6_readWords_6 (by decide) (fun c46 => ?_) (fun c46 => ?_)
    · replace hw := hw.1 c46
      refine lv_iconst (v := 5) hx hb dX6_readWords_11 (by decide) ?_
      obtain ⟨h50, hw⟩ := hw
      obtain ⟨h51, hw⟩ := hw
      obtain ⟨h52, hw⟩ := hw
      obtain ⟨h53, hw⟩ := hw
      refine cnewa_3 hx hb (hts (.arrayClass .long) (by decide +kernel)) hK hH hA h50 rfl h51 h52 h53 dX6_readWords_12 (fun q47 H zq47 hH => ?_)
      obtain ⟨T48, eT48⟩ : ∃ z, z = mkT T 23 ((5 : Int32).toNatClampNeg) q47 := ⟨_, rfl⟩
      obtain ⟨M49, eM49⟩ : ∃ z, z = mkM M41 q47 := ⟨_, rfl⟩
      replace hw := hw q47 T48 M49 zq47 eT48 eM49
      rw [← eT48, ← eM49] at hH
      refine lv_astore_n (i := 1) (lv' := [(1, .ref q47), (0, .ref h)]) hx hb dX6_readWords_14 rfl hl (by decide) rfl (fun ls hl => ?_)
      refine lv_iconst (v := 0) hx hb dX6_readWords_15 (by decide) ?_
      refine lv_istore_n (i := 2) (lv' := [(2, .int 0), (1, .ref q47), (0, .ref h)]) hx hb dX6_readWords_16 rfl hl (by decide) rfl (fun ls hl => ?_)
      obtain ⟨nn, hw⟩ := hw
      exact l17   nn q47 0 T48 M49 (0 + 1) (0 + (5 : Int32).toNatClampNeg) H locs ls hH (lv_sub hl [2, 1, 0] rfl) hw
    · replace hw := hw.2 c46
      refine lv_null hx hb dX6_readWords_9 ?_
      exact c_retTq (v := none) hw.1 hw.2.1 hx hb hr (Or.inr ⟨_, rfl⟩) hlocks hK hH hw.2.2 dX6_readWords_10
  exact hst T M s.heap [] ls hH hl hw
def fc_X6_readType_b163 (nm : Nat → Nat) (mc ms : Nat) (h : Nat) (Q : Option Nat → LY → CM → Prop) (s0 : Option Nat) (T : LY) (M : CM) (K N : Nat) : Prop := (K ≤ mc ∧ N ≤ ms ∧ Q s0 T M)
def fc_X6_readType_b105 (nm : Nat → Nat) (mc ms : Nat) (h : Nat) (Q : Option Nat → LY → CM → Prop) (v1 : Option Nat) (v2 : Int32) (v3 : Int32) (v4 : Option Nat) (s0 : Int32) (T : LY) (M : CM) (K N : Nat) : Prop := (K + 1 ≤ mc ∧ (N + 5 ≤ ms ∧ (∀ (q1 : Nat) (T2 : LY) (M3 : CM), tg T q1 = 0 → T2 = mkT T 10 0 q1 → M3 = mkM M q1 → (tg T2 q1 = 10 ∧ (K + 1 ≤ mc ∧ (N + 5 ≤ ms ∧ fc_X9_init T2 q1 v1 v3 s0 v4 none M3 (fun (M7 : CM) => ((¬ v2 = 0 → (tg T2 h = 7 ∧ (K + 1 ≤ mc ∧ (N + 5 ≤ ms ∧ fc_X6_need T2 h 62 M7 (fun (r15 : Int32) (M14 : CM) => ((r15 = 0 → fc_X6_readType_b163 nm mc ms h Q  none T2 M14 (K + 1) (N + 5)) ∧ (¬ r15 = 0 → ((K + 1) + 1 ≤ mc ∧ ((N + 5) + 5 ≤ ms ∧ (∀ (q20 : Nat) (T21 : LY) (M22 : CM), tg T2 q20 = 0 → T21 = mkT T2 10 0 q20 → M22 = mkM M14 q20 → (tg T21 h = 7 ∧ ((K + 1) + 1 ≤ mc ∧ ((N + 5) + 5 ≤ ms ∧ fc_X6_take T21 h 63 M22 (fun (r27 : Int32) (M26 : CM) => (tg T21 q20 = 10 ∧ ((K + 1) + 1 ≤ mc ∧ ((N + 5) + 5 ≤ ms ∧ fc_X9_init T21 q20 (some (nm 9)) 0 r27 none (some q1) M26 (fun (M32 : CM) => fc_X6_readType_b163 nm mc ms h Q  (some q20) T21 M32 ((K + 1) + 1) ((N + 5) + 5))))))))))))))))))) ∧ (v2 = 0 → (K + 1 ≤ mc ∧ N + 5 ≤ ms ∧ Q (some q1) T2 M7))))))))))
def fc_X6_readType_b104 (nm : Nat → Nat) (mc ms : Nat) (h : Nat) (Q : Option Nat → LY → CM → Prop) (v1 : Option Nat) (v2 : Int32) (v3 : Int32) (v4 : Option Nat) (T : LY) (M : CM) (K N : Nat) : Prop := fc_X6_readType_b105 nm mc ms h Q  v1 v2 v3 v4 0 T M K N
def fc_X6_readType_b84 (nm : Nat → Nat) (mc ms : Nat) (h : Nat) (Q : Option Nat → LY → CM → Prop) (v1 : Option Nat) (v2 : Int32) (v3 : Int32) (v4 : Option Nat) (T : LY) (M : CM) (K N : Nat) : Prop := ((v1 = (some (nm 7)) → fc_X6_readType_b104 nm mc ms h Q  v1 v2 v3 v4 T M K N) ∧ (¬ v1 = (some (nm 7)) → (tg T h = 7 ∧ (K ≤ mc ∧ (N ≤ ms ∧ fc_X6_take T h 63 M (fun (r40 : Int32) (M39 : CM) => ((r40 = 0 → fc_X6_readType_b104 nm mc ms h Q  v1 v2 v3 v4 T M39 K N) ∧ (¬ r40 = 0 → fc_X6_readType_b105 nm mc ms h Q  v1 v2 v3 v4 1 T M39 K N))))))))
def fc_X6_readType_b68 (nm : Nat → Nat) (mc ms : Nat) (h : Nat) (Q : Option Nat → LY → CM → Prop) (v1 : Option Nat) (v2 : Int32) (v3 : Int32) (s0 : Option Nat) (T : LY) (M : CM) (K N : Nat) : Prop := ((¬ v1 = (some (nm 8)) → fc_X6_readType_b84 nm mc ms h Q  v1 v2 v3 s0 T M K N) ∧ (v1 = (some (nm 8)) → ((¬ s0 = none → fc_X6_readType_b84 nm mc ms h Q  v1 v2 v3 s0 T M K N) ∧ (s0 = none → (K ≤ mc ∧ N ≤ ms ∧ Q none T M)))))
def fc_X6_readType_b42 (nm : Nat → Nat) (mc ms : Nat) (h : Nat) (Q : Option Nat → LY → CM → Prop) (v1 : Option Nat) (v2 : Int32) (T : LY) (M : CM) (K N : Nat) : Prop := ((¬ v1 = none → (tg T h = 7 ∧ (∀ x49 : Int32, x49 = cI M 65 h → ((¬ v1 = (some (nm 8)) → fc_X6_readType_b68 nm mc ms h Q  v1 v2 x49 none T M K N) ∧ (v1 = (some (nm 8)) → (∃ cc54 nn55 : Nat, K + cc54 ≤ mc ∧ N + nn55 ≤ ms ∧ fc_X6_readWords cc54 nn55 h T M (fun (r52 : Option Nat) (T53 : LY) (M51 : CM) => fc_X6_readType_b68 nm mc ms h Q  v1 v2 x49 r52 T53 M51 (K + cc54) (N + nn55)))))))) ∧ (v1 = none → (K ≤ mc ∧ N ≤ ms ∧ Q none T M)))
def fc_X6_readType_b41 (nm : Nat → Nat) (mc ms : Nat) (h : Nat) (Q : Option Nat → LY → CM → Prop) (v2 : Int32) (s0 : Option Nat) (T : LY) (M : CM) (K N : Nat) : Prop := fc_X6_readType_b42 nm mc ms h Q  s0 v2 T M K N
def fc_X6_readType_b18 (nm : Nat → Nat) (mc ms : Nat) (h : Nat) (Q : Option Nat → LY → CM → Prop) (v1 : Option Nat) (s0 : Int32) (T : LY) (M : CM) (K N : Nat) : Prop := ((s0 = 0 → fc_X6_readType_b42 nm mc ms h Q  v1 s0 T M K N) ∧ (¬ s0 = 0 → (tg T h = 7 ∧ (K ≤ mc ∧ (N ≤ ms ∧ fc_X6_need T h 60 M (fun (r59 : Int32) (M58 : CM) => ((r59 = 0 → fc_X6_readType_b41 nm mc ms h Q  s0 none T M58 K N) ∧ (¬ r59 = 0 → (K ≤ mc ∧ (N ≤ ms ∧ fc_X6_readName nm T h 0 M58 (fun (r65 : Option Nat) (M64 : CM) => fc_X6_readType_b41 nm mc ms h Q  s0 r65 T M64 K N)))))))))))
def fc_X6_readType (nm : Nat → Nat) (mc ms : Nat) (h : Nat)  (T : LY) (M : CM) (Q : Option Nat → LY → CM → Prop) : Prop := (tg T h = 7 ∧ (0 ≤ mc ∧ (0 ≤ ms ∧ fc_X6_readName nm T h 1 M (fun (r71 : Option Nat) (M70 : CM) => ((¬ r71 = (some (nm 9)) → fc_X6_readType_b18 nm mc ms h Q  r71 0 T M70 0 0) ∧ (r71 = (some (nm 9)) → fc_X6_readType_b18 nm mc ms h Q  r71 1 T M70 0 0))))))
abbrev rmX6_readType (mc ms : Nat) : Room := { frames := 7, cells := mc, slots := ms, locals := 156 }
set_option maxHeartbeats 4000000 in
set_option maxRecDepth 100000 in
theorem tc_X6_readType (l : Launch) (D : va_G) (kA : Nat → ClassId) (nm : Nat → Nat) (na : Nat) (sa sv : Nat → Nat) (sz : Nat) (mc ms : Nat) (h : Nat) (T : LY) (M : CM) (Q : Option Nat → LY → CM → Prop) (hw : fc_X6_readType nm mc ms h  T M Q) : Met l yX6_readType wsX6_readType (rmX6_readType mc ms) (va_Pc [.ref h] (cPc nm na sa sv D kA T M sz)) (va_Qq (fun r (u : LY × CM) => Q r u.1 u.2) (cBT D kA (cF T sz)) (cF T sz)) mc ms (cF T sz) := by
  refine Met.ofW (cc := cX6_readType) (maxL := 7) (ret := (some (.object "IdlCaller$Type"))) (by decide) rfl ?_
  intro p e s m args below meth c s₁ B hml hv
  obtain ⟨rfl, hsz, hP, hK, hSt⟩ := hv
  have hx := B.exec
  have hb := B.bytes
  have hr := B.returns
  have hts := atoms_spec (ws := wsX6_readType) B.pre
  have hown : s.vm.findClass RX6 = some m.cls := findClass_of_methodNamed B.named
  have hlocks : meth.locks = false := B.notSynchronized
  subst hsz
  have hH : cH D kA (cF T s.heap.size) s.heap T M s.heap [] := ⟨hP.self, va_S.rf⟩
  have hA : ∀ q : Nat, s.heap.size ≤ q → cF T s.heap.size q := fun q z => Or.inr z
  generalize cF T s.heap.size = A at hH hA hSt ⊢
  have hl := lv_entry ([.ref h]) (n := 7) (by first | exact Nat.le_of_ble_eq_true rfl | simp [lg_sl, va_rf_cat, cat_ref, cat_int, cat_long, cat_double])
  rw [lg_entry_eq]
  generalize (lg_sl ([.ref h]) ++ List.replicate (7 - (lg_sl ([.ref h])).length) Slot.unset).toArray = ls at hl ⊢
  generalize ([.ref h] : List Value).toArray = args at hts ⊢
  have hl : lv_has ls 7 [(0, .ref h)] := hl
  have hin6 : ∀ w ∈ wsX60, w ∈ wsX6_readType := by decide +kernel
  have hin9 : ∀ w ∈ wsX90, w ∈ wsX6_readType := by decide +kernel
  have b163 : ∀ (s0 : Option Nat) (T : LY) (M : CM) (K N : Nat) (H : Heap) (locs : List Loc) (ls : Array Slot), cH D kA A s.heap T M H locs → lv_has ls 7 [] → fc_X6_readType_b163 nm mc ms h Q  s0 T M K N → W p l e (headSpec wsX6_readType (rmX6_readType mc ms)).room s m args below meth c H locs K N (MQ below (va_Qq (fun r (u : LY × CM) => Q r u.1 u.2) (cBT D kA A) A) args s mc ms A) (F0 m 163 ls [va_rf s0]) := by
    intro   s0 T M K N H locs ls hH hl hw
    unfold fc_X6_readType_b163 at hw
    exact c_retTq (v := s0) hw.1 hw.2.1 hx hb hr (Or.inl ⟨_, rfl⟩) hlocks hK hH hw.2.2 dX6_readType_163
  have b105 : ∀ (v1 : Option Nat) (v2 : Int32) (v3 : Int32) (v4 : Option Nat) (s0 : Int32) (T : LY) (M : CM) (K N : Nat) (H : Heap) (locs : List Loc) (ls : Array Slot), cH D kA A s.heap T M H locs → lv_has ls 7 [(0, .ref h), (1, va_rf v1), (2, .int v2), (3, .int v3), (4, va_rf v4)] → fc_X6_readType_b105 nm mc ms h Q  v1 v2 v3 v4 s0 T M K N → W p l e (headSpec wsX6_readType (rmX6_readType mc ms)).room s m args below meth c H locs K N (MQ below (va_Qq (fun r (u : LY × CM) => Q r u.1 u.2) (cBT D kA A) A) args s mc ms A) (F0 m 105 ls [.int s0]) := by
    intro   v1 v2 v3 v4 s0 T M K N H locs ls hH hl hw
    unfold fc_X6_readType_b105 at hw
    refine lv_istore (i := 5) (lv' := [(5, .int s0), (0, .ref h), (1, va_rf v1), (2, .int v2), (3, .int v3), (4, va_rf v4)]) hx hb dX6_readType_105 hl (by decide) (by first | rfl | simp [va_rf_cat, cat_ref, cat_int, cat_long, cat_double, cat_null]) (fun ls hl => ?_)
    obtain ⟨h4, hw⟩ := hw
    obtain ⟨h5, hw⟩ := hw
    refine cnew_9 hx hb hts hin9 hown (hts (.classLink RX6 132 RX9) (by decide +kernel)) (hts (.instantiable RX9 5) (by decide +kernel)) (hts (.initialized RX9) (by decide +kernel)) hK hH hA h4 h5 dX6_readType_107 (fun q1 H zq1 hH => ?_)
    obtain ⟨T2, eT2⟩ : ∃ z, z = mkT T 10 0 q1 := ⟨_, rfl⟩
    obtain ⟨M3, eM3⟩ : ∃ z, z = mkM M q1 := ⟨_, rfl⟩
    replace hw := hw q1 T2 M3 zq1 eT2 eM3
    rw [← eT2, ← eM3] at hH
    refine lv_dup hx hb dX6_readType_110 rfl ?_
    refine s_aload_n hx hb dX6_readType_111 rfl (lv_at hl 2 rfl) ?_
    refine lv_iload_n hx hb dX6_readType_112 rfl (lv_at hl 4 rfl) ?_
    refine lv_iload hx hb dX6_readType_113 (lv_at hl 0 rfl) ?_
    refine s_aload hx hb dX6_readType_115 (lv_at hl 5 rfl) ?_
    refine lv_null hx hb dX6_readType_117 ?_
    obtain ⟨h6, hw⟩ := hw
    obtain ⟨h10, hw⟩ := hw
    obtain ⟨h11, hw⟩ := hw
    refine c_callv (va_runI (As := [va_rf v1, .int v3, .int s0, va_rf v4, va_rf none]) (rest := [.ref q1]) ⟨hx, hb, hml, hown, hts⟩ (tc_X9_init l D kA nm na sa sv H.size T2 q1 v1 v3 s0 v4 none M3 _ hw) (cwI 5 hts gX6_readType_X9_init rfl rfl rfl (hts (.initialized RX9) (by decide +kernel)) (hts (.methodLink RX6 134 yX9_init) (by decide +kernel)) (hts (.instanceMethod yX9_init) (by decide +kernel)) rfl (by decide +kernel) ⟨(show (1 : Nat) + 1 ≤ 7 from Nat.le_of_ble_eq_true rfl), (show 8 + (6 + 11) + (12 : Nat) ≤ 156 from Nat.le_of_ble_eq_true rfl)⟩) (c_preS hK hH hA hSt) rfl rfl hl.1 rfl (lv_room (by first | exact Nat.le_of_ble_eq_true rfl | simp [va_rf_cat, cat_ref, cat_int, cat_long, cat_double, cat_null])) dX6_readType_118 ⟨h10, h11⟩) hH hA (fun M7 H locs hw hH => ?_)
    refine lv_astore (i := 6) (lv' := [(6, .ref q1), (5, .int s0), (0, .ref h), (1, va_rf v1), (2, .int v2), (3, .int v3), (4, va_rf v4)]) hx hb dX6_readType_121 hl (by decide) (by first | rfl | simp [va_rf_cat, cat_ref, cat_int, cat_long, cat_double, cat_null]) (fun ls hl => ?_)
    refine lv_iload_n hx hb dX6_readType_123 rfl (lv_at hl 4 rfl) ?_
    refine lv_if_ne (tgt := 130) hx hb dX6_readType_124 (by decide) (fun c12 => ?_) (fun c12 => ?_)
    · replace hw := hw.1 c12
      refine lv_aload_n hx hb dX6_readType_130 rfl (lv_at hl 2 rfl) ?_
      refine lv_bipush (v := 62) hx hb dX6_readType_131 (by decide) ?_
      obtain ⟨h13, hw⟩ := hw
      obtain ⟨h17, hw⟩ := hw
      obtain ⟨h18, hw⟩ := hw
      refine c_calli (va_runV (As := [.int 62]) (rest := []) ⟨hx, hb, hml, hown, hts⟩ (tc_X6_need l D kA nm na sa sv H.size T2 h 62 M7 _ hw) (cwV 1 hts gX6_readType_X6_need rfl rfl rfl (by decide +kernel) ⟨(show (2 : Nat) + 1 ≤ 7 from Nat.le_of_ble_eq_true rfl), (show 8 + (2 + 11) + (42 : Nat) ≤ 156 from Nat.le_of_ble_eq_true rfl)⟩) (c_preV hK hH hA hSt (c_recv6 hK hH h13)) rfl rfl hl.1 rfl (lv_room (by first | exact Nat.le_of_ble_eq_true rfl | simp [va_rf_cat, cat_ref, cat_int, cat_long, cat_double, cat_null])) dX6_readType_133 ⟨h17, h18⟩) hH hA (fun r15 M14 H locs hw hH => ?_)
      refine lv_if_eq (tgt := 162) hx hb dX6_readType_136 (by decide) (fun c19 => ?_) (fun c19 => ?_)
      · replace hw := hw.1 c19
        refine lv_null hx hb dX6_readType_162 ?_
        exact b163   none T2 M14 (K + 1) (N + 5) H locs ls hH (lv_sub hl [] rfl) hw
      · replace hw := hw.2 c19
        obtain ⟨h23, hw⟩ := hw
        obtain ⟨h24, hw⟩ := hw
        refine cnew_9 hx hb hts hin9 hown (hts (.classLink RX6 132 RX9) (by decide +kernel)) (hts (.instantiable RX9 5) (by decide +kernel)) (hts (.initialized RX9) (by decide +kernel)) hK hH hA h23 h24 dX6_readType_139 (fun q20 H zq20 hH => ?_)
        obtain ⟨T21, eT21⟩ : ∃ z, z = mkT T2 10 0 q20 := ⟨_, rfl⟩
        obtain ⟨M22, eM22⟩ : ∃ z, z = mkM M14 q20 := ⟨_, rfl⟩
        replace hw := hw q20 T21 M22 zq20 eT21 eM22
        rw [← eT21, ← eM22] at hH
        refine lv_dup hx hb dX6_readType_142 rfl ?_
        refine ce_9 hx hb hown hSt hH (hts (.fieldLink RX6 116 "IdlCaller$Name" "LIST" "LIdlCaller$Name;") (by decide +kernel)) dX6_readType_143 ?_
        refine lv_iconst (v := 0) hx hb dX6_readType_146 (by decide) ?_
        refine lv_aload_n hx hb dX6_readType_147 rfl (lv_at hl 2 rfl) ?_
        refine lv_bipush (v := 63) hx hb dX6_readType_148 (by decide) ?_
        obtain ⟨h25, hw⟩ := hw
        obtain ⟨h29, hw⟩ := hw
        obtain ⟨h30, hw⟩ := hw
        refine c_calli (va_runV (As := [.int 63]) (rest := [.int 0, .ref (nm 9), .ref q20, .ref q20]) ⟨hx, hb, hml, hown, hts⟩ (tc_X6_take l D kA nm na sa sv H.size T21 h 63 M22 _ hw) (cwV 1 hts gX6_readType_X6_take rfl rfl rfl (by decide +kernel) ⟨(show (1 : Nat) + 1 ≤ 7 from Nat.le_of_ble_eq_true rfl), (show 8 + (2 + 11) + (21 : Nat) ≤ 156 from Nat.le_of_ble_eq_true rfl)⟩) (c_preV hK hH hA hSt (c_recv6 hK hH h25)) rfl rfl hl.1 rfl (lv_room (by first | exact Nat.le_of_ble_eq_true rfl | simp [va_rf_cat, cat_ref, cat_int, cat_long, cat_double, cat_null])) dX6_readType_150 ⟨h29, h30⟩) hH hA (fun r27 M26 H locs hw hH => ?_)
        refine lv_null hx hb dX6_readType_153 ?_
        refine lv_aload hx hb dX6_readType_154 (lv_at hl 0 rfl) ?_
        obtain ⟨h31, hw⟩ := hw
        obtain ⟨h35, hw⟩ := hw
        obtain ⟨h36, hw⟩ := hw
        refine c_callv (va_runI (As := [va_rf (some (nm 9)), .int 0, .int r27, va_rf none, va_rf (some q1)]) (rest := [.ref q20]) ⟨hx, hb, hml, hown, hts⟩ (tc_X9_init l D kA nm na sa sv H.size T21 q20 (some (nm 9)) 0 r27 none (some q1) M26 _ hw) (cwI 5 hts gX6_readType_X9_init rfl rfl rfl (hts (.initialized RX9) (by decide +kernel)) (hts (.methodLink RX6 134 yX9_init) (by decide +kernel)) (hts (.instanceMethod yX9_init) (by decide +kernel)) rfl (by decide +kernel) ⟨(show (1 : Nat) + 1 ≤ 7 from Nat.le_of_ble_eq_true rfl), (show 8 + (6 + 11) + (12 : Nat) ≤ 156 from Nat.le_of_ble_eq_true rfl)⟩) (c_preS hK hH hA hSt) rfl rfl hl.1 rfl (lv_room (by first | exact Nat.le_of_ble_eq_true rfl | simp [va_rf_cat, cat_ref, cat_int, cat_long, cat_double, cat_null])) dX6_readType_156 ⟨h35, h36⟩) hH hA (fun M32 H locs hw hH => ?_)
        refine lv_goto (tgt := 163) hx hb dX6_readType_159 (by decide) ?_
        exact b163   (some q20) T21 M32 ((K + 1) + 1) ((N + 5) + 5) H locs ls hH (lv_sub hl [] rfl) hw
    · replace hw := hw.2 c12
      refine lv_aload hx hb dX6_readType_127 (lv_at hl 0 rfl) ?_
      exact c_retTq (v := (some q1)) hw.1 hw.2.1 hx hb hr (Or.inl ⟨_, rfl⟩) hlocks hK hH hw.2.2 dX6_readType_129
  have b104 : ∀ (v1 : Option Nat) (v2 : Int32) (v3 : Int32) (v4 : Option Nat) (T : LY) (M : CM) (K N : Nat) (H : Heap) (locs : List Loc) (ls : Array Slot), cH D kA A s.heap T M H locs → lv_has ls 7 [(0, .ref h), (1, va_rf v1), (2, .int v2), (3, .int v3), (4, va_rf v4)] → fc_X6_readType_b104 nm mc ms h Q  v1 v2 v3 v4 T M K N → W p l e (headSpec wsX6_readType (rmX6_readType mc ms)).room s m args below meth c H locs K N (MQ below (va_Qq (fun r (u : LY × CM) => Q r u.1 u.2) (cBT D kA A) A) args s mc ms A) (F0 m 104 ls []) := by
    intro   v1 v2 v3 v4 T M K N H locs ls hH hl hw
    unfold fc_X6_readType_b104 at hw
    refine lv_iconst (v := 0) hx hb dX6_readType_104 (by decide) ?_
    exact b105   v1 v2 v3 v4 0 T M K N H locs ls hH (lv_sub hl [0, 1, 2, 3, 4] rfl) hw
  have b84 : ∀ (v1 : Option Nat) (v2 : Int32) (v3 : Int32) (v4 : Option Nat) (T : LY) (M : CM) (K N : Nat) (H : Heap) (locs : List Loc) (ls : Array Slot), cH D kA A s.heap T M H locs → lv_has ls 7 [(0, .ref h), (1, va_rf v1), (2, .int v2), (3, .int v3), (4, va_rf v4)] → fc_X6_readType_b84 nm mc ms h Q  v1 v2 v3 v4 T M K N → W p l e (headSpec wsX6_readType (rmX6_readType mc ms)).room s m args below meth c H locs K N (MQ below (va_Qq (fun r (u : LY × CM) => Q r u.1 u.2) (cBT D kA A) A) args s mc ms A) (F0 m 84 ls []) := by
    intro   v1 v2 v3 v4 T M K N H locs ls hH hl hw
    unfold fc_X6_readType_b84 at hw
    refine s_aload_n hx hb dX6_readType_84 rfl (lv_at hl 1 rfl) ?_
    refine ce_7 hx hb hown hSt hH (hts (.fieldLink RX6 129 "IdlCaller$Name" "ANY" "LIdlCaller$Name;") (by decide +kernel)) dX6_readType_85 ?_
    refine lv_acmp_eq (rx := v1) (ry := (some (nm 7))) (tgt := 104) hx hb dX6_readType_88 (by decide) (fun c37 => ?_) (fun c37 => ?_)
    · replace hw := hw.1 c37
      exact b104   v1 v2 v3 v4 T M K N H locs ls hH (lv_sub hl [0, 1, 2, 3, 4] rfl) hw
    · replace hw := hw.2 c37
      refine lv_aload_n hx hb dX6_readType_91 rfl (lv_at hl 0 rfl) ?_
      refine lv_bipush (v := 63) hx hb dX6_readType_92 (by decide) ?_
      obtain ⟨h38, hw⟩ := hw
      obtain ⟨h42, hw⟩ := hw
      obtain ⟨h43, hw⟩ := hw
      refine c_calli (va_runV (As := [.int 63]) (rest := []) ⟨hx, hb, hml, hown, hts⟩ (tc_X6_take l D kA nm na sa sv H.size T h 63 M _ hw) (cwV 1 hts gX6_readType_X6_take rfl rfl rfl (by decide +kernel) ⟨(show (1 : Nat) + 1 ≤ 7 from Nat.le_of_ble_eq_true rfl), (show 8 + (2 + 11) + (21 : Nat) ≤ 156 from Nat.le_of_ble_eq_true rfl)⟩) (c_preV hK hH hA hSt (c_recv6 hK hH h38)) rfl rfl hl.1 rfl (lv_room (by first | exact Nat.le_of_ble_eq_true rfl | simp [va_rf_cat, cat_ref, cat_int, cat_long, cat_double, cat_null])) dX6_readType_94 ⟨h42, h43⟩) hH hA (fun r40 M39 H locs hw hH => ?_)
      refine lv_if_eq (tgt := 104) hx hb dX6_readType_97 (by decide) (fun c44 => ?_) (fun c44 => ?_)
      · replace hw := hw.1 c44
        exact b104   v1 v2 v3 v4 T M39 K N H locs ls hH (lv_sub hl [0, 1, 2, 3, 4] rfl) hw
      · replace hw := hw.2 c44
        refine lv_iconst (v := 1) hx hb dX6_readType_100 (by decide) ?_
        refine lv_goto (tgt := 105) hx hb dX6_readType_101 (by decide) ?_
        exact b105   v1 v2 v3 v4 1 T M39 K N H locs ls hH (lv_sub hl [0, 1, 2, 3, 4] rfl) hw
  have b68 : ∀ (v1 : Option Nat) (v2 : Int32) (v3 : Int32) (s0 : Option Nat) (T : LY) (M : CM) (K N : Nat) (H : Heap) (locs : List Loc) (ls : Array Slot), cH D kA A s.heap T M H locs → lv_has ls 7 [(0, .ref h), (1, va_rf v1), (2, .int v2), (3, .int v3)] → fc_X6_readType_b68 nm mc ms h Q  v1 v2 v3 s0 T M K N → W p l e (headSpec wsX6_readType (rmX6_readType mc ms)).room s m args below meth c H locs K N (MQ below (va_Qq (fun r (u : LY × CM) => Q r u.1 u.2) (cBT D kA A) A) args s mc ms A) (F0 m 68 ls [va_rf s0]) := by
    intro   v1 v2 v3 s0 T M K N H locs ls hH hl hw
    unfold fc_X6_readType_b68 at hw
    refine s_astore (i := 4) (lv' := [(4, va_rf s0), (0, .ref h), (1, va_rf v1), (2, .int v2), (3, .int v3)]) hx hb dX6_readType_68 hl (by decide) (by first | rfl | simp [va_rf_cat, cat_ref, cat_int, cat_long, cat_double, cat_null]) (fun ls hl => ?_)
    refine s_aload_n hx hb dX6_readType_70 rfl (lv_at hl 2 rfl) ?_
    refine ce_8 hx hb hown hSt hH (hts (.fieldLink RX6 122 "IdlCaller$Name" "ENUM" "LIdlCaller$Name;") (by decide +kernel)) dX6_readType_71 ?_
    refine lv_acmp_ne (rx := v1) (ry := (some (nm 8))) (tgt := 84) hx hb dX6_readType_74 (by decide) (fun c45 => ?_) (fun c45 => ?_)
    · replace hw := hw.1 c45
      exact b84   v1 v2 v3 s0 T M K N H locs ls hH (lv_sub hl [1, 2, 3, 4, 0] rfl) hw
    · replace hw := hw.2 c45
      refine s_aload hx hb dX6_readType_77 (lv_at hl 0 rfl) ?_
      refine s_ifnonnull (tgt := 84) hx hb dX6_readType_79 (by decide) (fun c46 => ?_) (fun c46 => ?_)
      · replace hw := hw.1 c46
        exact b84   v1 v2 v3 s0 T M K N H locs ls hH (lv_sub hl [1, 2, 3, 4, 0] rfl) hw
      · replace hw := hw.2 c46
        refine lv_null hx hb dX6_readType_82 ?_
        exact c_retTq (v := none) hw.1 hw.2.1 hx hb hr (Or.inl ⟨_, rfl⟩) hlocks hK hH hw.2.2 dX6_readType_83
  have b42 : ∀ (v1 : Option Nat) (v2 : Int32) (T : LY) (M : CM) (K N : Nat) (H : Heap) (locs : List Loc) (ls : Array Slot), cH D kA A s.heap T M H locs → lv_has ls 7 [(0, .ref h), (1, va_rf v1), (2, .int v2)] → fc_X6_readType_b42 nm mc ms h Q  v1 v2 T M K N → W p l e (headSpec wsX6_readType (rmX6_readType mc ms)).room s m args below meth c H locs K N (MQ below (va_Qq (fun r (u : LY × CM) => Q r u.1 u.2) (cBT D kA A) A) args s mc ms A) (F0 m 42 ls []) := by
    intro   v1 v2 T M K N H locs ls hH hl hw
    unfold fc_X6_readType_b42 at hw
    refine s_aload_n hx hb dX6_readType_42 rfl (lv_at hl 1 rfl) ?_
    refine s_ifnonnull (tgt := 48) hx hb dX6_readType_43 (by decide) (fun c47 => ?_) (fun c47 => ?_)
    · replace hw := hw.1 c47
      refine lv_aload_n hx hb dX6_readType_48 rfl (lv_at hl 0 rfl) ?_
      obtain ⟨h48, hw⟩ := hw
      refine cg_65 hx hb hts hin6 hown hK hH h48 (hts (.fieldLink RX6 29 "IdlCaller$Reader" "mode" "I") (by decide +kernel)) dX6_readType_49 ?_
      refine lv_topi (fun x49 ex49 => ?_)
      replace hw := hw x49 ex49
      refine lv_istore_n (i := 3) (lv' := [(3, .int x49), (0, .ref h), (1, va_rf v1), (2, .int v2)]) hx hb dX6_readType_52 rfl hl (by decide) (by first | rfl | simp [va_rf_cat, cat_ref, cat_int, cat_long, cat_double, cat_null]) (fun ls hl => ?_)
      refine s_aload_n hx hb dX6_readType_53 rfl (lv_at hl 2 rfl) ?_
      refine ce_8 hx hb hown hSt hH (hts (.fieldLink RX6 122 "IdlCaller$Name" "ENUM" "LIdlCaller$Name;") (by decide +kernel)) dX6_readType_54 ?_
      refine lv_acmp_ne (rx := v1) (ry := (some (nm 8))) (tgt := 67) hx hb dX6_readType_57 (by decide) (fun c50 => ?_) (fun c50 => ?_)
      · replace hw := hw.1 c50
        refine lv_null hx hb dX6_readType_67 ?_
        exact b68   v1 v2 x49 none T M K N H locs ls hH (lv_sub hl [1, 2, 3, 0] rfl) hw
      · replace hw := hw.2 c50
        refine lv_aload_n hx hb dX6_readType_60 rfl (lv_at hl 1 rfl) ?_
        obtain ⟨cc54, nn55, hcc54, hnn55, hw⟩ := hw
        refine c_callTq (va_runV (As := []) (rest := []) ⟨hx, hb, hml, hown, hts⟩ (tc_X6_readWords l D kA nm na sa sv H.size cc54 nn55 h T M _ hw) (cwV 0 hts gX6_readType_X6_readWords rfl rfl rfl (by decide +kernel) ⟨(show (3 : Nat) + 1 ≤ 7 from Nat.le_of_ble_eq_true rfl), (show 8 + (6 + 11) + (63 : Nat) ≤ 156 from Nat.le_of_ble_eq_true rfl)⟩) (c_preV hK hH hA hSt (c_recv6 hK hH h48)) rfl rfl hl.1 rfl (lv_room (by first | exact Nat.le_of_ble_eq_true rfl | simp [va_rf_cat, cat_ref, cat_int, cat_long, cat_double, cat_null])) dX6_readType_61 ⟨hcc54, hnn55⟩) hH hA (fun r52 T53 M51 H locs hw hH => ?_)
        refine lv_goto (tgt := 68) hx hb dX6_readType_64 (by decide) ?_
        exact b68   v1 v2 x49 r52 T53 M51 (K + cc54) (N + nn55) H locs ls hH (lv_sub hl [1, 2, 3, 0] rfl) hw
    · replace hw := hw.2 c47
      refine lv_null hx hb dX6_readType_46 ?_
      exact c_retTq (v := none) hw.1 hw.2.1 hx hb hr (Or.inl ⟨_, rfl⟩) hlocks hK hH hw.2.2 dX6_readType_47
  have b41 : ∀ (v2 : Int32) (s0 : Option Nat) (T : LY) (M : CM) (K N : Nat) (H : Heap) (locs : List Loc) (ls : Array Slot), cH D kA A s.heap T M H locs → lv_has ls 7 [(0, .ref h), (2, .int v2)] → fc_X6_readType_b41 nm mc ms h Q  v2 s0 T M K N → W p l e (headSpec wsX6_readType (rmX6_readType mc ms)).room s m args below meth c H locs K N (MQ below (va_Qq (fun r (u : LY × CM) => Q r u.1 u.2) (cBT D kA A) A) args s mc ms A) (F0 m 41 ls [va_rf s0]) := by
    intro   v2 s0 T M K N H locs ls hH hl hw
    unfold fc_X6_readType_b41 at hw
    refine s_astore_n (i := 1) (lv' := [(1, va_rf s0), (0, .ref h), (2, .int v2)]) hx hb dX6_readType_41 rfl hl (by decide) (by first | rfl | simp [va_rf_cat, cat_ref, cat_int, cat_long, cat_double, cat_null]) (fun ls hl => ?_)
    exact b42   s0 v2 T M K N H locs ls hH (lv_sub hl [1, 0, 2] rfl) hw
  have b18 : ∀ (v1 : Option Nat) (s0 : Int32) (T : LY) (M : CM) (K N : Nat) (H : Heap) (locs : List Loc) (ls : Array Slot), cH D kA A s.heap T M H locs → lv_has ls 7 [(0, .ref h), (1, va_rf v1)] → fc_X6_readType_b18 nm mc ms h Q  v1 s0 T M K N → W p l e (headSpec wsX6_readType (rmX6_readType mc ms)).room s m args below meth c H locs K N (MQ below (va_Qq (fun r (u : LY × CM) => Q r u.1 u.2) (cBT D kA A) A) args s mc ms A) (F0 m 18 ls [.int s0]) := by
    intro   v1 s0 T M K N H locs ls hH hl hw
    unfold fc_X6_readType_b18 at hw
    refine lv_istore_n (i := 2) (lv' := [(2, .int s0), (0, .ref h), (1, va_rf v1)]) hx hb dX6_readType_18 rfl hl (by decide) (by first | rfl | simp [va_rf_cat, cat_ref, cat_int, cat_long, cat_double, cat_null]) (fun ls hl => ?_)
    refine lv_iload_n hx hb dX6_readType_19 rfl (lv_at hl 0 rfl) ?_
    refine lv_if_eq (tgt := 42) hx hb dX6_readType_20 (by decide) (fun c56 => ?_) (fun c56 => ?_)
    · replace hw := hw.1 c56
      exact b42   v1 s0 T M K N H locs ls hH (lv_sub hl [1, 2, 0] rfl) hw
    · replace hw := hw.2 c56
      refine lv_aload_n hx hb dX6_readType_23 rfl (lv_at hl 1 rfl) ?_
      refine lv_bipush (v := 60) hx hb dX6_readType_24 (by decide) ?_
      obtain ⟨h57, hw⟩ := hw
      obtain ⟨h61, hw⟩ := hw
      obtain ⟨h62, hw⟩ := hw
      refine c_calli (va_runV (As := [.int 60]) (rest := []) ⟨hx, hb, hml, hown, hts⟩ (tc_X6_need l D kA nm na sa sv H.size T h 60 M _ hw) (cwV 1 hts gX6_readType_X6_need rfl rfl rfl (by decide +kernel) ⟨(show (2 : Nat) + 1 ≤ 7 from Nat.le_of_ble_eq_true rfl), (show 8 + (2 + 11) + (42 : Nat) ≤ 156 from Nat.le_of_ble_eq_true rfl)⟩) (c_preV hK hH hA hSt (c_recv6 hK hH h57)) rfl rfl hl.1 rfl (lv_room (by first | exact Nat.le_of_ble_eq_true rfl | simp [va_rf_cat, cat_ref, cat_int, cat_long, cat_double, cat_null])) dX6_readType_26 ⟨h61, h62⟩) hH hA (fun r59 M58 H locs hw hH => ?_)
      refine lv_if_eq (tgt := 40) hx hb dX6_readType_29 (by decide) (fun c63 => ?_) (fun c63 => ?_)
      · replace hw := hw.1 c63
        refine lv_null hx hb dX6_readType_40 ?_
        exact b41   s0 none T M58 K N H locs ls hH (lv_sub hl [1, 0] rfl) hw
      · replace hw := hw.2 c63
        refine lv_aload_n hx hb dX6_readType_32 rfl (lv_at hl 1 rfl) ?_
        refine lv_iconst (v := 0) hx hb dX6_readType_33 (by decide) ?_
        obtain ⟨h67, hw⟩ := hw
        obtain ⟨h68, hw⟩ := hw
        refine c_callq (va_runV (As := [.int 0]) (rest := []) ⟨hx, hb, hml, hown, hts⟩ (tc_X6_readName l D kA nm na sa sv H.size T h 0 M58 _ hw) (cwV 1 hts gX6_readType_X6_readName rfl rfl rfl (by decide +kernel) ⟨(show (6 : Nat) + 1 ≤ 7 from Nat.le_of_ble_eq_true rfl), (show 8 + (4 + 11) + (133 : Nat) ≤ 156 from Nat.le_of_ble_eq_true rfl)⟩) (c_preV hK hH hA hSt (c_recv6 hK hH h57)) rfl rfl hl.1 rfl (lv_room (by first | exact Nat.le_of_ble_eq_true rfl | simp [va_rf_cat, cat_ref, cat_int, cat_long, cat_double, cat_null])) dX6_readType_34 ⟨h67, h68⟩) hH hA (fun r65 M64 H locs hw hH => ?_)
        refine lv_goto (tgt := 41) hx hb dX6_readType_37 (by decide) ?_
        exact b41   s0 r65 T M64 K N H locs ls hH (lv_sub hl [1, 0] rfl) hw
  clear hP
  unfold fc_X6_readType at hw
  have hst : ∀ (T : LY) (M : CM) (H : Heap) (locs : List Loc) (ls : Array Slot), cH D kA A s.heap T M H locs → lv_has ls 7 [(0, .ref h)] → (tg T h = 7 ∧ (0 ≤ mc ∧ (0 ≤ ms ∧ fc_X6_readName nm T h 1 M (fun (r71 : Option Nat) (M70 : CM) => ((¬ r71 = (some (nm 9)) → fc_X6_readType_b18 nm mc ms h Q  r71 0 T M70 0 0) ∧ (r71 = (some (nm 9)) → fc_X6_readType_b18 nm mc ms h Q  r71 1 T M70 0 0)))))) → W p l e (headSpec wsX6_readType (rmX6_readType mc ms)).room s m args below meth c H locs 0 0 (MQ below (va_Qq (fun r (u : LY × CM) => Q r u.1 u.2) (cBT D kA A) A) args s mc ms A) (F0 m 0 ls []) := by
    intro T M H locs ls hH hl hw
    refine lv_aload_n hx hb dX6_readType_0 rfl (lv_at hl 0 rfl) ?_
    refine lv_iconst (v := 1) hx hb dX6_readType_1 (by decide) ?_
    obtain ⟨h69, hw⟩ := hw
    obtain ⟨h73, hw⟩ := hw
    obtain ⟨h74, hw⟩ := hw
    refine c_callq (va_runV (As := [.int 1]) (rest := []) ⟨hx, hb, hml, hown, hts⟩ (tc_X6_readName l D kA nm na sa sv H.size T h 1 M _ hw) (cwV 1 hts gX6_readType_X6_readName rfl rfl rfl (by decide +kernel) ⟨(show (6 : Nat) + 1 ≤ 7 from Nat.le_of_ble_eq_true rfl), (show 8 + (4 + 11) + (133 : Nat) ≤ 156 from Nat.le_of_ble_eq_true rfl)⟩) (c_preV hK hH hA hSt (c_recv6 hK hH h69)) rfl rfl hl.1 rfl (lv_room (by first | exact Nat.le_of_ble_eq_true rfl | simp [va_rf_cat, cat_ref, cat_int, cat_long, cat_double, cat_null])) dX6_readType_2 ⟨h73, h74⟩) hH hA (fun r71 M70 H locs hw hH => ?_)
    refine s_astore_n (i := 1) (lv' := [(1, va_rf r71), (0, .ref h)]) hx hb dX6_readType_5 rfl hl (by decide) (by first | rfl | simp [va_rf_cat, cat_ref, cat_int, cat_long, cat_double, cat_null]) (fun ls hl => ?_)
    refine s_aload_n hx hb dX6_readType_6 rfl (lv_at hl 0 rfl) ?_
    refine ce_9 hx hb hown hSt hH (hts (.fieldLink RX6 116 "IdlCaller$Name" "LIST" "LIdlCaller$Name;") (by decide +kernel)) dX6_readType_7 ?_
    refine lv_acmp_ne (rx := r71) (ry := (some (nm 9))) (tgt := 17) hx hb dX6_readType_10 (by decide) (fun c75 => ?_) (fun c75 => ?_)
    · replace hw := hw.1 c75
      refine lv_iconst (v := 0) hx hb dX6_readType_17 (by decide) ?_
      exact b18   r71 0 T M70 0 0 H locs ls hH (lv_sub hl [1, 0] rfl) hw
    · replace hw := hw.2 c75
      refine lv_iconst (v := 1) hx hb dX6_readType_13 (by decide) ?_
      refine lv_goto (tgt := 18) hx hb dX6_readType_14 (by decide) ?_
      exact b18   r71 1 T M70 0 0 H locs ls hH (lv_sub hl [1, 0] rfl) hw
  exact hst T M s.heap [] ls hH hl hw
def fc_X6_readArgument_b115 (nm : Nat → Nat) (mc ms : Nat) (h : Nat) (Q : Option Nat → LY → CM → Prop) (v3 : Int32) (v4 : Option Nat) (v5 : Int32) (T : LY) (M : CM) (K N : Nat) : Prop := (K + 1 ≤ mc ∧ (N + 3 ≤ ms ∧ (∀ (q1 : Nat) (T2 : LY) (M3 : CM), tg T q1 = 0 → T2 = mkT T 1 0 q1 → M3 = mkM M q1 → (tg T2 q1 = 1 ∧ (K + 1 ≤ mc ∧ (N + 3 ≤ ms ∧ fc_X0_init T2 q1 v4 v3 v5 M3 (fun (M7 : CM) => (K + 1 ≤ mc ∧ N + 3 ≤ ms ∧ Q (some q1) T2 M7))))))))
def fc_X6_readArgument_b91 (nm : Nat → Nat) (mc ms : Nat) (h : Nat) (Q : Option Nat → LY → CM → Prop) (v1 : Int32) (v3 : Int32) (v4 : Option Nat) (v5 : Int32) (T : LY) (M : CM) (K N : Nat) : Prop := ((v1 = 0 → fc_X6_readArgument_b115 nm mc ms h Q  v3 v4 v5 T M K N) ∧ (¬ v1 = 0 → ((¬ v3 = 0 → fc_X6_readArgument_b115 nm mc ms h Q  v3 v4 v5 T M K N) ∧ (v3 = 0 → ((¬ v5 = 0 → fc_X6_readArgument_b115 nm mc ms h Q  v3 v4 v5 T M K N) ∧ (v5 = 0 → (tg T h = 7 ∧ (K ≤ mc ∧ (N ≤ ms ∧ fc_X6_failAt T h (cI M 64 h) M (fun (r17 : Int32) (M16 : CM) => (K ≤ mc ∧ N ≤ ms ∧ Q none T M16)))))))))))
def fc_X6_readArgument_b89 (nm : Nat → Nat) (mc ms : Nat) (h : Nat) (Q : Option Nat → LY → CM → Prop) (T : LY) (M : CM) (K N : Nat) : Prop := (K ≤ mc ∧ N ≤ ms ∧ Q none T M)
def fc_X6_readArgument_b64 (nm : Nat → Nat) (mc ms : Nat) (h : Nat) (Q : Option Nat → LY → CM → Prop) (v1 : Int32) (v3 : Int32) (v4 : Option Nat) (s0 : Int32) (T : LY) (M : CM) (K N : Nat) : Prop := ((s0 = 0 → fc_X6_readArgument_b91 nm mc ms h Q  v1 v3 v4 s0 T M K N) ∧ (¬ s0 = 0 → (tg T h = 7 ∧ (K ≤ mc ∧ (N ≤ ms ∧ fc_X6_need T h 46 M (fun (r24 : Int32) (M23 : CM) => ((r24 = 0 → fc_X6_readArgument_b89 nm mc ms h Q   T M23 K N) ∧ (¬ r24 = 0 → (K ≤ mc ∧ (N ≤ ms ∧ fc_X6_need T h 46 M23 (fun (r30 : Int32) (M29 : CM) => ((¬ r30 = 0 → fc_X6_readArgument_b91 nm mc ms h Q  v1 v3 v4 s0 T M29 K N) ∧ (r30 = 0 → fc_X6_readArgument_b89 nm mc ms h Q   T M29 K N)))))))))))))
def fc_X6_readArgument_b63 (nm : Nat → Nat) (mc ms : Nat) (h : Nat) (Q : Option Nat → LY → CM → Prop) (v1 : Int32) (v3 : Int32) (v4 : Option Nat) (T : LY) (M : CM) (K N : Nat) : Prop := fc_X6_readArgument_b64 nm mc ms h Q  v1 v3 v4 0 T M K N
def fc_X6_readArgument_b33 (nm : Nat → Nat) (mc ms : Nat) (h : Nat) (Q : Option Nat → LY → CM → Prop) (v1 : Int32) (v3 : Int32) (T : LY) (M : CM) (K N : Nat) : Prop := (tg T h = 7 ∧ (∃ cc39 nn40 : Nat, K + cc39 ≤ mc ∧ N + nn40 ≤ ms ∧ fc_X6_readType nm cc39 nn40 h T M (fun (r37 : Option Nat) (T38 : LY) (M36 : CM) => ((¬ r37 = none → ((¬ v3 = 0 → fc_X6_readArgument_b63 nm mc ms h Q  v1 v3 r37 T38 M36 (K + cc39) (N + nn40)) ∧ (v3 = 0 → (tg T38 h = 7 ∧ (K + cc39 ≤ mc ∧ (N + nn40 ≤ ms ∧ fc_X6_take T38 h 46 M36 (fun (r45 : Int32) (M44 : CM) => ((r45 = 0 → fc_X6_readArgument_b63 nm mc ms h Q  v1 v3 r37 T38 M44 (K + cc39) (N + nn40)) ∧ (¬ r45 = 0 → fc_X6_readArgument_b64 nm mc ms h Q  v1 v3 r37 1 T38 M44 (K + cc39) (N + nn40)))))))))) ∧ (r37 = none → (K + cc39 ≤ mc ∧ N + nn40 ≤ ms ∧ Q none T38 M36))))))
def fc_X6_readArgument_b23 (nm : Nat → Nat) (mc ms : Nat) (h : Nat) (Q : Option Nat → LY → CM → Prop) (v1 : Int32) (v2 : Int32) (s0 : Int32) (T : LY) (M : CM) (K N : Nat) : Prop := ((¬ s0 = 0 → fc_X6_readArgument_b33 nm mc ms h Q  v1 s0 T M K N) ∧ (s0 = 0 → (tg T h = 7 ∧ (∀ M52 : CM, M52 = sI M 64 h v2 → fc_X6_readArgument_b33 nm mc ms h Q  v1 s0 T M52 K N))))
def fc_X6_readArgument (nm : Nat → Nat) (mc ms : Nat) (h : Nat)  (a1 : Int32) (T : LY) (M : CM) (Q : Option Nat → LY → CM → Prop) : Prop := (tg T h = 7 ∧ (∀ x54 : Int32, x54 = cI M 64 h → (0 ≤ mc ∧ (0 ≤ ms ∧ fc_X6_readWord T h M (fun (r56 : Int64) (M55 : CM) => (0 ≤ mc ∧ (0 ≤ ms ∧ fc_X7_codeOf T 10 M55 (fun (r61 : Int64) (M60 : CM) => ((¬ (lg_cmp r56 r61) = 0 → fc_X6_readArgument_b23 nm mc ms h Q  a1 x54 0 T M60 0 0) ∧ ((lg_cmp r56 r61) = 0 → fc_X6_readArgument_b23 nm mc ms h Q  a1 x54 1 T M60 0 0))))))))))
abbrev rmX6_readArgument (mc ms : Nat) : Room := { frames := 8, cells := mc, slots := ms, locals := 182 }
set_option maxHeartbeats 4000000 in
set_option maxRecDepth 100000 in
theorem tc_X6_readArgument (l : Launch) (D : va_G) (kA : Nat → ClassId) (nm : Nat → Nat) (na : Nat) (sa sv : Nat → Nat) (sz : Nat) (mc ms : Nat) (h : Nat) (a1 : Int32) (T : LY) (M : CM) (Q : Option Nat → LY → CM → Prop) (hw : fc_X6_readArgument nm mc ms h a1 T M Q) : Met l yX6_readArgument wsX6_readArgument (rmX6_readArgument mc ms) (va_Pc [.ref h, .int a1] (cPc nm na sa sv D kA T M sz)) (va_Qq (fun r (u : LY × CM) => Q r u.1 u.2) (cBT D kA (cF T sz)) (cF T sz)) mc ms (cF T sz) := by
  refine Met.ofW (cc := cX6_readArgument) (maxL := 6) (ret := (some (.object "IdlCaller$Argument"))) (by decide) rfl ?_
  intro p e s m args below meth c s₁ B hml hv
  obtain ⟨rfl, hsz, hP, hK, hSt⟩ := hv
  have hx := B.exec
  have hb := B.bytes
  have hr := B.returns
  have hts := atoms_spec (ws := wsX6_readArgument) B.pre
  have hown : s.vm.findClass RX6 = some m.cls := findClass_of_methodNamed B.named
  have hlocks : meth.locks = false := B.notSynchronized
  subst hsz
  have hH : cH D kA (cF T s.heap.size) s.heap T M s.heap [] := ⟨hP.self, va_S.rf⟩
  have hA : ∀ q : Nat, s.heap.size ≤ q → cF T s.heap.size q := fun q z => Or.inr z
  generalize cF T s.heap.size = A at hH hA hSt ⊢
  have hl := lv_entry ([.ref h, .int a1]) (n := 6) (by first | exact Nat.le_of_ble_eq_true rfl | simp [lg_sl, va_rf_cat, cat_ref, cat_int, cat_long, cat_double])
  rw [lg_entry_eq]
  generalize (lg_sl ([.ref h, .int a1]) ++ List.replicate (6 - (lg_sl ([.ref h, .int a1])).length) Slot.unset).toArray = ls at hl ⊢
  generalize ([.ref h, .int a1] : List Value).toArray = args at hts ⊢
  have hl : lv_has ls 6 [(0, .ref h), (1, .int a1)] := hl
  have hin0 : ∀ w ∈ wsX00, w ∈ wsX6_readArgument := by decide +kernel
  have hin6 : ∀ w ∈ wsX60, w ∈ wsX6_readArgument := by decide +kernel
  have b115 : ∀ (v3 : Int32) (v4 : Option Nat) (v5 : Int32) (T : LY) (M : CM) (K N : Nat) (H : Heap) (locs : List Loc) (ls : Array Slot), cH D kA A s.heap T M H locs → lv_has ls 6 [(3, .int v3), (4, va_rf v4), (5, .int v5)] → fc_X6_readArgument_b115 nm mc ms h Q  v3 v4 v5 T M K N → W p l e (headSpec wsX6_readArgument (rmX6_readArgument mc ms)).room s m args below meth c H locs K N (MQ below (va_Qq (fun r (u : LY × CM) => Q r u.1 u.2) (cBT D kA A) A) args s mc ms A) (F0 m 115 ls []) := by
    intro   v3 v4 v5 T M K N H locs ls hH hl hw
    unfold fc_X6_readArgument_b115 at hw
    obtain ⟨h4, hw⟩ := hw
    obtain ⟨h5, hw⟩ := hw
    refine cnew_0 hx hb hts hin0 hown (hts (.classLink RX6 68 RX0) (by decide +kernel)) (hts (.instantiable RX0 3) (by decide +kernel)) (hts (.initialized RX0) (by decide +kernel)) hK hH hA h4 h5 dX6_readArgument_115 (fun q1 H zq1 hH => ?_)
    obtain ⟨T2, eT2⟩ : ∃ z, z = mkT T 1 0 q1 := ⟨_, rfl⟩
    obtain ⟨M3, eM3⟩ : ∃ z, z = mkM M q1 := ⟨_, rfl⟩
    replace hw := hw q1 T2 M3 zq1 eT2 eM3
    rw [← eT2, ← eM3] at hH
    refine lv_dup hx hb dX6_readArgument_118 rfl ?_
    refine s_aload hx hb dX6_readArgument_119 (lv_at hl 1 rfl) ?_
    refine lv_iload_n hx hb dX6_readArgument_121 rfl (lv_at hl 0 rfl) ?_
    refine lv_iload hx hb dX6_readArgument_122 (lv_at hl 2 rfl) ?_
    obtain ⟨h6, hw⟩ := hw
    obtain ⟨h10, hw⟩ := hw
    obtain ⟨h11, hw⟩ := hw
    refine c_callv (va_runI (As := [va_rf v4, .int v3, .int v5]) (rest := [.ref q1]) ⟨hx, hb, hml, hown, hts⟩ (tc_X0_init l D kA nm na sa sv H.size T2 q1 v4 v3 v5 M3 _ hw) (cwI 3 hts gX6_readArgument_X0_init rfl rfl rfl (hts (.initialized RX0) (by decide +kernel)) (hts (.methodLink RX6 109 yX0_init) (by decide +kernel)) (hts (.instanceMethod yX0_init) (by decide +kernel)) rfl (by decide +kernel) ⟨(show (1 : Nat) + 1 ≤ 8 from Nat.le_of_ble_eq_true rfl), (show 8 + (4 + 11) + (12 : Nat) ≤ 182 from Nat.le_of_ble_eq_true rfl)⟩) (c_preS hK hH hA hSt) rfl rfl hl.1 rfl (lv_room (by first | exact Nat.le_of_ble_eq_true rfl | simp [va_rf_cat, cat_ref, cat_int, cat_long, cat_double, cat_null])) dX6_readArgument_124 ⟨h10, h11⟩) hH hA (fun M7 H locs hw hH => ?_)
    exact c_retTq (v := (some q1)) hw.1 hw.2.1 hx hb hr (Or.inl ⟨_, rfl⟩) hlocks hK hH hw.2.2 dX6_readArgument_127
  have b91 : ∀ (v1 : Int32) (v3 : Int32) (v4 : Option Nat) (v5 : Int32) (T : LY) (M : CM) (K N : Nat) (H : Heap) (locs : List Loc) (ls : Array Slot), cH D kA A s.heap T M H locs → lv_has ls 6 [(0, .ref h), (1, .int v1), (3, .int v3), (4, va_rf v4), (5, .int v5)] → fc_X6_readArgument_b91 nm mc ms h Q  v1 v3 v4 v5 T M K N → W p l e (headSpec wsX6_readArgument (rmX6_readArgument mc ms)).room s m args below meth c H locs K N (MQ below (va_Qq (fun r (u : LY × CM) => Q r u.1 u.2) (cBT D kA A) A) args s mc ms A) (F0 m 91 ls []) := by
    intro   v1 v3 v4 v5 T M K N H locs ls hH hl hw
    unfold fc_X6_readArgument_b91 at hw
    refine lv_iload_n hx hb dX6_readArgument_91 rfl (lv_at hl 1 rfl) ?_
    refine lv_if_eq (tgt := 115) hx hb dX6_readArgument_92 (by decide) (fun c12 => ?_) (fun c12 => ?_)
    · replace hw := hw.1 c12
      exact b115   v3 v4 v5 T M K N H locs ls hH (lv_sub hl [2, 3, 4] rfl) hw
    · replace hw := hw.2 c12
      refine lv_iload_n hx hb dX6_readArgument_95 rfl (lv_at hl 2 rfl) ?_
      refine lv_if_ne (tgt := 115) hx hb dX6_readArgument_96 (by decide) (fun c13 => ?_) (fun c13 => ?_)
      · replace hw := hw.1 c13
        exact b115   v3 v4 v5 T M K N H locs ls hH (lv_sub hl [2, 3, 4] rfl) hw
      · replace hw := hw.2 c13
        refine lv_iload hx hb dX6_readArgument_99 (lv_at hl 4 rfl) ?_
        refine lv_if_ne (tgt := 115) hx hb dX6_readArgument_101 (by decide) (fun c14 => ?_) (fun c14 => ?_)
        · replace hw := hw.1 c14
          exact b115   v3 v4 v5 T M K N H locs ls hH (lv_sub hl [2, 3, 4] rfl) hw
        · replace hw := hw.2 c14
          refine lv_aload_n hx hb dX6_readArgument_104 rfl (lv_at hl 0 rfl) ?_
          refine lv_aload_n hx hb dX6_readArgument_105 rfl (lv_at hl 0 rfl) ?_
          obtain ⟨h15, hw⟩ := hw
          refine cg_64 hx hb hts hin6 hown hK hH h15 (hts (.fieldLink RX6 26 "IdlCaller$Reader" "at" "I") (by decide +kernel)) dX6_readArgument_106 ?_
          obtain ⟨h19, hw⟩ := hw
          obtain ⟨h20, hw⟩ := hw
          refine c_calli (va_runV (As := [.int (cI M 64 h)]) (rest := []) ⟨hx, hb, hml, hown, hts⟩ (tc_X6_failAt l D kA nm na sa sv H.size T h (cI M 64 h) M _ hw) (cwV 1 hts gX6_readArgument_X6_failAt rfl rfl rfl (by decide +kernel) ⟨(show (1 : Nat) + 1 ≤ 8 from Nat.le_of_ble_eq_true rfl), (show 8 + (2 + 11) + (21 : Nat) ≤ 182 from Nat.le_of_ble_eq_true rfl)⟩) (c_preV hK hH hA hSt (c_recv6 hK hH h15)) rfl rfl hl.1 rfl (lv_room (by first | exact Nat.le_of_ble_eq_true rfl | simp [va_rf_cat, cat_ref, cat_int, cat_long, cat_double, cat_null])) dX6_readArgument_109 ⟨h19, h20⟩) hH hA (fun r17 M16 H locs hw hH => ?_)
          refine lv_pop hx hb dX6_readArgument_112 rfl ?_
          refine lv_null hx hb dX6_readArgument_113 ?_
          exact c_retTq (v := none) hw.1 hw.2.1 hx hb hr (Or.inl ⟨_, rfl⟩) hlocks hK hH hw.2.2 dX6_readArgument_114
  have b89 : ∀ (T : LY) (M : CM) (K N : Nat) (H : Heap) (locs : List Loc) (ls : Array Slot), cH D kA A s.heap T M H locs → lv_has ls 6 [] → fc_X6_readArgument_b89 nm mc ms h Q   T M K N → W p l e (headSpec wsX6_readArgument (rmX6_readArgument mc ms)).room s m args below meth c H locs K N (MQ below (va_Qq (fun r (u : LY × CM) => Q r u.1 u.2) (cBT D kA A) A) args s mc ms A) (F0 m 89 ls []) := by
    intro    T M K N H locs ls hH hl hw
    unfold fc_X6_readArgument_b89 at hw
    refine lv_null hx hb dX6_readArgument_89 ?_
    exact c_retTq (v := none) hw.1 hw.2.1 hx hb hr (Or.inl ⟨_, rfl⟩) hlocks hK hH hw.2.2 dX6_readArgument_90
  have b64 : ∀ (v1 : Int32) (v3 : Int32) (v4 : Option Nat) (s0 : Int32) (T : LY) (M : CM) (K N : Nat) (H : Heap) (locs : List Loc) (ls : Array Slot), cH D kA A s.heap T M H locs → lv_has ls 6 [(0, .ref h), (1, .int v1), (3, .int v3), (4, va_rf v4)] → fc_X6_readArgument_b64 nm mc ms h Q  v1 v3 v4 s0 T M K N → W p l e (headSpec wsX6_readArgument (rmX6_readArgument mc ms)).room s m args below meth c H locs K N (MQ below (va_Qq (fun r (u : LY × CM) => Q r u.1 u.2) (cBT D kA A) A) args s mc ms A) (F0 m 64 ls [.int s0]) := by
    intro   v1 v3 v4 s0 T M K N H locs ls hH hl hw
    unfold fc_X6_readArgument_b64 at hw
    refine lv_istore (i := 5) (lv' := [(5, .int s0), (0, .ref h), (1, .int v1), (3, .int v3), (4, va_rf v4)]) hx hb dX6_readArgument_64 hl (by decide) (by first | rfl | simp [va_rf_cat, cat_ref, cat_int, cat_long, cat_double, cat_null]) (fun ls hl => ?_)
    refine lv_iload hx hb dX6_readArgument_66 (lv_at hl 0 rfl) ?_
    refine lv_if_eq (tgt := 91) hx hb dX6_readArgument_68 (by decide) (fun c21 => ?_) (fun c21 => ?_)
    · replace hw := hw.1 c21
      exact b91   v1 v3 v4 s0 T M K N H locs ls hH (lv_sub hl [1, 2, 3, 4, 0] rfl) hw
    · replace hw := hw.2 c21
      refine lv_aload_n hx hb dX6_readArgument_71 rfl (lv_at hl 1 rfl) ?_
      refine lv_bipush (v := 46) hx hb dX6_readArgument_72 (by decide) ?_
      obtain ⟨h22, hw⟩ := hw
      obtain ⟨h26, hw⟩ := hw
      obtain ⟨h27, hw⟩ := hw
      refine c_calli (va_runV (As := [.int 46]) (rest := []) ⟨hx, hb, hml, hown, hts⟩ (tc_X6_need l D kA nm na sa sv H.size T h 46 M _ hw) (cwV 1 hts gX6_readArgument_X6_need rfl rfl rfl (by decide +kernel) ⟨(show (2 : Nat) + 1 ≤ 8 from Nat.le_of_ble_eq_true rfl), (show 8 + (2 + 11) + (42 : Nat) ≤ 182 from Nat.le_of_ble_eq_true rfl)⟩) (c_preV hK hH hA hSt (c_recv6 hK hH h22)) rfl rfl hl.1 rfl (lv_room (by first | exact Nat.le_of_ble_eq_true rfl | simp [va_rf_cat, cat_ref, cat_int, cat_long, cat_double, cat_null])) dX6_readArgument_74 ⟨h26, h27⟩) hH hA (fun r24 M23 H locs hw hH => ?_)
      refine lv_if_eq (tgt := 89) hx hb dX6_readArgument_77 (by decide) (fun c28 => ?_) (fun c28 => ?_)
      · replace hw := hw.1 c28
        exact b89    T M23 K N H locs ls hH (lv_sub hl [] rfl) hw
      · replace hw := hw.2 c28
        refine lv_aload_n hx hb dX6_readArgument_80 rfl (lv_at hl 1 rfl) ?_
        refine lv_bipush (v := 46) hx hb dX6_readArgument_81 (by decide) ?_
        obtain ⟨h32, hw⟩ := hw
        obtain ⟨h33, hw⟩ := hw
        refine c_calli (va_runV (As := [.int 46]) (rest := []) ⟨hx, hb, hml, hown, hts⟩ (tc_X6_need l D kA nm na sa sv H.size T h 46 M23 _ hw) (cwV 1 hts gX6_readArgument_X6_need rfl rfl rfl (by decide +kernel) ⟨(show (2 : Nat) + 1 ≤ 8 from Nat.le_of_ble_eq_true rfl), (show 8 + (2 + 11) + (42 : Nat) ≤ 182 from Nat.le_of_ble_eq_true rfl)⟩) (c_preV hK hH hA hSt (c_recv6 hK hH h22)) rfl rfl hl.1 rfl (lv_room (by first | exact Nat.le_of_ble_eq_true rfl | simp [va_rf_cat, cat_ref, cat_int, cat_long, cat_double, cat_null])) dX6_readArgument_83 ⟨h32, h33⟩) hH hA (fun r30 M29 H locs hw hH => ?_)
        refine lv_if_ne (tgt := 91) hx hb dX6_readArgument_86 (by decide) (fun c34 => ?_) (fun c34 => ?_)
        · replace hw := hw.1 c34
          exact b91   v1 v3 v4 s0 T M29 K N H locs ls hH (lv_sub hl [1, 2, 3, 4, 0] rfl) hw
        · replace hw := hw.2 c34
          exact b89    T M29 K N H locs ls hH (lv_sub hl [] rfl) hw
  have b63 : ∀ (v1 : Int32) (v3 : Int32) (v4 : Option Nat) (T : LY) (M : CM) (K N : Nat) (H : Heap) (locs : List Loc) (ls : Array Slot), cH D kA A s.heap T M H locs → lv_has ls 6 [(0, .ref h), (1, .int v1), (3, .int v3), (4, va_rf v4)] → fc_X6_readArgument_b63 nm mc ms h Q  v1 v3 v4 T M K N → W p l e (headSpec wsX6_readArgument (rmX6_readArgument mc ms)).room s m args below meth c H locs K N (MQ below (va_Qq (fun r (u : LY × CM) => Q r u.1 u.2) (cBT D kA A) A) args s mc ms A) (F0 m 63 ls []) := by
    intro   v1 v3 v4 T M K N H locs ls hH hl hw
    unfold fc_X6_readArgument_b63 at hw
    refine lv_iconst (v := 0) hx hb dX6_readArgument_63 (by decide) ?_
    exact b64   v1 v3 v4 0 T M K N H locs ls hH (lv_sub hl [0, 1, 2, 3] rfl) hw
  have b33 : ∀ (v1 : Int32) (v3 : Int32) (T : LY) (M : CM) (K N : Nat) (H : Heap) (locs : List Loc) (ls : Array Slot), cH D kA A s.heap T M H locs → lv_has ls 6 [(0, .ref h), (1, .int v1), (3, .int v3)] → fc_X6_readArgument_b33 nm mc ms h Q  v1 v3 T M K N → W p l e (headSpec wsX6_readArgument (rmX6_readArgument mc ms)).room s m args below meth c H locs K N (MQ below (va_Qq (fun r (u : LY × CM) => Q r u.1 u.2) (cBT D kA A) A) args s mc ms A) (F0 m 33 ls []) := by
    intro   v1 v3 T M K N H locs ls hH hl hw
    unfold fc_X6_readArgument_b33 at hw
    refine lv_aload_n hx hb dX6_readArgument_33 rfl (lv_at hl 0 rfl) ?_
    obtain ⟨h35, hw⟩ := hw
    obtain ⟨cc39, nn40, hcc39, hnn40, hw⟩ := hw
    refine c_callTq (va_runV (As := []) (rest := []) ⟨hx, hb, hml, hown, hts⟩ (tc_X6_readType l D kA nm na sa sv H.size cc39 nn40 h T M _ hw) (cwV 0 hts gX6_readArgument_X6_readType rfl rfl rfl (by decide +kernel) ⟨(show (7 : Nat) + 1 ≤ 8 from Nat.le_of_ble_eq_true rfl), (show 8 + (7 + 11) + (156 : Nat) ≤ 182 from Nat.le_of_ble_eq_true rfl)⟩) (c_preV hK hH hA hSt (c_recv6 hK hH h35)) rfl rfl hl.1 rfl (lv_room (by first | exact Nat.le_of_ble_eq_true rfl | simp [va_rf_cat, cat_ref, cat_int, cat_long, cat_double, cat_null])) dX6_readArgument_34 ⟨hcc39, hnn40⟩) hH hA (fun r37 T38 M36 H locs hw hH => ?_)
    refine s_astore (i := 4) (lv' := [(4, va_rf r37), (0, .ref h), (1, .int v1), (3, .int v3)]) hx hb dX6_readArgument_37 hl (by decide) (by first | rfl | simp [va_rf_cat, cat_ref, cat_int, cat_long, cat_double, cat_null]) (fun ls hl => ?_)
    refine s_aload hx hb dX6_readArgument_39 (lv_at hl 0 rfl) ?_
    refine s_ifnonnull (tgt := 46) hx hb dX6_readArgument_41 (by decide) (fun c41 => ?_) (fun c41 => ?_)
    · replace hw := hw.1 c41
      refine lv_iload_n hx hb dX6_readArgument_46 rfl (lv_at hl 3 rfl) ?_
      refine lv_if_ne (tgt := 63) hx hb dX6_readArgument_47 (by decide) (fun c42 => ?_) (fun c42 => ?_)
      · replace hw := hw.1 c42
        exact b63   v1 v3 r37 T38 M36 (K + cc39) (N + nn40) H locs ls hH (lv_sub hl [1, 2, 3, 0] rfl) hw
      · replace hw := hw.2 c42
        refine lv_aload_n hx hb dX6_readArgument_50 rfl (lv_at hl 1 rfl) ?_
        refine lv_bipush (v := 46) hx hb dX6_readArgument_51 (by decide) ?_
        obtain ⟨h43, hw⟩ := hw
        obtain ⟨h47, hw⟩ := hw
        obtain ⟨h48, hw⟩ := hw
        refine c_calli (va_runV (As := [.int 46]) (rest := []) ⟨hx, hb, hml, hown, hts⟩ (tc_X6_take l D kA nm na sa sv H.size T38 h 46 M36 _ hw) (cwV 1 hts gX6_readArgument_X6_take rfl rfl rfl (by decide +kernel) ⟨(show (1 : Nat) + 1 ≤ 8 from Nat.le_of_ble_eq_true rfl), (show 8 + (2 + 11) + (21 : Nat) ≤ 182 from Nat.le_of_ble_eq_true rfl)⟩) (c_preV hK hH hA hSt (c_recv6 hK hH h43)) rfl rfl hl.1 rfl (lv_room (by first | exact Nat.le_of_ble_eq_true rfl | simp [va_rf_cat, cat_ref, cat_int, cat_long, cat_double, cat_null])) dX6_readArgument_53 ⟨h47, h48⟩) hH hA (fun r45 M44 H locs hw hH => ?_)
        refine lv_if_eq (tgt := 63) hx hb dX6_readArgument_56 (by decide) (fun c49 => ?_) (fun c49 => ?_)
        · replace hw := hw.1 c49
          exact b63   v1 v3 r37 T38 M44 (K + cc39) (N + nn40) H locs ls hH (lv_sub hl [1, 2, 3, 0] rfl) hw
        · replace hw := hw.2 c49
          refine lv_iconst (v := 1) hx hb dX6_readArgument_59 (by decide) ?_
          refine lv_goto (tgt := 64) hx hb dX6_readArgument_60 (by decide) ?_
          exact b64   v1 v3 r37 1 T38 M44 (K + cc39) (N + nn40) H locs ls hH (lv_sub hl [1, 2, 3, 0] rfl) hw
    · replace hw := hw.2 c41
      refine lv_null hx hb dX6_readArgument_44 ?_
      exact c_retTq (v := none) hw.1 hw.2.1 hx hb hr (Or.inl ⟨_, rfl⟩) hlocks hK hH hw.2.2 dX6_readArgument_45
  have b23 : ∀ (v1 : Int32) (v2 : Int32) (s0 : Int32) (T : LY) (M : CM) (K N : Nat) (H : Heap) (locs : List Loc) (ls : Array Slot), cH D kA A s.heap T M H locs → lv_has ls 6 [(0, .ref h), (1, .int v1), (2, .int v2)] → fc_X6_readArgument_b23 nm mc ms h Q  v1 v2 s0 T M K N → W p l e (headSpec wsX6_readArgument (rmX6_readArgument mc ms)).room s m args below meth c H locs K N (MQ below (va_Qq (fun r (u : LY × CM) => Q r u.1 u.2) (cBT D kA A) A) args s mc ms A) (F0 m 23 ls [.int s0]) := by
    intro   v1 v2 s0 T M K N H locs ls hH hl hw
    unfold fc_X6_readArgument_b23 at hw
    refine lv_istore_n (i := 3) (lv' := [(3, .int s0), (0, .ref h), (1, .int v1), (2, .int v2)]) hx hb dX6_readArgument_23 rfl hl (by decide) rfl (fun ls hl => ?_)
    refine lv_iload_n hx hb dX6_readArgument_24 rfl (lv_at hl 0 rfl) ?_
    refine lv_if_ne (tgt := 33) hx hb dX6_readArgument_25 (by decide) (fun c50 => ?_) (fun c50 => ?_)
    · replace hw := hw.1 c50
      exact b33   v1 s0 T M K N H locs ls hH (lv_sub hl [1, 2, 0] rfl) hw
    · replace hw := hw.2 c50
      refine lv_aload_n hx hb dX6_readArgument_28 rfl (lv_at hl 1 rfl) ?_
      refine lv_iload_n hx hb dX6_readArgument_29 rfl (lv_at hl 3 rfl) ?_
      obtain ⟨h51, hw⟩ := hw
      refine cp_64 (x := v2) hx hb hts hin6 hown hK hH h51 (hts (.fieldLink RX6 26 "IdlCaller$Reader" "at" "I") (by decide +kernel)) dX6_readArgument_30 (fun M52 H locs eM52 hH => ?_)
      replace hw := hw M52 eM52
      exact b33   v1 s0 T M52 K N H locs ls hH (lv_sub hl [1, 2, 0] rfl) hw
  clear hP
  unfold fc_X6_readArgument at hw
  have hst : ∀ (T : LY) (M : CM) (H : Heap) (locs : List Loc) (ls : Array Slot), cH D kA A s.heap T M H locs → lv_has ls 6 [(0, .ref h), (1, .int a1)] → (tg T h = 7 ∧ (∀ x54 : Int32, x54 = cI M 64 h → (0 ≤ mc ∧ (0 ≤ ms ∧ fc_X6_readWord T h M (fun (r56 : Int64) (M55 : CM) => (0 ≤ mc ∧ (0 ≤ ms ∧ fc_X7_codeOf T 10 M55 (fun (r61 : Int64) (M60 : CM) => ((¬ (lg_cmp r56 r61) = 0 → fc_X6_readArgument_b23 nm mc ms h Q  a1 x54 0 T M60 0 0) ∧ ((lg_cmp r56 r61) = 0 → fc_X6_readArgument_b23 nm mc ms h Q  a1 x54 1 T M60 0 0)))))))))) → W p l e (headSpec wsX6_readArgument (rmX6_readArgument mc ms)).room s m args below meth c H locs 0 0 (MQ below (va_Qq (fun r (u : LY × CM) => Q r u.1 u.2) (cBT D kA A) A) args s mc ms A) (F0 m 0 ls []) := by
    intro T M H locs ls hH hl hw
    refine lv_aload_n hx hb dX6_readArgument_0 rfl (lv_at hl 0 rfl) ?_
    obtain ⟨h53, hw⟩ := hw
    refine cg_64 hx hb hts hin6 hown hK hH h53 (hts (.fieldLink RX6 26 "IdlCaller$Reader" "at" "I") (by decide +kernel)) dX6_readArgument_1 ?_
    refine lv_topi (fun x54 ex54 => ?_)
    replace hw := hw x54 ex54
    refine lv_istore_n (i := 2) (lv' := [(2, .int x54), (0, .ref h), (1, .int a1)]) hx hb dX6_readArgument_4 rfl hl (by decide) rfl (fun ls hl => ?_)
    refine lv_aload_n hx hb dX6_readArgument_5 rfl (lv_at hl 1 rfl) ?_
    obtain ⟨h58, hw⟩ := hw
    obtain ⟨h59, hw⟩ := hw
    refine c_calll (va_runV (As := []) (rest := []) ⟨hx, hb, hml, hown, hts⟩ (tc_X6_readWord l D kA nm na sa sv H.size T h M _ hw) (cwV 0 hts gX6_readArgument_X6_readWord rfl rfl rfl (by decide +kernel) ⟨(show (1 : Nat) + 1 ≤ 8 from Nat.le_of_ble_eq_true rfl), (show 8 + (5 + 11) + (22 : Nat) ≤ 182 from Nat.le_of_ble_eq_true rfl)⟩) (c_preV hK hH hA hSt (c_recv6 hK hH h53)) rfl rfl hl.1 rfl (lv_room (by first | exact Nat.le_of_ble_eq_true rfl | simp [va_rf_cat, cat_ref, cat_int, cat_long, cat_double, cat_null])) dX6_readArgument_6 ⟨h58, h59⟩) hH hA (fun r56 M55 H locs hw hH => ?_)
    refine cs_ldc10 hx hb hown hSt dX6_readArgument_9 ?_
    obtain ⟨h63, hw⟩ := hw
    obtain ⟨h64, hw⟩ := hw
    refine c_calll (va_runS (As := [.ref (sa 10)]) (rest := [.long r56]) ⟨hx, hb, hml, hown, hts⟩ (tc_X7_codeOf l D kA nm na sa sv H.size T 10 M55 _ hw) (va_cwS 1 hts gX6_readArgument_X7_codeOf rfl rfl rfl (by decide +kernel) ⟨(show (4 : Nat) + 1 ≤ 8 from Nat.le_of_ble_eq_true rfl), (show 8 + (4 + 11) + (85 : Nat) ≤ 182 from Nat.le_of_ble_eq_true rfl)⟩) (c_preS hK hH hA hSt) rfl rfl hl.1 rfl (lv_room (by first | exact Nat.le_of_ble_eq_true rfl | simp [va_rf_cat, cat_ref, cat_int, cat_long, cat_double, cat_null])) dX6_readArgument_11 ⟨h63, h64⟩) hH hA (fun r61 M60 H locs hw hH => ?_)
    refine W.lcmp hx hb dX6_readArgument_14 ?_
    refine lv_if_ne (tgt := 22) hx hb dX6_readArgument_15 (by decide) (fun c65 => ?_) (fun c65 => ?_)
    · replace hw := hw.1 c65
      refine lv_iconst (v := 0) hx hb dX6_readArgument_22 (by decide) ?_
      exact b23   a1 x54 0 T M60 0 0 H locs ls hH (lv_sub hl [1, 2, 0] rfl) hw
    · replace hw := hw.2 c65
      refine lv_iconst (v := 1) hx hb dX6_readArgument_18 (by decide) ?_
      refine lv_goto (tgt := 23) hx hb dX6_readArgument_19 (by decide) ?_
      exact b23   a1 x54 1 T M60 0 0 H locs ls hH (lv_sub hl [1, 2, 0] rfl) hw
  exact hst T M s.heap [] ls hH hl hw
