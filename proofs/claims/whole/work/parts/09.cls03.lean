def fc_X0_init (T : LY) (h : Nat)  (a1 : Option Nat) (a2 : Int32) (a3 : Int32) (M : CM) (Q : CM → Prop) : Prop := (tg T h = 1 ∧ (∀ M2 : CM, M2 = sR M 0 h a1 → (nZ a2 ∧ (∀ M4 : CM, M4 = sI M2 1 h a2 → (nZ a3 ∧ (∀ M6 : CM, M6 = sI M4 2 h a3 → Q M6))))))
abbrev rmX0_init : Room := { frames := 1, cells := 0, slots := 0, locals := 12 }
set_option maxHeartbeats 4000000 in
set_option maxRecDepth 100000 in
theorem tc_X0_init (l : Launch) (D : va_G) (kA : Nat → ClassId) (nm : Nat → Nat) (na : Nat) (sa sv : Nat → Nat) (sz : Nat) (T : LY) (h : Nat) (a1 : Option Nat) (a2 : Int32) (a3 : Int32) (M : CM) (Q : CM → Prop) (hw : fc_X0_init T h a1 a2 a3 M Q) : Met l yX0_init wsX0_init rmX0_init (va_Pc [.ref h, va_rf a1, .int a2, .int a3] (cPc nm na sa sv D kA T M sz)) (va_Qv Q (cB D kA (cF T sz) T) (cF T sz)) 0 0 (cF T sz) := by
  refine Met.ofW (cc := cX0_init) (maxL := 4) (ret := none) (by decide) rfl ?_
  intro p e s m args below meth c s₁ B hml hv
  obtain ⟨rfl, hsz, hP, hK, hSt⟩ := hv
  have hx := B.exec
  have hb := B.bytes
  have hr := B.returns
  have hts := atoms_spec (ws := wsX0_init) B.pre
  have hown : s.vm.findClass RX0 = some m.cls := findClass_of_methodNamed B.named
  have hlocks : meth.locks = false := B.notSynchronized
  have hini : meth.name = "<init>" := (name_of_methodNamed B.named B.method).1
  subst hsz
  have hH : cH D kA (cF T s.heap.size) s.heap T M s.heap [] := ⟨hP.self, va_S.rf⟩
  have hA : ∀ q : Nat, s.heap.size ≤ q → cF T s.heap.size q := fun q z => Or.inr z
  generalize cF T s.heap.size = A at hH hA hSt ⊢
  have hl := lv_entry ([.ref h, va_rf a1, .int a2, .int a3]) (n := 4) (by first | exact Nat.le_of_ble_eq_true rfl | simp [lg_sl, va_rf_cat, cat_ref, cat_int, cat_long, cat_double])
  rw [lg_entry_eq]
  generalize (lg_sl ([.ref h, va_rf a1, .int a2, .int a3]) ++ List.replicate (4 - (lg_sl ([.ref h, va_rf a1, .int a2, .int a3])).length) Slot.unset).toArray = ls at hl ⊢
  generalize ([.ref h, va_rf a1, .int a2, .int a3] : List Value).toArray = args at hts ⊢
  have hl : lv_has ls 4 [(0, .ref h), (1, va_rf a1), (2, .int a2), (3, .int a3)] := by simpa [lv_args, va_rf_cat, cat_ref, cat_int, cat_long, cat_double] using hl
  have hin0 : ∀ w ∈ wsX00, w ∈ wsX0_init := by decide +kernel
  clear hP
  unfold fc_X0_init at hw
  have hst : ∀ (M : CM) (H : Heap) (locs : List Loc) (ls : Array Slot), cH D kA A s.heap T M H locs → lv_has ls 4 [(0, .ref h), (1, va_rf a1), (2, .int a2), (3, .int a3)] → (tg T h = 1 ∧ (∀ M2 : CM, M2 = sR M 0 h a1 → (nZ a2 ∧ (∀ M4 : CM, M4 = sI M2 1 h a2 → (nZ a3 ∧ (∀ M6 : CM, M6 = sI M4 2 h a3 → Q M6)))))) → W p l e (headSpec wsX0_init rmX0_init).room s m args below meth c H locs 0 0 (MQ below (va_Qv Q (cB D kA A T) A) args s 0 0 A) (F0 m 0 ls []) := by
    intro M H locs ls hH hl hw
    refine lv_aload_n hx hb dX0_init_0 rfl (lv_at hl 0 rfl) ?_
    refine W.objInit hx hb hown (hts (.methodLink RX0 1 objectInit) (by decide +kernel)) (hts (.instanceMethod objectInit) (by decide +kernel)) (hts (.code objectInit ⟨#[0xb1]⟩ 1 none) (by decide +kernel)) rfl (by rw [hml]; exact hl.1) rfl dX0_init_1 ((show _ ≤ (1 : Nat) from by first | exact Nat.le_of_ble_eq_true rfl | simp [va_rf_cat, cat_ref, cat_int, cat_long, cat_double, cat_null])) ((show _ ≤ (12 : Nat) from by first | exact Nat.le_of_ble_eq_true rfl | simp [va_rf_cat, cat_ref, cat_int, cat_long, cat_double, cat_null])) ?_
    refine W.eq (g2 := F0 m 4 ls []) rfl ?_
    refine lv_aload_n hx hb dX0_init_4 rfl (lv_at hl 0 rfl) ?_
    refine s_aload_n hx hb dX0_init_5 rfl (lv_at hl 1 rfl) ?_
    obtain ⟨h1, hw⟩ := hw
    refine cp_0 (x := a1) hx hb hts hin0 hown hK hH h1 rfl hini (hts (.fieldLink RX0 7 "IdlCaller$Argument" "type" "LIdlCaller$Type;") (by decide +kernel)) dX0_init_6 (fun M2 H locs eM2 hH => ?_)
    replace hw := hw M2 eM2
    refine lv_aload_n hx hb dX0_init_9 rfl (lv_at hl 0 rfl) ?_
    refine lv_iload_n hx hb dX0_init_10 rfl (lv_at hl 2 rfl) ?_
    obtain ⟨h3, hw⟩ := hw
    refine cp_1 (x := a2) hx hb hts hin0 hown hK hH h1 rfl hini (hts (.fieldLink RX0 13 "IdlCaller$Argument" "optional" "Z") (by decide +kernel)) h3 dX0_init_11 (fun M4 H locs eM4 hH => ?_)
    replace hw := hw M4 eM4
    refine lv_aload_n hx hb dX0_init_14 rfl (lv_at hl 0 rfl) ?_
    refine lv_iload_n hx hb dX0_init_15 rfl (lv_at hl 3 rfl) ?_
    obtain ⟨h5, hw⟩ := hw
    refine cp_2 (x := a3) hx hb hts hin0 hown hK hH h1 rfl hini (hts (.fieldLink RX0 17 "IdlCaller$Argument" "variadic" "Z") (by decide +kernel)) h5 dX0_init_16 (fun M6 H locs eM6 hH => ?_)
    replace hw := hw M6 eM6
    exact c_retv hx hb hr hlocks hK hH hw dX0_init_19
  exact hst M s.heap [] ls hH hl hw
def fc_X0_canBeMissing_b19 (T : LY) (h : Nat) (Q : Int32 → CM → Prop) (s0 : Int32) (M : CM) : Prop := (nZ s0 ∧ Q s0 M)
def fc_X0_canBeMissing_b14 (T : LY) (h : Nat) (Q : Int32 → CM → Prop) (M : CM) : Prop := fc_X0_canBeMissing_b19 T h Q  1 M
def fc_X0_canBeMissing (T : LY) (h : Nat)  (M : CM) (Q : Int32 → CM → Prop) : Prop := (tg T h = 1 ∧ ((¬ (cI M 1 h) = 0 → fc_X0_canBeMissing_b14 T h Q   M) ∧ ((cI M 1 h) = 0 → (((cI M 2 h) = 0 → fc_X0_canBeMissing_b19 T h Q  0 M) ∧ (¬ (cI M 2 h) = 0 → fc_X0_canBeMissing_b14 T h Q   M)))))
abbrev rmX0_canBeMissing : Room := { frames := 0, cells := 0, slots := 0, locals := 0 }
set_option maxHeartbeats 4000000 in
set_option maxRecDepth 100000 in
theorem tc_X0_canBeMissing (l : Launch) (D : va_G) (kA : Nat → ClassId) (nm : Nat → Nat) (na : Nat) (sa sv : Nat → Nat) (sz : Nat) (T : LY) (h : Nat) (M : CM) (Q : Int32 → CM → Prop) (hw : fc_X0_canBeMissing T h  M Q) : Met l yX0_canBeMissing wsX0_canBeMissing rmX0_canBeMissing (va_Pc [.ref h] (cPc nm na sa sv D kA T M sz)) (va_Qi Q (cB D kA (cF T sz) T) (cF T sz)) 0 0 (cF T sz) := by
  refine Met.ofW (cc := cX0_canBeMissing) (maxL := 1) (ret := (some .boolean)) (by decide) rfl ?_
  intro p e s m args below meth c s₁ B hml hv
  obtain ⟨rfl, hsz, hP, hK, hSt⟩ := hv
  have hx := B.exec
  have hb := B.bytes
  have hr := B.returns
  have hts := atoms_spec (ws := wsX0_canBeMissing) B.pre
  have hown : s.vm.findClass RX0 = some m.cls := findClass_of_methodNamed B.named
  have hlocks : meth.locks = false := B.notSynchronized
  subst hsz
  have hH : cH D kA (cF T s.heap.size) s.heap T M s.heap [] := ⟨hP.self, va_S.rf⟩
  have hA : ∀ q : Nat, s.heap.size ≤ q → cF T s.heap.size q := fun q z => Or.inr z
  generalize cF T s.heap.size = A at hH hA hSt ⊢
  have hl := lv_entry ([.ref h]) (n := 1) (by first | exact Nat.le_of_ble_eq_true rfl | simp [lg_sl, va_rf_cat, cat_ref, cat_int, cat_long, cat_double])
  rw [lg_entry_eq]
  generalize (lg_sl ([.ref h]) ++ List.replicate (1 - (lg_sl ([.ref h])).length) Slot.unset).toArray = ls at hl ⊢
  generalize ([.ref h] : List Value).toArray = args at hts ⊢
  have hl : lv_has ls 1 [(0, .ref h)] := hl
  have hin0 : ∀ w ∈ wsX00, w ∈ wsX0_canBeMissing := by decide +kernel
  have b19 : ∀ (s0 : Int32) (M : CM) (H : Heap) (locs : List Loc) (ls : Array Slot), cH D kA A s.heap T M H locs → lv_has ls 1 [] → fc_X0_canBeMissing_b19 T h Q  s0 M → W p l e (headSpec wsX0_canBeMissing rmX0_canBeMissing).room s m args below meth c H locs 0 0 (MQ below (va_Qi Q (cB D kA A T) A) args s 0 0 A) (F0 m 19 ls [.int s0]) := by
    intro   s0 M H locs ls hH hl hw
    unfold fc_X0_canBeMissing_b19 at hw
    exact c_retz hx hb hr hw.1.1 hlocks hK hH hw.2 dX0_canBeMissing_19
  have b14 : ∀ (M : CM) (H : Heap) (locs : List Loc) (ls : Array Slot), cH D kA A s.heap T M H locs → lv_has ls 1 [] → fc_X0_canBeMissing_b14 T h Q   M → W p l e (headSpec wsX0_canBeMissing rmX0_canBeMissing).room s m args below meth c H locs 0 0 (MQ below (va_Qi Q (cB D kA A T) A) args s 0 0 A) (F0 m 14 ls []) := by
    intro    M H locs ls hH hl hw
    unfold fc_X0_canBeMissing_b14 at hw
    refine lv_iconst (v := 1) hx hb dX0_canBeMissing_14 (by decide) ?_
    refine lv_goto (tgt := 19) hx hb dX0_canBeMissing_15 (by decide) ?_
    exact b19   1 M H locs ls hH (lv_sub hl [] rfl) hw
  clear hP
  unfold fc_X0_canBeMissing at hw
  have hst : ∀ (M : CM) (H : Heap) (locs : List Loc) (ls : Array Slot), cH D kA A s.heap T M H locs → lv_has ls 1 [(0, .ref h)] → (tg T h = 1 ∧ ((¬ (cI M 1 h) = 0 → fc_X0_canBeMissing_b14 T h Q   M) ∧ ((cI M 1 h) = 0 → (((cI M 2 h) = 0 → fc_X0_canBeMissing_b19 T h Q  0 M) ∧ (¬ (cI M 2 h) = 0 → fc_X0_canBeMissing_b14 T h Q   M))))) → W p l e (headSpec wsX0_canBeMissing rmX0_canBeMissing).room s m args below meth c H locs 0 0 (MQ below (va_Qi Q (cB D kA A T) A) args s 0 0 A) (F0 m 0 ls []) := by
    intro M H locs ls hH hl hw
    refine lv_aload_n hx hb dX0_canBeMissing_0 rfl (lv_at hl 0 rfl) ?_
    obtain ⟨h1, hw⟩ := hw
    refine cg_1 hx hb hts hin0 hown hK hH h1 (hts (.fieldLink RX0 13 "IdlCaller$Argument" "optional" "Z") (by decide +kernel)) dX0_canBeMissing_1 ?_
    refine lv_if_ne (tgt := 14) hx hb dX0_canBeMissing_4 (by decide) (fun c2 => ?_) (fun c2 => ?_)
    · replace hw := hw.1 c2
      exact b14    M H locs ls hH (lv_sub hl [] rfl) hw
    · replace hw := hw.2 c2
      refine lv_aload_n hx hb dX0_canBeMissing_7 rfl (lv_at hl 0 rfl) ?_
      refine cg_2 hx hb hts hin0 hown hK hH h1 (hts (.fieldLink RX0 17 "IdlCaller$Argument" "variadic" "Z") (by decide +kernel)) dX0_canBeMissing_8 ?_
      refine lv_if_eq (tgt := 18) hx hb dX0_canBeMissing_11 (by decide) (fun c3 => ?_) (fun c3 => ?_)
      · replace hw := hw.1 c3
        refine lv_iconst (v := 0) hx hb dX0_canBeMissing_18 (by decide) ?_
        exact b19   0 M H locs ls hH (lv_sub hl [] rfl) hw
      · replace hw := hw.2 c3
        exact b14    M H locs ls hH (lv_sub hl [] rfl) hw
  exact hst M s.heap [] ls hH hl hw
def fc_X9_hasSameWords_b93 (T : LY) (h : Nat) (Q : Int32 → CM → Prop) (M : CM) : Prop := Q 1 M
def fc_X9_hasSameWords_c51 (T : LY) (h : Nat) (Q : Int32 → CM → Prop) (k51 : Option Nat → Int32 → CM → Prop) (v1 : Option Nat) (v2 : Int32) (M : CM) : Prop := (tg T h = 10 ∧ (∃ p2 : Nat, cR M 93 h = some p2 ∧ (tg T p2 = 23 ∧ (((nI (ln T p2)) ≤ v2 → fc_X9_hasSameWords_b93 T h Q   M) ∧ (¬ (nI (ln T p2)) ≤ v2 → (∃ p5 : Nat, v1 = some p5 ∧ (tg T p5 = 10 ∧ (∃ p7 : Nat, cR M 93 p5 = some p7 ∧ (tg T p7 = 23 ∧ (((nI (ln T p7)) ≤ v2 → fc_X9_hasSameWords_b93 T h Q   M) ∧ (¬ (nI (ln T p7)) ≤ v2 → (vp_in v2 (ln T p2) ∧ (vp_in v2 (ln T p7) ∧ (((lg_cmp (xJ M p2 v2.toNatClampNeg) (xJ M p7 v2.toNatClampNeg)) = 0 → (∀ x13 : Int32, x13 = v2 + 1 → k51 v1 x13 M)) ∧ (¬ (lg_cmp (xJ M p2 v2.toNatClampNeg) (xJ M p7 v2.toNatClampNeg)) = 0 → Q 0 M)))))))))))))))
def fc_X9_hasSameWords_l51 (T : LY) (h : Nat) (Q : Int32 → CM → Prop) : Nat → Option Nat → Int32 → CM → Prop := lit (τ := Option Nat → Int32 → CM → Prop) (fun _ _ _ => False) (fun k => fc_X9_hasSameWords_c51 T h Q  k)
def fc_X9_hasSameWords_b33 (T : LY) (h : Nat) (Q : Int32 → CM → Prop) (s0 : Int32) (M : CM) : Prop := (nZ s0 ∧ Q s0 M)
def fc_X9_hasSameWords_b32 (T : LY) (h : Nat) (Q : Int32 → CM → Prop) (M : CM) : Prop := fc_X9_hasSameWords_b33 T h Q  0 M
def fc_X9_hasSameWords_b14 (T : LY) (h : Nat) (Q : Int32 → CM → Prop) (v1 : Option Nat) (M : CM) : Prop := (tg T h = 10 ∧ ((¬ (cR M 93 h) = none → fc_X9_hasSameWords_b32 T h Q   M) ∧ ((cR M 93 h) = none → (∃ p16 : Nat, v1 = some p16 ∧ (tg T p16 = 10 ∧ ((¬ (cR M 93 p16) = none → fc_X9_hasSameWords_b32 T h Q   M) ∧ ((cR M 93 p16) = none → fc_X9_hasSameWords_b33 T h Q  1 M)))))))
def fc_X9_hasSameWords (T : LY) (h : Nat)  (a1 : Option Nat) (M : CM) (Q : Int32 → CM → Prop) : Prop := (tg T h = 10 ∧ (((cR M 93 h) = none → fc_X9_hasSameWords_b14 T h Q  a1 M) ∧ (¬ (cR M 93 h) = none → (∃ p21 : Nat, a1 = some p21 ∧ (tg T p21 = 10 ∧ ((¬ (cR M 93 p21) = none → (∃ p24 : Nat, cR M 93 h = some p24 ∧ (tg T p24 = 23 ∧ (∃ p26 : Nat, cR M 93 p21 = some p26 ∧ (tg T p26 = 23 ∧ (((nI (ln T p24)) = (nI (ln T p26)) → (∃ nn : Nat, fc_X9_hasSameWords_l51 T h Q  nn a1 0 M)) ∧ (¬ (nI (ln T p24)) = (nI (ln T p26)) → Q 0 M))))))) ∧ ((cR M 93 p21) = none → fc_X9_hasSameWords_b14 T h Q  a1 M)))))))
abbrev rmX9_hasSameWords : Room := { frames := 0, cells := 0, slots := 0, locals := 0 }
set_option maxHeartbeats 4000000 in
set_option maxRecDepth 100000 in
theorem tc_X9_hasSameWords (l : Launch) (D : va_G) (kA : Nat → ClassId) (nm : Nat → Nat) (na : Nat) (sa sv : Nat → Nat) (sz : Nat) (T : LY) (h : Nat) (a1 : Option Nat) (M : CM) (Q : Int32 → CM → Prop) (hw : fc_X9_hasSameWords T h a1 M Q) : Met l yX9_hasSameWords wsX9_hasSameWords rmX9_hasSameWords (va_Pc [.ref h, va_rf a1] (cPc nm na sa sv D kA T M sz)) (va_Qi Q (cB D kA (cF T sz) T) (cF T sz)) 0 0 (cF T sz) := by
  refine Met.ofW (cc := cX9_hasSameWords) (maxL := 3) (ret := (some .boolean)) (by decide) rfl ?_
  intro p e s m args below meth c s₁ B hml hv
  obtain ⟨rfl, hsz, hP, hK, hSt⟩ := hv
  have hx := B.exec
  have hb := B.bytes
  have hr := B.returns
  have hts := atoms_spec (ws := wsX9_hasSameWords) B.pre
  have hown : s.vm.findClass RX9 = some m.cls := findClass_of_methodNamed B.named
  have hlocks : meth.locks = false := B.notSynchronized
  subst hsz
  have hH : cH D kA (cF T s.heap.size) s.heap T M s.heap [] := ⟨hP.self, va_S.rf⟩
  have hA : ∀ q : Nat, s.heap.size ≤ q → cF T s.heap.size q := fun q z => Or.inr z
  generalize cF T s.heap.size = A at hH hA hSt ⊢
  have hl := lv_entry ([.ref h, va_rf a1]) (n := 3) (by first | exact Nat.le_of_ble_eq_true rfl | simp [lg_sl, va_rf_cat, cat_ref, cat_int, cat_long, cat_double])
  rw [lg_entry_eq]
  generalize (lg_sl ([.ref h, va_rf a1]) ++ List.replicate (3 - (lg_sl ([.ref h, va_rf a1])).length) Slot.unset).toArray = ls at hl ⊢
  generalize ([.ref h, va_rf a1] : List Value).toArray = args at hts ⊢
  have hl : lv_has ls 3 [(0, .ref h), (1, va_rf a1)] := by simpa [lv_args, va_rf_cat, cat_ref, cat_int, cat_long, cat_double] using hl
  have hin9 : ∀ w ∈ wsX90, w ∈ wsX9_hasSameWords := by decide +kernel
  have b93 : ∀ (M : CM) (H : Heap) (locs : List Loc) (ls : Array Slot), cH D kA A s.heap T M H locs → lv_has ls 3 [] → fc_X9_hasSameWords_b93 T h Q   M → W p l e (headSpec wsX9_hasSameWords rmX9_hasSameWords).room s m args below meth c H locs 0 0 (MQ below (va_Qi Q (cB D kA A T) A) args s 0 0 A) (F0 m 93 ls []) := by
    intro    M H locs ls hH hl hw
    unfold fc_X9_hasSameWords_b93 at hw
    refine lv_iconst (v := 1) hx hb dX9_hasSameWords_93 (by decide) ?_
    exact c_retz hx hb hr rfl hlocks hK hH hw dX9_hasSameWords_94
  have l51 : ∀ (nn : Nat) (v1 : Option Nat) (v2 : Int32) (M : CM) (H : Heap) (locs : List Loc) (ls : Array Slot), cH D kA A s.heap T M H locs → lv_has ls 3 [(0, .ref h), (1, va_rf v1), (2, .int v2)] → fc_X9_hasSameWords_l51 T h Q  nn v1 v2 M → W p l e (headSpec wsX9_hasSameWords rmX9_hasSameWords).room s m args below meth c H locs 0 0 (MQ below (va_Qi Q (cB D kA A T) A) args s 0 0 A) (F0 m 51 ls []) := by
    intro   nn
    induction nn with
    | zero => intro v1 v2 M H locs ls hH hl hw; exact False.elim hw
    | succ nn hk51 =>
      intro v1 v2 M H locs ls hH hl hw
      replace hw : fc_X9_hasSameWords_c51 T h Q  (fc_X9_hasSameWords_l51 T h Q  nn) v1 v2 M := hw
      unfold fc_X9_hasSameWords_c51 at hw
      refine lv_iload_n hx hb dX9_hasSameWords_51 rfl (lv_at hl 2 rfl) ?_
      refine lv_aload_n hx hb dX9_hasSameWords_52 rfl (lv_at hl 0 rfl) ?_
      obtain ⟨h1, hw⟩ := hw
      refine cg_93 hx hb hts hin9 hown hK hH h1 (hts (.fieldLink RX9 23 "IdlCaller$Type" "words" "[J") (by decide +kernel)) dX9_hasSameWords_53 ?_
      obtain ⟨p2, ep2, hw⟩ := hw
      refine W.st (st' := [.ref p2, .int v2]) (by rw [ep2]; rfl) ?_
      obtain ⟨h3, hw⟩ := hw
      refine cn_3 hx hb hK hH h3 dX9_hasSameWords_56 ?_
      refine lv_icmp_ge (tgt := 93) hx hb dX9_hasSameWords_57 (by decide) (fun c4 => ?_) (fun c4 => ?_)
      · replace hw := hw.1 c4
        exact b93    M H locs ls hH (lv_sub hl [] rfl) hw
      · replace hw := hw.2 c4
        refine lv_iload_n hx hb dX9_hasSameWords_60 rfl (lv_at hl 2 rfl) ?_
        refine s_aload_n hx hb dX9_hasSameWords_61 rfl (lv_at hl 1 rfl) ?_
        obtain ⟨p5, ep5, hw⟩ := hw
        refine W.st (st' := [.ref p5, .int v2]) (by rw [ep5]; rfl) ?_
        obtain ⟨h6, hw⟩ := hw
        refine cg_93 hx hb hts hin9 hown hK hH h6 (hts (.fieldLink RX9 23 "IdlCaller$Type" "words" "[J") (by decide +kernel)) dX9_hasSameWords_62 ?_
        obtain ⟨p7, ep7, hw⟩ := hw
        refine W.st (st' := [.ref p7, .int v2]) (by rw [ep7]; rfl) ?_
        obtain ⟨h8, hw⟩ := hw
        refine cn_3 hx hb hK hH h8 dX9_hasSameWords_65 ?_
        refine lv_icmp_ge (tgt := 93) hx hb dX9_hasSameWords_66 (by decide) (fun c9 => ?_) (fun c9 => ?_)
        · replace hw := hw.1 c9
          exact b93    M H locs ls hH (lv_sub hl [] rfl) hw
        · replace hw := hw.2 c9
          refine lv_aload_n hx hb dX9_hasSameWords_69 rfl (lv_at hl 0 rfl) ?_
          refine cg_93 hx hb hts hin9 hown hK hH h1 (hts (.fieldLink RX9 23 "IdlCaller$Type" "words" "[J") (by decide +kernel)) dX9_hasSameWords_70 ?_
          refine lv_iload_n hx hb dX9_hasSameWords_73 rfl (lv_at hl 2 rfl) ?_
          refine W.st (st' := [.int v2, .ref p2]) (by rw [ep2]; rfl) ?_
          obtain ⟨h10, hw⟩ := hw
          refine cl_3 hx hb hK hH h3 h10 dX9_hasSameWords_74 ?_
          refine s_aload_n hx hb dX9_hasSameWords_75 rfl (lv_at hl 1 rfl) ?_
          refine W.st (st' := [.ref p5, .long (xJ M p2 v2.toNatClampNeg)]) (by rw [ep5]; rfl) ?_
          refine cg_93 hx hb hts hin9 hown hK hH h6 (hts (.fieldLink RX9 23 "IdlCaller$Type" "words" "[J") (by decide +kernel)) dX9_hasSameWords_76 ?_
          refine lv_iload_n hx hb dX9_hasSameWords_79 rfl (lv_at hl 2 rfl) ?_
          refine W.st (st' := [.int v2, .ref p7, .long (xJ M p2 v2.toNatClampNeg)]) (by rw [ep7]; rfl) ?_
          obtain ⟨h11, hw⟩ := hw
          refine cl_3 hx hb hK hH h8 h11 dX9_hasSameWords_80 ?_
          refine W.lcmp hx hb dX9_hasSameWords_81 ?_
          refine lv_if_eq (tgt := 87) hx hb dX9_hasSameWords_82 (by decide) (fun c12 => ?_) (fun c12 => ?_)
          · replace hw := hw.1 c12
            obtain ⟨x13, ex13⟩ : ∃ y : Int32, y = v2 + 1 := ⟨_, rfl⟩
            replace hw := hw x13 ex13
            refine lv_iinc (v := x13) (lv' := [(2, .int x13), (0, .ref h), (1, va_rf v1)]) hx hb dX9_hasSameWords_87 hl (k := 2) rfl (by rw [ex13]; rfl) (by decide) (by first | rfl | simp [va_rf_cat, cat_ref, cat_int, cat_long, cat_double, cat_null]) (fun ls hl => ?_)
            refine lv_goto (tgt := 51) hx hb dX9_hasSameWords_90 (by decide) ?_
            exact hk51 v1 x13 M H locs ls hH (lv_sub hl [1, 2, 0] rfl) hw
          · replace hw := hw.2 c12
            refine lv_iconst (v := 0) hx hb dX9_hasSameWords_85 (by decide) ?_
            exact c_retz hx hb hr rfl hlocks hK hH hw dX9_hasSameWords_86
  have b33 : ∀ (s0 : Int32) (M : CM) (H : Heap) (locs : List Loc) (ls : Array Slot), cH D kA A s.heap T M H locs → lv_has ls 3 [] → fc_X9_hasSameWords_b33 T h Q  s0 M → W p l e (headSpec wsX9_hasSameWords rmX9_hasSameWords).room s m args below meth c H locs 0 0 (MQ below (va_Qi Q (cB D kA A T) A) args s 0 0 A) (F0 m 33 ls [.int s0]) := by
    intro   s0 M H locs ls hH hl hw
    unfold fc_X9_hasSameWords_b33 at hw
    exact c_retz hx hb hr hw.1.1 hlocks hK hH hw.2 dX9_hasSameWords_33
  have b32 : ∀ (M : CM) (H : Heap) (locs : List Loc) (ls : Array Slot), cH D kA A s.heap T M H locs → lv_has ls 3 [] → fc_X9_hasSameWords_b32 T h Q   M → W p l e (headSpec wsX9_hasSameWords rmX9_hasSameWords).room s m args below meth c H locs 0 0 (MQ below (va_Qi Q (cB D kA A T) A) args s 0 0 A) (F0 m 32 ls []) := by
    intro    M H locs ls hH hl hw
    unfold fc_X9_hasSameWords_b32 at hw
    refine lv_iconst (v := 0) hx hb dX9_hasSameWords_32 (by decide) ?_
    exact b33   0 M H locs ls hH (lv_sub hl [] rfl) hw
  have b14 : ∀ (v1 : Option Nat) (M : CM) (H : Heap) (locs : List Loc) (ls : Array Slot), cH D kA A s.heap T M H locs → lv_has ls 3 [(0, .ref h), (1, va_rf v1)] → fc_X9_hasSameWords_b14 T h Q  v1 M → W p l e (headSpec wsX9_hasSameWords rmX9_hasSameWords).room s m args below meth c H locs 0 0 (MQ below (va_Qi Q (cB D kA A T) A) args s 0 0 A) (F0 m 14 ls []) := by
    intro   v1 M H locs ls hH hl hw
    unfold fc_X9_hasSameWords_b14 at hw
    refine lv_aload_n hx hb dX9_hasSameWords_14 rfl (lv_at hl 0 rfl) ?_
    obtain ⟨h14, hw⟩ := hw
    refine cg_93 hx hb hts hin9 hown hK hH h14 (hts (.fieldLink RX9 23 "IdlCaller$Type" "words" "[J") (by decide +kernel)) dX9_hasSameWords_15 ?_
    refine s_ifnonnull (tgt := 32) hx hb dX9_hasSameWords_18 (by decide) (fun c15 => ?_) (fun c15 => ?_)
    · replace hw := hw.1 c15
      exact b32    M H locs ls hH (lv_sub hl [] rfl) hw
    · replace hw := hw.2 c15
      refine s_aload_n hx hb dX9_hasSameWords_21 rfl (lv_at hl 1 rfl) ?_
      obtain ⟨p16, ep16, hw⟩ := hw
      refine W.st (st' := [.ref p16]) (by rw [ep16]; rfl) ?_
      obtain ⟨h17, hw⟩ := hw
      refine cg_93 hx hb hts hin9 hown hK hH h17 (hts (.fieldLink RX9 23 "IdlCaller$Type" "words" "[J") (by decide +kernel)) dX9_hasSameWords_22 ?_
      refine s_ifnonnull (tgt := 32) hx hb dX9_hasSameWords_25 (by decide) (fun c18 => ?_) (fun c18 => ?_)
      · replace hw := hw.1 c18
        exact b32    M H locs ls hH (lv_sub hl [] rfl) hw
      · replace hw := hw.2 c18
        refine lv_iconst (v := 1) hx hb dX9_hasSameWords_28 (by decide) ?_
        refine lv_goto (tgt := 33) hx hb dX9_hasSameWords_29 (by decide) ?_
        exact b33   1 M H locs ls hH (lv_sub hl [] rfl) hw
  clear hP
  unfold fc_X9_hasSameWords at hw
  have hst : ∀ (M : CM) (H : Heap) (locs : List Loc) (ls : Array Slot), cH D kA A s.heap T M H locs → lv_has ls 3 [(0, .ref h), (1, va_rf a1)] → (tg T h = 10 ∧ (((cR M 93 h) = none → fc_X9_hasSameWords_b14 T h Q  a1 M) ∧ (¬ (cR M 93 h) = none → (∃ p21 : Nat, a1 = some p21 ∧ (tg T p21 = 10 ∧ ((¬ (cR M 93 p21) = none → (∃ p24 : Nat, cR M 93 h = some p24 ∧ (tg T p24 = 23 ∧ (∃ p26 : Nat, cR M 93 p21 = some p26 ∧ (tg T p26 = 23 ∧ (((nI (ln T p24)) = (nI (ln T p26)) → (∃ nn : Nat, fc_X9_hasSameWords_l51 T h Q  nn a1 0 M)) ∧ (¬ (nI (ln T p24)) = (nI (ln T p26)) → Q 0 M))))))) ∧ ((cR M 93 p21) = none → fc_X9_hasSameWords_b14 T h Q  a1 M))))))) → W p l e (headSpec wsX9_hasSameWords rmX9_hasSameWords).room s m args below meth c H locs 0 0 (MQ below (va_Qi Q (cB D kA A T) A) args s 0 0 A) (F0 m 0 ls []) := by
    intro M H locs ls hH hl hw
    refine lv_aload_n hx hb dX9_hasSameWords_0 rfl (lv_at hl 0 rfl) ?_
    obtain ⟨h19, hw⟩ := hw
    refine cg_93 hx hb hts hin9 hown hK hH h19 (hts (.fieldLink RX9 23 "IdlCaller$Type" "words" "[J") (by decide +kernel)) dX9_hasSameWords_1 ?_
    refine s_ifnull (tgt := 14) hx hb dX9_hasSameWords_4 (by decide) (fun c20 => ?_) (fun c20 => ?_)
    · replace hw := hw.1 c20
      exact b14   a1 M H locs ls hH (lv_sub hl [0, 1] rfl) hw
    · replace hw := hw.2 c20
      refine s_aload_n hx hb dX9_hasSameWords_7 rfl (lv_at hl 1 rfl) ?_
      obtain ⟨p21, ep21, hw⟩ := hw
      refine W.st (st' := [.ref p21]) (by rw [ep21]; rfl) ?_
      obtain ⟨h22, hw⟩ := hw
      refine cg_93 hx hb hts hin9 hown hK hH h22 (hts (.fieldLink RX9 23 "IdlCaller$Type" "words" "[J") (by decide +kernel)) dX9_hasSameWords_8 ?_
      refine s_ifnonnull (tgt := 34) hx hb dX9_hasSameWords_11 (by decide) (fun c23 => ?_) (fun c23 => ?_)
      · replace hw := hw.1 c23
        refine lv_aload_n hx hb dX9_hasSameWords_34 rfl (lv_at hl 0 rfl) ?_
        refine cg_93 hx hb hts hin9 hown hK hH h19 (hts (.fieldLink RX9 23 "IdlCaller$Type" "words" "[J") (by decide +kernel)) dX9_hasSameWords_35 ?_
        obtain ⟨p24, ep24, hw⟩ := hw
        refine W.st (st' := [.ref p24]) (by rw [ep24]; rfl) ?_
        obtain ⟨h25, hw⟩ := hw
        refine cn_3 hx hb hK hH h25 dX9_hasSameWords_38 ?_
        refine s_aload_n hx hb dX9_hasSameWords_39 rfl (lv_at hl 1 rfl) ?_
        refine W.st (st' := [.ref p21, .int (nI (ln T p24))]) (by rw [ep21]; rfl) ?_
        refine cg_93 hx hb hts hin9 hown hK hH h22 (hts (.fieldLink RX9 23 "IdlCaller$Type" "words" "[J") (by decide +kernel)) dX9_hasSameWords_40 ?_
        obtain ⟨p26, ep26, hw⟩ := hw
        refine W.st (st' := [.ref p26, .int (nI (ln T p24))]) (by rw [ep26]; rfl) ?_
        obtain ⟨h27, hw⟩ := hw
        refine cn_3 hx hb hK hH h27 dX9_hasSameWords_43 ?_
        refine lv_icmp_eq (tgt := 49) hx hb dX9_hasSameWords_44 (by decide) (fun c28 => ?_) (fun c28 => ?_)
        · replace hw := hw.1 c28
          refine lv_iconst (v := 0) hx hb dX9_hasSameWords_49 (by decide) ?_
          refine lv_istore_n (i := 2) (lv' := [(2, .int 0), (0, .ref h), (1, va_rf a1)]) hx hb dX9_hasSameWords_50 rfl hl (by decide) (by first | rfl | simp [va_rf_cat, cat_ref, cat_int, cat_long, cat_double, cat_null]) (fun ls hl => ?_)
          obtain ⟨nn, hw⟩ := hw
          exact l51   nn a1 0 M H locs ls hH (lv_sub hl [1, 2, 0] rfl) hw
        · replace hw := hw.2 c28
          refine lv_iconst (v := 0) hx hb dX9_hasSameWords_47 (by decide) ?_
          exact c_retz hx hb hr rfl hlocks hK hH hw dX9_hasSameWords_48
      · replace hw := hw.2 c23
        exact b14   a1 M H locs ls hH (lv_sub hl [0, 1] rfl) hw
  exact hst M s.heap [] ls hH hl hw
def fc_X9_isSameButElement_b46 (T : LY) (h : Nat) (Q : Int32 → CM → Prop) (s0 : Int32) (M : CM) : Prop := (nZ s0 ∧ Q s0 M)
def fc_X9_isSameButElement_b45 (T : LY) (h : Nat) (Q : Int32 → CM → Prop) (M : CM) : Prop := fc_X9_isSameButElement_b46 T h Q  0 M
def fc_X9_isSameButElement (T : LY) (h : Nat)  (a1 : Option Nat) (M : CM) (Q : Int32 → CM → Prop) : Prop := (tg T h = 10 ∧ (∃ p2 : Nat, a1 = some p2 ∧ (tg T p2 = 10 ∧ ((¬ (cR M 90 h) = (cR M 90 p2) → fc_X9_isSameButElement_b45 T h Q   M) ∧ ((cR M 90 h) = (cR M 90 p2) → ((¬ (cI M 91 h) = (cI M 91 p2) → fc_X9_isSameButElement_b45 T h Q   M) ∧ ((cI M 91 h) = (cI M 91 p2) → ((¬ (cI M 92 h) = (cI M 92 p2) → fc_X9_isSameButElement_b45 T h Q   M) ∧ ((cI M 92 h) = (cI M 92 p2) → fc_X9_hasSameWords T h a1 M (fun (r8 : Int32) (M7 : CM) => ((r8 = 0 → fc_X9_isSameButElement_b45 T h Q   M7) ∧ (¬ r8 = 0 → fc_X9_isSameButElement_b46 T h Q  1 M7))))))))))))
abbrev rmX9_isSameButElement : Room := { frames := 1, cells := 0, slots := 0, locals := 22 }
set_option maxHeartbeats 4000000 in
set_option maxRecDepth 100000 in
theorem tc_X9_isSameButElement (l : Launch) (D : va_G) (kA : Nat → ClassId) (nm : Nat → Nat) (na : Nat) (sa sv : Nat → Nat) (sz : Nat) (T : LY) (h : Nat) (a1 : Option Nat) (M : CM) (Q : Int32 → CM → Prop) (hw : fc_X9_isSameButElement T h a1 M Q) : Met l yX9_isSameButElement wsX9_isSameButElement rmX9_isSameButElement (va_Pc [.ref h, va_rf a1] (cPc nm na sa sv D kA T M sz)) (va_Qi Q (cB D kA (cF T sz) T) (cF T sz)) 0 0 (cF T sz) := by
  refine Met.ofW (cc := cX9_isSameButElement) (maxL := 2) (ret := (some .boolean)) (by decide) rfl ?_
  intro p e s m args below meth c s₁ B hml hv
  obtain ⟨rfl, hsz, hP, hK, hSt⟩ := hv
  have hx := B.exec
  have hb := B.bytes
  have hr := B.returns
  have hts := atoms_spec (ws := wsX9_isSameButElement) B.pre
  have hown : s.vm.findClass RX9 = some m.cls := findClass_of_methodNamed B.named
  have hlocks : meth.locks = false := B.notSynchronized
  subst hsz
  have hH : cH D kA (cF T s.heap.size) s.heap T M s.heap [] := ⟨hP.self, va_S.rf⟩
  have hA : ∀ q : Nat, s.heap.size ≤ q → cF T s.heap.size q := fun q z => Or.inr z
  generalize cF T s.heap.size = A at hH hA hSt ⊢
  have hl := lv_entry ([.ref h, va_rf a1]) (n := 2) (by first | exact Nat.le_of_ble_eq_true rfl | simp [lg_sl, va_rf_cat, cat_ref, cat_int, cat_long, cat_double])
  rw [lg_entry_eq]
  generalize (lg_sl ([.ref h, va_rf a1]) ++ List.replicate (2 - (lg_sl ([.ref h, va_rf a1])).length) Slot.unset).toArray = ls at hl ⊢
  generalize ([.ref h, va_rf a1] : List Value).toArray = args at hts ⊢
  have hl : lv_has ls 2 [(0, .ref h), (1, va_rf a1)] := by simpa [lv_args, va_rf_cat, cat_ref, cat_int, cat_long, cat_double] using hl
  have hin9 : ∀ w ∈ wsX90, w ∈ wsX9_isSameButElement := by decide +kernel
  have b46 : ∀ (s0 : Int32) (M : CM) (H : Heap) (locs : List Loc) (ls : Array Slot), cH D kA A s.heap T M H locs → lv_has ls 2 [] → fc_X9_isSameButElement_b46 T h Q  s0 M → W p l e (headSpec wsX9_isSameButElement rmX9_isSameButElement).room s m args below meth c H locs 0 0 (MQ below (va_Qi Q (cB D kA A T) A) args s 0 0 A) (F0 m 46 ls [.int s0]) := by
    intro   s0 M H locs ls hH hl hw
    unfold fc_X9_isSameButElement_b46 at hw
    exact c_retz hx hb hr hw.1.1 hlocks hK hH hw.2 dX9_isSameButElement_46
  have b45 : ∀ (M : CM) (H : Heap) (locs : List Loc) (ls : Array Slot), cH D kA A s.heap T M H locs → lv_has ls 2 [] → fc_X9_isSameButElement_b45 T h Q   M → W p l e (headSpec wsX9_isSameButElement rmX9_isSameButElement).room s m args below meth c H locs 0 0 (MQ below (va_Qi Q (cB D kA A T) A) args s 0 0 A) (F0 m 45 ls []) := by
    intro    M H locs ls hH hl hw
    unfold fc_X9_isSameButElement_b45 at hw
    refine lv_iconst (v := 0) hx hb dX9_isSameButElement_45 (by decide) ?_
    exact b46   0 M H locs ls hH (lv_sub hl [] rfl) hw
  clear hP
  unfold fc_X9_isSameButElement at hw
  have hst : ∀ (M : CM) (H : Heap) (locs : List Loc) (ls : Array Slot), cH D kA A s.heap T M H locs → lv_has ls 2 [(0, .ref h), (1, va_rf a1)] → (tg T h = 10 ∧ (∃ p2 : Nat, a1 = some p2 ∧ (tg T p2 = 10 ∧ ((¬ (cR M 90 h) = (cR M 90 p2) → fc_X9_isSameButElement_b45 T h Q   M) ∧ ((cR M 90 h) = (cR M 90 p2) → ((¬ (cI M 91 h) = (cI M 91 p2) → fc_X9_isSameButElement_b45 T h Q   M) ∧ ((cI M 91 h) = (cI M 91 p2) → ((¬ (cI M 92 h) = (cI M 92 p2) → fc_X9_isSameButElement_b45 T h Q   M) ∧ ((cI M 92 h) = (cI M 92 p2) → fc_X9_hasSameWords T h a1 M (fun (r8 : Int32) (M7 : CM) => ((r8 = 0 → fc_X9_isSameButElement_b45 T h Q   M7) ∧ (¬ r8 = 0 → fc_X9_isSameButElement_b46 T h Q  1 M7)))))))))))) → W p l e (headSpec wsX9_isSameButElement rmX9_isSameButElement).room s m args below meth c H locs 0 0 (MQ below (va_Qi Q (cB D kA A T) A) args s 0 0 A) (F0 m 0 ls []) := by
    intro M H locs ls hH hl hw
    refine lv_aload_n hx hb dX9_isSameButElement_0 rfl (lv_at hl 0 rfl) ?_
    obtain ⟨h1, hw⟩ := hw
    refine cg_90 hx hb hts hin9 hown hK hH h1 (hts (.fieldLink RX9 9 "IdlCaller$Type" "name" "LIdlCaller$Name;") (by decide +kernel)) dX9_isSameButElement_1 ?_
    refine s_aload_n hx hb dX9_isSameButElement_4 rfl (lv_at hl 1 rfl) ?_
    obtain ⟨p2, ep2, hw⟩ := hw
    refine W.st (st' := [.ref p2, va_rf (cR M 90 h)]) (by rw [ep2]; rfl) ?_
    obtain ⟨h3, hw⟩ := hw
    refine cg_90 hx hb hts hin9 hown hK hH h3 (hts (.fieldLink RX9 9 "IdlCaller$Type" "name" "LIdlCaller$Name;") (by decide +kernel)) dX9_isSameButElement_5 ?_
    refine lv_acmp_ne (rx := (cR M 90 h)) (ry := (cR M 90 p2)) (tgt := 45) hx hb dX9_isSameButElement_8 (by decide) (fun c4 => ?_) (fun c4 => ?_)
    · replace hw := hw.1 c4
      exact b45    M H locs ls hH (lv_sub hl [] rfl) hw
    · replace hw := hw.2 c4
      refine lv_aload_n hx hb dX9_isSameButElement_11 rfl (lv_at hl 0 rfl) ?_
      refine cg_91 hx hb hts hin9 hown hK hH h1 (hts (.fieldLink RX9 15 "IdlCaller$Type" "mode" "I") (by decide +kernel)) dX9_isSameButElement_12 ?_
      refine s_aload_n hx hb dX9_isSameButElement_15 rfl (lv_at hl 1 rfl) ?_
      refine W.st (st' := [.ref p2, .int (cI M 91 h)]) (by rw [ep2]; rfl) ?_
      refine cg_91 hx hb hts hin9 hown hK hH h3 (hts (.fieldLink RX9 15 "IdlCaller$Type" "mode" "I") (by decide +kernel)) dX9_isSameButElement_16 ?_
      refine lv_icmp_ne (tgt := 45) hx hb dX9_isSameButElement_19 (by decide) (fun c5 => ?_) (fun c5 => ?_)
      · replace hw := hw.1 c5
        exact b45    M H locs ls hH (lv_sub hl [] rfl) hw
      · replace hw := hw.2 c5
        refine lv_aload_n hx hb dX9_isSameButElement_22 rfl (lv_at hl 0 rfl) ?_
        refine cg_92 hx hb hts hin9 hown hK hH h1 (hts (.fieldLink RX9 19 "IdlCaller$Type" "nullable" "Z") (by decide +kernel)) dX9_isSameButElement_23 ?_
        refine s_aload_n hx hb dX9_isSameButElement_26 rfl (lv_at hl 1 rfl) ?_
        refine W.st (st' := [.ref p2, .int (cI M 92 h)]) (by rw [ep2]; rfl) ?_
        refine cg_92 hx hb hts hin9 hown hK hH h3 (hts (.fieldLink RX9 19 "IdlCaller$Type" "nullable" "Z") (by decide +kernel)) dX9_isSameButElement_27 ?_
        refine lv_icmp_ne (tgt := 45) hx hb dX9_isSameButElement_30 (by decide) (fun c6 => ?_) (fun c6 => ?_)
        · replace hw := hw.1 c6
          exact b45    M H locs ls hH (lv_sub hl [] rfl) hw
        · replace hw := hw.2 c6
          refine lv_aload_n hx hb dX9_isSameButElement_33 rfl (lv_at hl 0 rfl) ?_
          refine s_aload_n hx hb dX9_isSameButElement_34 rfl (lv_at hl 1 rfl) ?_
          refine c_calli (va_runV (As := [va_rf a1]) (rest := []) ⟨hx, hb, hml, hown, hts⟩ (tc_X9_hasSameWords l D kA nm na sa sv H.size T h a1 M _ hw) (cwV 1 hts gX9_isSameButElement_X9_hasSameWords rfl rfl rfl (by decide +kernel) ⟨(show (0 : Nat) + 1 ≤ 1 from Nat.le_of_ble_eq_true rfl), (show 8 + (3 + 11) + (0 : Nat) ≤ 22 from Nat.le_of_ble_eq_true rfl)⟩) (c_preV hK hH hA hSt (c_recv9 hK hH h1)) rfl rfl hl.1 rfl (lv_room (by first | exact Nat.le_of_ble_eq_true rfl | simp [va_rf_cat, cat_ref, cat_int, cat_long, cat_double, cat_null])) dX9_isSameButElement_35 ⟨Nat.le_of_ble_eq_true rfl, Nat.le_of_ble_eq_true rfl⟩) hH hA (fun r8 M7 H locs hw hH => ?_)
          refine lv_if_eq (tgt := 45) hx hb dX9_isSameButElement_38 (by decide) (fun c10 => ?_) (fun c10 => ?_)
          · replace hw := hw.1 c10
            exact b45    M7 H locs ls hH (lv_sub hl [] rfl) hw
          · replace hw := hw.2 c10
            refine lv_iconst (v := 1) hx hb dX9_isSameButElement_41 (by decide) ?_
            refine lv_goto (tgt := 46) hx hb dX9_isSameButElement_42 (by decide) ?_
            exact b46   1 M7 H locs ls hH (lv_sub hl [] rfl) hw
  exact hst M s.heap [] ls hH hl hw
def fc_X9_isSameAs_b69 (T : LY) (h : Nat) (Q : Int32 → CM → Prop) (s0 : Int32) (M : CM) : Prop := (nZ s0 ∧ Q s0 M)
def fc_X9_isSameAs_b68 (T : LY) (h : Nat) (Q : Int32 → CM → Prop) (M : CM) : Prop := fc_X9_isSameAs_b69 T h Q  0 M
def fc_X9_isSameAs_b41 (T : LY) (h : Nat) (Q : Int32 → CM → Prop) (s0 : Int32) (M : CM) : Prop := (nZ s0 ∧ Q s0 M)
def fc_X9_isSameAs_b40 (T : LY) (h : Nat) (Q : Int32 → CM → Prop) (M : CM) : Prop := fc_X9_isSameAs_b41 T h Q  0 M
def fc_X9_isSameAs_b14 (T : LY) (h : Nat) (Q : Int32 → CM → Prop) (v1 : Option Nat) (M : CM) : Prop := (tg T h = 10 ∧ ((¬ (cR M 94 h) = none → fc_X9_isSameAs_b40 T h Q   M) ∧ ((cR M 94 h) = none → (∃ p3 : Nat, v1 = some p3 ∧ (tg T p3 = 10 ∧ ((¬ (cR M 94 p3) = none → fc_X9_isSameAs_b40 T h Q   M) ∧ ((cR M 94 p3) = none → fc_X9_isSameButElement T h v1 M (fun (r7 : Int32) (M6 : CM) => ((r7 = 0 → fc_X9_isSameAs_b40 T h Q   M6) ∧ (¬ r7 = 0 → fc_X9_isSameAs_b41 T h Q  1 M6))))))))))
def fc_X9_isSameAs (T : LY) (h : Nat)  (a1 : Option Nat) (M : CM) (Q : Int32 → CM → Prop) : Prop := (tg T h = 10 ∧ (((cR M 94 h) = none → fc_X9_isSameAs_b14 T h Q  a1 M) ∧ (¬ (cR M 94 h) = none → (∃ p12 : Nat, a1 = some p12 ∧ (tg T p12 = 10 ∧ ((¬ (cR M 94 p12) = none → fc_X9_isSameButElement T h a1 M (fun (r16 : Int32) (M15 : CM) => ((r16 = 0 → fc_X9_isSameAs_b68 T h Q   M15) ∧ (¬ r16 = 0 → (∃ p19 : Nat, cR M15 94 h = some p19 ∧ (tg T p19 = 10 ∧ fc_X9_isSameButElement T p19 (cR M15 94 p12) M15 (fun (r22 : Int32) (M21 : CM) => ((r22 = 0 → fc_X9_isSameAs_b68 T h Q   M21) ∧ (¬ r22 = 0 → fc_X9_isSameAs_b69 T h Q  1 M21))))))))) ∧ ((cR M 94 p12) = none → fc_X9_isSameAs_b14 T h Q  a1 M)))))))
abbrev rmX9_isSameAs : Room := { frames := 2, cells := 0, slots := 0, locals := 43 }
set_option maxHeartbeats 4000000 in
set_option maxRecDepth 100000 in
theorem tc_X9_isSameAs (l : Launch) (D : va_G) (kA : Nat → ClassId) (nm : Nat → Nat) (na : Nat) (sa sv : Nat → Nat) (sz : Nat) (T : LY) (h : Nat) (a1 : Option Nat) (M : CM) (Q : Int32 → CM → Prop) (hw : fc_X9_isSameAs T h a1 M Q) : Met l yX9_isSameAs wsX9_isSameAs rmX9_isSameAs (va_Pc [.ref h, va_rf a1] (cPc nm na sa sv D kA T M sz)) (va_Qi Q (cB D kA (cF T sz) T) (cF T sz)) 0 0 (cF T sz) := by
  refine Met.ofW (cc := cX9_isSameAs) (maxL := 2) (ret := (some .boolean)) (by decide) rfl ?_
  intro p e s m args below meth c s₁ B hml hv
  obtain ⟨rfl, hsz, hP, hK, hSt⟩ := hv
  have hx := B.exec
  have hb := B.bytes
  have hr := B.returns
  have hts := atoms_spec (ws := wsX9_isSameAs) B.pre
  have hown : s.vm.findClass RX9 = some m.cls := findClass_of_methodNamed B.named
  have hlocks : meth.locks = false := B.notSynchronized
  subst hsz
  have hH : cH D kA (cF T s.heap.size) s.heap T M s.heap [] := ⟨hP.self, va_S.rf⟩
  have hA : ∀ q : Nat, s.heap.size ≤ q → cF T s.heap.size q := fun q z => Or.inr z
  generalize cF T s.heap.size = A at hH hA hSt ⊢
  have hl := lv_entry ([.ref h, va_rf a1]) (n := 2) (by first | exact Nat.le_of_ble_eq_true rfl | simp [lg_sl, va_rf_cat, cat_ref, cat_int, cat_long, cat_double])
  rw [lg_entry_eq]
  generalize (lg_sl ([.ref h, va_rf a1]) ++ List.replicate (2 - (lg_sl ([.ref h, va_rf a1])).length) Slot.unset).toArray = ls at hl ⊢
  generalize ([.ref h, va_rf a1] : List Value).toArray = args at hts ⊢
  have hl : lv_has ls 2 [(0, .ref h), (1, va_rf a1)] := by simpa [lv_args, va_rf_cat, cat_ref, cat_int, cat_long, cat_double] using hl
  have hin9 : ∀ w ∈ wsX90, w ∈ wsX9_isSameAs := by decide +kernel
  have b69 : ∀ (s0 : Int32) (M : CM) (H : Heap) (locs : List Loc) (ls : Array Slot), cH D kA A s.heap T M H locs → lv_has ls 2 [] → fc_X9_isSameAs_b69 T h Q  s0 M → W p l e (headSpec wsX9_isSameAs rmX9_isSameAs).room s m args below meth c H locs 0 0 (MQ below (va_Qi Q (cB D kA A T) A) args s 0 0 A) (F0 m 69 ls [.int s0]) := by
    intro   s0 M H locs ls hH hl hw
    unfold fc_X9_isSameAs_b69 at hw
    exact c_retz hx hb hr hw.1.1 hlocks hK hH hw.2 dX9_isSameAs_69
  have b68 : ∀ (M : CM) (H : Heap) (locs : List Loc) (ls : Array Slot), cH D kA A s.heap T M H locs → lv_has ls 2 [] → fc_X9_isSameAs_b68 T h Q   M → W p l e (headSpec wsX9_isSameAs rmX9_isSameAs).room s m args below meth c H locs 0 0 (MQ below (va_Qi Q (cB D kA A T) A) args s 0 0 A) (F0 m 68 ls []) := by
    intro    M H locs ls hH hl hw
    unfold fc_X9_isSameAs_b68 at hw
    refine lv_iconst (v := 0) hx hb dX9_isSameAs_68 (by decide) ?_
    exact b69   0 M H locs ls hH (lv_sub hl [] rfl) hw
  have b41 : ∀ (s0 : Int32) (M : CM) (H : Heap) (locs : List Loc) (ls : Array Slot), cH D kA A s.heap T M H locs → lv_has ls 2 [] → fc_X9_isSameAs_b41 T h Q  s0 M → W p l e (headSpec wsX9_isSameAs rmX9_isSameAs).room s m args below meth c H locs 0 0 (MQ below (va_Qi Q (cB D kA A T) A) args s 0 0 A) (F0 m 41 ls [.int s0]) := by
    intro   s0 M H locs ls hH hl hw
    unfold fc_X9_isSameAs_b41 at hw
    exact c_retz hx hb hr hw.1.1 hlocks hK hH hw.2 dX9_isSameAs_41
  have b40 : ∀ (M : CM) (H : Heap) (locs : List Loc) (ls : Array Slot), cH D kA A s.heap T M H locs → lv_has ls 2 [] → fc_X9_isSameAs_b40 T h Q   M → W p l e (headSpec wsX9_isSameAs rmX9_isSameAs).room s m args below meth c H locs 0 0 (MQ below (va_Qi Q (cB D kA A T) A) args s 0 0 A) (F0 m 40 ls []) := by
    intro    M H locs ls hH hl hw
    unfold fc_X9_isSameAs_b40 at hw
    refine lv_iconst (v := 0) hx hb dX9_isSameAs_40 (by decide) ?_
    exact b41   0 M H locs ls hH (lv_sub hl [] rfl) hw
  have b14 : ∀ (v1 : Option Nat) (M : CM) (H : Heap) (locs : List Loc) (ls : Array Slot), cH D kA A s.heap T M H locs → lv_has ls 2 [(0, .ref h), (1, va_rf v1)] → fc_X9_isSameAs_b14 T h Q  v1 M → W p l e (headSpec wsX9_isSameAs rmX9_isSameAs).room s m args below meth c H locs 0 0 (MQ below (va_Qi Q (cB D kA A T) A) args s 0 0 A) (F0 m 14 ls []) := by
    intro   v1 M H locs ls hH hl hw
    unfold fc_X9_isSameAs_b14 at hw
    refine lv_aload_n hx hb dX9_isSameAs_14 rfl (lv_at hl 0 rfl) ?_
    obtain ⟨h1, hw⟩ := hw
    refine cg_94 hx hb hts hin9 hown hK hH h1 (hts (.fieldLink RX9 27 "IdlCaller$Type" "element" "LIdlCaller$Type;") (by decide +kernel)) dX9_isSameAs_15 ?_
    refine s_ifnonnull (tgt := 40) hx hb dX9_isSameAs_18 (by decide) (fun c2 => ?_) (fun c2 => ?_)
    · replace hw := hw.1 c2
      exact b40    M H locs ls hH (lv_sub hl [] rfl) hw
    · replace hw := hw.2 c2
      refine s_aload_n hx hb dX9_isSameAs_21 rfl (lv_at hl 1 rfl) ?_
      obtain ⟨p3, ep3, hw⟩ := hw
      refine W.st (st' := [.ref p3]) (by rw [ep3]; rfl) ?_
      obtain ⟨h4, hw⟩ := hw
      refine cg_94 hx hb hts hin9 hown hK hH h4 (hts (.fieldLink RX9 27 "IdlCaller$Type" "element" "LIdlCaller$Type;") (by decide +kernel)) dX9_isSameAs_22 ?_
      refine s_ifnonnull (tgt := 40) hx hb dX9_isSameAs_25 (by decide) (fun c5 => ?_) (fun c5 => ?_)
      · replace hw := hw.1 c5
        exact b40    M H locs ls hH (lv_sub hl [] rfl) hw
      · replace hw := hw.2 c5
        refine lv_aload_n hx hb dX9_isSameAs_28 rfl (lv_at hl 0 rfl) ?_
        refine s_aload_n hx hb dX9_isSameAs_29 rfl (lv_at hl 1 rfl) ?_
        refine c_calli (va_runV (As := [va_rf v1]) (rest := []) ⟨hx, hb, hml, hown, hts⟩ (tc_X9_isSameButElement l D kA nm na sa sv H.size T h v1 M _ hw) (cwV 1 hts gX9_isSameAs_X9_isSameButElement rfl rfl rfl (by decide +kernel) ⟨(show (1 : Nat) + 1 ≤ 2 from Nat.le_of_ble_eq_true rfl), (show 8 + (2 + 11) + (22 : Nat) ≤ 43 from Nat.le_of_ble_eq_true rfl)⟩) (c_preV hK hH hA hSt (c_recv9 hK hH h1)) rfl rfl hl.1 rfl (lv_room (by first | exact Nat.le_of_ble_eq_true rfl | simp [va_rf_cat, cat_ref, cat_int, cat_long, cat_double, cat_null])) dX9_isSameAs_30 ⟨Nat.le_of_ble_eq_true rfl, Nat.le_of_ble_eq_true rfl⟩) hH hA (fun r7 M6 H locs hw hH => ?_)
        refine lv_if_eq (tgt := 40) hx hb dX9_isSameAs_33 (by decide) (fun c9 => ?_) (fun c9 => ?_)
        · replace hw := hw.1 c9
          exact b40    M6 H locs ls hH (lv_sub hl [] rfl) hw
        · replace hw := hw.2 c9
          refine lv_iconst (v := 1) hx hb dX9_isSameAs_36 (by decide) ?_
          refine lv_goto (tgt := 41) hx hb dX9_isSameAs_37 (by decide) ?_
          exact b41   1 M6 H locs ls hH (lv_sub hl [] rfl) hw
  clear hP
  unfold fc_X9_isSameAs at hw
  have hst : ∀ (M : CM) (H : Heap) (locs : List Loc) (ls : Array Slot), cH D kA A s.heap T M H locs → lv_has ls 2 [(0, .ref h), (1, va_rf a1)] → (tg T h = 10 ∧ (((cR M 94 h) = none → fc_X9_isSameAs_b14 T h Q  a1 M) ∧ (¬ (cR M 94 h) = none → (∃ p12 : Nat, a1 = some p12 ∧ (tg T p12 = 10 ∧ ((¬ (cR M 94 p12) = none → fc_X9_isSameButElement T h a1 M (fun (r16 : Int32) (M15 : CM) => ((r16 = 0 → fc_X9_isSameAs_b68 T h Q   M15) ∧ (¬ r16 = 0 → (∃ p19 : Nat, cR M15 94 h = some p19 ∧ (tg T p19 = 10 ∧ fc_X9_isSameButElement T p19 (cR M15 94 p12) M15 (fun (r22 : Int32) (M21 : CM) => ((r22 = 0 → fc_X9_isSameAs_b68 T h Q   M21) ∧ (¬ r22 = 0 → fc_X9_isSameAs_b69 T h Q  1 M21))))))))) ∧ ((cR M 94 p12) = none → fc_X9_isSameAs_b14 T h Q  a1 M))))))) → W p l e (headSpec wsX9_isSameAs rmX9_isSameAs).room s m args below meth c H locs 0 0 (MQ below (va_Qi Q (cB D kA A T) A) args s 0 0 A) (F0 m 0 ls []) := by
    intro M H locs ls hH hl hw
    refine lv_aload_n hx hb dX9_isSameAs_0 rfl (lv_at hl 0 rfl) ?_
    obtain ⟨h10, hw⟩ := hw
    refine cg_94 hx hb hts hin9 hown hK hH h10 (hts (.fieldLink RX9 27 "IdlCaller$Type" "element" "LIdlCaller$Type;") (by decide +kernel)) dX9_isSameAs_1 ?_
    refine s_ifnull (tgt := 14) hx hb dX9_isSameAs_4 (by decide) (fun c11 => ?_) (fun c11 => ?_)
    · replace hw := hw.1 c11
      exact b14   a1 M H locs ls hH (lv_sub hl [0, 1] rfl) hw
    · replace hw := hw.2 c11
      refine s_aload_n hx hb dX9_isSameAs_7 rfl (lv_at hl 1 rfl) ?_
      obtain ⟨p12, ep12, hw⟩ := hw
      refine W.st (st' := [.ref p12]) (by rw [ep12]; rfl) ?_
      obtain ⟨h13, hw⟩ := hw
      refine cg_94 hx hb hts hin9 hown hK hH h13 (hts (.fieldLink RX9 27 "IdlCaller$Type" "element" "LIdlCaller$Type;") (by decide +kernel)) dX9_isSameAs_8 ?_
      refine s_ifnonnull (tgt := 42) hx hb dX9_isSameAs_11 (by decide) (fun c14 => ?_) (fun c14 => ?_)
      · replace hw := hw.1 c14
        refine lv_aload_n hx hb dX9_isSameAs_42 rfl (lv_at hl 0 rfl) ?_
        refine s_aload_n hx hb dX9_isSameAs_43 rfl (lv_at hl 1 rfl) ?_
        refine c_calli (va_runV (As := [va_rf a1]) (rest := []) ⟨hx, hb, hml, hown, hts⟩ (tc_X9_isSameButElement l D kA nm na sa sv H.size T h a1 M _ hw) (cwV 1 hts gX9_isSameAs_X9_isSameButElement rfl rfl rfl (by decide +kernel) ⟨(show (1 : Nat) + 1 ≤ 2 from Nat.le_of_ble_eq_true rfl), (show 8 + (2 + 11) + (22 : Nat) ≤ 43 from Nat.le_of_ble_eq_true rfl)⟩) (c_preV hK hH hA hSt (c_recv9 hK hH h10)) rfl rfl hl.1 rfl (lv_room (by first | exact Nat.le_of_ble_eq_true rfl | simp [va_rf_cat, cat_ref, cat_int, cat_long, cat_double, cat_null])) dX9_isSameAs_44 ⟨Nat.le_of_ble_eq_true rfl, Nat.le_of_ble_eq_true rfl⟩) hH hA (fun r16 M15 H locs hw hH => ?_)
        refine lv_if_eq (tgt := 68) hx hb dX9_isSameAs_47 (by decide) (fun c18 => ?_) (fun c18 => ?_)
        · replace hw := hw.1 c18
          exact b68    M15 H locs ls hH (lv_sub hl [] rfl) hw
        · replace hw := hw.2 c18
          refine lv_aload_n hx hb dX9_isSameAs_50 rfl (lv_at hl 0 rfl) ?_
          refine cg_94 hx hb hts hin9 hown hK hH h10 (hts (.fieldLink RX9 27 "IdlCaller$Type" "element" "LIdlCaller$Type;") (by decide +kernel)) dX9_isSameAs_51 ?_
          refine s_aload_n hx hb dX9_isSameAs_54 rfl (lv_at hl 1 rfl) ?_
          refine W.st (st' := [.ref p12, va_rf (cR M15 94 h)]) (by rw [ep12]; rfl) ?_
          refine cg_94 hx hb hts hin9 hown hK hH h13 (hts (.fieldLink RX9 27 "IdlCaller$Type" "element" "LIdlCaller$Type;") (by decide +kernel)) dX9_isSameAs_55 ?_
          obtain ⟨p19, ep19, hw⟩ := hw
          refine W.st (st' := [va_rf (cR M15 94 p12), .ref p19]) (by rw [ep19]; rfl) ?_
          obtain ⟨h20, hw⟩ := hw
          refine c_calli (va_runV (As := [va_rf (cR M15 94 p12)]) (rest := []) ⟨hx, hb, hml, hown, hts⟩ (tc_X9_isSameButElement l D kA nm na sa sv H.size T p19 (cR M15 94 p12) M15 _ hw) (cwV 1 hts gX9_isSameAs_X9_isSameButElement rfl rfl rfl (by decide +kernel) ⟨(show (1 : Nat) + 1 ≤ 2 from Nat.le_of_ble_eq_true rfl), (show 8 + (2 + 11) + (22 : Nat) ≤ 43 from Nat.le_of_ble_eq_true rfl)⟩) (c_preV hK hH hA hSt (c_recv9 hK hH h20)) rfl rfl hl.1 rfl (lv_room (by first | exact Nat.le_of_ble_eq_true rfl | simp [va_rf_cat, cat_ref, cat_int, cat_long, cat_double, cat_null])) dX9_isSameAs_58 ⟨Nat.le_of_ble_eq_true rfl, Nat.le_of_ble_eq_true rfl⟩) hH hA (fun r22 M21 H locs hw hH => ?_)
          refine lv_if_eq (tgt := 68) hx hb dX9_isSameAs_61 (by decide) (fun c24 => ?_) (fun c24 => ?_)
          · replace hw := hw.1 c24
            exact b68    M21 H locs ls hH (lv_sub hl [] rfl) hw
          · replace hw := hw.2 c24
            refine lv_iconst (v := 1) hx hb dX9_isSameAs_64 (by decide) ?_
            refine lv_goto (tgt := 69) hx hb dX9_isSameAs_65 (by decide) ?_
            exact b69   1 M21 H locs ls hH (lv_sub hl [] rfl) hw
      · replace hw := hw.2 c14
        exact b14   a1 M H locs ls hH (lv_sub hl [0, 1] rfl) hw
  exact hst M s.heap [] ls hH hl hw
def fc_X0_isSameAs_b41 (T : LY) (h : Nat) (Q : Int32 → CM → Prop) (s0 : Int32) (M : CM) : Prop := (nZ s0 ∧ Q s0 M)
def fc_X0_isSameAs_b40 (T : LY) (h : Nat) (Q : Int32 → CM → Prop) (M : CM) : Prop := fc_X0_isSameAs_b41 T h Q  0 M
def fc_X0_isSameAs (T : LY) (h : Nat)  (a1 : Option Nat) (M : CM) (Q : Int32 → CM → Prop) : Prop := (tg T h = 1 ∧ (∃ p2 : Nat, a1 = some p2 ∧ (tg T p2 = 1 ∧ ((¬ (cI M 1 h) = (cI M 1 p2) → fc_X0_isSameAs_b40 T h Q   M) ∧ ((cI M 1 h) = (cI M 1 p2) → ((¬ (cI M 2 h) = (cI M 2 p2) → fc_X0_isSameAs_b40 T h Q   M) ∧ ((cI M 2 h) = (cI M 2 p2) → (∃ p6 : Nat, cR M 0 h = some p6 ∧ (tg T p6 = 10 ∧ fc_X9_isSameAs T p6 (cR M 0 p2) M (fun (r9 : Int32) (M8 : CM) => ((r9 = 0 → fc_X0_isSameAs_b40 T h Q   M8) ∧ (¬ r9 = 0 → fc_X0_isSameAs_b41 T h Q  1 M8))))))))))))
abbrev rmX0_isSameAs : Room := { frames := 3, cells := 0, slots := 0, locals := 64 }
set_option maxHeartbeats 4000000 in
set_option maxRecDepth 100000 in
theorem tc_X0_isSameAs (l : Launch) (D : va_G) (kA : Nat → ClassId) (nm : Nat → Nat) (na : Nat) (sa sv : Nat → Nat) (sz : Nat) (T : LY) (h : Nat) (a1 : Option Nat) (M : CM) (Q : Int32 → CM → Prop) (hw : fc_X0_isSameAs T h a1 M Q) : Met l yX0_isSameAs wsX0_isSameAs rmX0_isSameAs (va_Pc [.ref h, va_rf a1] (cPc nm na sa sv D kA T M sz)) (va_Qi Q (cB D kA (cF T sz) T) (cF T sz)) 0 0 (cF T sz) := by
  refine Met.ofW (cc := cX0_isSameAs) (maxL := 2) (ret := (some .boolean)) (by decide) rfl ?_
  intro p e s m args below meth c s₁ B hml hv
  obtain ⟨rfl, hsz, hP, hK, hSt⟩ := hv
  have hx := B.exec
  have hb := B.bytes
  have hr := B.returns
  have hts := atoms_spec (ws := wsX0_isSameAs) B.pre
  have hown : s.vm.findClass RX0 = some m.cls := findClass_of_methodNamed B.named
  have hlocks : meth.locks = false := B.notSynchronized
  subst hsz
  have hH : cH D kA (cF T s.heap.size) s.heap T M s.heap [] := ⟨hP.self, va_S.rf⟩
  have hA : ∀ q : Nat, s.heap.size ≤ q → cF T s.heap.size q := fun q z => Or.inr z
  generalize cF T s.heap.size = A at hH hA hSt ⊢
  have hl := lv_entry ([.ref h, va_rf a1]) (n := 2) (by first | exact Nat.le_of_ble_eq_true rfl | simp [lg_sl, va_rf_cat, cat_ref, cat_int, cat_long, cat_double])
  rw [lg_entry_eq]
  generalize (lg_sl ([.ref h, va_rf a1]) ++ List.replicate (2 - (lg_sl ([.ref h, va_rf a1])).length) Slot.unset).toArray = ls at hl ⊢
  generalize ([.ref h, va_rf a1] : List Value).toArray = args at hts ⊢
  have hl : lv_has ls 2 [(0, .ref h), (1, va_rf a1)] := by simpa [lv_args, va_rf_cat, cat_ref, cat_int, cat_long, cat_double] using hl
  have hin0 : ∀ w ∈ wsX00, w ∈ wsX0_isSameAs := by decide +kernel
  have b41 : ∀ (s0 : Int32) (M : CM) (H : Heap) (locs : List Loc) (ls : Array Slot), cH D kA A s.heap T M H locs → lv_has ls 2 [] → fc_X0_isSameAs_b41 T h Q  s0 M → W p l e (headSpec wsX0_isSameAs rmX0_isSameAs).room s m args below meth c H locs 0 0 (MQ below (va_Qi Q (cB D kA A T) A) args s 0 0 A) (F0 m 41 ls [.int s0]) := by
    intro   s0 M H locs ls hH hl hw
    unfold fc_X0_isSameAs_b41 at hw
    exact c_retz hx hb hr hw.1.1 hlocks hK hH hw.2 dX0_isSameAs_41
  have b40 : ∀ (M : CM) (H : Heap) (locs : List Loc) (ls : Array Slot), cH D kA A s.heap T M H locs → lv_has ls 2 [] → fc_X0_isSameAs_b40 T h Q   M → W p l e (headSpec wsX0_isSameAs rmX0_isSameAs).room s m args below meth c H locs 0 0 (MQ below (va_Qi Q (cB D kA A T) A) args s 0 0 A) (F0 m 40 ls []) := by
    intro    M H locs ls hH hl hw
    unfold fc_X0_isSameAs_b40 at hw
    refine lv_iconst (v := 0) hx hb dX0_isSameAs_40 (by decide) ?_
    exact b41   0 M H locs ls hH (lv_sub hl [] rfl) hw
  clear hP
  unfold fc_X0_isSameAs at hw
  have hst : ∀ (M : CM) (H : Heap) (locs : List Loc) (ls : Array Slot), cH D kA A s.heap T M H locs → lv_has ls 2 [(0, .ref h), (1, va_rf a1)] → (tg T h = 1 ∧ (∃ p2 : Nat, a1 = some p2 ∧ (tg T p2 = 1 ∧ ((¬ (cI M 1 h) = (cI M 1 p2) → fc_X0_isSameAs_b40 T h Q   M) ∧ ((cI M 1 h) = (cI M 1 p2) → ((¬ (cI M 2 h) = (cI M 2 p2) → fc_X0_isSameAs_b40 T h Q   M) ∧ ((cI M 2 h) = (cI M 2 p2) → (∃ p6 : Nat, cR M 0 h = some p6 ∧ (tg T p6 = 10 ∧ fc_X9_isSameAs T p6 (cR M 0 p2) M (fun (r9 : Int32) (M8 : CM) => ((r9 = 0 → fc_X0_isSameAs_b40 T h Q   M8) ∧ (¬ r9 = 0 → fc_X0_isSameAs_b41 T h Q  1 M8)))))))))))) → W p l e (headSpec wsX0_isSameAs rmX0_isSameAs).room s m args below meth c H locs 0 0 (MQ below (va_Qi Q (cB D kA A T) A) args s 0 0 A) (F0 m 0 ls []) := by
    intro M H locs ls hH hl hw
    refine lv_aload_n hx hb dX0_isSameAs_0 rfl (lv_at hl 0 rfl) ?_
    obtain ⟨h1, hw⟩ := hw
    refine cg_1 hx hb hts hin0 hown hK hH h1 (hts (.fieldLink RX0 13 "IdlCaller$Argument" "optional" "Z") (by decide +kernel)) dX0_isSameAs_1 ?_
    refine s_aload_n hx hb dX0_isSameAs_4 rfl (lv_at hl 1 rfl) ?_
    obtain ⟨p2, ep2, hw⟩ := hw
    refine W.st (st' := [.ref p2, .int (cI M 1 h)]) (by rw [ep2]; rfl) ?_
    obtain ⟨h3, hw⟩ := hw
    refine cg_1 hx hb hts hin0 hown hK hH h3 (hts (.fieldLink RX0 13 "IdlCaller$Argument" "optional" "Z") (by decide +kernel)) dX0_isSameAs_5 ?_
    refine lv_icmp_ne (tgt := 40) hx hb dX0_isSameAs_8 (by decide) (fun c4 => ?_) (fun c4 => ?_)
    · replace hw := hw.1 c4
      exact b40    M H locs ls hH (lv_sub hl [] rfl) hw
    · replace hw := hw.2 c4
      refine lv_aload_n hx hb dX0_isSameAs_11 rfl (lv_at hl 0 rfl) ?_
      refine cg_2 hx hb hts hin0 hown hK hH h1 (hts (.fieldLink RX0 17 "IdlCaller$Argument" "variadic" "Z") (by decide +kernel)) dX0_isSameAs_12 ?_
      refine s_aload_n hx hb dX0_isSameAs_15 rfl (lv_at hl 1 rfl) ?_
      refine W.st (st' := [.ref p2, .int (cI M 2 h)]) (by rw [ep2]; rfl) ?_
      refine cg_2 hx hb hts hin0 hown hK hH h3 (hts (.fieldLink RX0 17 "IdlCaller$Argument" "variadic" "Z") (by decide +kernel)) dX0_isSameAs_16 ?_
      refine lv_icmp_ne (tgt := 40) hx hb dX0_isSameAs_19 (by decide) (fun c5 => ?_) (fun c5 => ?_)
      · replace hw := hw.1 c5
        exact b40    M H locs ls hH (lv_sub hl [] rfl) hw
      · replace hw := hw.2 c5
        refine lv_aload_n hx hb dX0_isSameAs_22 rfl (lv_at hl 0 rfl) ?_
        refine cg_0 hx hb hts hin0 hown hK hH h1 (hts (.fieldLink RX0 7 "IdlCaller$Argument" "type" "LIdlCaller$Type;") (by decide +kernel)) dX0_isSameAs_23 ?_
        refine s_aload_n hx hb dX0_isSameAs_26 rfl (lv_at hl 1 rfl) ?_
        refine W.st (st' := [.ref p2, va_rf (cR M 0 h)]) (by rw [ep2]; rfl) ?_
        refine cg_0 hx hb hts hin0 hown hK hH h3 (hts (.fieldLink RX0 7 "IdlCaller$Argument" "type" "LIdlCaller$Type;") (by decide +kernel)) dX0_isSameAs_27 ?_
        obtain ⟨p6, ep6, hw⟩ := hw
        refine W.st (st' := [va_rf (cR M 0 p2), .ref p6]) (by rw [ep6]; rfl) ?_
        obtain ⟨h7, hw⟩ := hw
        refine c_calli (va_runV (As := [va_rf (cR M 0 p2)]) (rest := []) ⟨hx, hb, hml, hown, hts⟩ (tc_X9_isSameAs l D kA nm na sa sv H.size T p6 (cR M 0 p2) M _ hw) (cwV 1 hts gX0_isSameAs_X9_isSameAs rfl rfl rfl (by decide +kernel) ⟨(show (2 : Nat) + 1 ≤ 3 from Nat.le_of_ble_eq_true rfl), (show 8 + (2 + 11) + (43 : Nat) ≤ 64 from Nat.le_of_ble_eq_true rfl)⟩) (c_preV hK hH hA hSt (c_recv9 hK hH h7)) rfl rfl hl.1 rfl (lv_room (by first | exact Nat.le_of_ble_eq_true rfl | simp [va_rf_cat, cat_ref, cat_int, cat_long, cat_double, cat_null])) dX0_isSameAs_30 ⟨Nat.le_of_ble_eq_true rfl, Nat.le_of_ble_eq_true rfl⟩) hH hA (fun r9 M8 H locs hw hH => ?_)
        refine lv_if_eq (tgt := 40) hx hb dX0_isSameAs_33 (by decide) (fun c11 => ?_) (fun c11 => ?_)
        · replace hw := hw.1 c11
          exact b40    M8 H locs ls hH (lv_sub hl [] rfl) hw
        · replace hw := hw.2 c11
          refine lv_iconst (v := 1) hx hb dX0_isSameAs_36 (by decide) ?_
          refine lv_goto (tgt := 41) hx hb dX0_isSameAs_37 (by decide) ?_
          exact b41   1 M8 H locs ls hH (lv_sub hl [] rfl) hw
  exact hst M s.heap [] ls hH hl hw
def fc_X9_init (T : LY) (h : Nat)  (a1 : Option Nat) (a2 : Int32) (a3 : Int32) (a4 : Option Nat) (a5 : Option Nat) (M : CM) (Q : CM → Prop) : Prop := (tg T h = 10 ∧ (∀ M2 : CM, M2 = sR M 90 h a1 → (∀ M3 : CM, M3 = sI M2 91 h a2 → (nZ a3 ∧ (∀ M5 : CM, M5 = sI M3 92 h a3 → (∀ M6 : CM, M6 = sR M5 93 h a4 → (∀ M7 : CM, M7 = sR M6 94 h a5 → Q M7)))))))
abbrev rmX9_init : Room := { frames := 1, cells := 0, slots := 0, locals := 12 }
set_option maxHeartbeats 4000000 in
set_option maxRecDepth 100000 in
theorem tc_X9_init (l : Launch) (D : va_G) (kA : Nat → ClassId) (nm : Nat → Nat) (na : Nat) (sa sv : Nat → Nat) (sz : Nat) (T : LY) (h : Nat) (a1 : Option Nat) (a2 : Int32) (a3 : Int32) (a4 : Option Nat) (a5 : Option Nat) (M : CM) (Q : CM → Prop) (hw : fc_X9_init T h a1 a2 a3 a4 a5 M Q) : Met l yX9_init wsX9_init rmX9_init (va_Pc [.ref h, va_rf a1, .int a2, .int a3, va_rf a4, va_rf a5] (cPc nm na sa sv D kA T M sz)) (va_Qv Q (cB D kA (cF T sz) T) (cF T sz)) 0 0 (cF T sz) := by
  refine Met.ofW (cc := cX9_init) (maxL := 6) (ret := none) (by decide) rfl ?_
  intro p e s m args below meth c s₁ B hml hv
  obtain ⟨rfl, hsz, hP, hK, hSt⟩ := hv
  have hx := B.exec
  have hb := B.bytes
  have hr := B.returns
  have hts := atoms_spec (ws := wsX9_init) B.pre
  have hown : s.vm.findClass RX9 = some m.cls := findClass_of_methodNamed B.named
  have hlocks : meth.locks = false := B.notSynchronized
  have hini : meth.name = "<init>" := (name_of_methodNamed B.named B.method).1
  subst hsz
  have hH : cH D kA (cF T s.heap.size) s.heap T M s.heap [] := ⟨hP.self, va_S.rf⟩
  have hA : ∀ q : Nat, s.heap.size ≤ q → cF T s.heap.size q := fun q z => Or.inr z
  generalize cF T s.heap.size = A at hH hA hSt ⊢
  have hl := lv_entry ([.ref h, va_rf a1, .int a2, .int a3, va_rf a4, va_rf a5]) (n := 6) (by first | exact Nat.le_of_ble_eq_true rfl | simp [lg_sl, va_rf_cat, cat_ref, cat_int, cat_long, cat_double])
  rw [lg_entry_eq]
  generalize (lg_sl ([.ref h, va_rf a1, .int a2, .int a3, va_rf a4, va_rf a5]) ++ List.replicate (6 - (lg_sl ([.ref h, va_rf a1, .int a2, .int a3, va_rf a4, va_rf a5])).length) Slot.unset).toArray = ls at hl ⊢
  generalize ([.ref h, va_rf a1, .int a2, .int a3, va_rf a4, va_rf a5] : List Value).toArray = args at hts ⊢
  have hl : lv_has ls 6 [(0, .ref h), (1, va_rf a1), (2, .int a2), (3, .int a3), (4, va_rf a4), (5, va_rf a5)] := by simpa [lv_args, va_rf_cat, cat_ref, cat_int, cat_long, cat_double] using hl
  have hin9 : ∀ w ∈ wsX90, w ∈ wsX9_init := by decide +kernel
  clear hP
  unfold fc_X9_init at hw
  have hst : ∀ (M : CM) (H : Heap) (locs : List Loc) (ls : Array Slot), cH D kA A s.heap T M H locs → lv_has ls 6 [(0, .ref h), (1, va_rf a1), (2, .int a2), (3, .int a3), (4, va_rf a4), (5, va_rf a5)] → (tg T h = 10 ∧ (∀ M2 : CM, M2 = sR M 90 h a1 → (∀ M3 : CM, M3 = sI M2 91 h a2 → (nZ a3 ∧ (∀ M5 : CM, M5 = sI M3 92 h a3 → (∀ M6 : CM, M6 = sR M5 93 h a4 → (∀ M7 : CM, M7 = sR M6 94 h a5 → Q M7))))))) → W p l e (headSpec wsX9_init rmX9_init).room s m args below meth c H locs 0 0 (MQ below (va_Qv Q (cB D kA A T) A) args s 0 0 A) (F0 m 0 ls []) := by
    intro M H locs ls hH hl hw
    refine lv_aload_n hx hb dX9_init_0 rfl (lv_at hl 0 rfl) ?_
    refine W.objInit hx hb hown (hts (.methodLink RX9 3 objectInit) (by decide +kernel)) (hts (.instanceMethod objectInit) (by decide +kernel)) (hts (.code objectInit ⟨#[0xb1]⟩ 1 none) (by decide +kernel)) rfl (by rw [hml]; exact hl.1) rfl dX9_init_1 ((show _ ≤ (1 : Nat) from by first | exact Nat.le_of_ble_eq_true rfl | simp [va_rf_cat, cat_ref, cat_int, cat_long, cat_double, cat_null])) ((show _ ≤ (12 : Nat) from by first | exact Nat.le_of_ble_eq_true rfl | simp [va_rf_cat, cat_ref, cat_int, cat_long, cat_double, cat_null])) ?_
    refine W.eq (g2 := F0 m 4 ls []) rfl ?_
    refine lv_aload_n hx hb dX9_init_4 rfl (lv_at hl 0 rfl) ?_
    refine s_aload_n hx hb dX9_init_5 rfl (lv_at hl 1 rfl) ?_
    obtain ⟨h1, hw⟩ := hw
    refine cp_90 (x := a1) hx hb hts hin9 hown hK hH h1 rfl hini (hts (.fieldLink RX9 9 "IdlCaller$Type" "name" "LIdlCaller$Name;") (by decide +kernel)) dX9_init_6 (fun M2 H locs eM2 hH => ?_)
    replace hw := hw M2 eM2
    refine lv_aload_n hx hb dX9_init_9 rfl (lv_at hl 0 rfl) ?_
    refine lv_iload_n hx hb dX9_init_10 rfl (lv_at hl 2 rfl) ?_
    refine cp_91 (x := a2) hx hb hts hin9 hown hK hH h1 rfl hini (hts (.fieldLink RX9 15 "IdlCaller$Type" "mode" "I") (by decide +kernel)) dX9_init_11 (fun M3 H locs eM3 hH => ?_)
    replace hw := hw M3 eM3
    refine lv_aload_n hx hb dX9_init_14 rfl (lv_at hl 0 rfl) ?_
    refine lv_iload_n hx hb dX9_init_15 rfl (lv_at hl 3 rfl) ?_
    obtain ⟨h4, hw⟩ := hw
    refine cp_92 (x := a3) hx hb hts hin9 hown hK hH h1 rfl hini (hts (.fieldLink RX9 19 "IdlCaller$Type" "nullable" "Z") (by decide +kernel)) h4 dX9_init_16 (fun M5 H locs eM5 hH => ?_)
    replace hw := hw M5 eM5
    refine lv_aload_n hx hb dX9_init_19 rfl (lv_at hl 0 rfl) ?_
    refine s_aload hx hb dX9_init_20 (lv_at hl 4 rfl) ?_
    refine cp_93 (x := a4) hx hb hts hin9 hown hK hH h1 rfl hini (hts (.fieldLink RX9 23 "IdlCaller$Type" "words" "[J") (by decide +kernel)) dX9_init_22 (fun M6 H locs eM6 hH => ?_)
    replace hw := hw M6 eM6
    refine lv_aload_n hx hb dX9_init_25 rfl (lv_at hl 0 rfl) ?_
    refine s_aload hx hb dX9_init_26 (lv_at hl 5 rfl) ?_
    refine cp_94 (x := a5) hx hb hts hin9 hown hK hH h1 rfl hini (hts (.fieldLink RX9 27 "IdlCaller$Type" "element" "LIdlCaller$Type;") (by decide +kernel)) dX9_init_28 (fun M7 H locs eM7 hH => ?_)
    replace hw := hw M7 eM7
    exact c_retv hx hb hr hlocks hK hH hw dX9_init_31
  exact hst M s.heap [] ls hH hl hw
def fc_X9_isDistinctFrom_b58 (nm : Nat → Nat) (T : LY) (h : Nat) (Q : Int32 → CM → Prop) (s0 : Int32) (M : CM) : Prop := (nZ s0 ∧ Q s0 M)
def fc_X9_isDistinctFrom_b36 (nm : Nat → Nat) (T : LY) (h : Nat) (Q : Int32 → CM → Prop) (v1 : Option Nat) (M : CM) : Prop := (tg T h = 10 ∧ (∃ i2 : Nat, cR M 90 h = some (nm i2) ∧ i2 < 10 ∧ (∃ p3 : Nat, v1 = some p3 ∧ (tg T p3 = 10 ∧ (∃ i5 : Nat, cR M 90 p3 = some (nm i5) ∧ i5 < 10 ∧ (((nSort i2) = (nSort i5) → fc_X9_isDistinctFrom_b58 nm T h Q  0 M) ∧ (¬ (nSort i2) = (nSort i5) → fc_X9_isDistinctFrom_b58 nm T h Q  1 M)))))))
def fc_X9_isDistinctFrom_b34 (nm : Nat → Nat) (T : LY) (h : Nat) (Q : Int32 → CM → Prop) (M : CM) : Prop := Q 0 M
def fc_X9_isDistinctFrom (nm : Nat → Nat) (T : LY) (h : Nat)  (a1 : Option Nat) (M : CM) (Q : Int32 → CM → Prop) : Prop := (tg T h = 10 ∧ (∃ i8 : Nat, cR M 90 h = some (nm i8) ∧ i8 < 10 ∧ (((nSort i8) = 0 → fc_X9_isDistinctFrom_b34 nm T h Q   M) ∧ (¬ (nSort i8) = 0 → (∃ p10 : Nat, a1 = some p10 ∧ (tg T p10 = 10 ∧ (∃ i12 : Nat, cR M 90 p10 = some (nm i12) ∧ i12 < 10 ∧ (((nSort i12) = 0 → fc_X9_isDistinctFrom_b34 nm T h Q   M) ∧ (¬ (nSort i12) = 0 → (((cI M 92 h) = 0 → fc_X9_isDistinctFrom_b36 nm T h Q  a1 M) ∧ (¬ (cI M 92 h) = 0 → (((cI M 92 p10) = 0 → fc_X9_isDistinctFrom_b36 nm T h Q  a1 M) ∧ (¬ (cI M 92 p10) = 0 → fc_X9_isDistinctFrom_b34 nm T h Q   M)))))))))))))
abbrev rmX9_isDistinctFrom : Room := { frames := 0, cells := 0, slots := 0, locals := 0 }
set_option maxHeartbeats 4000000 in
set_option maxRecDepth 100000 in
theorem tc_X9_isDistinctFrom (l : Launch) (D : va_G) (kA : Nat → ClassId) (nm : Nat → Nat) (na : Nat) (sa sv : Nat → Nat) (sz : Nat) (T : LY) (h : Nat) (a1 : Option Nat) (M : CM) (Q : Int32 → CM → Prop) (hw : fc_X9_isDistinctFrom nm T h a1 M Q) : Met l yX9_isDistinctFrom wsX9_isDistinctFrom rmX9_isDistinctFrom (va_Pc [.ref h, va_rf a1] (cPc nm na sa sv D kA T M sz)) (va_Qi Q (cB D kA (cF T sz) T) (cF T sz)) 0 0 (cF T sz) := by
  refine Met.ofW (cc := cX9_isDistinctFrom) (maxL := 2) (ret := (some .boolean)) (by decide) rfl ?_
  intro p e s m args below meth c s₁ B hml hv
  obtain ⟨rfl, hsz, hP, hK, hSt⟩ := hv
  have hx := B.exec
  have hb := B.bytes
  have hr := B.returns
  have hts := atoms_spec (ws := wsX9_isDistinctFrom) B.pre
  have hown : s.vm.findClass RX9 = some m.cls := findClass_of_methodNamed B.named
  have hlocks : meth.locks = false := B.notSynchronized
  subst hsz
  have hH : cH D kA (cF T s.heap.size) s.heap T M s.heap [] := ⟨hP.self, va_S.rf⟩
  have hA : ∀ q : Nat, s.heap.size ≤ q → cF T s.heap.size q := fun q z => Or.inr z
  generalize cF T s.heap.size = A at hH hA hSt ⊢
  have hl := lv_entry ([.ref h, va_rf a1]) (n := 2) (by first | exact Nat.le_of_ble_eq_true rfl | simp [lg_sl, va_rf_cat, cat_ref, cat_int, cat_long, cat_double])
  rw [lg_entry_eq]
  generalize (lg_sl ([.ref h, va_rf a1]) ++ List.replicate (2 - (lg_sl ([.ref h, va_rf a1])).length) Slot.unset).toArray = ls at hl ⊢
  generalize ([.ref h, va_rf a1] : List Value).toArray = args at hts ⊢
  have hl : lv_has ls 2 [(0, .ref h), (1, va_rf a1)] := by simpa [lv_args, va_rf_cat, cat_ref, cat_int, cat_long, cat_double] using hl
  have hin9 : ∀ w ∈ wsX90, w ∈ wsX9_isDistinctFrom := by decide +kernel
  have b58 : ∀ (s0 : Int32) (M : CM) (H : Heap) (locs : List Loc) (ls : Array Slot), cH D kA A s.heap T M H locs → lv_has ls 2 [] → fc_X9_isDistinctFrom_b58 nm T h Q  s0 M → W p l e (headSpec wsX9_isDistinctFrom rmX9_isDistinctFrom).room s m args below meth c H locs 0 0 (MQ below (va_Qi Q (cB D kA A T) A) args s 0 0 A) (F0 m 58 ls [.int s0]) := by
    intro   s0 M H locs ls hH hl hw
    unfold fc_X9_isDistinctFrom_b58 at hw
    exact c_retz hx hb hr hw.1.1 hlocks hK hH hw.2 dX9_isDistinctFrom_58
  have b36 : ∀ (v1 : Option Nat) (M : CM) (H : Heap) (locs : List Loc) (ls : Array Slot), cH D kA A s.heap T M H locs → lv_has ls 2 [(0, .ref h), (1, va_rf v1)] → fc_X9_isDistinctFrom_b36 nm T h Q  v1 M → W p l e (headSpec wsX9_isDistinctFrom rmX9_isDistinctFrom).room s m args below meth c H locs 0 0 (MQ below (va_Qi Q (cB D kA A T) A) args s 0 0 A) (F0 m 36 ls []) := by
    intro   v1 M H locs ls hH hl hw
    unfold fc_X9_isDistinctFrom_b36 at hw
    refine lv_aload_n hx hb dX9_isDistinctFrom_36 rfl (lv_at hl 0 rfl) ?_
    obtain ⟨h1, hw⟩ := hw
    refine cg_90 hx hb hts hin9 hown hK hH h1 (hts (.fieldLink RX9 9 "IdlCaller$Type" "name" "LIdlCaller$Name;") (by decide +kernel)) dX9_isDistinctFrom_37 ?_
    obtain ⟨i2, ei2, hi2, hw⟩ := hw
    refine W.st (st' := [.ref (nm i2)]) (by first | (rw [ei2]; rfl) | (have z := Option.some.inj ei2; rw [z])) ?_
    refine ce_sort hx hb hown hSt hH hi2 (hts (.fieldLink RX9 31 "IdlCaller$Name" "sort" "I") (by decide +kernel)) dX9_isDistinctFrom_40 ?_
    refine s_aload_n hx hb dX9_isDistinctFrom_43 rfl (lv_at hl 1 rfl) ?_
    obtain ⟨p3, ep3, hw⟩ := hw
    refine W.st (st' := [.ref p3, .int (nSort i2)]) (by rw [ep3]; rfl) ?_
    obtain ⟨h4, hw⟩ := hw
    refine cg_90 hx hb hts hin9 hown hK hH h4 (hts (.fieldLink RX9 9 "IdlCaller$Type" "name" "LIdlCaller$Name;") (by decide +kernel)) dX9_isDistinctFrom_44 ?_
    obtain ⟨i5, ei5, hi5, hw⟩ := hw
    refine W.st (st' := [.ref (nm i5), .int (nSort i2)]) (by first | (rw [ei5]; rfl) | (have z := Option.some.inj ei5; rw [z])) ?_
    refine ce_sort hx hb hown hSt hH hi5 (hts (.fieldLink RX9 31 "IdlCaller$Name" "sort" "I") (by decide +kernel)) dX9_isDistinctFrom_47 ?_
    refine lv_icmp_eq (tgt := 57) hx hb dX9_isDistinctFrom_50 (by decide) (fun c6 => ?_) (fun c6 => ?_)
    · replace hw := hw.1 c6
      refine lv_iconst (v := 0) hx hb dX9_isDistinctFrom_57 (by decide) ?_
      exact b58   0 M H locs ls hH (lv_sub hl [] rfl) hw
    · replace hw := hw.2 c6
      refine lv_iconst (v := 1) hx hb dX9_isDistinctFrom_53 (by decide) ?_
      refine lv_goto (tgt := 58) hx hb dX9_isDistinctFrom_54 (by decide) ?_
      exact b58   1 M H locs ls hH (lv_sub hl [] rfl) hw
  have b34 : ∀ (M : CM) (H : Heap) (locs : List Loc) (ls : Array Slot), cH D kA A s.heap T M H locs → lv_has ls 2 [] → fc_X9_isDistinctFrom_b34 nm T h Q   M → W p l e (headSpec wsX9_isDistinctFrom rmX9_isDistinctFrom).room s m args below meth c H locs 0 0 (MQ below (va_Qi Q (cB D kA A T) A) args s 0 0 A) (F0 m 34 ls []) := by
    intro    M H locs ls hH hl hw
    unfold fc_X9_isDistinctFrom_b34 at hw
    refine lv_iconst (v := 0) hx hb dX9_isDistinctFrom_34 (by decide) ?_
    exact c_retz hx hb hr rfl hlocks hK hH hw dX9_isDistinctFrom_35
  clear hP
  unfold fc_X9_isDistinctFrom at hw
  have hst : ∀ (M : CM) (H : Heap) (locs : List Loc) (ls : Array Slot), cH D kA A s.heap T M H locs → lv_has ls 2 [(0, .ref h), (1, va_rf a1)] → (tg T h = 10 ∧ (∃ i8 : Nat, cR M 90 h = some (nm i8) ∧ i8 < 10 ∧ (((nSort i8) = 0 → fc_X9_isDistinctFrom_b34 nm T h Q   M) ∧ (¬ (nSort i8) = 0 → (∃ p10 : Nat, a1 = some p10 ∧ (tg T p10 = 10 ∧ (∃ i12 : Nat, cR M 90 p10 = some (nm i12) ∧ i12 < 10 ∧ (((nSort i12) = 0 → fc_X9_isDistinctFrom_b34 nm T h Q   M) ∧ (¬ (nSort i12) = 0 → (((cI M 92 h) = 0 → fc_X9_isDistinctFrom_b36 nm T h Q  a1 M) ∧ (¬ (cI M 92 h) = 0 → (((cI M 92 p10) = 0 → fc_X9_isDistinctFrom_b36 nm T h Q  a1 M) ∧ (¬ (cI M 92 p10) = 0 → fc_X9_isDistinctFrom_b34 nm T h Q   M))))))))))))) → W p l e (headSpec wsX9_isDistinctFrom rmX9_isDistinctFrom).room s m args below meth c H locs 0 0 (MQ below (va_Qi Q (cB D kA A T) A) args s 0 0 A) (F0 m 0 ls []) := by
    intro M H locs ls hH hl hw
    refine lv_aload_n hx hb dX9_isDistinctFrom_0 rfl (lv_at hl 0 rfl) ?_
    obtain ⟨h7, hw⟩ := hw
    refine cg_90 hx hb hts hin9 hown hK hH h7 (hts (.fieldLink RX9 9 "IdlCaller$Type" "name" "LIdlCaller$Name;") (by decide +kernel)) dX9_isDistinctFrom_1 ?_
    obtain ⟨i8, ei8, hi8, hw⟩ := hw
    refine W.st (st' := [.ref (nm i8)]) (by first | (rw [ei8]; rfl) | (have z := Option.some.inj ei8; rw [z])) ?_
    refine ce_sort hx hb hown hSt hH hi8 (hts (.fieldLink RX9 31 "IdlCaller$Name" "sort" "I") (by decide +kernel)) dX9_isDistinctFrom_4 ?_
    refine lv_if_eq (tgt := 34) hx hb dX9_isDistinctFrom_7 (by decide) (fun c9 => ?_) (fun c9 => ?_)
    · replace hw := hw.1 c9
      exact b34    M H locs ls hH (lv_sub hl [] rfl) hw
    · replace hw := hw.2 c9
      refine s_aload_n hx hb dX9_isDistinctFrom_10 rfl (lv_at hl 1 rfl) ?_
      obtain ⟨p10, ep10, hw⟩ := hw
      refine W.st (st' := [.ref p10]) (by rw [ep10]; rfl) ?_
      obtain ⟨h11, hw⟩ := hw
      refine cg_90 hx hb hts hin9 hown hK hH h11 (hts (.fieldLink RX9 9 "IdlCaller$Type" "name" "LIdlCaller$Name;") (by decide +kernel)) dX9_isDistinctFrom_11 ?_
      obtain ⟨i12, ei12, hi12, hw⟩ := hw
      refine W.st (st' := [.ref (nm i12)]) (by first | (rw [ei12]; rfl) | (have z := Option.some.inj ei12; rw [z])) ?_
      refine ce_sort hx hb hown hSt hH hi12 (hts (.fieldLink RX9 31 "IdlCaller$Name" "sort" "I") (by decide +kernel)) dX9_isDistinctFrom_14 ?_
      refine lv_if_eq (tgt := 34) hx hb dX9_isDistinctFrom_17 (by decide) (fun c13 => ?_) (fun c13 => ?_)
      · replace hw := hw.1 c13
        exact b34    M H locs ls hH (lv_sub hl [] rfl) hw
      · replace hw := hw.2 c13
        refine lv_aload_n hx hb dX9_isDistinctFrom_20 rfl (lv_at hl 0 rfl) ?_
        refine cg_92 hx hb hts hin9 hown hK hH h7 (hts (.fieldLink RX9 19 "IdlCaller$Type" "nullable" "Z") (by decide +kernel)) dX9_isDistinctFrom_21 ?_
        refine lv_if_eq (tgt := 36) hx hb dX9_isDistinctFrom_24 (by decide) (fun c14 => ?_) (fun c14 => ?_)
        · replace hw := hw.1 c14
          exact b36   a1 M H locs ls hH (lv_sub hl [0, 1] rfl) hw
        · replace hw := hw.2 c14
          refine s_aload_n hx hb dX9_isDistinctFrom_27 rfl (lv_at hl 1 rfl) ?_
          refine W.st (st' := [.ref p10]) (by rw [ep10]; rfl) ?_
          refine cg_92 hx hb hts hin9 hown hK hH h11 (hts (.fieldLink RX9 19 "IdlCaller$Type" "nullable" "Z") (by decide +kernel)) dX9_isDistinctFrom_28 ?_
          refine lv_if_eq (tgt := 36) hx hb dX9_isDistinctFrom_31 (by decide) (fun c15 => ?_) (fun c15 => ?_)
          · replace hw := hw.1 c15
            exact b36   a1 M H locs ls hH (lv_sub hl [0, 1] rfl) hw
          · replace hw := hw.2 c15
            exact b34    M H locs ls hH (lv_sub hl [] rfl) hw
  exact hst M s.heap [] ls hH hl hw
def fc_X9_hasWord_c27 (T : LY) (h : Nat) (Q : Int32 → CM → Prop) (k27 : Int64 → Option Nat → Int32 → Int32 → CM → Prop) (v1 : Int64) (v3 : Option Nat) (v4 : Int32) (v5 : Int32) (M : CM) : Prop := ((v4 ≤ v5 → Q 0 M) ∧ (¬ v4 ≤ v5 → (∃ p2 : Nat, v3 = some p2 ∧ (tg T p2 = 23 ∧ (vp_in v5 (ln T p2) ∧ (∀ x5 : Int64, x5 = xJ M p2 v5.toNatClampNeg → ((¬ (lg_cmp x5 v1) = 0 → (∀ x7 : Int32, x7 = v5 + 1 → k27 v1 v3 v4 x7 M)) ∧ ((lg_cmp x5 v1) = 0 → Q 1 M))))))))
def fc_X9_hasWord_l27 (T : LY) (h : Nat) (Q : Int32 → CM → Prop) : Nat → Int64 → Option Nat → Int32 → Int32 → CM → Prop := lit (τ := Int64 → Option Nat → Int32 → Int32 → CM → Prop) (fun _ _ _ _ _ => False) (fun k => fc_X9_hasWord_c27 T h Q  k)
def fc_X9_hasWord_b13 (T : LY) (h : Nat) (Q : Int32 → CM → Prop) (M : CM) : Prop := Q 0 M
def fc_X9_hasWord (T : LY) (h : Nat)  (a1 : Int64) (M : CM) (Q : Int32 → CM → Prop) : Prop := (tg T h = 10 ∧ (((cR M 93 h) = none → fc_X9_hasWord_b13 T h Q   M) ∧ (¬ (cR M 93 h) = none → ((¬ (lg_cmp a1 0) = 0 → (∃ p11 : Nat, cR M 93 h = some p11 ∧ (tg T p11 = 23 ∧ (∀ x13 : Int32, x13 = nI (ln T p11) → (∃ nn : Nat, fc_X9_hasWord_l27 T h Q  nn a1 (cR M 93 h) x13 0 M))))) ∧ ((lg_cmp a1 0) = 0 → fc_X9_hasWord_b13 T h Q   M)))))
abbrev rmX9_hasWord : Room := { frames := 0, cells := 0, slots := 0, locals := 0 }
set_option maxHeartbeats 4000000 in
set_option maxRecDepth 100000 in
theorem tc_X9_hasWord (l : Launch) (D : va_G) (kA : Nat → ClassId) (nm : Nat → Nat) (na : Nat) (sa sv : Nat → Nat) (sz : Nat) (T : LY) (h : Nat) (a1 : Int64) (M : CM) (Q : Int32 → CM → Prop) (hw : fc_X9_hasWord T h a1 M Q) : Met l yX9_hasWord wsX9_hasWord rmX9_hasWord (va_Pc [.ref h, .long a1] (cPc nm na sa sv D kA T M sz)) (va_Qi Q (cB D kA (cF T sz) T) (cF T sz)) 0 0 (cF T sz) := by
  refine Met.ofW (cc := cX9_hasWord) (maxL := 8) (ret := (some .boolean)) (by decide) rfl ?_
  intro p e s m args below meth c s₁ B hml hv
  obtain ⟨rfl, hsz, hP, hK, hSt⟩ := hv
  have hx := B.exec
  have hb := B.bytes
  have hr := B.returns
  have hts := atoms_spec (ws := wsX9_hasWord) B.pre
  have hown : s.vm.findClass RX9 = some m.cls := findClass_of_methodNamed B.named
  have hlocks : meth.locks = false := B.notSynchronized
  subst hsz
  have hH : cH D kA (cF T s.heap.size) s.heap T M s.heap [] := ⟨hP.self, va_S.rf⟩
  have hA : ∀ q : Nat, s.heap.size ≤ q → cF T s.heap.size q := fun q z => Or.inr z
  generalize cF T s.heap.size = A at hH hA hSt ⊢
  have hl := lv_entry ([.ref h, .long a1]) (n := 8) (by first | exact Nat.le_of_ble_eq_true rfl | simp [lg_sl, va_rf_cat, cat_ref, cat_int, cat_long, cat_double])
  rw [lg_entry_eq]
  generalize (lg_sl ([.ref h, .long a1]) ++ List.replicate (8 - (lg_sl ([.ref h, .long a1])).length) Slot.unset).toArray = ls at hl ⊢
  generalize ([.ref h, .long a1] : List Value).toArray = args at hts ⊢
  have hl : lv_has ls 8 [(0, .ref h), (1, .long a1)] := hl
  have hin9 : ∀ w ∈ wsX90, w ∈ wsX9_hasWord := by decide +kernel
  have l27 : ∀ (nn : Nat) (v1 : Int64) (v3 : Option Nat) (v4 : Int32) (v5 : Int32) (M : CM) (H : Heap) (locs : List Loc) (ls : Array Slot), cH D kA A s.heap T M H locs → lv_has ls 8 [(1, .long v1), (3, va_rf v3), (4, .int v4), (5, .int v5)] → fc_X9_hasWord_l27 T h Q  nn v1 v3 v4 v5 M → W p l e (headSpec wsX9_hasWord rmX9_hasWord).room s m args below meth c H locs 0 0 (MQ below (va_Qi Q (cB D kA A T) A) args s 0 0 A) (F0 m 27 ls []) := by
    intro   nn
    induction nn with
    | zero => intro v1 v3 v4 v5 M H locs ls hH hl hw; exact False.elim hw
    | succ nn hk27 =>
      intro v1 v3 v4 v5 M H locs ls hH hl hw
      replace hw : fc_X9_hasWord_c27 T h Q  (fc_X9_hasWord_l27 T h Q  nn) v1 v3 v4 v5 M := hw
      unfold fc_X9_hasWord_c27 at hw
      refine lv_iload hx hb dX9_hasWord_27 (lv_at hl 3 rfl) ?_
      refine lv_iload hx hb dX9_hasWord_29 (lv_at hl 2 rfl) ?_
      refine lv_icmp_ge (tgt := 55) hx hb dX9_hasWord_31 (by decide) (fun c1 => ?_) (fun c1 => ?_)
      · replace hw := hw.1 c1
        refine lv_iconst (v := 0) hx hb dX9_hasWord_55 (by decide) ?_
        exact c_retz hx hb hr rfl hlocks hK hH hw dX9_hasWord_56
      · replace hw := hw.2 c1
        refine s_aload_n hx hb dX9_hasWord_34 rfl (lv_at hl 1 rfl) ?_
        refine lv_iload hx hb dX9_hasWord_35 (lv_at hl 3 rfl) ?_
        obtain ⟨p2, ep2, hw⟩ := hw
        refine W.st (st' := [.int v5, .ref p2]) (by rw [ep2]; rfl) ?_
        obtain ⟨h3, hw⟩ := hw
        obtain ⟨h4, hw⟩ := hw
        refine cl_3 hx hb hK hH h3 h4 dX9_hasWord_37 ?_
        refine lv_topl (fun x5 ex5 => ?_)
        replace hw := hw x5 ex5
        refine lv_lstore (i := 6) (lv' := [(6, .long x5), (1, .long v1), (3, va_rf v3), (4, .int v4), (5, .int v5)]) hx hb dX9_hasWord_38 hl (by decide) (by first | rfl | simp [va_rf_cat, cat_ref, cat_int, cat_long, cat_double, cat_null]) (fun ls hl => ?_)
        refine lv_lload hx hb dX9_hasWord_40 (lv_at hl 0 rfl) ?_
        refine lv_lload_n hx hb dX9_hasWord_42 rfl (lv_at hl 1 rfl) ?_
        refine W.lcmp hx hb dX9_hasWord_43 ?_
        refine lv_if_ne (tgt := 49) hx hb dX9_hasWord_44 (by decide) (fun c6 => ?_) (fun c6 => ?_)
        · replace hw := hw.1 c6
          obtain ⟨x7, ex7⟩ : ∃ y : Int32, y = v5 + 1 := ⟨_, rfl⟩
          replace hw := hw x7 ex7
          refine lv_iinc (v := x7) (lv' := [(5, .int x7), (6, .long x5), (1, .long v1), (3, va_rf v3), (4, .int v4)]) hx hb dX9_hasWord_49 hl (k := 4) rfl (by rw [ex7]; rfl) (by decide) (by first | rfl | simp [va_rf_cat, cat_ref, cat_int, cat_long, cat_double, cat_null]) (fun ls hl => ?_)
          refine lv_goto (tgt := 27) hx hb dX9_hasWord_52 (by decide) ?_
          exact hk27 v1 v3 v4 x7 M H locs ls hH (lv_sub hl [2, 3, 4, 0] rfl) hw
        · replace hw := hw.2 c6
          refine lv_iconst (v := 1) hx hb dX9_hasWord_47 (by decide) ?_
          exact c_retz hx hb hr rfl hlocks hK hH hw dX9_hasWord_48
  have b13 : ∀ (M : CM) (H : Heap) (locs : List Loc) (ls : Array Slot), cH D kA A s.heap T M H locs → lv_has ls 8 [] → fc_X9_hasWord_b13 T h Q   M → W p l e (headSpec wsX9_hasWord rmX9_hasWord).room s m args below meth c H locs 0 0 (MQ below (va_Qi Q (cB D kA A T) A) args s 0 0 A) (F0 m 13 ls []) := by
    intro    M H locs ls hH hl hw
    unfold fc_X9_hasWord_b13 at hw
    refine lv_iconst (v := 0) hx hb dX9_hasWord_13 (by decide) ?_
    exact c_retz hx hb hr rfl hlocks hK hH hw dX9_hasWord_14
  clear hP
  unfold fc_X9_hasWord at hw
  have hst : ∀ (M : CM) (H : Heap) (locs : List Loc) (ls : Array Slot), cH D kA A s.heap T M H locs → lv_has ls 8 [(0, .ref h), (1, .long a1)] → (tg T h = 10 ∧ (((cR M 93 h) = none → fc_X9_hasWord_b13 T h Q   M) ∧ (¬ (cR M 93 h) = none → ((¬ (lg_cmp a1 0) = 0 → (∃ p11 : Nat, cR M 93 h = some p11 ∧ (tg T p11 = 23 ∧ (∀ x13 : Int32, x13 = nI (ln T p11) → (∃ nn : Nat, fc_X9_hasWord_l27 T h Q  nn a1 (cR M 93 h) x13 0 M))))) ∧ ((lg_cmp a1 0) = 0 → fc_X9_hasWord_b13 T h Q   M))))) → W p l e (headSpec wsX9_hasWord rmX9_hasWord).room s m args below meth c H locs 0 0 (MQ below (va_Qi Q (cB D kA A T) A) args s 0 0 A) (F0 m 0 ls []) := by
    intro M H locs ls hH hl hw
    refine lv_aload_n hx hb dX9_hasWord_0 rfl (lv_at hl 0 rfl) ?_
    obtain ⟨h8, hw⟩ := hw
    refine cg_93 hx hb hts hin9 hown hK hH h8 (hts (.fieldLink RX9 23 "IdlCaller$Type" "words" "[J") (by decide +kernel)) dX9_hasWord_1 ?_
    refine s_ifnull (tgt := 13) hx hb dX9_hasWord_4 (by decide) (fun c9 => ?_) (fun c9 => ?_)
    · replace hw := hw.1 c9
      exact b13    M H locs ls hH (lv_sub hl [] rfl) hw
    · replace hw := hw.2 c9
      refine lv_lload_n hx hb dX9_hasWord_7 rfl (lv_at hl 1 rfl) ?_
      refine lv_lconst (v := 0) hx hb dX9_hasWord_8 (by decide) ?_
      refine W.lcmp hx hb dX9_hasWord_9 ?_
      refine lv_if_ne (tgt := 15) hx hb dX9_hasWord_10 (by decide) (fun c10 => ?_) (fun c10 => ?_)
      · replace hw := hw.1 c10
        refine lv_aload_n hx hb dX9_hasWord_15 rfl (lv_at hl 0 rfl) ?_
        refine cg_93 hx hb hts hin9 hown hK hH h8 (hts (.fieldLink RX9 23 "IdlCaller$Type" "words" "[J") (by decide +kernel)) dX9_hasWord_16 ?_
        refine s_astore_n (i := 3) (lv' := [(3, va_rf (cR M 93 h)), (0, .ref h), (1, .long a1)]) hx hb dX9_hasWord_19 rfl hl (by decide) (by first | rfl | simp [va_rf_cat, cat_ref, cat_int, cat_long, cat_double, cat_null]) (fun ls hl => ?_)
        refine s_aload_n hx hb dX9_hasWord_20 rfl (lv_at hl 0 rfl) ?_
        obtain ⟨p11, ep11, hw⟩ := hw
        refine W.st (st' := [.ref p11]) (by rw [ep11]; rfl) ?_
        obtain ⟨h12, hw⟩ := hw
        refine cn_3 hx hb hK hH h12 dX9_hasWord_21 ?_
        refine lv_topi (fun x13 ex13 => ?_)
        replace hw := hw x13 ex13
        refine lv_istore (i := 4) (lv' := [(4, .int x13), (3, va_rf (cR M 93 h)), (0, .ref h), (1, .long a1)]) hx hb dX9_hasWord_22 hl (by decide) (by first | rfl | simp [va_rf_cat, cat_ref, cat_int, cat_long, cat_double, cat_null]) (fun ls hl => ?_)
        refine lv_iconst (v := 0) hx hb dX9_hasWord_24 (by decide) ?_
        refine lv_istore (i := 5) (lv' := [(5, .int 0), (4, .int x13), (3, va_rf (cR M 93 h)), (0, .ref h), (1, .long a1)]) hx hb dX9_hasWord_25 hl (by decide) (by first | rfl | simp [va_rf_cat, cat_ref, cat_int, cat_long, cat_double, cat_null]) (fun ls hl => ?_)
        obtain ⟨nn, hw⟩ := hw
        exact l27   nn a1 (cR M 93 h) x13 0 M H locs ls hH (lv_sub hl [4, 2, 1, 0] rfl) hw
      · replace hw := hw.2 c10
        exact b13    M H locs ls hH (lv_sub hl [] rfl) hw
  exact hst M s.heap [] ls hH hl hw
def fc_X2_init (mc ms : Nat) (h : Nat)  (a1 : Int32) (T : LY) (M : CM) (Q : LY → CM → Prop) : Prop := (tg T h = 3 ∧ (∀ M2 : CM, M2 = sI M 21 h (-1) → (¬ (5 : Int32) < 0 ∧ ((5 : Int32).toNatClampNeg ≤ 60000000 ∧ (0 + 1 ≤ mc ∧ (0 + (5 : Int32).toNatClampNeg ≤ ms ∧ (∀ (q3 : Nat) (T4 : LY) (M5 : CM), tg T q3 = 0 → T4 = mkT T 25 ((5 : Int32).toNatClampNeg) q3 → M5 = mkM M2 q3 → (tg T4 h = 3 ∧ (∀ M11 : CM, M11 = sR M5 22 h (some q3) → (∀ M12 : CM, M12 = sI M11 23 h 0 → (nZ (0 : Int32) ∧ (∀ M14 : CM, M14 = sI M12 24 h 0 → (∀ M15 : CM, M15 = sI M14 20 h a1 → (0 + 1 ≤ mc ∧ 0 + (5 : Int32).toNatClampNeg ≤ ms ∧ Q T4 M15))))))))))))))
abbrev rmX2_init (mc ms : Nat) : Room := { frames := 1, cells := mc, slots := ms, locals := 12 }
set_option maxHeartbeats 4000000 in
set_option maxRecDepth 100000 in
theorem tc_X2_init (l : Launch) (D : va_G) (kA : Nat → ClassId) (nm : Nat → Nat) (na : Nat) (sa sv : Nat → Nat) (sz : Nat) (mc ms : Nat) (h : Nat) (a1 : Int32) (T : LY) (M : CM) (Q : LY → CM → Prop) (hw : fc_X2_init mc ms h a1 T M Q) : Met l yX2_init wsX2_init (rmX2_init mc ms) (va_Pc [.ref h, .int a1] (cPc nm na sa sv D kA T M sz)) (va_Qv (fun (u : LY × CM) => Q u.1 u.2) (cBT D kA (cF T sz)) (cF T sz)) mc ms (cF T sz) := by
  refine Met.ofW (cc := cX2_init) (maxL := 2) (ret := none) (by decide) rfl ?_
  intro p e s m args below meth c s₁ B hml hv
  obtain ⟨rfl, hsz, hP, hK, hSt⟩ := hv
  have hx := B.exec
  have hb := B.bytes
  have hr := B.returns
  have hts := atoms_spec (ws := wsX2_init) B.pre
  have hown : s.vm.findClass RX2 = some m.cls := findClass_of_methodNamed B.named
  have hlocks : meth.locks = false := B.notSynchronized
  have hini : meth.name = "<init>" := (name_of_methodNamed B.named B.method).1
  subst hsz
  have hH : cH D kA (cF T s.heap.size) s.heap T M s.heap [] := ⟨hP.self, va_S.rf⟩
  have hA : ∀ q : Nat, s.heap.size ≤ q → cF T s.heap.size q := fun q z => Or.inr z
  generalize cF T s.heap.size = A at hH hA hSt ⊢
  have hl := lv_entry ([.ref h, .int a1]) (n := 2) (by first | exact Nat.le_of_ble_eq_true rfl | simp [lg_sl, va_rf_cat, cat_ref, cat_int, cat_long, cat_double])
  rw [lg_entry_eq]
  generalize (lg_sl ([.ref h, .int a1]) ++ List.replicate (2 - (lg_sl ([.ref h, .int a1])).length) Slot.unset).toArray = ls at hl ⊢
  generalize ([.ref h, .int a1] : List Value).toArray = args at hts ⊢
  have hl : lv_has ls 2 [(0, .ref h), (1, .int a1)] := hl
  have hin2 : ∀ w ∈ wsX20, w ∈ wsX2_init := by decide +kernel
  clear hP
  unfold fc_X2_init at hw
  have hst : ∀ (T : LY) (M : CM) (H : Heap) (locs : List Loc) (ls : Array Slot), cH D kA A s.heap T M H locs → lv_has ls 2 [(0, .ref h), (1, .int a1)] → (tg T h = 3 ∧ (∀ M2 : CM, M2 = sI M 21 h (-1) → (¬ (5 : Int32) < 0 ∧ ((5 : Int32).toNatClampNeg ≤ 60000000 ∧ (0 + 1 ≤ mc ∧ (0 + (5 : Int32).toNatClampNeg ≤ ms ∧ (∀ (q3 : Nat) (T4 : LY) (M5 : CM), tg T q3 = 0 → T4 = mkT T 25 ((5 : Int32).toNatClampNeg) q3 → M5 = mkM M2 q3 → (tg T4 h = 3 ∧ (∀ M11 : CM, M11 = sR M5 22 h (some q3) → (∀ M12 : CM, M12 = sI M11 23 h 0 → (nZ (0 : Int32) ∧ (∀ M14 : CM, M14 = sI M12 24 h 0 → (∀ M15 : CM, M15 = sI M14 20 h a1 → (0 + 1 ≤ mc ∧ 0 + (5 : Int32).toNatClampNeg ≤ ms ∧ Q T4 M15)))))))))))))) → W p l e (headSpec wsX2_init (rmX2_init mc ms)).room s m args below meth c H locs 0 0 (MQ below (va_Qv (fun (u : LY × CM) => Q u.1 u.2) (cBT D kA A) A) args s mc ms A) (F0 m 0 ls []) := by
    intro T M H locs ls hH hl hw
    refine lv_aload_n hx hb dX2_init_0 rfl (lv_at hl 0 rfl) ?_
    refine W.objInit hx hb hown (hts (.methodLink RX2 3 objectInit) (by decide +kernel)) (hts (.instanceMethod objectInit) (by decide +kernel)) (hts (.code objectInit ⟨#[0xb1]⟩ 1 none) (by decide +kernel)) rfl (by rw [hml]; exact hl.1) rfl dX2_init_1 ((show _ ≤ (1 : Nat) from by first | exact Nat.le_of_ble_eq_true rfl | simp [va_rf_cat, cat_ref, cat_int, cat_long, cat_double, cat_null])) ((show _ ≤ (12 : Nat) from by first | exact Nat.le_of_ble_eq_true rfl | simp [va_rf_cat, cat_ref, cat_int, cat_long, cat_double, cat_null])) ?_
    refine W.eq (g2 := F0 m 4 ls []) rfl ?_
    refine lv_aload_n hx hb dX2_init_4 rfl (lv_at hl 0 rfl) ?_
    refine lv_iconst (v := (-1)) hx hb dX2_init_5 (by decide) ?_
    obtain ⟨h1, hw⟩ := hw
    refine cp_21 (x := (-1)) hx hb hts hin2 hown hK hH h1 (hts (.fieldLink RX2 9 "IdlCaller$Form" "number" "I") (by decide +kernel)) dX2_init_6 (fun M2 H locs eM2 hH => ?_)
    replace hw := hw M2 eM2
    refine lv_aload_n hx hb dX2_init_9 rfl (lv_at hl 0 rfl) ?_
    refine lv_iconst (v := 5) hx hb dX2_init_10 (by decide) ?_
    obtain ⟨h6, hw⟩ := hw
    obtain ⟨h7, hw⟩ := hw
    obtain ⟨h8, hw⟩ := hw
    obtain ⟨h9, hw⟩ := hw
    refine cnewa_5 hx hb hown (hts (.classLink RX2 15 "IdlCaller$Argument") (by decide +kernel)) (hSt.2.2.2.2.2.2.2.2.2.2.2.2.2.2.2.2.2.2.2.2.2.2.2.2.2.1) hK hH hA h6 rfl h7 h8 h9 dX2_init_11 (fun q3 H zq3 hH => ?_)
    obtain ⟨T4, eT4⟩ : ∃ z, z = mkT T 25 ((5 : Int32).toNatClampNeg) q3 := ⟨_, rfl⟩
    obtain ⟨M5, eM5⟩ : ∃ z, z = mkM M2 q3 := ⟨_, rfl⟩
    replace hw := hw q3 T4 M5 zq3 eT4 eM5
    rw [← eT4, ← eM5] at hH
    obtain ⟨h10, hw⟩ := hw
    refine cp_22 (x := (some q3)) hx hb hts hin2 hown hK hH h10 rfl hini (hts (.fieldLink RX2 17 "IdlCaller$Form" "arguments" "[LIdlCaller$Argument;") (by decide +kernel)) dX2_init_14 (fun M11 H locs eM11 hH => ?_)
    replace hw := hw M11 eM11
    refine lv_aload_n hx hb dX2_init_17 rfl (lv_at hl 0 rfl) ?_
    refine lv_iconst (v := 0) hx hb dX2_init_18 (by decide) ?_
    refine cp_23 (x := 0) hx hb hts hin2 hown hK hH h10 (hts (.fieldLink RX2 21 "IdlCaller$Form" "count" "I") (by decide +kernel)) dX2_init_19 (fun M12 H locs eM12 hH => ?_)
    replace hw := hw M12 eM12
    refine lv_aload_n hx hb dX2_init_22 rfl (lv_at hl 0 rfl) ?_
    refine lv_iconst (v := 0) hx hb dX2_init_23 (by decide) ?_
    obtain ⟨h13, hw⟩ := hw
    refine cp_24 (x := 0) hx hb hts hin2 hown hK hH h10 (hts (.fieldLink RX2 24 "IdlCaller$Form" "variadic" "Z") (by decide +kernel)) h13 dX2_init_24 (fun M14 H locs eM14 hH => ?_)
    replace hw := hw M14 eM14
    refine lv_aload_n hx hb dX2_init_27 rfl (lv_at hl 0 rfl) ?_
    refine lv_iload_n hx hb dX2_init_28 rfl (lv_at hl 1 rfl) ?_
    refine cp_20 (x := a1) hx hb hts hin2 hown hK hH h10 rfl hini (hts (.fieldLink RX2 28 "IdlCaller$Form" "operation" "I") (by decide +kernel)) dX2_init_29 (fun M15 H locs eM15 hH => ?_)
    replace hw := hw M15 eM15
    exact c_retTv hw.1 hw.2.1 hx hb hr hlocks hK hH hw.2.2 dX2_init_32
  exact hst T M s.heap [] ls hH hl hw
def fc_X2_append_b47 (T : LY) (h : Nat) (Q : CM → Prop) (M : CM) : Prop := Q M
def fc_X2_append (T : LY) (h : Nat)  (a1 : Option Nat) (M : CM) (Q : CM → Prop) : Prop := (tg T h = 3 ∧ (((cI M 23 h) < 0 → fc_X2_append_b47 T h Q   M) ∧ (¬ (cI M 23 h) < 0 → (∃ p3 : Nat, cR M 22 h = some p3 ∧ (tg T p3 = 25 ∧ (((nI (ln T p3)) ≤ (cI M 23 h) → fc_X2_append_b47 T h Q   M) ∧ (¬ (nI (ln T p3)) ≤ (cI M 23 h) → (∃ p7 : Nat, a1 = some p7 ∧ (tg T p7 = 1 ∧ (vp_in (cI M 23 h) (ln T p3) ∧ (∀ M6 : CM, M6 = yR M p3 (cI M 23 h).toNatClampNeg (some p7) → (∀ M10 : CM, M10 = sI M6 23 h ((cI M6 23 h) + 1) → (nZ (cI M10 2 p7) ∧ (∀ M12 : CM, M12 = sI M10 24 h (cI M10 2 p7) → fc_X2_append_b47 T h Q   M12))))))))))))))
abbrev rmX2_append : Room := { frames := 0, cells := 0, slots := 0, locals := 0 }
set_option maxHeartbeats 4000000 in
set_option maxRecDepth 100000 in
theorem tc_X2_append (l : Launch) (D : va_G) (kA : Nat → ClassId) (nm : Nat → Nat) (na : Nat) (sa sv : Nat → Nat) (sz : Nat) (T : LY) (h : Nat) (a1 : Option Nat) (M : CM) (Q : CM → Prop) (hw : fc_X2_append T h a1 M Q) : Met l yX2_append wsX2_append rmX2_append (va_Pc [.ref h, va_rf a1] (cPc nm na sa sv D kA T M sz)) (va_Qv Q (cB D kA (cF T sz) T) (cF T sz)) 0 0 (cF T sz) := by
  refine Met.ofW (cc := cX2_append) (maxL := 2) (ret := none) (by decide) rfl ?_
  intro p e s m args below meth c s₁ B hml hv
  obtain ⟨rfl, hsz, hP, hK, hSt⟩ := hv
  have hx := B.exec
  have hb := B.bytes
  have hr := B.returns
  have hts := atoms_spec (ws := wsX2_append) B.pre
  have hown : s.vm.findClass RX2 = some m.cls := findClass_of_methodNamed B.named
  have hlocks : meth.locks = false := B.notSynchronized
  subst hsz
  have hH : cH D kA (cF T s.heap.size) s.heap T M s.heap [] := ⟨hP.self, va_S.rf⟩
  have hA : ∀ q : Nat, s.heap.size ≤ q → cF T s.heap.size q := fun q z => Or.inr z
  generalize cF T s.heap.size = A at hH hA hSt ⊢
  have hl := lv_entry ([.ref h, va_rf a1]) (n := 2) (by first | exact Nat.le_of_ble_eq_true rfl | simp [lg_sl, va_rf_cat, cat_ref, cat_int, cat_long, cat_double])
  rw [lg_entry_eq]
  generalize (lg_sl ([.ref h, va_rf a1]) ++ List.replicate (2 - (lg_sl ([.ref h, va_rf a1])).length) Slot.unset).toArray = ls at hl ⊢
  generalize ([.ref h, va_rf a1] : List Value).toArray = args at hts ⊢
  have hl : lv_has ls 2 [(0, .ref h), (1, va_rf a1)] := by simpa [lv_args, va_rf_cat, cat_ref, cat_int, cat_long, cat_double] using hl
  have hin0 : ∀ w ∈ wsX00, w ∈ wsX2_append := by decide +kernel
  have hin2 : ∀ w ∈ wsX20, w ∈ wsX2_append := by decide +kernel
  have b47 : ∀ (M : CM) (H : Heap) (locs : List Loc) (ls : Array Slot), cH D kA A s.heap T M H locs → lv_has ls 2 [] → fc_X2_append_b47 T h Q   M → W p l e (headSpec wsX2_append rmX2_append).room s m args below meth c H locs 0 0 (MQ below (va_Qv Q (cB D kA A T) A) args s 0 0 A) (F0 m 47 ls []) := by
    intro    M H locs ls hH hl hw
    unfold fc_X2_append_b47 at hw
    exact c_retv hx hb hr hlocks hK hH hw dX2_append_47
  clear hP
  unfold fc_X2_append at hw
  have hst : ∀ (M : CM) (H : Heap) (locs : List Loc) (ls : Array Slot), cH D kA A s.heap T M H locs → lv_has ls 2 [(0, .ref h), (1, va_rf a1)] → (tg T h = 3 ∧ (((cI M 23 h) < 0 → fc_X2_append_b47 T h Q   M) ∧ (¬ (cI M 23 h) < 0 → (∃ p3 : Nat, cR M 22 h = some p3 ∧ (tg T p3 = 25 ∧ (((nI (ln T p3)) ≤ (cI M 23 h) → fc_X2_append_b47 T h Q   M) ∧ (¬ (nI (ln T p3)) ≤ (cI M 23 h) → (∃ p7 : Nat, a1 = some p7 ∧ (tg T p7 = 1 ∧ (vp_in (cI M 23 h) (ln T p3) ∧ (∀ M6 : CM, M6 = yR M p3 (cI M 23 h).toNatClampNeg (some p7) → (∀ M10 : CM, M10 = sI M6 23 h ((cI M6 23 h) + 1) → (nZ (cI M10 2 p7) ∧ (∀ M12 : CM, M12 = sI M10 24 h (cI M10 2 p7) → fc_X2_append_b47 T h Q   M12)))))))))))))) → W p l e (headSpec wsX2_append rmX2_append).room s m args below meth c H locs 0 0 (MQ below (va_Qv Q (cB D kA A T) A) args s 0 0 A) (F0 m 0 ls []) := by
    intro M H locs ls hH hl hw
    refine lv_aload_n hx hb dX2_append_0 rfl (lv_at hl 0 rfl) ?_
    obtain ⟨h1, hw⟩ := hw
    refine cg_23 hx hb hts hin2 hown hK hH h1 (hts (.fieldLink RX2 21 "IdlCaller$Form" "count" "I") (by decide +kernel)) dX2_append_1 ?_
    refine lv_if_lt (tgt := 47) hx hb dX2_append_4 (by decide) (fun c2 => ?_) (fun c2 => ?_)
    · replace hw := hw.1 c2
      exact b47    M H locs ls hH (lv_sub hl [] rfl) hw
    · replace hw := hw.2 c2
      refine lv_aload_n hx hb dX2_append_7 rfl (lv_at hl 0 rfl) ?_
      refine cg_23 hx hb hts hin2 hown hK hH h1 (hts (.fieldLink RX2 21 "IdlCaller$Form" "count" "I") (by decide +kernel)) dX2_append_8 ?_
      refine lv_aload_n hx hb dX2_append_11 rfl (lv_at hl 0 rfl) ?_
      refine cg_22 hx hb hts hin2 hown hK hH h1 (hts (.fieldLink RX2 17 "IdlCaller$Form" "arguments" "[LIdlCaller$Argument;") (by decide +kernel)) dX2_append_12 ?_
      obtain ⟨p3, ep3, hw⟩ := hw
      refine W.st (st' := [.ref p3, .int (cI M 23 h)]) (by rw [ep3]; rfl) ?_
      obtain ⟨h4, hw⟩ := hw
      refine cn_5 hx hb hK hH h4 dX2_append_15 ?_
      refine lv_icmp_ge (tgt := 47) hx hb dX2_append_16 (by decide) (fun c5 => ?_) (fun c5 => ?_)
      · replace hw := hw.1 c5
        exact b47    M H locs ls hH (lv_sub hl [] rfl) hw
      · replace hw := hw.2 c5
        refine lv_aload_n hx hb dX2_append_19 rfl (lv_at hl 0 rfl) ?_
        refine cg_22 hx hb hts hin2 hown hK hH h1 (hts (.fieldLink RX2 17 "IdlCaller$Form" "arguments" "[LIdlCaller$Argument;") (by decide +kernel)) dX2_append_20 ?_
        refine lv_aload_n hx hb dX2_append_23 rfl (lv_at hl 0 rfl) ?_
        refine cg_23 hx hb hts hin2 hown hK hH h1 (hts (.fieldLink RX2 21 "IdlCaller$Form" "count" "I") (by decide +kernel)) dX2_append_24 ?_
        refine s_aload_n hx hb dX2_append_27 rfl (lv_at hl 1 rfl) ?_
        refine W.st (st' := [va_rf a1, .int (cI M 23 h), .ref p3]) (by rw [ep3]; rfl) ?_
        obtain ⟨p7, ep7, hw⟩ := hw
        refine W.st (st' := [.ref p7, .int (cI M 23 h), .ref p3]) (by rw [ep7]; rfl) ?_
        obtain ⟨h8, hw⟩ := hw
        obtain ⟨h9, hw⟩ := hw
        refine cs_5 hx hb hK hH h4 h8 h9 dX2_append_28 (fun M6 H locs eM6 hH => ?_)
        replace hw := hw M6 eM6
        refine lv_aload_n hx hb dX2_append_29 rfl (lv_at hl 0 rfl) ?_
        refine lv_dup hx hb dX2_append_30 rfl ?_
        refine cg_23 hx hb hts hin2 hown hK hH h1 (hts (.fieldLink RX2 21 "IdlCaller$Form" "count" "I") (by decide +kernel)) dX2_append_31 ?_
        refine lv_iconst (v := 1) hx hb dX2_append_34 (by decide) ?_
        refine lv_iadd hx hb dX2_append_35 ?_
        refine cp_23 (x := (cI M6 23 h) + 1) hx hb hts hin2 hown hK hH h1 (hts (.fieldLink RX2 21 "IdlCaller$Form" "count" "I") (by decide +kernel)) dX2_append_36 (fun M10 H locs eM10 hH => ?_)
        replace hw := hw M10 eM10
        refine lv_aload_n hx hb dX2_append_39 rfl (lv_at hl 0 rfl) ?_
        refine s_aload_n hx hb dX2_append_40 rfl (lv_at hl 1 rfl) ?_
        refine W.st (st' := [.ref p7, .ref h]) (by rw [ep7]; rfl) ?_
        refine cg_2 hx hb hts hin0 hown hK hH h8 (hts (.fieldLink RX2 31 "IdlCaller$Argument" "variadic" "Z") (by decide +kernel)) dX2_append_41 ?_
        obtain ⟨h11, hw⟩ := hw
        refine cp_24 (x := cI M10 2 p7) hx hb hts hin2 hown hK hH h1 (hts (.fieldLink RX2 24 "IdlCaller$Form" "variadic" "Z") (by decide +kernel)) h11 dX2_append_44 (fun M12 H locs eM12 hH => ?_)
        replace hw := hw M12 eM12
        exact b47    M12 H locs ls hH (lv_sub hl [] rfl) hw
  exact hst M s.heap [] ls hH hl hw
def fc_X2_argumentAt_b53 (T : LY) (h : Nat) (Q : Option Nat → CM → Prop) (s0 : Option Nat) (M : CM) : Prop := Q s0 M
def fc_X2_argumentAt_b52 (T : LY) (h : Nat) (Q : Option Nat → CM → Prop) (M : CM) : Prop := fc_X2_argumentAt_b53 T h Q  none M
def fc_X2_argumentAt_b21 (T : LY) (h : Nat) (Q : Option Nat → CM → Prop) (s0 : Int32) (M : CM) : Prop := ((s0 < 0 → fc_X2_argumentAt_b52 T h Q   M) ∧ (¬ s0 < 0 → (tg T h = 3 ∧ (((cI M 23 h) ≤ s0 → fc_X2_argumentAt_b52 T h Q   M) ∧ (¬ (cI M 23 h) ≤ s0 → (∃ p4 : Nat, cR M 22 h = some p4 ∧ (tg T p4 = 25 ∧ (((nI (ln T p4)) ≤ s0 → fc_X2_argumentAt_b52 T h Q   M) ∧ (¬ (nI (ln T p4)) ≤ s0 → (vp_in s0 (ln T p4) ∧ fc_X2_argumentAt_b53 T h Q  (xR M p4 s0.toNatClampNeg) M))))))))))
def fc_X2_argumentAt (T : LY) (h : Nat)  (a1 : Int32) (M : CM) (Q : Option Nat → CM → Prop) : Prop := (tg T h = 3 ∧ (((cI M 24 h) = 0 → fc_X2_argumentAt_b21 T h Q  a1 M) ∧ (¬ (cI M 24 h) = 0 → fc_X2_argumentAt_b21 T h Q  (if (cI M 23 h) - 1 < a1 then (cI M 23 h) - 1 else a1) M)))
abbrev rmX2_argumentAt : Room := { frames := 1, cells := 0, slots := 0, locals := 13 }
set_option maxHeartbeats 4000000 in
set_option maxRecDepth 100000 in
theorem tc_X2_argumentAt (l : Launch) (D : va_G) (kA : Nat → ClassId) (nm : Nat → Nat) (na : Nat) (sa sv : Nat → Nat) (sz : Nat) (T : LY) (h : Nat) (a1 : Int32) (M : CM) (Q : Option Nat → CM → Prop) (hw : fc_X2_argumentAt T h a1 M Q) : Met l yX2_argumentAt wsX2_argumentAt rmX2_argumentAt (va_Pc [.ref h, .int a1] (cPc nm na sa sv D kA T M sz)) (va_Qq Q (cB D kA (cF T sz) T) (cF T sz)) 0 0 (cF T sz) := by
  refine Met.ofW (cc := cX2_argumentAt) (maxL := 3) (ret := (some (.object "IdlCaller$Argument"))) (by decide) rfl ?_
  intro p e s m args below meth c s₁ B hml hv
  obtain ⟨rfl, hsz, hP, hK, hSt⟩ := hv
  have hx := B.exec
  have hb := B.bytes
  have hr := B.returns
  have hts := atoms_spec (ws := wsX2_argumentAt) B.pre
  have hown : s.vm.findClass RX2 = some m.cls := findClass_of_methodNamed B.named
  have hlocks : meth.locks = false := B.notSynchronized
  subst hsz
  have hH : cH D kA (cF T s.heap.size) s.heap T M s.heap [] := ⟨hP.self, va_S.rf⟩
  have hA : ∀ q : Nat, s.heap.size ≤ q → cF T s.heap.size q := fun q z => Or.inr z
  generalize cF T s.heap.size = A at hH hA hSt ⊢
  have hl := lv_entry ([.ref h, .int a1]) (n := 3) (by first | exact Nat.le_of_ble_eq_true rfl | simp [lg_sl, va_rf_cat, cat_ref, cat_int, cat_long, cat_double])
  rw [lg_entry_eq]
  generalize (lg_sl ([.ref h, .int a1]) ++ List.replicate (3 - (lg_sl ([.ref h, .int a1])).length) Slot.unset).toArray = ls at hl ⊢
  generalize ([.ref h, .int a1] : List Value).toArray = args at hts ⊢
  have hl : lv_has ls 3 [(0, .ref h), (1, .int a1)] := hl
  have hin2 : ∀ w ∈ wsX20, w ∈ wsX2_argumentAt := by decide +kernel
  have b53 : ∀ (s0 : Option Nat) (M : CM) (H : Heap) (locs : List Loc) (ls : Array Slot), cH D kA A s.heap T M H locs → lv_has ls 3 [] → fc_X2_argumentAt_b53 T h Q  s0 M → W p l e (headSpec wsX2_argumentAt rmX2_argumentAt).room s m args below meth c H locs 0 0 (MQ below (va_Qq Q (cB D kA A T) A) args s 0 0 A) (F0 m 53 ls [va_rf s0]) := by
    intro   s0 M H locs ls hH hl hw
    unfold fc_X2_argumentAt_b53 at hw
    exact c_retq (v := s0) hx hb hr (Or.inl ⟨_, rfl⟩) hlocks hK hH hw dX2_argumentAt_53
  have b52 : ∀ (M : CM) (H : Heap) (locs : List Loc) (ls : Array Slot), cH D kA A s.heap T M H locs → lv_has ls 3 [] → fc_X2_argumentAt_b52 T h Q   M → W p l e (headSpec wsX2_argumentAt rmX2_argumentAt).room s m args below meth c H locs 0 0 (MQ below (va_Qq Q (cB D kA A T) A) args s 0 0 A) (F0 m 52 ls []) := by
    intro    M H locs ls hH hl hw
    unfold fc_X2_argumentAt_b52 at hw
    refine lv_null hx hb dX2_argumentAt_52 ?_
    exact b53   none M H locs ls hH (lv_sub hl [] rfl) hw
  have b21 : ∀ (s0 : Int32) (M : CM) (H : Heap) (locs : List Loc) (ls : Array Slot), cH D kA A s.heap T M H locs → lv_has ls 3 [(0, .ref h)] → fc_X2_argumentAt_b21 T h Q  s0 M → W p l e (headSpec wsX2_argumentAt rmX2_argumentAt).room s m args below meth c H locs 0 0 (MQ below (va_Qq Q (cB D kA A T) A) args s 0 0 A) (F0 m 21 ls [.int s0]) := by
    intro   s0 M H locs ls hH hl hw
    unfold fc_X2_argumentAt_b21 at hw
    refine lv_istore_n (i := 2) (lv' := [(2, .int s0), (0, .ref h)]) hx hb dX2_argumentAt_21 rfl hl (by decide) rfl (fun ls hl => ?_)
    refine lv_iload_n hx hb dX2_argumentAt_22 rfl (lv_at hl 0 rfl) ?_
    refine lv_if_lt (tgt := 52) hx hb dX2_argumentAt_23 (by decide) (fun c1 => ?_) (fun c1 => ?_)
    · replace hw := hw.1 c1
      exact b52    M H locs ls hH (lv_sub hl [] rfl) hw
    · replace hw := hw.2 c1
      refine lv_iload_n hx hb dX2_argumentAt_26 rfl (lv_at hl 0 rfl) ?_
      refine lv_aload_n hx hb dX2_argumentAt_27 rfl (lv_at hl 1 rfl) ?_
      obtain ⟨h2, hw⟩ := hw
      refine cg_23 hx hb hts hin2 hown hK hH h2 (hts (.fieldLink RX2 21 "IdlCaller$Form" "count" "I") (by decide +kernel)) dX2_argumentAt_28 ?_
      refine lv_icmp_ge (tgt := 52) hx hb dX2_argumentAt_31 (by decide) (fun c3 => ?_) (fun c3 => ?_)
      · replace hw := hw.1 c3
        exact b52    M H locs ls hH (lv_sub hl [] rfl) hw
      · replace hw := hw.2 c3
        refine lv_iload_n hx hb dX2_argumentAt_34 rfl (lv_at hl 0 rfl) ?_
        refine lv_aload_n hx hb dX2_argumentAt_35 rfl (lv_at hl 1 rfl) ?_
        refine cg_22 hx hb hts hin2 hown hK hH h2 (hts (.fieldLink RX2 17 "IdlCaller$Form" "arguments" "[LIdlCaller$Argument;") (by decide +kernel)) dX2_argumentAt_36 ?_
        obtain ⟨p4, ep4, hw⟩ := hw
        refine W.st (st' := [.ref p4, .int s0]) (by rw [ep4]; rfl) ?_
        obtain ⟨h5, hw⟩ := hw
        refine cn_5 hx hb hK hH h5 dX2_argumentAt_39 ?_
        refine lv_icmp_ge (tgt := 52) hx hb dX2_argumentAt_40 (by decide) (fun c6 => ?_) (fun c6 => ?_)
        · replace hw := hw.1 c6
          exact b52    M H locs ls hH (lv_sub hl [] rfl) hw
        · replace hw := hw.2 c6
          refine lv_aload_n hx hb dX2_argumentAt_43 rfl (lv_at hl 1 rfl) ?_
          refine cg_22 hx hb hts hin2 hown hK hH h2 (hts (.fieldLink RX2 17 "IdlCaller$Form" "arguments" "[LIdlCaller$Argument;") (by decide +kernel)) dX2_argumentAt_44 ?_
          refine lv_iload_n hx hb dX2_argumentAt_47 rfl (lv_at hl 0 rfl) ?_
          refine W.st (st' := [.int s0, .ref p4]) (by rw [ep4]; rfl) ?_
          obtain ⟨h7, hw⟩ := hw
          refine cl_5 hx hb hK hH h5 h7 dX2_argumentAt_48 ?_
          refine lv_goto (tgt := 53) hx hb dX2_argumentAt_49 (by decide) ?_
          exact b53   (xR M p4 s0.toNatClampNeg) M H locs ls hH (lv_sub hl [] rfl) hw
  clear hP
  unfold fc_X2_argumentAt at hw
  have hst : ∀ (M : CM) (H : Heap) (locs : List Loc) (ls : Array Slot), cH D kA A s.heap T M H locs → lv_has ls 3 [(0, .ref h), (1, .int a1)] → (tg T h = 3 ∧ (((cI M 24 h) = 0 → fc_X2_argumentAt_b21 T h Q  a1 M) ∧ (¬ (cI M 24 h) = 0 → fc_X2_argumentAt_b21 T h Q  (if (cI M 23 h) - 1 < a1 then (cI M 23 h) - 1 else a1) M))) → W p l e (headSpec wsX2_argumentAt rmX2_argumentAt).room s m args below meth c H locs 0 0 (MQ below (va_Qq Q (cB D kA A T) A) args s 0 0 A) (F0 m 0 ls []) := by
    intro M H locs ls hH hl hw
    refine lv_aload_n hx hb dX2_argumentAt_0 rfl (lv_at hl 0 rfl) ?_
    obtain ⟨h8, hw⟩ := hw
    refine cg_24 hx hb hts hin2 hown hK hH h8 (hts (.fieldLink RX2 24 "IdlCaller$Form" "variadic" "Z") (by decide +kernel)) dX2_argumentAt_1 ?_
    refine lv_if_eq (tgt := 20) hx hb dX2_argumentAt_4 (by decide) (fun c9 => ?_) (fun c9 => ?_)
    · replace hw := hw.1 c9
      refine lv_iload_n hx hb dX2_argumentAt_20 rfl (lv_at hl 1 rfl) ?_
      exact b21   a1 M H locs ls hH (lv_sub hl [0] rfl) hw
    · replace hw := hw.2 c9
      refine lv_iload_n hx hb dX2_argumentAt_7 rfl (lv_at hl 1 rfl) ?_
      refine lv_aload_n hx hb dX2_argumentAt_8 rfl (lv_at hl 0 rfl) ?_
      refine cg_23 hx hb hts hin2 hown hK hH h8 (hts (.fieldLink RX2 21 "IdlCaller$Form" "count" "I") (by decide +kernel)) dX2_argumentAt_9 ?_
      refine lv_iconst (v := 1) hx hb dX2_argumentAt_12 (by decide) ?_
      refine lv_isub hx hb dX2_argumentAt_13 ?_
      refine va_mmin hx hb (by rw [hml]; exact hl.1.symm) hown (hts (.methodLink RX2 32 Lib.Math.min.name) (by decide +kernel)) (hts (.static Lib.Math.min.name) (by decide +kernel)) (hts (.initialized "java/lang/Math") (by decide +kernel)) (hts (.code Lib.Math.min.name Lib.Math.min.code 2 (some .int)) (by decide +kernel)) ((show _ ≤ (1 : Nat) from by first | exact Nat.le_of_ble_eq_true rfl | simp [va_rf_cat, cat_ref, cat_int, cat_long, cat_double, cat_null])) ((show _ ≤ (13 : Nat) from by first | exact Nat.le_of_ble_eq_true rfl | simp [va_rf_cat, cat_ref, cat_int, cat_long, cat_double, cat_null])) (Nat.le_of_ble_eq_true rfl) (Nat.le_of_ble_eq_true rfl) dX2_argumentAt_14 ?_
      refine lv_goto (tgt := 21) hx hb dX2_argumentAt_17 (by decide) ?_
      exact b21   (if (cI M 23 h) - 1 < a1 then (cI M 23 h) - 1 else a1) M H locs ls hH (lv_sub hl [0] rfl) hw
  exact hst M s.heap [] ls hH hl hw
def fc_X2_leastArguments_b28 (T : LY) (h : Nat) (Q : Int32 → CM → Prop) (v1 : Int32) (M : CM) : Prop := Q v1 M
def fc_X2_leastArguments_c5 (T : LY) (h : Nat) (Q : Int32 → CM → Prop) (k5 : Int32 → CM → Prop) (v1 : Int32) (M : CM) : Prop := ((v1 ≤ 0 → Q 0 M) ∧ (¬ v1 ≤ 0 → (tg T h = 3 ∧ fc_X2_argumentAt T h (v1 - 1) M (fun (r4 : Option Nat) (M3 : CM) => ((r4 = none → fc_X2_leastArguments_b28 T h Q  v1 M3) ∧ (¬ r4 = none → (∃ p7 : Nat, r4 = some p7 ∧ (tg T p7 = 1 ∧ fc_X0_canBeMissing T p7 M3 (fun (r10 : Int32) (M9 : CM) => ((¬ r10 = 0 → (∀ x13 : Int32, x13 = v1 + (-1) → k5 x13 M9)) ∧ (r10 = 0 → fc_X2_leastArguments_b28 T h Q  v1 M9)))))))))))
def fc_X2_leastArguments_l5 (T : LY) (h : Nat) (Q : Int32 → CM → Prop) : Nat → Int32 → CM → Prop := lit (τ := Int32 → CM → Prop) (fun _ _ => False) (fun k => fc_X2_leastArguments_c5 T h Q  k)
def fc_X2_leastArguments (T : LY) (h : Nat)  (M : CM) (Q : Int32 → CM → Prop) : Prop := (tg T h = 3 ∧ (∀ x15 : Int32, x15 = cI M 23 h → (∃ nn : Nat, fc_X2_leastArguments_l5 T h Q  nn x15 M)))
abbrev rmX2_leastArguments : Room := { frames := 2, cells := 0, slots := 0, locals := 35 }
set_option maxHeartbeats 4000000 in
set_option maxRecDepth 100000 in
theorem tc_X2_leastArguments (l : Launch) (D : va_G) (kA : Nat → ClassId) (nm : Nat → Nat) (na : Nat) (sa sv : Nat → Nat) (sz : Nat) (T : LY) (h : Nat) (M : CM) (Q : Int32 → CM → Prop) (hw : fc_X2_leastArguments T h  M Q) : Met l yX2_leastArguments wsX2_leastArguments rmX2_leastArguments (va_Pc [.ref h] (cPc nm na sa sv D kA T M sz)) (va_Qi Q (cB D kA (cF T sz) T) (cF T sz)) 0 0 (cF T sz) := by
  refine Met.ofW (cc := cX2_leastArguments) (maxL := 3) (ret := (some .int)) (by decide) rfl ?_
  intro p e s m args below meth c s₁ B hml hv
  obtain ⟨rfl, hsz, hP, hK, hSt⟩ := hv
  have hx := B.exec
  have hb := B.bytes
  have hr := B.returns
  have hts := atoms_spec (ws := wsX2_leastArguments) B.pre
  have hown : s.vm.findClass RX2 = some m.cls := findClass_of_methodNamed B.named
  have hlocks : meth.locks = false := B.notSynchronized
  subst hsz
  have hH : cH D kA (cF T s.heap.size) s.heap T M s.heap [] := ⟨hP.self, va_S.rf⟩
  have hA : ∀ q : Nat, s.heap.size ≤ q → cF T s.heap.size q := fun q z => Or.inr z
  generalize cF T s.heap.size = A at hH hA hSt ⊢
  have hl := lv_entry ([.ref h]) (n := 3) (by first | exact Nat.le_of_ble_eq_true rfl | simp [lg_sl, va_rf_cat, cat_ref, cat_int, cat_long, cat_double])
  rw [lg_entry_eq]
  generalize (lg_sl ([.ref h]) ++ List.replicate (3 - (lg_sl ([.ref h])).length) Slot.unset).toArray = ls at hl ⊢
  generalize ([.ref h] : List Value).toArray = args at hts ⊢
  have hl : lv_has ls 3 [(0, .ref h)] := hl
  have hin2 : ∀ w ∈ wsX20, w ∈ wsX2_leastArguments := by decide +kernel
  have b28 : ∀ (v1 : Int32) (M : CM) (H : Heap) (locs : List Loc) (ls : Array Slot), cH D kA A s.heap T M H locs → lv_has ls 3 [(1, .int v1)] → fc_X2_leastArguments_b28 T h Q  v1 M → W p l e (headSpec wsX2_leastArguments rmX2_leastArguments).room s m args below meth c H locs 0 0 (MQ below (va_Qi Q (cB D kA A T) A) args s 0 0 A) (F0 m 28 ls []) := by
    intro   v1 M H locs ls hH hl hw
    unfold fc_X2_leastArguments_b28 at hw
    refine lv_iload_n hx hb dX2_leastArguments_28 rfl (lv_at hl 0 rfl) ?_
    exact c_reti hx hb hr hlocks hK hH hw dX2_leastArguments_29
  have l5 : ∀ (nn : Nat) (v1 : Int32) (M : CM) (H : Heap) (locs : List Loc) (ls : Array Slot), cH D kA A s.heap T M H locs → lv_has ls 3 [(0, .ref h), (1, .int v1)] → fc_X2_leastArguments_l5 T h Q  nn v1 M → W p l e (headSpec wsX2_leastArguments rmX2_leastArguments).room s m args below meth c H locs 0 0 (MQ below (va_Qi Q (cB D kA A T) A) args s 0 0 A) (F0 m 5 ls []) := by
    intro   nn
    induction nn with
    | zero => intro v1 M H locs ls hH hl hw; exact False.elim hw
    | succ nn hk5 =>
      intro v1 M H locs ls hH hl hw
      replace hw : fc_X2_leastArguments_c5 T h Q  (fc_X2_leastArguments_l5 T h Q  nn) v1 M := hw
      unfold fc_X2_leastArguments_c5 at hw
      refine lv_iload_n hx hb dX2_leastArguments_5 rfl (lv_at hl 1 rfl) ?_
      refine lv_if_le (tgt := 36) hx hb dX2_leastArguments_6 (by decide) (fun c1 => ?_) (fun c1 => ?_)
      · replace hw := hw.1 c1
        refine lv_iconst (v := 0) hx hb dX2_leastArguments_36 (by decide) ?_
        exact c_reti hx hb hr hlocks hK hH hw dX2_leastArguments_37
      · replace hw := hw.2 c1
        refine lv_aload_n hx hb dX2_leastArguments_9 rfl (lv_at hl 0 rfl) ?_
        refine lv_iload_n hx hb dX2_leastArguments_10 rfl (lv_at hl 1 rfl) ?_
        refine lv_iconst (v := 1) hx hb dX2_leastArguments_11 (by decide) ?_
        refine lv_isub hx hb dX2_leastArguments_12 ?_
        obtain ⟨h2, hw⟩ := hw
        refine c_callq (va_runV (As := [.int (v1 - 1)]) (rest := []) ⟨hx, hb, hml, hown, hts⟩ (tc_X2_argumentAt l D kA nm na sa sv H.size T h (v1 - 1) M _ hw) (cwV 1 hts gX2_leastArguments_X2_argumentAt rfl rfl rfl (by decide +kernel) ⟨(show (1 : Nat) + 1 ≤ 2 from Nat.le_of_ble_eq_true rfl), (show 8 + (3 + 11) + (13 : Nat) ≤ 35 from Nat.le_of_ble_eq_true rfl)⟩) (c_preV hK hH hA hSt (c_recv2 hK hH h2)) rfl rfl hl.1 rfl (lv_room (by first | exact Nat.le_of_ble_eq_true rfl | simp [va_rf_cat, cat_ref, cat_int, cat_long, cat_double, cat_null])) dX2_leastArguments_13 ⟨Nat.le_of_ble_eq_true rfl, Nat.le_of_ble_eq_true rfl⟩) hH hA (fun r4 M3 H locs hw hH => ?_)
        refine s_astore_n (i := 2) (lv' := [(2, va_rf r4), (0, .ref h), (1, .int v1)]) hx hb dX2_leastArguments_16 rfl hl (by decide) (by first | rfl | simp [va_rf_cat, cat_ref, cat_int, cat_long, cat_double, cat_null]) (fun ls hl => ?_)
        refine s_aload_n hx hb dX2_leastArguments_17 rfl (lv_at hl 0 rfl) ?_
        refine s_ifnull (tgt := 28) hx hb dX2_leastArguments_18 (by decide) (fun c6 => ?_) (fun c6 => ?_)
        · replace hw := hw.1 c6
          exact b28   v1 M3 H locs ls hH (lv_sub hl [2] rfl) hw
        · replace hw := hw.2 c6
          refine s_aload_n hx hb dX2_leastArguments_21 rfl (lv_at hl 0 rfl) ?_
          obtain ⟨p7, ep7, hw⟩ := hw
          refine W.st (st' := [.ref p7]) (by rw [ep7]; rfl) ?_
          obtain ⟨h8, hw⟩ := hw
          refine c_calli (va_runV (As := []) (rest := []) ⟨hx, hb, hml, hown, hts⟩ (tc_X0_canBeMissing l D kA nm na sa sv H.size T p7 M3 _ hw) (cwV 0 hts gX2_leastArguments_X0_canBeMissing rfl rfl rfl (by decide +kernel) ⟨(show (0 : Nat) + 1 ≤ 2 from Nat.le_of_ble_eq_true rfl), (show 8 + (1 + 11) + (0 : Nat) ≤ 35 from Nat.le_of_ble_eq_true rfl)⟩) (c_preV hK hH hA hSt (c_recv0 hK hH h8)) rfl rfl hl.1 rfl (lv_room (by first | exact Nat.le_of_ble_eq_true rfl | simp [va_rf_cat, cat_ref, cat_int, cat_long, cat_double, cat_null])) dX2_leastArguments_22 ⟨Nat.le_of_ble_eq_true rfl, Nat.le_of_ble_eq_true rfl⟩) hH hA (fun r10 M9 H locs hw hH => ?_)
          refine lv_if_ne (tgt := 30) hx hb dX2_leastArguments_25 (by decide) (fun c12 => ?_) (fun c12 => ?_)
          · replace hw := hw.1 c12
            obtain ⟨x13, ex13⟩ : ∃ y : Int32, y = v1 + (-1) := ⟨_, rfl⟩
            replace hw := hw x13 ex13
            refine lv_iinc (v := x13) (lv' := [(1, .int x13), (2, va_rf r4), (0, .ref h)]) hx hb dX2_leastArguments_30 hl (k := 2) rfl (by rw [ex13]; rfl) (by decide) (by first | rfl | simp [va_rf_cat, cat_ref, cat_int, cat_long, cat_double, cat_null]) (fun ls hl => ?_)
            refine lv_goto (tgt := 5) hx hb dX2_leastArguments_33 (by decide) ?_
            exact hk5 x13 M9 H locs ls hH (lv_sub hl [2, 0] rfl) hw
          · replace hw := hw.2 c12
            exact b28   v1 M9 H locs ls hH (lv_sub hl [2] rfl) hw
  clear hP
  unfold fc_X2_leastArguments at hw
  have hst : ∀ (M : CM) (H : Heap) (locs : List Loc) (ls : Array Slot), cH D kA A s.heap T M H locs → lv_has ls 3 [(0, .ref h)] → (tg T h = 3 ∧ (∀ x15 : Int32, x15 = cI M 23 h → (∃ nn : Nat, fc_X2_leastArguments_l5 T h Q  nn x15 M))) → W p l e (headSpec wsX2_leastArguments rmX2_leastArguments).room s m args below meth c H locs 0 0 (MQ below (va_Qi Q (cB D kA A T) A) args s 0 0 A) (F0 m 0 ls []) := by
    intro M H locs ls hH hl hw
    refine lv_aload_n hx hb dX2_leastArguments_0 rfl (lv_at hl 0 rfl) ?_
    obtain ⟨h14, hw⟩ := hw
    refine cg_23 hx hb hts hin2 hown hK hH h14 (hts (.fieldLink RX2 21 "IdlCaller$Form" "count" "I") (by decide +kernel)) dX2_leastArguments_1 ?_
    refine lv_topi (fun x15 ex15 => ?_)
    replace hw := hw x15 ex15
    refine lv_istore_n (i := 1) (lv' := [(1, .int x15), (0, .ref h)]) hx hb dX2_leastArguments_4 rfl hl (by decide) rfl (fun ls hl => ?_)
    obtain ⟨nn, hw⟩ := hw
    exact l5   nn x15 M H locs ls hH (lv_sub hl [1, 0] rfl) hw
  exact hst M s.heap [] ls hH hl hw
def fc_X2_mostArguments_b16 (T : LY) (h : Nat) (Q : Int32 → CM → Prop) (s0 : Int32) (M : CM) : Prop := Q s0 M
def fc_X2_mostArguments (T : LY) (h : Nat)  (M : CM) (Q : Int32 → CM → Prop) : Prop := (tg T h = 3 ∧ (((cI M 24 h) = 0 → fc_X2_mostArguments_b16 T h Q  (cI M 23 h) M) ∧ (¬ (cI M 24 h) = 0 → fc_X2_mostArguments_b16 T h Q  8 M)))
abbrev rmX2_mostArguments : Room := { frames := 0, cells := 0, slots := 0, locals := 0 }
set_option maxHeartbeats 4000000 in
set_option maxRecDepth 100000 in
theorem tc_X2_mostArguments (l : Launch) (D : va_G) (kA : Nat → ClassId) (nm : Nat → Nat) (na : Nat) (sa sv : Nat → Nat) (sz : Nat) (T : LY) (h : Nat) (M : CM) (Q : Int32 → CM → Prop) (hw : fc_X2_mostArguments T h  M Q) : Met l yX2_mostArguments wsX2_mostArguments rmX2_mostArguments (va_Pc [.ref h] (cPc nm na sa sv D kA T M sz)) (va_Qi Q (cB D kA (cF T sz) T) (cF T sz)) 0 0 (cF T sz) := by
  refine Met.ofW (cc := cX2_mostArguments) (maxL := 1) (ret := (some .int)) (by decide) rfl ?_
  intro p e s m args below meth c s₁ B hml hv
  obtain ⟨rfl, hsz, hP, hK, hSt⟩ := hv
  have hx := B.exec
  have hb := B.bytes
  have hr := B.returns
  have hts := atoms_spec (ws := wsX2_mostArguments) B.pre
  have hown : s.vm.findClass RX2 = some m.cls := findClass_of_methodNamed B.named
  have hlocks : meth.locks = false := B.notSynchronized
  subst hsz
  have hH : cH D kA (cF T s.heap.size) s.heap T M s.heap [] := ⟨hP.self, va_S.rf⟩
  have hA : ∀ q : Nat, s.heap.size ≤ q → cF T s.heap.size q := fun q z => Or.inr z
  generalize cF T s.heap.size = A at hH hA hSt ⊢
  have hl := lv_entry ([.ref h]) (n := 1) (by first | exact Nat.le_of_ble_eq_true rfl | simp [lg_sl, va_rf_cat, cat_ref, cat_int, cat_long, cat_double])
  rw [lg_entry_eq]
  generalize (lg_sl ([.ref h]) ++ List.replicate (1 - (lg_sl ([.ref h])).length) Slot.unset).toArray = ls at hl ⊢
  generalize ([.ref h] : List Value).toArray = args at hts ⊢
  have hl : lv_has ls 1 [(0, .ref h)] := hl
  have hin2 : ∀ w ∈ wsX20, w ∈ wsX2_mostArguments := by decide +kernel
  have b16 : ∀ (s0 : Int32) (M : CM) (H : Heap) (locs : List Loc) (ls : Array Slot), cH D kA A s.heap T M H locs → lv_has ls 1 [] → fc_X2_mostArguments_b16 T h Q  s0 M → W p l e (headSpec wsX2_mostArguments rmX2_mostArguments).room s m args below meth c H locs 0 0 (MQ below (va_Qi Q (cB D kA A T) A) args s 0 0 A) (F0 m 16 ls [.int s0]) := by
    intro   s0 M H locs ls hH hl hw
    unfold fc_X2_mostArguments_b16 at hw
    exact c_reti hx hb hr hlocks hK hH hw dX2_mostArguments_16
  clear hP
  unfold fc_X2_mostArguments at hw
  have hst : ∀ (M : CM) (H : Heap) (locs : List Loc) (ls : Array Slot), cH D kA A s.heap T M H locs → lv_has ls 1 [(0, .ref h)] → (tg T h = 3 ∧ (((cI M 24 h) = 0 → fc_X2_mostArguments_b16 T h Q  (cI M 23 h) M) ∧ (¬ (cI M 24 h) = 0 → fc_X2_mostArguments_b16 T h Q  8 M))) → W p l e (headSpec wsX2_mostArguments rmX2_mostArguments).room s m args below meth c H locs 0 0 (MQ below (va_Qi Q (cB D kA A T) A) args s 0 0 A) (F0 m 0 ls []) := by
    intro M H locs ls hH hl hw
    refine lv_aload_n hx hb dX2_mostArguments_0 rfl (lv_at hl 0 rfl) ?_
    obtain ⟨h1, hw⟩ := hw
    refine cg_24 hx hb hts hin2 hown hK hH h1 (hts (.fieldLink RX2 24 "IdlCaller$Form" "variadic" "Z") (by decide +kernel)) dX2_mostArguments_1 ?_
    refine lv_if_eq (tgt := 12) hx hb dX2_mostArguments_4 (by decide) (fun c2 => ?_) (fun c2 => ?_)
    · replace hw := hw.1 c2
      refine lv_aload_n hx hb dX2_mostArguments_12 rfl (lv_at hl 0 rfl) ?_
      refine cg_23 hx hb hts hin2 hown hK hH h1 (hts (.fieldLink RX2 21 "IdlCaller$Form" "count" "I") (by decide +kernel)) dX2_mostArguments_13 ?_
      exact b16   (cI M 23 h) M H locs ls hH (lv_sub hl [] rfl) hw
    · replace hw := hw.2 c2
      refine lv_bipush (v := 8) hx hb dX2_mostArguments_7 (by decide) ?_
      refine lv_goto (tgt := 16) hx hb dX2_mostArguments_9 (by decide) ?_
      exact b16   8 M H locs ls hH (lv_sub hl [] rfl) hw
  exact hst M s.heap [] ls hH hl hw
