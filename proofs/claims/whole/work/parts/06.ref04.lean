def fm_drop_b15 (Q : Int32 → RM → Prop) (v1 : Int32) (s0 : Int32) (M : RM) : Prop := fm_refused s0 M (fun (r2 : Int32) (M1 : RM) => ((r2 = 0 → (vp_in v1 6 ∧ (∀ x5 : Int32, x5 = rA M1 4 v1.toNatClampNeg → (vp_in v1 6 ∧ (∀ M7 : RM, M7 = wA M1 4 v1.toNatClampNeg 0 → Q x5 M7))))) ∧ (¬ r2 = 0 → Q 0 M1)))
def fm_drop (a1 : Int32) (M : RM) (Q : Int32 → RM → Prop) : Prop := fm_isIn a1 0 5 M (fun (r9 : Int32) (M8 : RM) => ((r9 = 0 → fm_drop_b15 Q  a1 1 M8) ∧ (¬ r9 = 0 → fm_drop_b15 Q  a1 0 M8)))
abbrev rmX11_drop : Room := { frames := 1, cells := 0, slots := 0, locals := 22 }
set_option maxHeartbeats 4000000 in
set_option maxRecDepth 100000 in
theorem tm_drop (l : Launch) (D : va_G) (kA : Nat → ClassId) (h : Nat) (ad : Nat → Nat) (sz : Nat) (M : RM) (a1 : Int32) (Q : Int32 → RM → Prop) (hw : fm_drop a1 M Q) : Met l yX11_drop wsX11_drop rmX11_drop (va_Pc [.ref h, .int a1] (rPc D kA h ad M sz)) (va_Qi Q (rB D kA h ad (rF kA h ad M sz)) (rF kA h ad M sz)) 0 0 (rF kA h ad M sz) := by
  refine Met.ofW (cc := cX11_drop) (maxL := 3) (ret := (some .int)) (by decide) rfl ?_
  intro p e s m args below meth c s₁ B hml hv
  obtain ⟨rfl, hsz, hP, hK, hD0⟩ := hv
  have hx := B.exec
  have hb := B.bytes
  have hr := B.returns
  have hts := atoms_spec (ws := wsX11_drop) B.pre
  have hown : s.vm.findClass RX11 = some m.cls := findClass_of_methodNamed B.named
  have hlocks : meth.locks = false := B.notSynchronized
  subst hsz
  have hH : rH D kA h ad (rF kA h ad M s.heap.size) s.heap M s.heap [] := ⟨hP, hD0.self, va_S.rf⟩
  have hA : ∀ q : Nat, s.heap.size ≤ q → rF kA h ad M s.heap.size q := fun q z => Or.inr z
  generalize rF kA h ad M s.heap.size = A at hH hA ⊢
  have hl := lv_entry ([.ref h, .int a1]) (n := 3) (Nat.le_of_ble_eq_true rfl)
  rw [lg_entry_eq]
  generalize (lg_sl ([.ref h, .int a1]) ++ List.replicate (3 - (lg_sl ([.ref h, .int a1])).length) Slot.unset).toArray = ls at hl ⊢
  generalize ([.ref h, .int a1] : List Value).toArray = args at hts ⊢
  have hl : lv_has ls 3 [(0, .ref h), (1, .int a1)] := hl
  have hin : ∀ w ∈ wsX110, w ∈ wsX11_drop := by decide +kernel
  have b15 : ∀ (v1 : Int32) (s0 : Int32) (M : RM) (H : Heap) (locs : List Loc) (ls : Array Slot), rH D kA h ad A s.heap M H locs → lv_has ls 3 [(0, .ref h), (1, .int v1)] → fm_drop_b15 Q  v1 s0 M → W p l e (headSpec wsX11_drop rmX11_drop).room s m args below meth c H locs 0 0 (MQ below (va_Qi Q (rB D kA h ad A) A) args s 0 0 A) (F0 m 15 ls [.int s0, .ref h]) := by
    intro   v1 s0 M H locs ls hH hl hw
    unfold fm_drop_b15 at hw
    refine r_calli (va_runV (As := [.int s0]) (rest := []) ⟨hx, hb, hml, hown, hts⟩ (tm_refused l D kA h ad H.size M s0 _ hw) (cwV 1 hts gX11_drop_X11_refused rfl rfl rfl (by decide +kernel) ⟨Nat.le_of_ble_eq_true rfl, Nat.le_of_ble_eq_true rfl⟩) (r_preV hK hH) rfl rfl hl.1 rfl (lv_room (Nat.le_of_ble_eq_true rfl)) dX11_drop_15 ⟨Nat.le_of_ble_eq_true rfl, Nat.le_of_ble_eq_true rfl⟩) hH hA (fun r2 M1 H locs hw hH => ?_)
    refine lv_if_eq (tgt := 23) hx hb dX11_drop_18 (by decide) (fun c3 => ?_) (fun c3 => ?_)
    · replace hw := hw.1 c3
      refine lv_aload_n hx hb dX11_drop_23 rfl (lv_at hl 0 rfl) ?_
      refine rg_4 hx hb hts hin hown hK hH (hts (.fieldLink RX11 17 "IdlCallerModel" "forms" "[I") (by decide +kernel)) dX11_drop_24 ?_
      refine lv_iload_n hx hb dX11_drop_27 rfl (lv_at hl 1 rfl) ?_
      obtain ⟨h4, hw⟩ := hw
      refine rl_4 hx hb hK hH h4 dX11_drop_28 ?_
      refine lv_topi (fun x5 ex5 => ?_)
      replace hw := hw x5 ex5
      refine lv_istore_n (lv' := [(2, .int x5), (0, .ref h), (1, .int v1)]) hx hb dX11_drop_29 rfl hl (by decide) rfl (fun ls hl => ?_)
      refine lv_aload_n hx hb dX11_drop_30 rfl (lv_at hl 1 rfl) ?_
      refine rg_4 hx hb hts hin hown hK hH (hts (.fieldLink RX11 17 "IdlCallerModel" "forms" "[I") (by decide +kernel)) dX11_drop_31 ?_
      refine lv_iload_n hx hb dX11_drop_34 rfl (lv_at hl 2 rfl) ?_
      refine lv_iconst (v := 0) hx hb dX11_drop_35 (by decide) ?_
      obtain ⟨h6, hw⟩ := hw
      refine rs_4 hx hb hK hH h6 dX11_drop_36 (fun M7 H locs eM7 hH => ?_)
      replace hw := hw M7 eM7
      refine lv_iload_n hx hb dX11_drop_37 rfl (lv_at hl 0 rfl) ?_
      exact r_reti hx hb hr hlocks hK hH hw dX11_drop_38
    · replace hw := hw.2 c3
      refine lv_iconst (v := 0) hx hb dX11_drop_21 (by decide) ?_
      exact r_reti hx hb hr hlocks hK hH hw dX11_drop_22
  clear hP hD0
  unfold fm_drop at hw
  have hst : ∀ (M : RM) (H : Heap) (locs : List Loc) (ls : Array Slot), rH D kA h ad A s.heap M H locs → lv_has ls 3 [(0, .ref h), (1, .int a1)] → fm_isIn a1 0 5 M (fun (r9 : Int32) (M8 : RM) => ((r9 = 0 → fm_drop_b15 Q  a1 1 M8) ∧ (¬ r9 = 0 → fm_drop_b15 Q  a1 0 M8))) → W p l e (headSpec wsX11_drop rmX11_drop).room s m args below meth c H locs 0 0 (MQ below (va_Qi Q (rB D kA h ad A) A) args s 0 0 A) (F0 m 0 ls []) := by
    intro M H locs ls hH hl hw
    refine lv_aload_n hx hb dX11_drop_0 rfl (lv_at hl 0 rfl) ?_
    refine lv_iload_n hx hb dX11_drop_1 rfl (lv_at hl 1 rfl) ?_
    refine lv_iconst (v := 0) hx hb dX11_drop_2 (by decide) ?_
    refine lv_iconst (v := 5) hx hb dX11_drop_3 (by decide) ?_
    refine r_calli (va_runS (As := [.int a1, .int 0, .int 5]) (rest := [.ref h]) ⟨hx, hb, hml, hown, hts⟩ (tm_isIn l D kA h ad H.size M a1 0 5 _ hw) (va_cwS 3 hts gX11_drop_X11_isIn rfl rfl rfl (by decide +kernel) ⟨Nat.le_of_ble_eq_true rfl, Nat.le_of_ble_eq_true rfl⟩) (r_preS hK hH) rfl rfl hl.1 rfl (lv_room (Nat.le_of_ble_eq_true rfl)) dX11_drop_4 ⟨Nat.le_of_ble_eq_true rfl, Nat.le_of_ble_eq_true rfl⟩) hH hA (fun r9 M8 H locs hw hH => ?_)
    refine lv_if_eq (tgt := 14) hx hb dX11_drop_7 (by decide) (fun c10 => ?_) (fun c10 => ?_)
    · replace hw := hw.1 c10
      refine lv_iconst (v := 1) hx hb dX11_drop_14 (by decide) ?_
      exact b15   a1 1 M8 H locs ls hH (lv_sub hl [0, 1] rfl) hw
    · replace hw := hw.2 c10
      refine lv_iconst (v := 0) hx hb dX11_drop_10 (by decide) ?_
      refine lv_goto (tgt := 15) hx hb dX11_drop_11 (by decide) ?_
      exact b15   a1 0 M8 H locs ls hH (lv_sub hl [0, 1] rfl) hw
  exact hst M s.heap [] ls hH hl hw
def fm_place (M : RM) (Q : Int32 → RM → Prop) : Prop := (∀ M1 : RM, M1 = wI M 0 0 → Q (rI M1 3) M1)
abbrev rmX11_place : Room := { frames := 0, cells := 0, slots := 0, locals := 0 }
set_option maxHeartbeats 4000000 in
set_option maxRecDepth 100000 in
theorem tm_place (l : Launch) (D : va_G) (kA : Nat → ClassId) (h : Nat) (ad : Nat → Nat) (sz : Nat) (M : RM) (Q : Int32 → RM → Prop) (hw : fm_place  M Q) : Met l yX11_place wsX11_place rmX11_place (va_Pc [.ref h] (rPc D kA h ad M sz)) (va_Qi Q (rB D kA h ad (rF kA h ad M sz)) (rF kA h ad M sz)) 0 0 (rF kA h ad M sz) := by
  refine Met.ofW (cc := cX11_place) (maxL := 1) (ret := (some .int)) (by decide) rfl ?_
  intro p e s m args below meth c s₁ B hml hv
  obtain ⟨rfl, hsz, hP, hK, hD0⟩ := hv
  have hx := B.exec
  have hb := B.bytes
  have hr := B.returns
  have hts := atoms_spec (ws := wsX11_place) B.pre
  have hown : s.vm.findClass RX11 = some m.cls := findClass_of_methodNamed B.named
  have hlocks : meth.locks = false := B.notSynchronized
  subst hsz
  have hH : rH D kA h ad (rF kA h ad M s.heap.size) s.heap M s.heap [] := ⟨hP, hD0.self, va_S.rf⟩
  have hA : ∀ q : Nat, s.heap.size ≤ q → rF kA h ad M s.heap.size q := fun q z => Or.inr z
  generalize rF kA h ad M s.heap.size = A at hH hA ⊢
  have hl := lv_entry ([.ref h]) (n := 1) (Nat.le_of_ble_eq_true rfl)
  rw [lg_entry_eq]
  generalize (lg_sl ([.ref h]) ++ List.replicate (1 - (lg_sl ([.ref h])).length) Slot.unset).toArray = ls at hl ⊢
  generalize ([.ref h] : List Value).toArray = args at hts ⊢
  have hl : lv_has ls 1 [(0, .ref h)] := hl
  have hin : ∀ w ∈ wsX110, w ∈ wsX11_place := by decide +kernel
  clear hP hD0
  unfold fm_place at hw
  have hst : ∀ (M : RM) (H : Heap) (locs : List Loc) (ls : Array Slot), rH D kA h ad A s.heap M H locs → lv_has ls 1 [(0, .ref h)] → (∀ M1 : RM, M1 = wI M 0 0 → Q (rI M1 3) M1) → W p l e (headSpec wsX11_place rmX11_place).room s m args below meth c H locs 0 0 (MQ below (va_Qi Q (rB D kA h ad A) A) args s 0 0 A) (F0 m 0 ls []) := by
    intro M H locs ls hH hl hw
    refine lv_aload_n hx hb dX11_place_0 rfl (lv_at hl 0 rfl) ?_
    refine lv_iconst (v := 0) hx hb dX11_place_1 (by decide) ?_
    refine rp_0 hx hb hts hin hown hK hH (hts (.fieldLink RX11 78 "IdlCallerModel" "refusal" "I") (by decide +kernel)) dX11_place_2 (fun M1 H locs eM1 hH => ?_)
    replace hw := hw M1 eM1
    refine lv_aload_n hx hb dX11_place_5 rfl (lv_at hl 0 rfl) ?_
    refine rg_3 hx hb hts hin hown hK hH (hts (.fieldLink RX11 13 "IdlCallerModel" "faultPlace" "I") (by decide +kernel)) dX11_place_6 ?_
    exact r_reti hx hb hr hlocks hK hH hw dX11_place_9
  exact hst M s.heap [] ls hH hl hw
def fm_isSlot_b15 (Q : Int32 → RM → Prop) (s0 : Int32) (M : RM) : Prop := (nZ s0 ∧ Q s0 M)
def fm_isSlot_b14 (Q : Int32 → RM → Prop) (M : RM) : Prop := fm_isSlot_b15 Q  0 M
def fm_isSlot (a1 : Int32) (M : RM) (Q : Int32 → RM → Prop) : Prop := ((a1 < 0 → fm_isSlot_b14 Q   M) ∧ (¬ a1 < 0 → ((8 ≤ a1 → fm_isSlot_b14 Q   M) ∧ (¬ 8 ≤ a1 → fm_isSlot_b15 Q  1 M))))
abbrev rmX11_isSlot : Room := { frames := 0, cells := 0, slots := 0, locals := 0 }
set_option maxHeartbeats 4000000 in
set_option maxRecDepth 100000 in
theorem tm_isSlot (l : Launch) (D : va_G) (kA : Nat → ClassId) (h : Nat) (ad : Nat → Nat) (sz : Nat) (M : RM) (a1 : Int32) (Q : Int32 → RM → Prop) (hw : fm_isSlot a1 M Q) : Met l yX11_isSlot wsX11_isSlot rmX11_isSlot (va_Pc [.int a1] (rPc D kA h ad M sz)) (va_Qi Q (rB D kA h ad (rF kA h ad M sz)) (rF kA h ad M sz)) 0 0 (rF kA h ad M sz) := by
  refine Met.ofW (cc := cX11_isSlot) (maxL := 1) (ret := (some .boolean)) (by decide) rfl ?_
  intro p e s m args below meth c s₁ B hml hv
  obtain ⟨rfl, hsz, hP, hK, hD0⟩ := hv
  have hx := B.exec
  have hb := B.bytes
  have hr := B.returns
  have hts := atoms_spec (ws := wsX11_isSlot) B.pre
  have hown : s.vm.findClass RX11 = some m.cls := findClass_of_methodNamed B.named
  have hlocks : meth.locks = false := B.notSynchronized
  subst hsz
  have hH : rH D kA h ad (rF kA h ad M s.heap.size) s.heap M s.heap [] := ⟨hP, hD0.self, va_S.rf⟩
  have hA : ∀ q : Nat, s.heap.size ≤ q → rF kA h ad M s.heap.size q := fun q z => Or.inr z
  generalize rF kA h ad M s.heap.size = A at hH hA ⊢
  have hl := lv_entry ([.int a1]) (n := 1) (Nat.le_of_ble_eq_true rfl)
  rw [lg_entry_eq]
  generalize (lg_sl ([.int a1]) ++ List.replicate (1 - (lg_sl ([.int a1])).length) Slot.unset).toArray = ls at hl ⊢
  generalize ([.int a1] : List Value).toArray = args at hts ⊢
  have hl : lv_has ls 1 [(0, .int a1)] := hl
  have b15 : ∀ (s0 : Int32) (M : RM) (H : Heap) (locs : List Loc) (ls : Array Slot), rH D kA h ad A s.heap M H locs → lv_has ls 1 [] → fm_isSlot_b15 Q  s0 M → W p l e (headSpec wsX11_isSlot rmX11_isSlot).room s m args below meth c H locs 0 0 (MQ below (va_Qi Q (rB D kA h ad A) A) args s 0 0 A) (F0 m 15 ls [.int s0]) := by
    intro   s0 M H locs ls hH hl hw
    unfold fm_isSlot_b15 at hw
    exact r_retz hx hb hr hw.1.1 hlocks hK hH hw.2 dX11_isSlot_15
  have b14 : ∀ (M : RM) (H : Heap) (locs : List Loc) (ls : Array Slot), rH D kA h ad A s.heap M H locs → lv_has ls 1 [] → fm_isSlot_b14 Q   M → W p l e (headSpec wsX11_isSlot rmX11_isSlot).room s m args below meth c H locs 0 0 (MQ below (va_Qi Q (rB D kA h ad A) A) args s 0 0 A) (F0 m 14 ls []) := by
    intro    M H locs ls hH hl hw
    unfold fm_isSlot_b14 at hw
    refine lv_iconst (v := 0) hx hb dX11_isSlot_14 (by decide) ?_
    exact b15   0 M H locs ls hH (lv_sub hl [] rfl) hw
  clear hP hD0
  unfold fm_isSlot at hw
  have hst : ∀ (M : RM) (H : Heap) (locs : List Loc) (ls : Array Slot), rH D kA h ad A s.heap M H locs → lv_has ls 1 [(0, .int a1)] → ((a1 < 0 → fm_isSlot_b14 Q   M) ∧ (¬ a1 < 0 → ((8 ≤ a1 → fm_isSlot_b14 Q   M) ∧ (¬ 8 ≤ a1 → fm_isSlot_b15 Q  1 M)))) → W p l e (headSpec wsX11_isSlot rmX11_isSlot).room s m args below meth c H locs 0 0 (MQ below (va_Qi Q (rB D kA h ad A) A) args s 0 0 A) (F0 m 0 ls []) := by
    intro M H locs ls hH hl hw
    refine lv_iload_n hx hb dX11_isSlot_0 rfl (lv_at hl 0 rfl) ?_
    refine lv_if_lt (tgt := 14) hx hb dX11_isSlot_1 (by decide) (fun c1 => ?_) (fun c1 => ?_)
    · replace hw := hw.1 c1
      exact b14    M H locs ls hH (lv_sub hl [] rfl) hw
    · replace hw := hw.2 c1
      refine lv_iload_n hx hb dX11_isSlot_4 rfl (lv_at hl 0 rfl) ?_
      refine lv_bipush (v := 8) hx hb dX11_isSlot_5 (by decide) ?_
      refine lv_icmp_ge (tgt := 14) hx hb dX11_isSlot_7 (by decide) (fun c2 => ?_) (fun c2 => ?_)
      · replace hw := hw.1 c2
        exact b14    M H locs ls hH (lv_sub hl [] rfl) hw
      · replace hw := hw.2 c2
        refine lv_iconst (v := 1) hx hb dX11_isSlot_10 (by decide) ?_
        refine lv_goto (tgt := 15) hx hb dX11_isSlot_11 (by decide) ?_
        exact b15   1 M H locs ls hH (lv_sub hl [] rfl) hw
  exact hst M s.heap [] ls hH hl hw
def fm_simple_b77 (Q : RM → Prop) (v1 : Int32) (s0 : Int32) (s1 : Int32) (M : RM) : Prop := (vp_in s1 48 ∧ (∀ M2 : RM, M2 = wA M 14 s1.toNatClampNeg (vp_nar .boolean s0) → (vp_in v1 48 ∧ (∀ M4 : RM, M4 = wA M2 16 v1.toNatClampNeg 0 → Q M4))))
def fm_simple_b61 (Q : RM → Prop) (v1 : Int32) (v2 : Int32) (s0 : Int32) (s1 : Int32) (M : RM) : Prop := (vp_in s1 48 ∧ (∀ M6 : RM, M6 = wA M 13 s1.toNatClampNeg s0 → ((¬ v2 = 3 → fm_simple_b77 Q  v1 0 v1 M6) ∧ (v2 = 3 → fm_simple_b77 Q  v1 1 v1 M6))))
def fm_simple_b22 (Q : RM → Prop) (v1 : Int32) (v2 : Int32) (s0 : Int32) (M : RM) : Prop := fm_refused s0 M (fun (r9 : Int32) (M8 : RM) => ((r9 = 0 → ((¬ v2 = 0 → ((¬ v2 = 1 → ((4 ≤ v2 → fm_simple_b61 Q  v1 v2 5 v1 M8) ∧ (¬ 4 ≤ v2 → fm_simple_b61 Q  v1 v2 2 v1 M8))) ∧ (v2 = 1 → fm_simple_b61 Q  v1 v2 1 v1 M8))) ∧ (v2 = 0 → fm_simple_b61 Q  v1 v2 0 v1 M8))) ∧ (¬ r9 = 0 → Q M8)))
def fm_simple_b21 (Q : RM → Prop) (v1 : Int32) (v2 : Int32) (M : RM) : Prop := fm_simple_b22 Q  v1 v2 1 M
def fm_simple (a1 : Int32) (a2 : Int32) (M : RM) (Q : RM → Prop) : Prop := fm_isSlot a1 M (fun (r15 : Int32) (M14 : RM) => ((r15 = 0 → fm_simple_b21 Q  a1 a2 M14) ∧ (¬ r15 = 0 → fm_isIn a2 0 4 M14 (fun (r18 : Int32) (M17 : RM) => ((r18 = 0 → fm_simple_b21 Q  a1 a2 M17) ∧ (¬ r18 = 0 → fm_simple_b22 Q  a1 a2 0 M17))))))
abbrev rmX11_simple : Room := { frames := 1, cells := 0, slots := 0, locals := 22 }
set_option maxHeartbeats 4000000 in
set_option maxRecDepth 100000 in
theorem tm_simple (l : Launch) (D : va_G) (kA : Nat → ClassId) (h : Nat) (ad : Nat → Nat) (sz : Nat) (M : RM) (a1 : Int32) (a2 : Int32) (Q : RM → Prop) (hw : fm_simple a1 a2 M Q) : Met l yX11_simple wsX11_simple rmX11_simple (va_Pc [.ref h, .int a1, .int a2] (rPc D kA h ad M sz)) (va_Qv Q (rB D kA h ad (rF kA h ad M sz)) (rF kA h ad M sz)) 0 0 (rF kA h ad M sz) := by
  refine Met.ofW (cc := cX11_simple) (maxL := 3) (ret := none) (by decide) rfl ?_
  intro p e s m args below meth c s₁ B hml hv
  obtain ⟨rfl, hsz, hP, hK, hD0⟩ := hv
  have hx := B.exec
  have hb := B.bytes
  have hr := B.returns
  have hts := atoms_spec (ws := wsX11_simple) B.pre
  have hown : s.vm.findClass RX11 = some m.cls := findClass_of_methodNamed B.named
  have hlocks : meth.locks = false := B.notSynchronized
  subst hsz
  have hH : rH D kA h ad (rF kA h ad M s.heap.size) s.heap M s.heap [] := ⟨hP, hD0.self, va_S.rf⟩
  have hA : ∀ q : Nat, s.heap.size ≤ q → rF kA h ad M s.heap.size q := fun q z => Or.inr z
  generalize rF kA h ad M s.heap.size = A at hH hA ⊢
  have hl := lv_entry ([.ref h, .int a1, .int a2]) (n := 3) (Nat.le_of_ble_eq_true rfl)
  rw [lg_entry_eq]
  generalize (lg_sl ([.ref h, .int a1, .int a2]) ++ List.replicate (3 - (lg_sl ([.ref h, .int a1, .int a2])).length) Slot.unset).toArray = ls at hl ⊢
  generalize ([.ref h, .int a1, .int a2] : List Value).toArray = args at hts ⊢
  have hl : lv_has ls 3 [(0, .ref h), (1, .int a1), (2, .int a2)] := hl
  have hin : ∀ w ∈ wsX110, w ∈ wsX11_simple := by decide +kernel
  have b77 : ∀ (v1 : Int32) (s0 : Int32) (s1 : Int32) (M : RM) (H : Heap) (locs : List Loc) (ls : Array Slot), rH D kA h ad A s.heap M H locs → lv_has ls 3 [(0, .ref h), (1, .int v1)] → fm_simple_b77 Q  v1 s0 s1 M → W p l e (headSpec wsX11_simple rmX11_simple).room s m args below meth c H locs 0 0 (MQ below (va_Qv Q (rB D kA h ad A) A) args s 0 0 A) (F0 m 77 ls [.int s0, .int s1, .ref (ad 14)]) := by
    intro   v1 s0 s1 M H locs ls hH hl hw
    unfold fm_simple_b77 at hw
    obtain ⟨h1, hw⟩ := hw
    refine rs_14 hx hb hK hH h1 dX11_simple_77 (fun M2 H locs eM2 hH => ?_)
    replace hw := hw M2 eM2
    refine lv_aload_n hx hb dX11_simple_78 rfl (lv_at hl 0 rfl) ?_
    refine rg_16 hx hb hts hin hown hK hH (hts (.fieldLink RX11 56 "IdlCallerModel" "size" "[I") (by decide +kernel)) dX11_simple_79 ?_
    refine lv_iload_n hx hb dX11_simple_82 rfl (lv_at hl 1 rfl) ?_
    refine lv_iconst (v := 0) hx hb dX11_simple_83 (by decide) ?_
    obtain ⟨h3, hw⟩ := hw
    refine rs_16 hx hb hK hH h3 dX11_simple_84 (fun M4 H locs eM4 hH => ?_)
    replace hw := hw M4 eM4
    exact r_retv hx hb hr hlocks hK hH hw dX11_simple_85
  have b61 : ∀ (v1 : Int32) (v2 : Int32) (s0 : Int32) (s1 : Int32) (M : RM) (H : Heap) (locs : List Loc) (ls : Array Slot), rH D kA h ad A s.heap M H locs → lv_has ls 3 [(0, .ref h), (1, .int v1), (2, .int v2)] → fm_simple_b61 Q  v1 v2 s0 s1 M → W p l e (headSpec wsX11_simple rmX11_simple).room s m args below meth c H locs 0 0 (MQ below (va_Qv Q (rB D kA h ad A) A) args s 0 0 A) (F0 m 61 ls [.int s0, .int s1, .ref (ad 13)]) := by
    intro   v1 v2 s0 s1 M H locs ls hH hl hw
    unfold fm_simple_b61 at hw
    obtain ⟨h5, hw⟩ := hw
    refine rs_13 hx hb hK hH h5 dX11_simple_61 (fun M6 H locs eM6 hH => ?_)
    replace hw := hw M6 eM6
    refine lv_aload_n hx hb dX11_simple_62 rfl (lv_at hl 0 rfl) ?_
    refine rg_14 hx hb hts hin hown hK hH (hts (.fieldLink RX11 49 "IdlCallerModel" "truth" "[Z") (by decide +kernel)) dX11_simple_63 ?_
    refine lv_iload_n hx hb dX11_simple_66 rfl (lv_at hl 1 rfl) ?_
    refine lv_iload_n hx hb dX11_simple_67 rfl (lv_at hl 2 rfl) ?_
    refine lv_iconst (v := 3) hx hb dX11_simple_68 (by decide) ?_
    refine lv_icmp_ne (tgt := 76) hx hb dX11_simple_69 (by decide) (fun c7 => ?_) (fun c7 => ?_)
    · replace hw := hw.1 c7
      refine lv_iconst (v := 0) hx hb dX11_simple_76 (by decide) ?_
      exact b77   v1 0 v1 M6 H locs ls hH (lv_sub hl [0, 1] rfl) hw
    · replace hw := hw.2 c7
      refine lv_iconst (v := 1) hx hb dX11_simple_72 (by decide) ?_
      refine lv_goto (tgt := 77) hx hb dX11_simple_73 (by decide) ?_
      exact b77   v1 1 v1 M6 H locs ls hH (lv_sub hl [0, 1] rfl) hw
  have b22 : ∀ (v1 : Int32) (v2 : Int32) (s0 : Int32) (M : RM) (H : Heap) (locs : List Loc) (ls : Array Slot), rH D kA h ad A s.heap M H locs → lv_has ls 3 [(0, .ref h), (1, .int v1), (2, .int v2)] → fm_simple_b22 Q  v1 v2 s0 M → W p l e (headSpec wsX11_simple rmX11_simple).room s m args below meth c H locs 0 0 (MQ below (va_Qv Q (rB D kA h ad A) A) args s 0 0 A) (F0 m 22 ls [.int s0, .ref h]) := by
    intro   v1 v2 s0 M H locs ls hH hl hw
    unfold fm_simple_b22 at hw
    refine r_calli (va_runV (As := [.int s0]) (rest := []) ⟨hx, hb, hml, hown, hts⟩ (tm_refused l D kA h ad H.size M s0 _ hw) (cwV 1 hts gX11_simple_X11_refused rfl rfl rfl (by decide +kernel) ⟨Nat.le_of_ble_eq_true rfl, Nat.le_of_ble_eq_true rfl⟩) (r_preV hK hH) rfl rfl hl.1 rfl (lv_room (Nat.le_of_ble_eq_true rfl)) dX11_simple_22 ⟨Nat.le_of_ble_eq_true rfl, Nat.le_of_ble_eq_true rfl⟩) hH hA (fun r9 M8 H locs hw hH => ?_)
    refine lv_if_eq (tgt := 29) hx hb dX11_simple_25 (by decide) (fun c10 => ?_) (fun c10 => ?_)
    · replace hw := hw.1 c10
      refine lv_aload_n hx hb dX11_simple_29 rfl (lv_at hl 0 rfl) ?_
      refine rg_13 hx hb hts hin hown hK hH (hts (.fieldLink RX11 46 "IdlCallerModel" "kindOf" "[I") (by decide +kernel)) dX11_simple_30 ?_
      refine lv_iload_n hx hb dX11_simple_33 rfl (lv_at hl 1 rfl) ?_
      refine lv_iload_n hx hb dX11_simple_34 rfl (lv_at hl 2 rfl) ?_
      refine lv_if_ne (tgt := 42) hx hb dX11_simple_35 (by decide) (fun c11 => ?_) (fun c11 => ?_)
      · replace hw := hw.1 c11
        refine lv_iload_n hx hb dX11_simple_42 rfl (lv_at hl 2 rfl) ?_
        refine lv_iconst (v := 1) hx hb dX11_simple_43 (by decide) ?_
        refine lv_icmp_ne (tgt := 51) hx hb dX11_simple_44 (by decide) (fun c12 => ?_) (fun c12 => ?_)
        · replace hw := hw.1 c12
          refine lv_iload_n hx hb dX11_simple_51 rfl (lv_at hl 2 rfl) ?_
          refine lv_iconst (v := 4) hx hb dX11_simple_52 (by decide) ?_
          refine lv_icmp_ge (tgt := 60) hx hb dX11_simple_53 (by decide) (fun c13 => ?_) (fun c13 => ?_)
          · replace hw := hw.1 c13
            refine lv_iconst (v := 5) hx hb dX11_simple_60 (by decide) ?_
            exact b61   v1 v2 5 v1 M8 H locs ls hH (lv_sub hl [0, 1, 2] rfl) hw
          · replace hw := hw.2 c13
            refine lv_iconst (v := 2) hx hb dX11_simple_56 (by decide) ?_
            refine lv_goto (tgt := 61) hx hb dX11_simple_57 (by decide) ?_
            exact b61   v1 v2 2 v1 M8 H locs ls hH (lv_sub hl [0, 1, 2] rfl) hw
        · replace hw := hw.2 c12
          refine lv_iconst (v := 1) hx hb dX11_simple_47 (by decide) ?_
          refine lv_goto (tgt := 61) hx hb dX11_simple_48 (by decide) ?_
          exact b61   v1 v2 1 v1 M8 H locs ls hH (lv_sub hl [0, 1, 2] rfl) hw
      · replace hw := hw.2 c11
        refine lv_iconst (v := 0) hx hb dX11_simple_38 (by decide) ?_
        refine lv_goto (tgt := 61) hx hb dX11_simple_39 (by decide) ?_
        exact b61   v1 v2 0 v1 M8 H locs ls hH (lv_sub hl [0, 1, 2] rfl) hw
    · replace hw := hw.2 c10
      exact r_retv hx hb hr hlocks hK hH hw dX11_simple_28
  have b21 : ∀ (v1 : Int32) (v2 : Int32) (M : RM) (H : Heap) (locs : List Loc) (ls : Array Slot), rH D kA h ad A s.heap M H locs → lv_has ls 3 [(0, .ref h), (1, .int v1), (2, .int v2)] → fm_simple_b21 Q  v1 v2 M → W p l e (headSpec wsX11_simple rmX11_simple).room s m args below meth c H locs 0 0 (MQ below (va_Qv Q (rB D kA h ad A) A) args s 0 0 A) (F0 m 21 ls [.ref h]) := by
    intro   v1 v2 M H locs ls hH hl hw
    unfold fm_simple_b21 at hw
    refine lv_iconst (v := 1) hx hb dX11_simple_21 (by decide) ?_
    exact b22   v1 v2 1 M H locs ls hH (lv_sub hl [0, 1, 2] rfl) hw
  clear hP hD0
  unfold fm_simple at hw
  have hst : ∀ (M : RM) (H : Heap) (locs : List Loc) (ls : Array Slot), rH D kA h ad A s.heap M H locs → lv_has ls 3 [(0, .ref h), (1, .int a1), (2, .int a2)] → fm_isSlot a1 M (fun (r15 : Int32) (M14 : RM) => ((r15 = 0 → fm_simple_b21 Q  a1 a2 M14) ∧ (¬ r15 = 0 → fm_isIn a2 0 4 M14 (fun (r18 : Int32) (M17 : RM) => ((r18 = 0 → fm_simple_b21 Q  a1 a2 M17) ∧ (¬ r18 = 0 → fm_simple_b22 Q  a1 a2 0 M17)))))) → W p l e (headSpec wsX11_simple rmX11_simple).room s m args below meth c H locs 0 0 (MQ below (va_Qv Q (rB D kA h ad A) A) args s 0 0 A) (F0 m 0 ls []) := by
    intro M H locs ls hH hl hw
    refine lv_aload_n hx hb dX11_simple_0 rfl (lv_at hl 0 rfl) ?_
    refine lv_iload_n hx hb dX11_simple_1 rfl (lv_at hl 1 rfl) ?_
    refine r_calli (va_runS (As := [.int a1]) (rest := [.ref h]) ⟨hx, hb, hml, hown, hts⟩ (tm_isSlot l D kA h ad H.size M a1 _ hw) (va_cwS 1 hts gX11_simple_X11_isSlot rfl rfl rfl (by decide +kernel) ⟨Nat.le_of_ble_eq_true rfl, Nat.le_of_ble_eq_true rfl⟩) (r_preS hK hH) rfl rfl hl.1 rfl (lv_room (Nat.le_of_ble_eq_true rfl)) dX11_simple_2 ⟨Nat.le_of_ble_eq_true rfl, Nat.le_of_ble_eq_true rfl⟩) hH hA (fun r15 M14 H locs hw hH => ?_)
    refine lv_if_eq (tgt := 21) hx hb dX11_simple_5 (by decide) (fun c16 => ?_) (fun c16 => ?_)
    · replace hw := hw.1 c16
      exact b21   a1 a2 M14 H locs ls hH (lv_sub hl [0, 1, 2] rfl) hw
    · replace hw := hw.2 c16
      refine lv_iload_n hx hb dX11_simple_8 rfl (lv_at hl 2 rfl) ?_
      refine lv_iconst (v := 0) hx hb dX11_simple_9 (by decide) ?_
      refine lv_iconst (v := 4) hx hb dX11_simple_10 (by decide) ?_
      refine r_calli (va_runS (As := [.int a2, .int 0, .int 4]) (rest := [.ref h]) ⟨hx, hb, hml, hown, hts⟩ (tm_isIn l D kA h ad H.size M14 a2 0 4 _ hw) (va_cwS 3 hts gX11_simple_X11_isIn rfl rfl rfl (by decide +kernel) ⟨Nat.le_of_ble_eq_true rfl, Nat.le_of_ble_eq_true rfl⟩) (r_preS hK hH) rfl rfl hl.1 rfl (lv_room (Nat.le_of_ble_eq_true rfl)) dX11_simple_11 ⟨Nat.le_of_ble_eq_true rfl, Nat.le_of_ble_eq_true rfl⟩) hH hA (fun r18 M17 H locs hw hH => ?_)
      refine lv_if_eq (tgt := 21) hx hb dX11_simple_14 (by decide) (fun c19 => ?_) (fun c19 => ?_)
      · replace hw := hw.1 c19
        exact b21   a1 a2 M17 H locs ls hH (lv_sub hl [0, 1, 2] rfl) hw
      · replace hw := hw.2 c19
        refine lv_iconst (v := 0) hx hb dX11_simple_17 (by decide) ?_
        refine lv_goto (tgt := 22) hx hb dX11_simple_18 (by decide) ?_
        exact b22   a1 a2 0 M17 H locs ls hH (lv_sub hl [0, 1, 2] rfl) hw
  exact hst M s.heap [] ls hH hl hw
def fm_number_b61 (Q : RM → Prop) (v1 : Int32) (v2 : UInt64) (s0 : Int32) (M : RM) : Prop := fm_refused s0 M (fun (r2 : Int32) (M1 : RM) => ((r2 = 0 → (vp_in v1 48 ∧ (∀ M5 : RM, M5 = wA M1 13 v1.toNatClampNeg 3 → (vp_in v1 48 ∧ (∀ M7 : RM, M7 = wD M5 15 v1.toNatClampNeg v2 → (vp_in v1 48 ∧ (∀ M9 : RM, M9 = wA M7 16 v1.toNatClampNeg 0 → Q M9))))))) ∧ (¬ r2 = 0 → Q M1)))
def fm_number_b60 (Q : RM → Prop) (v1 : Int32) (v2 : UInt64) (M : RM) : Prop := fm_number_b61 Q  v1 v2 1 M
def fm_number_b32 (Q : RM → Prop) (v1 : Int32) (v2 : UInt64) (s0 : Int32) (M : RM) : Prop := ((s0 = 0 → fm_number_b60 Q  v1 v2 M) ∧ (¬ s0 = 0 → (vf_n64 (FP.dmul v2 4620693217682128896) ∧ (vf_n64 (FP.dmul v2 4620693217682128896) ∧ ((¬ (Op.cmpValue (FP.dcmp (FP.l2d (FP.d2l (FP.dmul v2 4620693217682128896))) (FP.dmul v2 4620693217682128896)) .l) = 0 → fm_number_b60 Q  v1 v2 M) ∧ ((Op.cmpValue (FP.dcmp (FP.l2d (FP.d2l (FP.dmul v2 4620693217682128896))) (FP.dmul v2 4620693217682128896)) .l) = 0 → fm_number_b61 Q  v1 v2 0 M))))))
def fm_number_b31 (Q : RM → Prop) (v1 : Int32) (v2 : UInt64) (M : RM) : Prop := fm_number_b32 Q  v1 v2 0 M
def fm_number (a1 : Int32) (a2 : UInt64) (M : RM) (Q : RM → Prop) : Prop := fm_isSlot a1 M (fun (r15 : Int32) (M14 : RM) => ((r15 = 0 → fm_number_b31 Q  a1 a2 M14) ∧ (¬ r15 = 0 → (((Op.cmpValue (FP.dcmp a2 (FP.dneg 4746794007248502784)) .l) < 0 → fm_number_b31 Q  a1 a2 M14) ∧ (¬ (Op.cmpValue (FP.dcmp a2 (FP.dneg 4746794007248502784)) .l) < 0 → ((0 < (Op.cmpValue (FP.dcmp a2 4746794007248502784) .g) → fm_number_b31 Q  a1 a2 M14) ∧ (¬ 0 < (Op.cmpValue (FP.dcmp a2 4746794007248502784) .g) → fm_number_b32 Q  a1 a2 1 M14)))))))
abbrev rmX11_number : Room := { frames := 1, cells := 0, slots := 0, locals := 21 }
set_option maxHeartbeats 4000000 in
set_option maxRecDepth 100000 in
theorem tm_number (l : Launch) (D : va_G) (kA : Nat → ClassId) (h : Nat) (ad : Nat → Nat) (sz : Nat) (M : RM) (a1 : Int32) (a2 : UInt64) (Q : RM → Prop) (hw : fm_number a1 a2 M Q) : Met l yX11_number wsX11_number rmX11_number (va_Pc [.ref h, .int a1, .double a2] (rPc D kA h ad M sz)) (va_Qv Q (rB D kA h ad (rF kA h ad M sz)) (rF kA h ad M sz)) 0 0 (rF kA h ad M sz) := by
  refine Met.ofW (cc := cX11_number) (maxL := 7) (ret := none) (by decide) rfl ?_
  intro p e s m args below meth c s₁ B hml hv
  obtain ⟨rfl, hsz, hP, hK, hD0⟩ := hv
  have hx := B.exec
  have hb := B.bytes
  have hr := B.returns
  have hts := atoms_spec (ws := wsX11_number) B.pre
  have hown : s.vm.findClass RX11 = some m.cls := findClass_of_methodNamed B.named
  have hlocks : meth.locks = false := B.notSynchronized
  subst hsz
  have hH : rH D kA h ad (rF kA h ad M s.heap.size) s.heap M s.heap [] := ⟨hP, hD0.self, va_S.rf⟩
  have hA : ∀ q : Nat, s.heap.size ≤ q → rF kA h ad M s.heap.size q := fun q z => Or.inr z
  generalize rF kA h ad M s.heap.size = A at hH hA ⊢
  have hl := lv_entry ([.ref h, .int a1, .double a2]) (n := 7) (Nat.le_of_ble_eq_true rfl)
  rw [lg_entry_eq]
  generalize (lg_sl ([.ref h, .int a1, .double a2]) ++ List.replicate (7 - (lg_sl ([.ref h, .int a1, .double a2])).length) Slot.unset).toArray = ls at hl ⊢
  generalize ([.ref h, .int a1, .double a2] : List Value).toArray = args at hts ⊢
  have hl : lv_has ls 7 [(0, .ref h), (1, .int a1), (2, .double a2)] := hl
  have hin : ∀ w ∈ wsX110, w ∈ wsX11_number := by decide +kernel
  have b61 : ∀ (v1 : Int32) (v2 : UInt64) (s0 : Int32) (M : RM) (H : Heap) (locs : List Loc) (ls : Array Slot), rH D kA h ad A s.heap M H locs → lv_has ls 7 [(0, .ref h), (1, .int v1), (2, .double v2)] → fm_number_b61 Q  v1 v2 s0 M → W p l e (headSpec wsX11_number rmX11_number).room s m args below meth c H locs 0 0 (MQ below (va_Qv Q (rB D kA h ad A) A) args s 0 0 A) (F0 m 61 ls [.int s0, .ref h]) := by
    intro   v1 v2 s0 M H locs ls hH hl hw
    unfold fm_number_b61 at hw
    refine r_calli (va_runV (As := [.int s0]) (rest := []) ⟨hx, hb, hml, hown, hts⟩ (tm_refused l D kA h ad H.size M s0 _ hw) (cwV 1 hts gX11_number_X11_refused rfl rfl rfl (by decide +kernel) ⟨Nat.le_of_ble_eq_true rfl, Nat.le_of_ble_eq_true rfl⟩) (r_preV hK hH) rfl rfl hl.1 rfl (lv_room (Nat.le_of_ble_eq_true rfl)) dX11_number_61 ⟨Nat.le_of_ble_eq_true rfl, Nat.le_of_ble_eq_true rfl⟩) hH hA (fun r2 M1 H locs hw hH => ?_)
    refine lv_if_eq (tgt := 68) hx hb dX11_number_64 (by decide) (fun c3 => ?_) (fun c3 => ?_)
    · replace hw := hw.1 c3
      refine lv_aload_n hx hb dX11_number_68 rfl (lv_at hl 0 rfl) ?_
      refine rg_13 hx hb hts hin hown hK hH (hts (.fieldLink RX11 46 "IdlCallerModel" "kindOf" "[I") (by decide +kernel)) dX11_number_69 ?_
      refine lv_iload_n hx hb dX11_number_72 rfl (lv_at hl 1 rfl) ?_
      refine lv_iconst (v := 3) hx hb dX11_number_73 (by decide) ?_
      obtain ⟨h4, hw⟩ := hw
      refine rs_13 hx hb hK hH h4 dX11_number_74 (fun M5 H locs eM5 hH => ?_)
      replace hw := hw M5 eM5
      refine lv_aload_n hx hb dX11_number_75 rfl (lv_at hl 0 rfl) ?_
      refine rg_15 hx hb hts hin hown hK hH (hts (.fieldLink RX11 52 "IdlCallerModel" "numeric" "[D") (by decide +kernel)) dX11_number_76 ?_
      refine lv_iload_n hx hb dX11_number_79 rfl (lv_at hl 1 rfl) ?_
      refine lv_dload_n hx hb dX11_number_80 rfl (lv_at hl 2 rfl) ?_
      obtain ⟨h6, hw⟩ := hw
      refine rs_15 hx hb hK hH h6 dX11_number_81 (fun M7 H locs eM7 hH => ?_)
      replace hw := hw M7 eM7
      refine lv_aload_n hx hb dX11_number_82 rfl (lv_at hl 0 rfl) ?_
      refine rg_16 hx hb hts hin hown hK hH (hts (.fieldLink RX11 56 "IdlCallerModel" "size" "[I") (by decide +kernel)) dX11_number_83 ?_
      refine lv_iload_n hx hb dX11_number_86 rfl (lv_at hl 1 rfl) ?_
      refine lv_iconst (v := 0) hx hb dX11_number_87 (by decide) ?_
      obtain ⟨h8, hw⟩ := hw
      refine rs_16 hx hb hK hH h8 dX11_number_88 (fun M9 H locs eM9 hH => ?_)
      replace hw := hw M9 eM9
      exact r_retv hx hb hr hlocks hK hH hw dX11_number_89
    · replace hw := hw.2 c3
      exact r_retv hx hb hr hlocks hK hH hw dX11_number_67
  have b60 : ∀ (v1 : Int32) (v2 : UInt64) (M : RM) (H : Heap) (locs : List Loc) (ls : Array Slot), rH D kA h ad A s.heap M H locs → lv_has ls 7 [(0, .ref h), (1, .int v1), (2, .double v2)] → fm_number_b60 Q  v1 v2 M → W p l e (headSpec wsX11_number rmX11_number).room s m args below meth c H locs 0 0 (MQ below (va_Qv Q (rB D kA h ad A) A) args s 0 0 A) (F0 m 60 ls [.ref h]) := by
    intro   v1 v2 M H locs ls hH hl hw
    unfold fm_number_b60 at hw
    refine lv_iconst (v := 1) hx hb dX11_number_60 (by decide) ?_
    exact b61   v1 v2 1 M H locs ls hH (lv_sub hl [0, 1, 2] rfl) hw
  have b32 : ∀ (v1 : Int32) (v2 : UInt64) (s0 : Int32) (M : RM) (H : Heap) (locs : List Loc) (ls : Array Slot), rH D kA h ad A s.heap M H locs → lv_has ls 7 [(0, .ref h), (1, .int v1), (2, .double v2)] → fm_number_b32 Q  v1 v2 s0 M → W p l e (headSpec wsX11_number rmX11_number).room s m args below meth c H locs 0 0 (MQ below (va_Qv Q (rB D kA h ad A) A) args s 0 0 A) (F0 m 32 ls [.int s0]) := by
    intro   v1 v2 s0 M H locs ls hH hl hw
    unfold fm_number_b32 at hw
    refine lv_istore (lv' := [(6, .int s0), (0, .ref h), (1, .int v1), (2, .double v2)]) hx hb dX11_number_32 hl (by decide) rfl (fun ls hl => ?_)
    refine lv_aload_n hx hb dX11_number_34 rfl (lv_at hl 1 rfl) ?_
    refine lv_iload hx hb dX11_number_35 (lv_at hl 0 rfl) ?_
    refine lv_if_eq (tgt := 60) hx hb dX11_number_37 (by decide) (fun c10 => ?_) (fun c10 => ?_)
    · replace hw := hw.1 c10
      exact b60   v1 v2 M H locs ls hH (lv_sub hl [1, 2, 3] rfl) hw
    · replace hw := hw.2 c10
      refine lv_dload_n hx hb dX11_number_40 rfl (lv_at hl 3 rfl) ?_
      refine lv_ldc2d (v := 4620693217682128896) hx hb hown (hts (.constantDouble RX11 222 4620693217682128896) (by decide +kernel)) dX11_number_41 ?_
      obtain ⟨h11, hw⟩ := hw
      refine lv_dmul hx hb dX11_number_44 h11 ?_
      refine lv_d2l hx hb dX11_number_45 ?_
      refine lv_l2d hx hb dX11_number_46 ?_
      refine lv_dload_n hx hb dX11_number_47 rfl (lv_at hl 3 rfl) ?_
      refine lv_ldc2d (v := 4620693217682128896) hx hb hown (hts (.constantDouble RX11 222 4620693217682128896) (by decide +kernel)) dX11_number_48 ?_
      obtain ⟨h12, hw⟩ := hw
      refine lv_dmul hx hb dX11_number_51 h12 ?_
      refine lv_dcmp hx hb dX11_number_52 ?_
      refine lv_if_ne (tgt := 60) hx hb dX11_number_53 (by decide) (fun c13 => ?_) (fun c13 => ?_)
      · replace hw := hw.1 c13
        exact b60   v1 v2 M H locs ls hH (lv_sub hl [1, 2, 3] rfl) hw
      · replace hw := hw.2 c13
        refine lv_iconst (v := 0) hx hb dX11_number_56 (by decide) ?_
        refine lv_goto (tgt := 61) hx hb dX11_number_57 (by decide) ?_
        exact b61   v1 v2 0 M H locs ls hH (lv_sub hl [1, 2, 3] rfl) hw
  have b31 : ∀ (v1 : Int32) (v2 : UInt64) (M : RM) (H : Heap) (locs : List Loc) (ls : Array Slot), rH D kA h ad A s.heap M H locs → lv_has ls 7 [(0, .ref h), (1, .int v1), (2, .double v2)] → fm_number_b31 Q  v1 v2 M → W p l e (headSpec wsX11_number rmX11_number).room s m args below meth c H locs 0 0 (MQ below (va_Qv Q (rB D kA h ad A) A) args s 0 0 A) (F0 m 31 ls []) := by
    intro   v1 v2 M H locs ls hH hl hw
    unfold fm_number_b31 at hw
    refine lv_iconst (v := 0) hx hb dX11_number_31 (by decide) ?_
    exact b32   v1 v2 0 M H locs ls hH (lv_sub hl [0, 1, 2] rfl) hw
  clear hP hD0
  unfold fm_number at hw
  have hst : ∀ (M : RM) (H : Heap) (locs : List Loc) (ls : Array Slot), rH D kA h ad A s.heap M H locs → lv_has ls 7 [(0, .ref h), (1, .int a1), (2, .double a2)] → fm_isSlot a1 M (fun (r15 : Int32) (M14 : RM) => ((r15 = 0 → fm_number_b31 Q  a1 a2 M14) ∧ (¬ r15 = 0 → (((Op.cmpValue (FP.dcmp a2 (FP.dneg 4746794007248502784)) .l) < 0 → fm_number_b31 Q  a1 a2 M14) ∧ (¬ (Op.cmpValue (FP.dcmp a2 (FP.dneg 4746794007248502784)) .l) < 0 → ((0 < (Op.cmpValue (FP.dcmp a2 4746794007248502784) .g) → fm_number_b31 Q  a1 a2 M14) ∧ (¬ 0 < (Op.cmpValue (FP.dcmp a2 4746794007248502784) .g) → fm_number_b32 Q  a1 a2 1 M14))))))) → W p l e (headSpec wsX11_number rmX11_number).room s m args below meth c H locs 0 0 (MQ below (va_Qv Q (rB D kA h ad A) A) args s 0 0 A) (F0 m 0 ls []) := by
    intro M H locs ls hH hl hw
    refine lv_ldc2d (v := 4746794007248502784) hx hb hown (hts (.constantDouble RX11 220 4746794007248502784) (by decide +kernel)) dX11_number_0 ?_
    refine lv_dstore (lv' := [(4, .double 4746794007248502784), (0, .ref h), (1, .int a1), (2, .double a2)]) hx hb dX11_number_3 hl (by decide) rfl (fun ls hl => ?_)
    refine lv_iload_n hx hb dX11_number_5 rfl (lv_at hl 2 rfl) ?_
    refine r_calli (va_runS (As := [.int a1]) (rest := []) ⟨hx, hb, hml, hown, hts⟩ (tm_isSlot l D kA h ad H.size M a1 _ hw) (va_cwS 1 hts gX11_number_X11_isSlot rfl rfl rfl (by decide +kernel) ⟨Nat.le_of_ble_eq_true rfl, Nat.le_of_ble_eq_true rfl⟩) (r_preS hK hH) rfl rfl hl.1 rfl (lv_room (Nat.le_of_ble_eq_true rfl)) dX11_number_6 ⟨Nat.le_of_ble_eq_true rfl, Nat.le_of_ble_eq_true rfl⟩) hH hA (fun r15 M14 H locs hw hH => ?_)
    refine lv_if_eq (tgt := 31) hx hb dX11_number_9 (by decide) (fun c16 => ?_) (fun c16 => ?_)
    · replace hw := hw.1 c16
      exact b31   a1 a2 M14 H locs ls hH (lv_sub hl [1, 2, 3] rfl) hw
    · replace hw := hw.2 c16
      refine lv_dload_n hx hb dX11_number_12 rfl (lv_at hl 3 rfl) ?_
      refine lv_dload hx hb dX11_number_13 (lv_at hl 0 rfl) ?_
      refine lv_dneg hx hb dX11_number_15 ?_
      refine lv_dcmp hx hb dX11_number_16 ?_
      refine lv_if_lt (tgt := 31) hx hb dX11_number_17 (by decide) (fun c17 => ?_) (fun c17 => ?_)
      · replace hw := hw.1 c17
        exact b31   a1 a2 M14 H locs ls hH (lv_sub hl [1, 2, 3] rfl) hw
      · replace hw := hw.2 c17
        refine lv_dload_n hx hb dX11_number_20 rfl (lv_at hl 3 rfl) ?_
        refine lv_dload hx hb dX11_number_21 (lv_at hl 0 rfl) ?_
        refine lv_dcmp hx hb dX11_number_23 ?_
        refine lv_if_gt (tgt := 31) hx hb dX11_number_24 (by decide) (fun c18 => ?_) (fun c18 => ?_)
        · replace hw := hw.1 c18
          exact b31   a1 a2 M14 H locs ls hH (lv_sub hl [1, 2, 3] rfl) hw
        · replace hw := hw.2 c18
          refine lv_iconst (v := 1) hx hb dX11_number_27 (by decide) ?_
          refine lv_goto (tgt := 32) hx hb dX11_number_28 (by decide) ?_
          exact b32   a1 a2 1 M14 H locs ls hH (lv_sub hl [1, 2, 3] rfl) hw
  exact hst M s.heap [] ls hH hl hw
def fm_text_b123 (Q : Int32 → RM → Prop) (k38 : Int32 → Int32 → Int32 → Int32 → Int32 → RM → Prop) (v1 : Int32) (v2 : Int32) (v3 : Int32) (v4 : Int32) (v5 : Int32) (M : RM) : Prop := (∀ x1 : Int32, x1 = v5 + 1 → k38 v1 v2 v3 v4 x1 M)
def fm_text_b68 (Q : Int32 → RM → Prop) (k38 : Int32 → Int32 → Int32 → Int32 → Int32 → RM → Prop) (v1 : Int32) (v2 : Int32) (v3 : Int32) (v4 : Int32) (v5 : Int32) (s0 : Int32) (M : RM) : Prop := (¬ (4 : Int32) = 0 ∧ (∀ x3 : Int32, x3 = (s0 >>> ((24 - (8 * (v5 - v5 / 4 * 4))) &&& 31)) &&& 255 → ((x3 ≤ 0 → fm_text_b123 Q k38 v1 v2 v3 v4 v5 M) ∧ (¬ x3 ≤ 0 → (vp_in v1 48 ∧ (vp_in ((12 * v1) + (rA M 16 v1.toNatClampNeg)) 576 ∧ (∀ M7 : RM, M7 = wA M 17 ((12 * v1) + (rA M 16 v1.toNatClampNeg)).toNatClampNeg (vp_nar .char ((x3.toUInt32 % 65536).toInt32)) → (vp_in v1 48 ∧ (vp_in v1 48 ∧ (∀ M10 : RM, M10 = wA M7 16 v1.toNatClampNeg ((rA M7 16 v1.toNatClampNeg) + 1) → fm_text_b123 Q k38 v1 v2 v3 v4 v5 M10))))))))))
def fm_text_c38 (Q : Int32 → RM → Prop) (k38 : Int32 → Int32 → Int32 → Int32 → Int32 → RM → Prop) (v1 : Int32) (v2 : Int32) (v3 : Int32) (v4 : Int32) (v5 : Int32) (M : RM) : Prop := ((12 ≤ v5 → (vp_in v1 48 ∧ Q (rA M 16 v1.toNatClampNeg) M)) ∧ (¬ 12 ≤ v5 → ((4 ≤ v5 → ((8 ≤ v5 → fm_text_b68 Q k38 v1 v2 v3 v4 v5 v4 M) ∧ (¬ 8 ≤ v5 → fm_text_b68 Q k38 v1 v2 v3 v4 v5 v3 M))) ∧ (¬ 4 ≤ v5 → fm_text_b68 Q k38 v1 v2 v3 v4 v5 v2 M))))
def fm_text_l38 (Q : Int32 → RM → Prop) : Nat → Int32 → Int32 → Int32 → Int32 → Int32 → RM → Prop := lit (τ := Int32 → Int32 → Int32 → Int32 → Int32 → RM → Prop) (fun _ _ _ _ _ _ => False) (fun k => fm_text_c38 Q  k)
def fm_text_b13 (Q : Int32 → RM → Prop) (v1 : Int32) (v2 : Int32) (v3 : Int32) (v4 : Int32) (s0 : Int32) (M : RM) : Prop := fm_refused s0 M (fun (r16 : Int32) (M15 : RM) => ((r16 = 0 → (vp_in v1 48 ∧ (∀ M19 : RM, M19 = wA M15 13 v1.toNatClampNeg 4 → (vp_in v1 48 ∧ (∀ M21 : RM, M21 = wA M19 16 v1.toNatClampNeg 0 → (∃ nn : Nat, fm_text_l38 Q  nn v1 v2 v3 v4 0 M21)))))) ∧ (¬ r16 = 0 → Q 0 M15)))
def fm_text (a1 : Int32) (a2 : Int32) (a3 : Int32) (a4 : Int32) (M : RM) (Q : Int32 → RM → Prop) : Prop := fm_isSlot a1 M (fun (r23 : Int32) (M22 : RM) => ((r23 = 0 → fm_text_b13 Q  a1 a2 a3 a4 1 M22) ∧ (¬ r23 = 0 → fm_text_b13 Q  a1 a2 a3 a4 0 M22)))
abbrev rmX11_text : Room := { frames := 1, cells := 0, slots := 0, locals := 21 }
set_option maxHeartbeats 4000000 in
set_option maxRecDepth 100000 in
theorem tm_text (l : Launch) (D : va_G) (kA : Nat → ClassId) (h : Nat) (ad : Nat → Nat) (sz : Nat) (M : RM) (a1 : Int32) (a2 : Int32) (a3 : Int32) (a4 : Int32) (Q : Int32 → RM → Prop) (hw : fm_text a1 a2 a3 a4 M Q) : Met l yX11_text wsX11_text rmX11_text (va_Pc [.ref h, .int a1, .int a2, .int a3, .int a4] (rPc D kA h ad M sz)) (va_Qi Q (rB D kA h ad (rF kA h ad M sz)) (rF kA h ad M sz)) 0 0 (rF kA h ad M sz) := by
  refine Met.ofW (cc := cX11_text) (maxL := 8) (ret := (some .int)) (by decide) rfl ?_
  intro p e s m args below meth c s₁ B hml hv
  obtain ⟨rfl, hsz, hP, hK, hD0⟩ := hv
  have hx := B.exec
  have hb := B.bytes
  have hr := B.returns
  have hts := atoms_spec (ws := wsX11_text) B.pre
  have hown : s.vm.findClass RX11 = some m.cls := findClass_of_methodNamed B.named
  have hlocks : meth.locks = false := B.notSynchronized
  subst hsz
  have hH : rH D kA h ad (rF kA h ad M s.heap.size) s.heap M s.heap [] := ⟨hP, hD0.self, va_S.rf⟩
  have hA : ∀ q : Nat, s.heap.size ≤ q → rF kA h ad M s.heap.size q := fun q z => Or.inr z
  generalize rF kA h ad M s.heap.size = A at hH hA ⊢
  have hl := lv_entry ([.ref h, .int a1, .int a2, .int a3, .int a4]) (n := 8) (Nat.le_of_ble_eq_true rfl)
  rw [lg_entry_eq]
  generalize (lg_sl ([.ref h, .int a1, .int a2, .int a3, .int a4]) ++ List.replicate (8 - (lg_sl ([.ref h, .int a1, .int a2, .int a3, .int a4])).length) Slot.unset).toArray = ls at hl ⊢
  generalize ([.ref h, .int a1, .int a2, .int a3, .int a4] : List Value).toArray = args at hts ⊢
  have hl : lv_has ls 8 [(0, .ref h), (1, .int a1), (2, .int a2), (3, .int a3), (4, .int a4)] := hl
  have hin : ∀ w ∈ wsX110, w ∈ wsX11_text := by decide +kernel
  have b123 : ∀ (k38 : Int32 → Int32 → Int32 → Int32 → Int32 → RM → Prop) (hk38 : ∀ (v1 : Int32) (v2 : Int32) (v3 : Int32) (v4 : Int32) (v5 : Int32) (M : RM) (H : Heap) (locs : List Loc) (ls : Array Slot), rH D kA h ad A s.heap M H locs → lv_has ls 8 [(0, .ref h), (1, .int v1), (2, .int v2), (3, .int v3), (4, .int v4), (5, .int v5)] → k38 v1 v2 v3 v4 v5 M → W p l e (headSpec wsX11_text rmX11_text).room s m args below meth c H locs 0 0 (MQ below (va_Qi Q (rB D kA h ad A) A) args s 0 0 A) (F0 m 38 ls [])) (v1 : Int32) (v2 : Int32) (v3 : Int32) (v4 : Int32) (v5 : Int32) (M : RM) (H : Heap) (locs : List Loc) (ls : Array Slot), rH D kA h ad A s.heap M H locs → lv_has ls 8 [(0, .ref h), (1, .int v1), (2, .int v2), (3, .int v3), (4, .int v4), (5, .int v5)] → fm_text_b123 Q k38 v1 v2 v3 v4 v5 M → W p l e (headSpec wsX11_text rmX11_text).room s m args below meth c H locs 0 0 (MQ below (va_Qi Q (rB D kA h ad A) A) args s 0 0 A) (F0 m 123 ls []) := by
    intro k38 hk38 v1 v2 v3 v4 v5 M H locs ls hH hl hw
    unfold fm_text_b123 at hw
    obtain ⟨x1, ex1⟩ : ∃ y : Int32, y = v5 + 1 := ⟨_, rfl⟩
    replace hw := hw x1 ex1
    refine lv_iinc (v := x1) (lv' := [(5, .int x1), (0, .ref h), (1, .int v1), (2, .int v2), (3, .int v3), (4, .int v4)]) hx hb dX11_text_123 hl (k := 5) rfl (by rw [ex1]; rfl) (by decide) rfl (fun ls hl => ?_)
    refine lv_goto (tgt := 38) hx hb dX11_text_126 (by decide) ?_
    exact hk38 v1 v2 v3 v4 x1 M H locs ls hH (lv_sub hl [1, 2, 3, 4, 5, 0] rfl) hw
  have b68 : ∀ (k38 : Int32 → Int32 → Int32 → Int32 → Int32 → RM → Prop) (hk38 : ∀ (v1 : Int32) (v2 : Int32) (v3 : Int32) (v4 : Int32) (v5 : Int32) (M : RM) (H : Heap) (locs : List Loc) (ls : Array Slot), rH D kA h ad A s.heap M H locs → lv_has ls 8 [(0, .ref h), (1, .int v1), (2, .int v2), (3, .int v3), (4, .int v4), (5, .int v5)] → k38 v1 v2 v3 v4 v5 M → W p l e (headSpec wsX11_text rmX11_text).room s m args below meth c H locs 0 0 (MQ below (va_Qi Q (rB D kA h ad A) A) args s 0 0 A) (F0 m 38 ls [])) (v1 : Int32) (v2 : Int32) (v3 : Int32) (v4 : Int32) (v5 : Int32) (s0 : Int32) (M : RM) (H : Heap) (locs : List Loc) (ls : Array Slot), rH D kA h ad A s.heap M H locs → lv_has ls 8 [(0, .ref h), (1, .int v1), (2, .int v2), (3, .int v3), (4, .int v4), (5, .int v5)] → fm_text_b68 Q k38 v1 v2 v3 v4 v5 s0 M → W p l e (headSpec wsX11_text rmX11_text).room s m args below meth c H locs 0 0 (MQ below (va_Qi Q (rB D kA h ad A) A) args s 0 0 A) (F0 m 68 ls [.int s0]) := by
    intro k38 hk38 v1 v2 v3 v4 v5 s0 M H locs ls hH hl hw
    unfold fm_text_b68 at hw
    refine lv_istore (lv' := [(6, .int s0), (0, .ref h), (1, .int v1), (2, .int v2), (3, .int v3), (4, .int v4), (5, .int v5)]) hx hb dX11_text_68 hl (by decide) rfl (fun ls hl => ?_)
    refine lv_iload hx hb dX11_text_70 (lv_at hl 0 rfl) ?_
    refine lv_bipush (v := 24) hx hb dX11_text_72 (by decide) ?_
    refine lv_bipush (v := 8) hx hb dX11_text_74 (by decide) ?_
    refine lv_iload hx hb dX11_text_76 (lv_at hl 6 rfl) ?_
    refine lv_iconst (v := 4) hx hb dX11_text_78 (by decide) ?_
    obtain ⟨h2, hw⟩ := hw
    refine lv_irem hx hb dX11_text_79 h2 ?_
    refine lv_imul hx hb dX11_text_80 ?_
    refine lv_isub hx hb dX11_text_81 ?_
    refine lv_ishr hx hb dX11_text_82 ?_
    refine lv_sipush (v := 255) hx hb dX11_text_83 (by decide) ?_
    refine lv_iand hx hb dX11_text_86 ?_
    refine lv_topi (fun x3 ex3 => ?_)
    replace hw := hw x3 ex3
    refine lv_istore (lv' := [(7, .int x3), (6, .int s0), (0, .ref h), (1, .int v1), (2, .int v2), (3, .int v3), (4, .int v4), (5, .int v5)]) hx hb dX11_text_87 hl (by decide) rfl (fun ls hl => ?_)
    refine lv_iload hx hb dX11_text_89 (lv_at hl 0 rfl) ?_
    refine lv_if_le (tgt := 123) hx hb dX11_text_91 (by decide) (fun c4 => ?_) (fun c4 => ?_)
    · replace hw := hw.1 c4
      exact b123 _ hk38 v1 v2 v3 v4 v5 M H locs ls hH (lv_sub hl [2, 3, 4, 5, 6, 7] rfl) hw
    · replace hw := hw.2 c4
      refine lv_aload_n hx hb dX11_text_94 rfl (lv_at hl 2 rfl) ?_
      refine rg_17 hx hb hts hin hown hK hH (hts (.fieldLink RX11 59 "IdlCallerModel" "texts" "[C") (by decide +kernel)) dX11_text_95 ?_
      refine lv_bipush (v := 12) hx hb dX11_text_98 (by decide) ?_
      refine lv_iload_n hx hb dX11_text_100 rfl (lv_at hl 3 rfl) ?_
      refine lv_imul hx hb dX11_text_101 ?_
      refine lv_aload_n hx hb dX11_text_102 rfl (lv_at hl 2 rfl) ?_
      refine rg_16 hx hb hts hin hown hK hH (hts (.fieldLink RX11 56 "IdlCallerModel" "size" "[I") (by decide +kernel)) dX11_text_103 ?_
      refine lv_iload_n hx hb dX11_text_106 rfl (lv_at hl 3 rfl) ?_
      obtain ⟨h5, hw⟩ := hw
      refine rl_16 hx hb hK hH h5 dX11_text_107 ?_
      refine lv_iadd hx hb dX11_text_108 ?_
      refine lv_iload hx hb dX11_text_109 (lv_at hl 0 rfl) ?_
      refine lv_i2c hx hb dX11_text_111 rfl ?_
      obtain ⟨h6, hw⟩ := hw
      refine rs_17 hx hb hK hH h6 dX11_text_112 (fun M7 H locs eM7 hH => ?_)
      replace hw := hw M7 eM7
      refine lv_aload_n hx hb dX11_text_113 rfl (lv_at hl 2 rfl) ?_
      refine rg_16 hx hb hts hin hown hK hH (hts (.fieldLink RX11 56 "IdlCallerModel" "size" "[I") (by decide +kernel)) dX11_text_114 ?_
      refine lv_iload_n hx hb dX11_text_117 rfl (lv_at hl 3 rfl) ?_
      refine lv_dup2_11 hx hb dX11_text_118 rfl rfl ?_
      obtain ⟨h8, hw⟩ := hw
      refine rl_16 hx hb hK hH h8 dX11_text_119 ?_
      refine lv_iconst (v := 1) hx hb dX11_text_120 (by decide) ?_
      refine lv_iadd hx hb dX11_text_121 ?_
      obtain ⟨h9, hw⟩ := hw
      refine rs_16 hx hb hK hH h9 dX11_text_122 (fun M10 H locs eM10 hH => ?_)
      replace hw := hw M10 eM10
      exact b123 _ hk38 v1 v2 v3 v4 v5 M10 H locs ls hH (lv_sub hl [2, 3, 4, 5, 6, 7] rfl) hw
  have l38 : ∀ (nn : Nat) (v1 : Int32) (v2 : Int32) (v3 : Int32) (v4 : Int32) (v5 : Int32) (M : RM) (H : Heap) (locs : List Loc) (ls : Array Slot), rH D kA h ad A s.heap M H locs → lv_has ls 8 [(0, .ref h), (1, .int v1), (2, .int v2), (3, .int v3), (4, .int v4), (5, .int v5)] → fm_text_l38 Q  nn v1 v2 v3 v4 v5 M → W p l e (headSpec wsX11_text rmX11_text).room s m args below meth c H locs 0 0 (MQ below (va_Qi Q (rB D kA h ad A) A) args s 0 0 A) (F0 m 38 ls []) := by
    intro   nn
    induction nn with
    | zero => intro v1 v2 v3 v4 v5 M H locs ls hH hl hw; exact False.elim hw
    | succ nn hk38 =>
      intro v1 v2 v3 v4 v5 M H locs ls hH hl hw
      replace hw : fm_text_c38 Q  (fm_text_l38 Q  nn) v1 v2 v3 v4 v5 M := hw
      unfold fm_text_c38 at hw
      refine lv_iload hx hb dX11_text_38 (lv_at hl 5 rfl) ?_
      refine lv_bipush (v := 12) hx hb dX11_text_40 (by decide) ?_
      refine lv_icmp_ge (tgt := 129) hx hb dX11_text_42 (by decide) (fun c11 => ?_) (fun c11 => ?_)
      · replace hw := hw.1 c11
        refine lv_aload_n hx hb dX11_text_129 rfl (lv_at hl 0 rfl) ?_
        refine rg_16 hx hb hts hin hown hK hH (hts (.fieldLink RX11 56 "IdlCallerModel" "size" "[I") (by decide +kernel)) dX11_text_130 ?_
        refine lv_iload_n hx hb dX11_text_133 rfl (lv_at hl 1 rfl) ?_
        obtain ⟨h12, hw⟩ := hw
        refine rl_16 hx hb hK hH h12 dX11_text_134 ?_
        exact r_reti hx hb hr hlocks hK hH hw dX11_text_135
      · replace hw := hw.2 c11
        refine lv_iload hx hb dX11_text_45 (lv_at hl 5 rfl) ?_
        refine lv_iconst (v := 4) hx hb dX11_text_47 (by decide) ?_
        refine lv_icmp_ge (tgt := 55) hx hb dX11_text_48 (by decide) (fun c13 => ?_) (fun c13 => ?_)
        · replace hw := hw.1 c13
          refine lv_iload hx hb dX11_text_55 (lv_at hl 5 rfl) ?_
          refine lv_bipush (v := 8) hx hb dX11_text_57 (by decide) ?_
          refine lv_icmp_ge (tgt := 66) hx hb dX11_text_59 (by decide) (fun c14 => ?_) (fun c14 => ?_)
          · replace hw := hw.1 c14
            refine lv_iload hx hb dX11_text_66 (lv_at hl 4 rfl) ?_
            exact b68 _ hk38 v1 v2 v3 v4 v5 v4 M H locs ls hH (lv_sub hl [0, 1, 2, 3, 4, 5] rfl) hw
          · replace hw := hw.2 c14
            refine lv_iload_n hx hb dX11_text_62 rfl (lv_at hl 3 rfl) ?_
            refine lv_goto (tgt := 68) hx hb dX11_text_63 (by decide) ?_
            exact b68 _ hk38 v1 v2 v3 v4 v5 v3 M H locs ls hH (lv_sub hl [0, 1, 2, 3, 4, 5] rfl) hw
        · replace hw := hw.2 c13
          refine lv_iload_n hx hb dX11_text_51 rfl (lv_at hl 2 rfl) ?_
          refine lv_goto (tgt := 68) hx hb dX11_text_52 (by decide) ?_
          exact b68 _ hk38 v1 v2 v3 v4 v5 v2 M H locs ls hH (lv_sub hl [0, 1, 2, 3, 4, 5] rfl) hw
  have b13 : ∀ (v1 : Int32) (v2 : Int32) (v3 : Int32) (v4 : Int32) (s0 : Int32) (M : RM) (H : Heap) (locs : List Loc) (ls : Array Slot), rH D kA h ad A s.heap M H locs → lv_has ls 8 [(0, .ref h), (1, .int v1), (2, .int v2), (3, .int v3), (4, .int v4)] → fm_text_b13 Q  v1 v2 v3 v4 s0 M → W p l e (headSpec wsX11_text rmX11_text).room s m args below meth c H locs 0 0 (MQ below (va_Qi Q (rB D kA h ad A) A) args s 0 0 A) (F0 m 13 ls [.int s0, .ref h]) := by
    intro   v1 v2 v3 v4 s0 M H locs ls hH hl hw
    unfold fm_text_b13 at hw
    refine r_calli (va_runV (As := [.int s0]) (rest := []) ⟨hx, hb, hml, hown, hts⟩ (tm_refused l D kA h ad H.size M s0 _ hw) (cwV 1 hts gX11_text_X11_refused rfl rfl rfl (by decide +kernel) ⟨Nat.le_of_ble_eq_true rfl, Nat.le_of_ble_eq_true rfl⟩) (r_preV hK hH) rfl rfl hl.1 rfl (lv_room (Nat.le_of_ble_eq_true rfl)) dX11_text_13 ⟨Nat.le_of_ble_eq_true rfl, Nat.le_of_ble_eq_true rfl⟩) hH hA (fun r16 M15 H locs hw hH => ?_)
    refine lv_if_eq (tgt := 21) hx hb dX11_text_16 (by decide) (fun c17 => ?_) (fun c17 => ?_)
    · replace hw := hw.1 c17
      refine lv_aload_n hx hb dX11_text_21 rfl (lv_at hl 0 rfl) ?_
      refine rg_13 hx hb hts hin hown hK hH (hts (.fieldLink RX11 46 "IdlCallerModel" "kindOf" "[I") (by decide +kernel)) dX11_text_22 ?_
      refine lv_iload_n hx hb dX11_text_25 rfl (lv_at hl 1 rfl) ?_
      refine lv_iconst (v := 4) hx hb dX11_text_26 (by decide) ?_
      obtain ⟨h18, hw⟩ := hw
      refine rs_13 hx hb hK hH h18 dX11_text_27 (fun M19 H locs eM19 hH => ?_)
      replace hw := hw M19 eM19
      refine lv_aload_n hx hb dX11_text_28 rfl (lv_at hl 0 rfl) ?_
      refine rg_16 hx hb hts hin hown hK hH (hts (.fieldLink RX11 56 "IdlCallerModel" "size" "[I") (by decide +kernel)) dX11_text_29 ?_
      refine lv_iload_n hx hb dX11_text_32 rfl (lv_at hl 1 rfl) ?_
      refine lv_iconst (v := 0) hx hb dX11_text_33 (by decide) ?_
      obtain ⟨h20, hw⟩ := hw
      refine rs_16 hx hb hK hH h20 dX11_text_34 (fun M21 H locs eM21 hH => ?_)
      replace hw := hw M21 eM21
      refine lv_iconst (v := 0) hx hb dX11_text_35 (by decide) ?_
      refine lv_istore (lv' := [(5, .int 0), (0, .ref h), (1, .int v1), (2, .int v2), (3, .int v3), (4, .int v4)]) hx hb dX11_text_36 hl (by decide) rfl (fun ls hl => ?_)
      obtain ⟨nn, hw⟩ := hw
      exact l38   nn v1 v2 v3 v4 0 M21 H locs ls hH (lv_sub hl [1, 2, 3, 4, 5, 0] rfl) hw
    · replace hw := hw.2 c17
      refine lv_iconst (v := 0) hx hb dX11_text_19 (by decide) ?_
      exact r_reti hx hb hr hlocks hK hH hw dX11_text_20
  clear hP hD0
  unfold fm_text at hw
  have hst : ∀ (M : RM) (H : Heap) (locs : List Loc) (ls : Array Slot), rH D kA h ad A s.heap M H locs → lv_has ls 8 [(0, .ref h), (1, .int a1), (2, .int a2), (3, .int a3), (4, .int a4)] → fm_isSlot a1 M (fun (r23 : Int32) (M22 : RM) => ((r23 = 0 → fm_text_b13 Q  a1 a2 a3 a4 1 M22) ∧ (¬ r23 = 0 → fm_text_b13 Q  a1 a2 a3 a4 0 M22))) → W p l e (headSpec wsX11_text rmX11_text).room s m args below meth c H locs 0 0 (MQ below (va_Qi Q (rB D kA h ad A) A) args s 0 0 A) (F0 m 0 ls []) := by
    intro M H locs ls hH hl hw
    refine lv_aload_n hx hb dX11_text_0 rfl (lv_at hl 0 rfl) ?_
    refine lv_iload_n hx hb dX11_text_1 rfl (lv_at hl 1 rfl) ?_
    refine r_calli (va_runS (As := [.int a1]) (rest := [.ref h]) ⟨hx, hb, hml, hown, hts⟩ (tm_isSlot l D kA h ad H.size M a1 _ hw) (va_cwS 1 hts gX11_text_X11_isSlot rfl rfl rfl (by decide +kernel) ⟨Nat.le_of_ble_eq_true rfl, Nat.le_of_ble_eq_true rfl⟩) (r_preS hK hH) rfl rfl hl.1 rfl (lv_room (Nat.le_of_ble_eq_true rfl)) dX11_text_2 ⟨Nat.le_of_ble_eq_true rfl, Nat.le_of_ble_eq_true rfl⟩) hH hA (fun r23 M22 H locs hw hH => ?_)
    refine lv_if_eq (tgt := 12) hx hb dX11_text_5 (by decide) (fun c24 => ?_) (fun c24 => ?_)
    · replace hw := hw.1 c24
      refine lv_iconst (v := 1) hx hb dX11_text_12 (by decide) ?_
      exact b13   a1 a2 a3 a4 1 M22 H locs ls hH (lv_sub hl [0, 1, 2, 3, 4] rfl) hw
    · replace hw := hw.2 c24
      refine lv_iconst (v := 0) hx hb dX11_text_8 (by decide) ?_
      refine lv_goto (tgt := 13) hx hb dX11_text_9 (by decide) ?_
      exact b13   a1 a2 a3 a4 0 M22 H locs ls hH (lv_sub hl [0, 1, 2, 3, 4] rfl) hw
  exact hst M s.heap [] ls hH hl hw
def fm_itemOf (a1 : Int32) (a2 : Int32) (M : RM) (Q : Int32 → RM → Prop) : Prop := Q ((8 + (5 * a1)) + a2) M
abbrev rmX11_itemOf : Room := { frames := 0, cells := 0, slots := 0, locals := 0 }
set_option maxHeartbeats 4000000 in
set_option maxRecDepth 100000 in
theorem tm_itemOf (l : Launch) (D : va_G) (kA : Nat → ClassId) (h : Nat) (ad : Nat → Nat) (sz : Nat) (M : RM) (a1 : Int32) (a2 : Int32) (Q : Int32 → RM → Prop) (hw : fm_itemOf a1 a2 M Q) : Met l yX11_itemOf wsX11_itemOf rmX11_itemOf (va_Pc [.int a1, .int a2] (rPc D kA h ad M sz)) (va_Qi Q (rB D kA h ad (rF kA h ad M sz)) (rF kA h ad M sz)) 0 0 (rF kA h ad M sz) := by
  refine Met.ofW (cc := cX11_itemOf) (maxL := 2) (ret := (some .int)) (by decide) rfl ?_
  intro p e s m args below meth c s₁ B hml hv
  obtain ⟨rfl, hsz, hP, hK, hD0⟩ := hv
  have hx := B.exec
  have hb := B.bytes
  have hr := B.returns
  have hts := atoms_spec (ws := wsX11_itemOf) B.pre
  have hown : s.vm.findClass RX11 = some m.cls := findClass_of_methodNamed B.named
  have hlocks : meth.locks = false := B.notSynchronized
  subst hsz
  have hH : rH D kA h ad (rF kA h ad M s.heap.size) s.heap M s.heap [] := ⟨hP, hD0.self, va_S.rf⟩
  have hA : ∀ q : Nat, s.heap.size ≤ q → rF kA h ad M s.heap.size q := fun q z => Or.inr z
  generalize rF kA h ad M s.heap.size = A at hH hA ⊢
  have hl := lv_entry ([.int a1, .int a2]) (n := 2) (Nat.le_of_ble_eq_true rfl)
  rw [lg_entry_eq]
  generalize (lg_sl ([.int a1, .int a2]) ++ List.replicate (2 - (lg_sl ([.int a1, .int a2])).length) Slot.unset).toArray = ls at hl ⊢
  generalize ([.int a1, .int a2] : List Value).toArray = args at hts ⊢
  have hl : lv_has ls 2 [(0, .int a1), (1, .int a2)] := hl
  clear hP hD0
  unfold fm_itemOf at hw
  have hst : ∀ (M : RM) (H : Heap) (locs : List Loc) (ls : Array Slot), rH D kA h ad A s.heap M H locs → lv_has ls 2 [(0, .int a1), (1, .int a2)] → Q ((8 + (5 * a1)) + a2) M → W p l e (headSpec wsX11_itemOf rmX11_itemOf).room s m args below meth c H locs 0 0 (MQ below (va_Qi Q (rB D kA h ad A) A) args s 0 0 A) (F0 m 0 ls []) := by
    intro M H locs ls hH hl hw
    refine lv_bipush (v := 8) hx hb dX11_itemOf_0 (by decide) ?_
    refine lv_iconst (v := 5) hx hb dX11_itemOf_2 (by decide) ?_
    refine lv_iload_n hx hb dX11_itemOf_3 rfl (lv_at hl 0 rfl) ?_
    refine lv_imul hx hb dX11_itemOf_4 ?_
    refine lv_iadd hx hb dX11_itemOf_5 ?_
    refine lv_iload_n hx hb dX11_itemOf_6 rfl (lv_at hl 1 rfl) ?_
    refine lv_iadd hx hb dX11_itemOf_7 ?_
    exact r_reti hx hb hr hlocks hK hH hw dX11_itemOf_8
  exact hst M s.heap [] ls hH hl hw
def fm_add_c149 (Q : Int32 → RM → Prop) (k149 : Int32 → Int32 → Int32 → Int32 → RM → Prop) (v1 : Int32) (v2 : Int32) (v4 : Int32) (v5 : Int32) (M : RM) : Prop := ((12 ≤ v5 → (vp_in v1 48 ∧ Q (rA M 16 v1.toNatClampNeg) M)) ∧ (¬ 12 ≤ v5 → (vp_in ((12 * v2) + v5) 576 ∧ (vp_in ((12 * v4) + v5) 576 ∧ (∀ M5 : RM, M5 = wA M 17 ((12 * v4) + v5).toNatClampNeg (vp_nar .char (rA M 17 ((12 * v2) + v5).toNatClampNeg)) → (∀ x6 : Int32, x6 = v5 + 1 → k149 v1 v2 v4 x6 M5))))))
def fm_add_l149 (Q : Int32 → RM → Prop) : Nat → Int32 → Int32 → Int32 → Int32 → RM → Prop := lit (τ := Int32 → Int32 → Int32 → Int32 → RM → Prop) (fun _ _ _ _ _ => False) (fun k => fm_add_c149 Q  k)
def fm_add_b64 (Q : Int32 → RM → Prop) (v1 : Int32) (v2 : Int32) (s0 : Int32) (M : RM) : Prop := fm_refused s0 M (fun (r8 : Int32) (M7 : RM) => ((r8 = 0 → (vp_in v1 48 ∧ fm_itemOf v1 (rA M7 16 v1.toNatClampNeg) M7 (fun (r12 : Int32) (M11 : RM) => (vp_in v1 48 ∧ (vp_in v1 48 ∧ (∀ M15 : RM, M15 = wA M11 16 v1.toNatClampNeg ((rA M11 16 v1.toNatClampNeg) + 1) → (vp_in v2 48 ∧ (vp_in r12 48 ∧ (∀ M18 : RM, M18 = wA M15 13 r12.toNatClampNeg (rA M15 13 v2.toNatClampNeg) → (vp_in v2 48 ∧ (vp_in r12 48 ∧ (∀ M21 : RM, M21 = wA M18 14 r12.toNatClampNeg (vp_nar .boolean (rA M18 14 v2.toNatClampNeg)) → (vp_in v2 48 ∧ (vp_in r12 48 ∧ (∀ M24 : RM, M24 = wD M21 15 r12.toNatClampNeg (rD M21 15 v2.toNatClampNeg) → (vp_in v2 48 ∧ (vp_in r12 48 ∧ (∀ M27 : RM, M27 = wA M24 16 r12.toNatClampNeg (rA M24 16 v2.toNatClampNeg) → (∃ nn : Nat, fm_add_l149 Q  nn v1 v2 r12 0 M27))))))))))))))))))) ∧ (¬ r8 = 0 → Q 0 M7)))
def fm_add_b59 (Q : Int32 → RM → Prop) (v1 : Int32) (v2 : Int32) (M : RM) : Prop := fm_add_b64 Q  v1 v2 2 M
def fm_add_b19 (Q : Int32 → RM → Prop) (v1 : Int32) (v2 : Int32) (s0 : Int32) (M : RM) : Prop := ((¬ s0 = 0 → (vp_in v1 48 ∧ ((¬ (rA M 13 v1.toNatClampNeg) = 5 → fm_add_b59 Q  v1 v2 M) ∧ ((rA M 13 v1.toNatClampNeg) = 5 → (vp_in v1 48 ∧ (((rA M 16 v1.toNatClampNeg) = 5 → fm_add_b59 Q  v1 v2 M) ∧ (¬ (rA M 16 v1.toNatClampNeg) = 5 → (vp_in v2 48 ∧ ((¬ (rA M 13 v2.toNatClampNeg) = 5 → fm_add_b64 Q  v1 v2 0 M) ∧ ((rA M 13 v2.toNatClampNeg) = 5 → fm_add_b59 Q  v1 v2 M)))))))))) ∧ (s0 = 0 → fm_add_b64 Q  v1 v2 1 M))
def fm_add_b18 (Q : Int32 → RM → Prop) (v1 : Int32) (v2 : Int32) (M : RM) : Prop := fm_add_b19 Q  v1 v2 0 M
def fm_add (a1 : Int32) (a2 : Int32) (M : RM) (Q : Int32 → RM → Prop) : Prop := fm_isSlot a1 M (fun (r36 : Int32) (M35 : RM) => ((r36 = 0 → fm_add_b18 Q  a1 a2 M35) ∧ (¬ r36 = 0 → fm_isSlot a2 M35 (fun (r39 : Int32) (M38 : RM) => ((r39 = 0 → fm_add_b18 Q  a1 a2 M38) ∧ (¬ r39 = 0 → fm_add_b19 Q  a1 a2 1 M38))))))
abbrev rmX11_add : Room := { frames := 1, cells := 0, slots := 0, locals := 21 }
set_option maxHeartbeats 4000000 in
set_option maxRecDepth 100000 in
theorem tm_add (l : Launch) (D : va_G) (kA : Nat → ClassId) (h : Nat) (ad : Nat → Nat) (sz : Nat) (M : RM) (a1 : Int32) (a2 : Int32) (Q : Int32 → RM → Prop) (hw : fm_add a1 a2 M Q) : Met l yX11_add wsX11_add rmX11_add (va_Pc [.ref h, .int a1, .int a2] (rPc D kA h ad M sz)) (va_Qi Q (rB D kA h ad (rF kA h ad M sz)) (rF kA h ad M sz)) 0 0 (rF kA h ad M sz) := by
  refine Met.ofW (cc := cX11_add) (maxL := 6) (ret := (some .int)) (by decide) rfl ?_
  intro p e s m args below meth c s₁ B hml hv
  obtain ⟨rfl, hsz, hP, hK, hD0⟩ := hv
  have hx := B.exec
  have hb := B.bytes
  have hr := B.returns
  have hts := atoms_spec (ws := wsX11_add) B.pre
  have hown : s.vm.findClass RX11 = some m.cls := findClass_of_methodNamed B.named
  have hlocks : meth.locks = false := B.notSynchronized
  subst hsz
  have hH : rH D kA h ad (rF kA h ad M s.heap.size) s.heap M s.heap [] := ⟨hP, hD0.self, va_S.rf⟩
  have hA : ∀ q : Nat, s.heap.size ≤ q → rF kA h ad M s.heap.size q := fun q z => Or.inr z
  generalize rF kA h ad M s.heap.size = A at hH hA ⊢
  have hl := lv_entry ([.ref h, .int a1, .int a2]) (n := 6) (Nat.le_of_ble_eq_true rfl)
  rw [lg_entry_eq]
  generalize (lg_sl ([.ref h, .int a1, .int a2]) ++ List.replicate (6 - (lg_sl ([.ref h, .int a1, .int a2])).length) Slot.unset).toArray = ls at hl ⊢
  generalize ([.ref h, .int a1, .int a2] : List Value).toArray = args at hts ⊢
  have hl : lv_has ls 6 [(0, .ref h), (1, .int a1), (2, .int a2)] := hl
  have hin : ∀ w ∈ wsX110, w ∈ wsX11_add := by decide +kernel
  have l149 : ∀ (nn : Nat) (v1 : Int32) (v2 : Int32) (v4 : Int32) (v5 : Int32) (M : RM) (H : Heap) (locs : List Loc) (ls : Array Slot), rH D kA h ad A s.heap M H locs → lv_has ls 6 [(0, .ref h), (1, .int v1), (2, .int v2), (4, .int v4), (5, .int v5)] → fm_add_l149 Q  nn v1 v2 v4 v5 M → W p l e (headSpec wsX11_add rmX11_add).room s m args below meth c H locs 0 0 (MQ below (va_Qi Q (rB D kA h ad A) A) args s 0 0 A) (F0 m 149 ls []) := by
    intro   nn
    induction nn with
    | zero => intro v1 v2 v4 v5 M H locs ls hH hl hw; exact False.elim hw
    | succ nn hk149 =>
      intro v1 v2 v4 v5 M H locs ls hH hl hw
      replace hw : fm_add_c149 Q  (fm_add_l149 Q  nn) v1 v2 v4 v5 M := hw
      unfold fm_add_c149 at hw
      refine lv_iload hx hb dX11_add_149 (lv_at hl 4 rfl) ?_
      refine lv_bipush (v := 12) hx hb dX11_add_151 (by decide) ?_
      refine lv_icmp_ge (tgt := 187) hx hb dX11_add_153 (by decide) (fun c1 => ?_) (fun c1 => ?_)
      · replace hw := hw.1 c1
        refine lv_aload_n hx hb dX11_add_187 rfl (lv_at hl 0 rfl) ?_
        refine rg_16 hx hb hts hin hown hK hH (hts (.fieldLink RX11 56 "IdlCallerModel" "size" "[I") (by decide +kernel)) dX11_add_188 ?_
        refine lv_iload_n hx hb dX11_add_191 rfl (lv_at hl 1 rfl) ?_
        obtain ⟨h2, hw⟩ := hw
        refine rl_16 hx hb hK hH h2 dX11_add_192 ?_
        exact r_reti hx hb hr hlocks hK hH hw dX11_add_193
      · replace hw := hw.2 c1
        refine lv_aload_n hx hb dX11_add_156 rfl (lv_at hl 0 rfl) ?_
        refine rg_17 hx hb hts hin hown hK hH (hts (.fieldLink RX11 59 "IdlCallerModel" "texts" "[C") (by decide +kernel)) dX11_add_157 ?_
        refine lv_bipush (v := 12) hx hb dX11_add_160 (by decide) ?_
        refine lv_iload hx hb dX11_add_162 (lv_at hl 3 rfl) ?_
        refine lv_imul hx hb dX11_add_164 ?_
        refine lv_iload hx hb dX11_add_165 (lv_at hl 4 rfl) ?_
        refine lv_iadd hx hb dX11_add_167 ?_
        refine lv_aload_n hx hb dX11_add_168 rfl (lv_at hl 0 rfl) ?_
        refine rg_17 hx hb hts hin hown hK hH (hts (.fieldLink RX11 59 "IdlCallerModel" "texts" "[C") (by decide +kernel)) dX11_add_169 ?_
        refine lv_bipush (v := 12) hx hb dX11_add_172 (by decide) ?_
        refine lv_iload_n hx hb dX11_add_174 rfl (lv_at hl 2 rfl) ?_
        refine lv_imul hx hb dX11_add_175 ?_
        refine lv_iload hx hb dX11_add_176 (lv_at hl 4 rfl) ?_
        refine lv_iadd hx hb dX11_add_178 ?_
        obtain ⟨h3, hw⟩ := hw
        refine rl_17 hx hb hK hH h3 dX11_add_179 ?_
        obtain ⟨h4, hw⟩ := hw
        refine rs_17 hx hb hK hH h4 dX11_add_180 (fun M5 H locs eM5 hH => ?_)
        replace hw := hw M5 eM5
        obtain ⟨x6, ex6⟩ : ∃ y : Int32, y = v5 + 1 := ⟨_, rfl⟩
        replace hw := hw x6 ex6
        refine lv_iinc (v := x6) (lv' := [(5, .int x6), (0, .ref h), (1, .int v1), (2, .int v2), (4, .int v4)]) hx hb dX11_add_181 hl (k := 4) rfl (by rw [ex6]; rfl) (by decide) rfl (fun ls hl => ?_)
        refine lv_goto (tgt := 149) hx hb dX11_add_184 (by decide) ?_
        exact hk149 v1 v2 v4 x6 M5 H locs ls hH (lv_sub hl [1, 2, 3, 4, 0] rfl) hw
  have b64 : ∀ (v1 : Int32) (v2 : Int32) (s0 : Int32) (M : RM) (H : Heap) (locs : List Loc) (ls : Array Slot), rH D kA h ad A s.heap M H locs → lv_has ls 6 [(0, .ref h), (1, .int v1), (2, .int v2)] → fm_add_b64 Q  v1 v2 s0 M → W p l e (headSpec wsX11_add rmX11_add).room s m args below meth c H locs 0 0 (MQ below (va_Qi Q (rB D kA h ad A) A) args s 0 0 A) (F0 m 64 ls [.int s0, .ref h]) := by
    intro   v1 v2 s0 M H locs ls hH hl hw
    unfold fm_add_b64 at hw
    refine r_calli (va_runV (As := [.int s0]) (rest := []) ⟨hx, hb, hml, hown, hts⟩ (tm_refused l D kA h ad H.size M s0 _ hw) (cwV 1 hts gX11_add_X11_refused rfl rfl rfl (by decide +kernel) ⟨Nat.le_of_ble_eq_true rfl, Nat.le_of_ble_eq_true rfl⟩) (r_preV hK hH) rfl rfl hl.1 rfl (lv_room (Nat.le_of_ble_eq_true rfl)) dX11_add_64 ⟨Nat.le_of_ble_eq_true rfl, Nat.le_of_ble_eq_true rfl⟩) hH hA (fun r8 M7 H locs hw hH => ?_)
    refine lv_if_eq (tgt := 72) hx hb dX11_add_67 (by decide) (fun c9 => ?_) (fun c9 => ?_)
    · replace hw := hw.1 c9
      refine lv_iload_n hx hb dX11_add_72 rfl (lv_at hl 1 rfl) ?_
      refine lv_aload_n hx hb dX11_add_73 rfl (lv_at hl 0 rfl) ?_
      refine rg_16 hx hb hts hin hown hK hH (hts (.fieldLink RX11 56 "IdlCallerModel" "size" "[I") (by decide +kernel)) dX11_add_74 ?_
      refine lv_iload_n hx hb dX11_add_77 rfl (lv_at hl 1 rfl) ?_
      obtain ⟨h10, hw⟩ := hw
      refine rl_16 hx hb hK hH h10 dX11_add_78 ?_
      refine r_calli (va_runS (As := [.int v1, .int (rA M7 16 v1.toNatClampNeg)]) (rest := []) ⟨hx, hb, hml, hown, hts⟩ (tm_itemOf l D kA h ad H.size M7 v1 (rA M7 16 v1.toNatClampNeg) _ hw) (va_cwS 2 hts gX11_add_X11_itemOf rfl rfl rfl (by decide +kernel) ⟨Nat.le_of_ble_eq_true rfl, Nat.le_of_ble_eq_true rfl⟩) (r_preS hK hH) rfl rfl hl.1 rfl (lv_room (Nat.le_of_ble_eq_true rfl)) dX11_add_79 ⟨Nat.le_of_ble_eq_true rfl, Nat.le_of_ble_eq_true rfl⟩) hH hA (fun r12 M11 H locs hw hH => ?_)
      refine lv_istore (lv' := [(4, .int r12), (0, .ref h), (1, .int v1), (2, .int v2)]) hx hb dX11_add_82 hl (by decide) rfl (fun ls hl => ?_)
      refine lv_aload_n hx hb dX11_add_84 rfl (lv_at hl 1 rfl) ?_
      refine rg_16 hx hb hts hin hown hK hH (hts (.fieldLink RX11 56 "IdlCallerModel" "size" "[I") (by decide +kernel)) dX11_add_85 ?_
      refine lv_iload_n hx hb dX11_add_88 rfl (lv_at hl 2 rfl) ?_
      refine lv_dup2_11 hx hb dX11_add_89 rfl rfl ?_
      obtain ⟨h13, hw⟩ := hw
      refine rl_16 hx hb hK hH h13 dX11_add_90 ?_
      refine lv_iconst (v := 1) hx hb dX11_add_91 (by decide) ?_
      refine lv_iadd hx hb dX11_add_92 ?_
      obtain ⟨h14, hw⟩ := hw
      refine rs_16 hx hb hK hH h14 dX11_add_93 (fun M15 H locs eM15 hH => ?_)
      replace hw := hw M15 eM15
      refine lv_aload_n hx hb dX11_add_94 rfl (lv_at hl 1 rfl) ?_
      refine rg_13 hx hb hts hin hown hK hH (hts (.fieldLink RX11 46 "IdlCallerModel" "kindOf" "[I") (by decide +kernel)) dX11_add_95 ?_
      refine lv_iload hx hb dX11_add_98 (lv_at hl 0 rfl) ?_
      refine lv_aload_n hx hb dX11_add_100 rfl (lv_at hl 1 rfl) ?_
      refine rg_13 hx hb hts hin hown hK hH (hts (.fieldLink RX11 46 "IdlCallerModel" "kindOf" "[I") (by decide +kernel)) dX11_add_101 ?_
      refine lv_iload_n hx hb dX11_add_104 rfl (lv_at hl 3 rfl) ?_
      obtain ⟨h16, hw⟩ := hw
      refine rl_13 hx hb hK hH h16 dX11_add_105 ?_
      obtain ⟨h17, hw⟩ := hw
      refine rs_13 hx hb hK hH h17 dX11_add_106 (fun M18 H locs eM18 hH => ?_)
      replace hw := hw M18 eM18
      refine lv_aload_n hx hb dX11_add_107 rfl (lv_at hl 1 rfl) ?_
      refine rg_14 hx hb hts hin hown hK hH (hts (.fieldLink RX11 49 "IdlCallerModel" "truth" "[Z") (by decide +kernel)) dX11_add_108 ?_
      refine lv_iload hx hb dX11_add_111 (lv_at hl 0 rfl) ?_
      refine lv_aload_n hx hb dX11_add_113 rfl (lv_at hl 1 rfl) ?_
      refine rg_14 hx hb hts hin hown hK hH (hts (.fieldLink RX11 49 "IdlCallerModel" "truth" "[Z") (by decide +kernel)) dX11_add_114 ?_
      refine lv_iload_n hx hb dX11_add_117 rfl (lv_at hl 3 rfl) ?_
      obtain ⟨h19, hw⟩ := hw
      refine rl_14 hx hb hK hH h19 dX11_add_118 ?_
      obtain ⟨h20, hw⟩ := hw
      refine rs_14 hx hb hK hH h20 dX11_add_119 (fun M21 H locs eM21 hH => ?_)
      replace hw := hw M21 eM21
      refine lv_aload_n hx hb dX11_add_120 rfl (lv_at hl 1 rfl) ?_
      refine rg_15 hx hb hts hin hown hK hH (hts (.fieldLink RX11 52 "IdlCallerModel" "numeric" "[D") (by decide +kernel)) dX11_add_121 ?_
      refine lv_iload hx hb dX11_add_124 (lv_at hl 0 rfl) ?_
      refine lv_aload_n hx hb dX11_add_126 rfl (lv_at hl 1 rfl) ?_
      refine rg_15 hx hb hts hin hown hK hH (hts (.fieldLink RX11 52 "IdlCallerModel" "numeric" "[D") (by decide +kernel)) dX11_add_127 ?_
      refine lv_iload_n hx hb dX11_add_130 rfl (lv_at hl 3 rfl) ?_
      obtain ⟨h22, hw⟩ := hw
      refine rl_15 hx hb hK hH h22 dX11_add_131 ?_
      obtain ⟨h23, hw⟩ := hw
      refine rs_15 hx hb hK hH h23 dX11_add_132 (fun M24 H locs eM24 hH => ?_)
      replace hw := hw M24 eM24
      refine lv_aload_n hx hb dX11_add_133 rfl (lv_at hl 1 rfl) ?_
      refine rg_16 hx hb hts hin hown hK hH (hts (.fieldLink RX11 56 "IdlCallerModel" "size" "[I") (by decide +kernel)) dX11_add_134 ?_
      refine lv_iload hx hb dX11_add_137 (lv_at hl 0 rfl) ?_
      refine lv_aload_n hx hb dX11_add_139 rfl (lv_at hl 1 rfl) ?_
      refine rg_16 hx hb hts hin hown hK hH (hts (.fieldLink RX11 56 "IdlCallerModel" "size" "[I") (by decide +kernel)) dX11_add_140 ?_
      refine lv_iload_n hx hb dX11_add_143 rfl (lv_at hl 3 rfl) ?_
      obtain ⟨h25, hw⟩ := hw
      refine rl_16 hx hb hK hH h25 dX11_add_144 ?_
      obtain ⟨h26, hw⟩ := hw
      refine rs_16 hx hb hK hH h26 dX11_add_145 (fun M27 H locs eM27 hH => ?_)
      replace hw := hw M27 eM27
      refine lv_iconst (v := 0) hx hb dX11_add_146 (by decide) ?_
      refine lv_istore (lv' := [(5, .int 0), (4, .int r12), (0, .ref h), (1, .int v1), (2, .int v2)]) hx hb dX11_add_147 hl (by decide) rfl (fun ls hl => ?_)
      obtain ⟨nn, hw⟩ := hw
      exact l149   nn v1 v2 r12 0 M27 H locs ls hH (lv_sub hl [2, 3, 4, 1, 0] rfl) hw
    · replace hw := hw.2 c9
      refine lv_iconst (v := 0) hx hb dX11_add_70 (by decide) ?_
      exact r_reti hx hb hr hlocks hK hH hw dX11_add_71
  have b59 : ∀ (v1 : Int32) (v2 : Int32) (M : RM) (H : Heap) (locs : List Loc) (ls : Array Slot), rH D kA h ad A s.heap M H locs → lv_has ls 6 [(0, .ref h), (1, .int v1), (2, .int v2)] → fm_add_b59 Q  v1 v2 M → W p l e (headSpec wsX11_add rmX11_add).room s m args below meth c H locs 0 0 (MQ below (va_Qi Q (rB D kA h ad A) A) args s 0 0 A) (F0 m 59 ls [.ref h]) := by
    intro   v1 v2 M H locs ls hH hl hw
    unfold fm_add_b59 at hw
    refine lv_iconst (v := 2) hx hb dX11_add_59 (by decide) ?_
    refine lv_goto (tgt := 64) hx hb dX11_add_60 (by decide) ?_
    exact b64   v1 v2 2 M H locs ls hH (lv_sub hl [0, 1, 2] rfl) hw
  have b19 : ∀ (v1 : Int32) (v2 : Int32) (s0 : Int32) (M : RM) (H : Heap) (locs : List Loc) (ls : Array Slot), rH D kA h ad A s.heap M H locs → lv_has ls 6 [(0, .ref h), (1, .int v1), (2, .int v2)] → fm_add_b19 Q  v1 v2 s0 M → W p l e (headSpec wsX11_add rmX11_add).room s m args below meth c H locs 0 0 (MQ below (va_Qi Q (rB D kA h ad A) A) args s 0 0 A) (F0 m 19 ls [.int s0]) := by
    intro   v1 v2 s0 M H locs ls hH hl hw
    unfold fm_add_b19 at hw
    refine lv_istore_n (lv' := [(3, .int s0), (0, .ref h), (1, .int v1), (2, .int v2)]) hx hb dX11_add_19 rfl hl (by decide) rfl (fun ls hl => ?_)
    refine lv_aload_n hx hb dX11_add_20 rfl (lv_at hl 1 rfl) ?_
    refine lv_iload_n hx hb dX11_add_21 rfl (lv_at hl 0 rfl) ?_
    refine lv_if_ne (tgt := 29) hx hb dX11_add_22 (by decide) (fun c28 => ?_) (fun c28 => ?_)
    · replace hw := hw.1 c28
      refine lv_aload_n hx hb dX11_add_29 rfl (lv_at hl 1 rfl) ?_
      refine rg_13 hx hb hts hin hown hK hH (hts (.fieldLink RX11 46 "IdlCallerModel" "kindOf" "[I") (by decide +kernel)) dX11_add_30 ?_
      refine lv_iload_n hx hb dX11_add_33 rfl (lv_at hl 2 rfl) ?_
      obtain ⟨h29, hw⟩ := hw
      refine rl_13 hx hb hK hH h29 dX11_add_34 ?_
      refine lv_iconst (v := 5) hx hb dX11_add_35 (by decide) ?_
      refine lv_icmp_ne (tgt := 59) hx hb dX11_add_36 (by decide) (fun c30 => ?_) (fun c30 => ?_)
      · replace hw := hw.1 c30
        exact b59   v1 v2 M H locs ls hH (lv_sub hl [1, 2, 3] rfl) hw
      · replace hw := hw.2 c30
        refine lv_aload_n hx hb dX11_add_39 rfl (lv_at hl 1 rfl) ?_
        refine rg_16 hx hb hts hin hown hK hH (hts (.fieldLink RX11 56 "IdlCallerModel" "size" "[I") (by decide +kernel)) dX11_add_40 ?_
        refine lv_iload_n hx hb dX11_add_43 rfl (lv_at hl 2 rfl) ?_
        obtain ⟨h31, hw⟩ := hw
        refine rl_16 hx hb hK hH h31 dX11_add_44 ?_
        refine lv_iconst (v := 5) hx hb dX11_add_45 (by decide) ?_
        refine lv_icmp_eq (tgt := 59) hx hb dX11_add_46 (by decide) (fun c32 => ?_) (fun c32 => ?_)
        · replace hw := hw.1 c32
          exact b59   v1 v2 M H locs ls hH (lv_sub hl [1, 2, 3] rfl) hw
        · replace hw := hw.2 c32
          refine lv_aload_n hx hb dX11_add_49 rfl (lv_at hl 1 rfl) ?_
          refine rg_13 hx hb hts hin hown hK hH (hts (.fieldLink RX11 46 "IdlCallerModel" "kindOf" "[I") (by decide +kernel)) dX11_add_50 ?_
          refine lv_iload_n hx hb dX11_add_53 rfl (lv_at hl 3 rfl) ?_
          obtain ⟨h33, hw⟩ := hw
          refine rl_13 hx hb hK hH h33 dX11_add_54 ?_
          refine lv_iconst (v := 5) hx hb dX11_add_55 (by decide) ?_
          refine lv_icmp_ne (tgt := 63) hx hb dX11_add_56 (by decide) (fun c34 => ?_) (fun c34 => ?_)
          · replace hw := hw.1 c34
            refine lv_iconst (v := 0) hx hb dX11_add_63 (by decide) ?_
            exact b64   v1 v2 0 M H locs ls hH (lv_sub hl [1, 2, 3] rfl) hw
          · replace hw := hw.2 c34
            exact b59   v1 v2 M H locs ls hH (lv_sub hl [1, 2, 3] rfl) hw
    · replace hw := hw.2 c28
      refine lv_iconst (v := 1) hx hb dX11_add_25 (by decide) ?_
      refine lv_goto (tgt := 64) hx hb dX11_add_26 (by decide) ?_
      exact b64   v1 v2 1 M H locs ls hH (lv_sub hl [1, 2, 3] rfl) hw
  have b18 : ∀ (v1 : Int32) (v2 : Int32) (M : RM) (H : Heap) (locs : List Loc) (ls : Array Slot), rH D kA h ad A s.heap M H locs → lv_has ls 6 [(0, .ref h), (1, .int v1), (2, .int v2)] → fm_add_b18 Q  v1 v2 M → W p l e (headSpec wsX11_add rmX11_add).room s m args below meth c H locs 0 0 (MQ below (va_Qi Q (rB D kA h ad A) A) args s 0 0 A) (F0 m 18 ls []) := by
    intro   v1 v2 M H locs ls hH hl hw
    unfold fm_add_b18 at hw
    refine lv_iconst (v := 0) hx hb dX11_add_18 (by decide) ?_
    exact b19   v1 v2 0 M H locs ls hH (lv_sub hl [0, 1, 2] rfl) hw
  clear hP hD0
  unfold fm_add at hw
  have hst : ∀ (M : RM) (H : Heap) (locs : List Loc) (ls : Array Slot), rH D kA h ad A s.heap M H locs → lv_has ls 6 [(0, .ref h), (1, .int a1), (2, .int a2)] → fm_isSlot a1 M (fun (r36 : Int32) (M35 : RM) => ((r36 = 0 → fm_add_b18 Q  a1 a2 M35) ∧ (¬ r36 = 0 → fm_isSlot a2 M35 (fun (r39 : Int32) (M38 : RM) => ((r39 = 0 → fm_add_b18 Q  a1 a2 M38) ∧ (¬ r39 = 0 → fm_add_b19 Q  a1 a2 1 M38)))))) → W p l e (headSpec wsX11_add rmX11_add).room s m args below meth c H locs 0 0 (MQ below (va_Qi Q (rB D kA h ad A) A) args s 0 0 A) (F0 m 0 ls []) := by
    intro M H locs ls hH hl hw
    refine lv_iload_n hx hb dX11_add_0 rfl (lv_at hl 1 rfl) ?_
    refine r_calli (va_runS (As := [.int a1]) (rest := []) ⟨hx, hb, hml, hown, hts⟩ (tm_isSlot l D kA h ad H.size M a1 _ hw) (va_cwS 1 hts gX11_add_X11_isSlot rfl rfl rfl (by decide +kernel) ⟨Nat.le_of_ble_eq_true rfl, Nat.le_of_ble_eq_true rfl⟩) (r_preS hK hH) rfl rfl hl.1 rfl (lv_room (Nat.le_of_ble_eq_true rfl)) dX11_add_1 ⟨Nat.le_of_ble_eq_true rfl, Nat.le_of_ble_eq_true rfl⟩) hH hA (fun r36 M35 H locs hw hH => ?_)
    refine lv_if_eq (tgt := 18) hx hb dX11_add_4 (by decide) (fun c37 => ?_) (fun c37 => ?_)
    · replace hw := hw.1 c37
      exact b18   a1 a2 M35 H locs ls hH (lv_sub hl [0, 1, 2] rfl) hw
    · replace hw := hw.2 c37
      refine lv_iload_n hx hb dX11_add_7 rfl (lv_at hl 2 rfl) ?_
      refine r_calli (va_runS (As := [.int a2]) (rest := []) ⟨hx, hb, hml, hown, hts⟩ (tm_isSlot l D kA h ad H.size M35 a2 _ hw) (va_cwS 1 hts gX11_add_X11_isSlot rfl rfl rfl (by decide +kernel) ⟨Nat.le_of_ble_eq_true rfl, Nat.le_of_ble_eq_true rfl⟩) (r_preS hK hH) rfl rfl hl.1 rfl (lv_room (Nat.le_of_ble_eq_true rfl)) dX11_add_8 ⟨Nat.le_of_ble_eq_true rfl, Nat.le_of_ble_eq_true rfl⟩) hH hA (fun r39 M38 H locs hw hH => ?_)
      refine lv_if_eq (tgt := 18) hx hb dX11_add_11 (by decide) (fun c40 => ?_) (fun c40 => ?_)
      · replace hw := hw.1 c40
        exact b18   a1 a2 M38 H locs ls hH (lv_sub hl [0, 1, 2] rfl) hw
      · replace hw := hw.2 c40
        refine lv_iconst (v := 1) hx hb dX11_add_14 (by decide) ?_
        refine lv_goto (tgt := 19) hx hb dX11_add_15 (by decide) ?_
        exact b19   a1 a2 1 M38 H locs ls hH (lv_sub hl [0, 1, 2] rfl) hw
  exact hst M s.heap [] ls hH hl hw
def fm_say (a1 : Int32) (M : RM) (Q : RM → Prop) : Prop := (vp_in (rI M 24) 100 ∧ (∀ M2 : RM, M2 = wA M 23 (rI M 24).toNatClampNeg (vp_nar .char a1) → (∀ M3 : RM, M3 = wI M2 24 ((rI M2 24) + 1) → Q M3)))
abbrev rmX11_say : Room := { frames := 0, cells := 0, slots := 0, locals := 0 }
set_option maxHeartbeats 4000000 in
set_option maxRecDepth 100000 in
theorem tm_say (l : Launch) (D : va_G) (kA : Nat → ClassId) (h : Nat) (ad : Nat → Nat) (sz : Nat) (M : RM) (a1 : Int32) (Q : RM → Prop) (hw : fm_say a1 M Q) : Met l yX11_say wsX11_say rmX11_say (va_Pc [.ref h, .int a1] (rPc D kA h ad M sz)) (va_Qv Q (rB D kA h ad (rF kA h ad M sz)) (rF kA h ad M sz)) 0 0 (rF kA h ad M sz) := by
  refine Met.ofW (cc := cX11_say) (maxL := 2) (ret := none) (by decide) rfl ?_
  intro p e s m args below meth c s₁ B hml hv
  obtain ⟨rfl, hsz, hP, hK, hD0⟩ := hv
  have hx := B.exec
  have hb := B.bytes
  have hr := B.returns
  have hts := atoms_spec (ws := wsX11_say) B.pre
  have hown : s.vm.findClass RX11 = some m.cls := findClass_of_methodNamed B.named
  have hlocks : meth.locks = false := B.notSynchronized
  subst hsz
  have hH : rH D kA h ad (rF kA h ad M s.heap.size) s.heap M s.heap [] := ⟨hP, hD0.self, va_S.rf⟩
  have hA : ∀ q : Nat, s.heap.size ≤ q → rF kA h ad M s.heap.size q := fun q z => Or.inr z
  generalize rF kA h ad M s.heap.size = A at hH hA ⊢
  have hl := lv_entry ([.ref h, .int a1]) (n := 2) (Nat.le_of_ble_eq_true rfl)
  rw [lg_entry_eq]
  generalize (lg_sl ([.ref h, .int a1]) ++ List.replicate (2 - (lg_sl ([.ref h, .int a1])).length) Slot.unset).toArray = ls at hl ⊢
  generalize ([.ref h, .int a1] : List Value).toArray = args at hts ⊢
  have hl : lv_has ls 2 [(0, .ref h), (1, .int a1)] := hl
  have hin : ∀ w ∈ wsX110, w ∈ wsX11_say := by decide +kernel
  clear hP hD0
  unfold fm_say at hw
  have hst : ∀ (M : RM) (H : Heap) (locs : List Loc) (ls : Array Slot), rH D kA h ad A s.heap M H locs → lv_has ls 2 [(0, .ref h), (1, .int a1)] → (vp_in (rI M 24) 100 ∧ (∀ M2 : RM, M2 = wA M 23 (rI M 24).toNatClampNeg (vp_nar .char a1) → (∀ M3 : RM, M3 = wI M2 24 ((rI M2 24) + 1) → Q M3))) → W p l e (headSpec wsX11_say rmX11_say).room s m args below meth c H locs 0 0 (MQ below (va_Qv Q (rB D kA h ad A) A) args s 0 0 A) (F0 m 0 ls []) := by
    intro M H locs ls hH hl hw
    refine lv_aload_n hx hb dX11_say_0 rfl (lv_at hl 0 rfl) ?_
    refine rg_23 hx hb hts hin hown hK hH (hts (.fieldLink RX11 75 "IdlCallerModel" "said" "[C") (by decide +kernel)) dX11_say_1 ?_
    refine lv_aload_n hx hb dX11_say_4 rfl (lv_at hl 0 rfl) ?_
    refine rg_24 hx hb hts hin hown hK hH (hts (.fieldLink RX11 227 "IdlCallerModel" "saidSize" "I") (by decide +kernel)) dX11_say_5 ?_
    refine lv_iload_n hx hb dX11_say_8 rfl (lv_at hl 1 rfl) ?_
    obtain ⟨h1, hw⟩ := hw
    refine rs_23 hx hb hK hH h1 dX11_say_9 (fun M2 H locs eM2 hH => ?_)
    replace hw := hw M2 eM2
    refine lv_aload_n hx hb dX11_say_10 rfl (lv_at hl 0 rfl) ?_
    refine lv_dup hx hb dX11_say_11 rfl ?_
    refine rg_24 hx hb hts hin hown hK hH (hts (.fieldLink RX11 227 "IdlCallerModel" "saidSize" "I") (by decide +kernel)) dX11_say_12 ?_
    refine lv_iconst (v := 1) hx hb dX11_say_15 (by decide) ?_
    refine lv_iadd hx hb dX11_say_16 ?_
    refine rp_24 hx hb hts hin hown hK hH (hts (.fieldLink RX11 227 "IdlCallerModel" "saidSize" "I") (by decide +kernel)) dX11_say_17 (fun M3 H locs eM3 hH => ?_)
    replace hw := hw M3 eM3
    exact r_retv hx hb hr hlocks hK hH hw dX11_say_20
  exact hst M s.heap [] ls hH hl hw
def fm_sayWord_b32 (Q : RM → Prop) (k3 : Int64 → Int32 → RM → Prop) (v1 : Int64) (v3 : Int32) (M : RM) : Prop := (∀ x1 : Int32, x1 = v3 - 8 → k3 v1 x1 M)
def fm_sayWord_c3 (Q : RM → Prop) (k3 : Int64 → Int32 → RM → Prop) (v1 : Int64) (v3 : Int32) (M : RM) : Prop := ((v3 < 0 → Q M) ∧ (¬ v3 < 0 → (((lg_cmp ((v1 >>> (v3.toInt64 &&& 63)) &&& 255) 0) = 0 → fm_sayWord_b32 Q k3 v1 v3 M) ∧ (¬ (lg_cmp ((v1 >>> (v3.toInt64 &&& 63)) &&& 255) 0) = 0 → fm_say (((((v1 >>> (v3.toInt64 &&& 63)) &&& 255).toInt32).toUInt32 % 65536).toInt32) M (fun (M4 : RM) => fm_sayWord_b32 Q k3 v1 v3 M4)))))
def fm_sayWord_l3 (Q : RM → Prop) : Nat → Int64 → Int32 → RM → Prop := lit (τ := Int64 → Int32 → RM → Prop) (fun _ _ _ => False) (fun k => fm_sayWord_c3 Q  k)
def fm_sayWord (a1 : Int64) (M : RM) (Q : RM → Prop) : Prop := (∃ nn : Nat, fm_sayWord_l3 Q  nn a1 56 M)
abbrev rmX11_sayWord : Room := { frames := 1, cells := 0, slots := 0, locals := 21 }
set_option maxHeartbeats 4000000 in
set_option maxRecDepth 100000 in
theorem tm_sayWord (l : Launch) (D : va_G) (kA : Nat → ClassId) (h : Nat) (ad : Nat → Nat) (sz : Nat) (M : RM) (a1 : Int64) (Q : RM → Prop) (hw : fm_sayWord a1 M Q) : Met l yX11_sayWord wsX11_sayWord rmX11_sayWord (va_Pc [.ref h, .long a1] (rPc D kA h ad M sz)) (va_Qv Q (rB D kA h ad (rF kA h ad M sz)) (rF kA h ad M sz)) 0 0 (rF kA h ad M sz) := by
  refine Met.ofW (cc := cX11_sayWord) (maxL := 4) (ret := none) (by decide) rfl ?_
  intro p e s m args below meth c s₁ B hml hv
  obtain ⟨rfl, hsz, hP, hK, hD0⟩ := hv
  have hx := B.exec
  have hb := B.bytes
  have hr := B.returns
  have hts := atoms_spec (ws := wsX11_sayWord) B.pre
  have hown : s.vm.findClass RX11 = some m.cls := findClass_of_methodNamed B.named
  have hlocks : meth.locks = false := B.notSynchronized
  subst hsz
  have hH : rH D kA h ad (rF kA h ad M s.heap.size) s.heap M s.heap [] := ⟨hP, hD0.self, va_S.rf⟩
  have hA : ∀ q : Nat, s.heap.size ≤ q → rF kA h ad M s.heap.size q := fun q z => Or.inr z
  generalize rF kA h ad M s.heap.size = A at hH hA ⊢
  have hl := lv_entry ([.ref h, .long a1]) (n := 4) (Nat.le_of_ble_eq_true rfl)
  rw [lg_entry_eq]
  generalize (lg_sl ([.ref h, .long a1]) ++ List.replicate (4 - (lg_sl ([.ref h, .long a1])).length) Slot.unset).toArray = ls at hl ⊢
  generalize ([.ref h, .long a1] : List Value).toArray = args at hts ⊢
  have hl : lv_has ls 4 [(0, .ref h), (1, .long a1)] := hl
  have b32 : ∀ (k3 : Int64 → Int32 → RM → Prop) (hk3 : ∀ (v1 : Int64) (v3 : Int32) (M : RM) (H : Heap) (locs : List Loc) (ls : Array Slot), rH D kA h ad A s.heap M H locs → lv_has ls 4 [(0, .ref h), (1, .long v1), (3, .int v3)] → k3 v1 v3 M → W p l e (headSpec wsX11_sayWord rmX11_sayWord).room s m args below meth c H locs 0 0 (MQ below (va_Qv Q (rB D kA h ad A) A) args s 0 0 A) (F0 m 3 ls [])) (v1 : Int64) (v3 : Int32) (M : RM) (H : Heap) (locs : List Loc) (ls : Array Slot), rH D kA h ad A s.heap M H locs → lv_has ls 4 [(0, .ref h), (1, .long v1), (3, .int v3)] → fm_sayWord_b32 Q k3 v1 v3 M → W p l e (headSpec wsX11_sayWord rmX11_sayWord).room s m args below meth c H locs 0 0 (MQ below (va_Qv Q (rB D kA h ad A) A) args s 0 0 A) (F0 m 32 ls []) := by
    intro k3 hk3 v1 v3 M H locs ls hH hl hw
    unfold fm_sayWord_b32 at hw
    refine lv_iload_n hx hb dX11_sayWord_32 rfl (lv_at hl 2 rfl) ?_
    refine lv_bipush (v := 8) hx hb dX11_sayWord_33 (by decide) ?_
    refine lv_isub hx hb dX11_sayWord_35 ?_
    refine lv_topi (fun x1 ex1 => ?_)
    replace hw := hw x1 ex1
    refine lv_istore_n (lv' := [(3, .int x1), (0, .ref h), (1, .long v1)]) hx hb dX11_sayWord_36 rfl hl (by decide) rfl (fun ls hl => ?_)
    refine lv_goto (tgt := 3) hx hb dX11_sayWord_37 (by decide) ?_
    exact hk3 v1 x1 M H locs ls hH (lv_sub hl [1, 2, 0] rfl) hw
  have l3 : ∀ (nn : Nat) (v1 : Int64) (v3 : Int32) (M : RM) (H : Heap) (locs : List Loc) (ls : Array Slot), rH D kA h ad A s.heap M H locs → lv_has ls 4 [(0, .ref h), (1, .long v1), (3, .int v3)] → fm_sayWord_l3 Q  nn v1 v3 M → W p l e (headSpec wsX11_sayWord rmX11_sayWord).room s m args below meth c H locs 0 0 (MQ below (va_Qv Q (rB D kA h ad A) A) args s 0 0 A) (F0 m 3 ls []) := by
    intro   nn
    induction nn with
    | zero => intro v1 v3 M H locs ls hH hl hw; exact False.elim hw
    | succ nn hk3 =>
      intro v1 v3 M H locs ls hH hl hw
      replace hw : fm_sayWord_c3 Q  (fm_sayWord_l3 Q  nn) v1 v3 M := hw
      unfold fm_sayWord_c3 at hw
      refine lv_iload_n hx hb dX11_sayWord_3 rfl (lv_at hl 2 rfl) ?_
      refine lv_if_lt (tgt := 40) hx hb dX11_sayWord_4 (by decide) (fun c2 => ?_) (fun c2 => ?_)
      · replace hw := hw.1 c2
        exact r_retv hx hb hr hlocks hK hH hw dX11_sayWord_40
      · replace hw := hw.2 c2
        refine lv_lload_n hx hb dX11_sayWord_7 rfl (lv_at hl 1 rfl) ?_
        refine lv_iload_n hx hb dX11_sayWord_8 rfl (lv_at hl 2 rfl) ?_
        refine lv_lshr hx hb dX11_sayWord_9 rfl ?_
        refine lv_ldc2 (v := 255) hx hb hown (hts (.constantLong RX11 118 255) (by decide +kernel)) dX11_sayWord_10 ?_
        refine lv_land hx hb dX11_sayWord_13 ?_
        refine lv_lconst (v := 0) hx hb dX11_sayWord_14 (by decide) ?_
        refine W.lcmp hx hb dX11_sayWord_15 ?_
        refine lv_if_eq (tgt := 32) hx hb dX11_sayWord_16 (by decide) (fun c3 => ?_) (fun c3 => ?_)
        · replace hw := hw.1 c3
          exact b32 _ hk3 v1 v3 M H locs ls hH (lv_sub hl [0, 1, 2] rfl) hw
        · replace hw := hw.2 c3
          refine lv_aload_n hx hb dX11_sayWord_19 rfl (lv_at hl 0 rfl) ?_
          refine lv_lload_n hx hb dX11_sayWord_20 rfl (lv_at hl 1 rfl) ?_
          refine lv_iload_n hx hb dX11_sayWord_21 rfl (lv_at hl 2 rfl) ?_
          refine lv_lshr hx hb dX11_sayWord_22 rfl ?_
          refine lv_ldc2 (v := 255) hx hb hown (hts (.constantLong RX11 118 255) (by decide +kernel)) dX11_sayWord_23 ?_
          refine lv_land hx hb dX11_sayWord_26 ?_
          refine lv_l2i hx hb dX11_sayWord_27 rfl ?_
          refine lv_i2c hx hb dX11_sayWord_28 rfl ?_
          refine r_callv (va_runV (As := [.int (((((v1 >>> (v3.toInt64 &&& 63)) &&& 255).toInt32).toUInt32 % 65536).toInt32)]) (rest := []) ⟨hx, hb, hml, hown, hts⟩ (tm_say l D kA h ad H.size M (((((v1 >>> (v3.toInt64 &&& 63)) &&& 255).toInt32).toUInt32 % 65536).toInt32) _ hw) (cwV 1 hts gX11_sayWord_X11_say rfl rfl rfl (by decide +kernel) ⟨Nat.le_of_ble_eq_true rfl, Nat.le_of_ble_eq_true rfl⟩) (r_preV hK hH) rfl rfl hl.1 rfl (lv_room (Nat.le_of_ble_eq_true rfl)) dX11_sayWord_29 ⟨Nat.le_of_ble_eq_true rfl, Nat.le_of_ble_eq_true rfl⟩) hH hA (fun M4 H locs hw hH => ?_)
          exact b32 _ hk3 v1 v3 M4 H locs ls hH (lv_sub hl [0, 1, 2] rfl) hw
  clear hP hD0
  unfold fm_sayWord at hw
  have hst : ∀ (M : RM) (H : Heap) (locs : List Loc) (ls : Array Slot), rH D kA h ad A s.heap M H locs → lv_has ls 4 [(0, .ref h), (1, .long a1)] → (∃ nn : Nat, fm_sayWord_l3 Q  nn a1 56 M) → W p l e (headSpec wsX11_sayWord rmX11_sayWord).room s m args below meth c H locs 0 0 (MQ below (va_Qv Q (rB D kA h ad A) A) args s 0 0 A) (F0 m 0 ls []) := by
    intro M H locs ls hH hl hw
    refine lv_bipush (v := 56) hx hb dX11_sayWord_0 (by decide) ?_
    refine lv_istore_n (lv' := [(3, .int 56), (0, .ref h), (1, .long a1)]) hx hb dX11_sayWord_2 rfl hl (by decide) rfl (fun ls hl => ?_)
    obtain ⟨nn, hw⟩ := hw
    exact l3   nn a1 56 M H locs ls hH (lv_sub hl [1, 2, 0] rfl) hw
  exact hst M s.heap [] ls hH hl hw
def fm_sayNumber_b165 (Q : RM → Prop) (M : RM) : Prop := Q M
def fm_sayNumber_c118 (Q : RM → Prop) (k118 : Int64 → Int64 → RM → Prop) (v9 : Int64) (v11 : Int64) (M : RM) : Prop := (((lg_cmp v11 0) ≤ 0 → fm_sayNumber_b165 Q   M) ∧ (¬ (lg_cmp v11 0) ≤ 0 → (((lg_cmp v9 0) ≤ 0 → fm_sayNumber_b165 Q   M) ∧ (¬ (lg_cmp v9 0) ≤ 0 → (¬ v11 = 0 ∧ fm_say ((((48 + (v9 / v11)).toInt32).toUInt32 % 65536).toInt32) M (fun (M4 : RM) => (¬ v11 = 0 ∧ (∀ x7 : Int64, x7 = v9 - v9 / v11 * v11 → (¬ (10 : Int64) = 0 ∧ (∀ x9 : Int64, x9 = v11 / 10 → k118 x7 x9 M4))))))))))
def fm_sayNumber_l118 (Q : RM → Prop) : Nat → Int64 → Int64 → RM → Prop := lit (τ := Int64 → Int64 → RM → Prop) (fun _ _ _ => False) (fun k => fm_sayNumber_c118 Q  k)
def fm_sayNumber_c51 (Q : RM → Prop) (k51 : UInt64 → Int64 → Int64 → RM → Prop) (v3 : UInt64) (v5 : Int64) (v9 : Int64) (M : RM) : Prop := (((lg_cmp v9 0) ≤ 0 → (vf_n64 (FP.dsub v3 (FP.l2d v5)) ∧ (vf_n64 (FP.dmul (FP.dsub v3 (FP.l2d v5)) 4652007308841189376) ∧ (∀ x13 : Int64, x13 = FP.d2l (FP.dmul (FP.dsub v3 (FP.l2d v5)) 4652007308841189376) → (((lg_cmp x13 0) ≤ 0 → fm_sayNumber_b165 Q   M) ∧ (¬ (lg_cmp x13 0) ≤ 0 → fm_say 46 M (fun (M15 : RM) => (∃ nn : Nat, fm_sayNumber_l118 Q  nn x13 100 M15)))))))) ∧ (¬ (lg_cmp v9 0) ≤ 0 → (¬ v9 = 0 ∧ (¬ (10 : Int64) = 0 ∧ fm_say ((((48 + ((v5 / v9) - (v5 / v9) / 10 * 10)).toInt32).toUInt32 % 65536).toInt32) M (fun (M19 : RM) => (¬ (10 : Int64) = 0 ∧ (∀ x22 : Int64, x22 = v9 / 10 → k51 v3 v5 x22 M19)))))))
def fm_sayNumber_l51 (Q : RM → Prop) : Nat → UInt64 → Int64 → Int64 → RM → Prop := lit (τ := UInt64 → Int64 → Int64 → RM → Prop) (fun _ _ _ _ => False) (fun k => fm_sayNumber_c51 Q  k)
def fm_sayNumber_c24 (Q : RM → Prop) (k24 : UInt64 → Int64 → Int64 → RM → Prop) (v3 : UInt64) (v5 : Int64) (v7 : Int64) (M : RM) : Prop := (¬ v7 = 0 ∧ (((lg_cmp (v5 / v7) 9) ≤ 0 → (∃ nn : Nat, fm_sayNumber_l51 Q  nn v3 v5 v7 M)) ∧ (¬ (lg_cmp (v5 / v7) 9) ≤ 0 → (∀ x25 : Int64, x25 = v7 * 10 → k24 v3 v5 x25 M))))
def fm_sayNumber_l24 (Q : RM → Prop) : Nat → UInt64 → Int64 → Int64 → RM → Prop := lit (τ := UInt64 → Int64 → Int64 → RM → Prop) (fun _ _ _ _ => False) (fun k => fm_sayNumber_c24 Q  k)
def fm_sayNumber_b17 (Q : RM → Prop) (v3 : UInt64) (M : RM) : Prop := (∀ x26 : Int64, x26 = FP.d2l v3 → (∃ nn : Nat, fm_sayNumber_l24 Q  nn v3 x26 1 M))
def fm_sayNumber (a1 : UInt64) (M : RM) (Q : RM → Prop) : Prop := ((0 ≤ (Op.cmpValue (FP.dcmp a1 FP.dconst0) .g) → fm_sayNumber_b17 Q  a1 M) ∧ (¬ 0 ≤ (Op.cmpValue (FP.dcmp a1 FP.dconst0) .g) → fm_say 45 M (fun (M28 : RM) => (∀ x30 : UInt64, x30 = FP.dneg a1 → fm_sayNumber_b17 Q  x30 M28))))
abbrev rmX11_sayNumber : Room := { frames := 1, cells := 0, slots := 0, locals := 21 }
set_option maxHeartbeats 4000000 in
set_option maxRecDepth 100000 in
theorem tm_sayNumber (l : Launch) (D : va_G) (kA : Nat → ClassId) (h : Nat) (ad : Nat → Nat) (sz : Nat) (M : RM) (a1 : UInt64) (Q : RM → Prop) (hw : fm_sayNumber a1 M Q) : Met l yX11_sayNumber wsX11_sayNumber rmX11_sayNumber (va_Pc [.ref h, .double a1] (rPc D kA h ad M sz)) (va_Qv Q (rB D kA h ad (rF kA h ad M sz)) (rF kA h ad M sz)) 0 0 (rF kA h ad M sz) := by
  refine Met.ofW (cc := cX11_sayNumber) (maxL := 13) (ret := none) (by decide) rfl ?_
  intro p e s m args below meth c s₁ B hml hv
  obtain ⟨rfl, hsz, hP, hK, hD0⟩ := hv
  have hx := B.exec
  have hb := B.bytes
  have hr := B.returns
  have hts := atoms_spec (ws := wsX11_sayNumber) B.pre
  have hown : s.vm.findClass RX11 = some m.cls := findClass_of_methodNamed B.named
  have hlocks : meth.locks = false := B.notSynchronized
  subst hsz
  have hH : rH D kA h ad (rF kA h ad M s.heap.size) s.heap M s.heap [] := ⟨hP, hD0.self, va_S.rf⟩
  have hA : ∀ q : Nat, s.heap.size ≤ q → rF kA h ad M s.heap.size q := fun q z => Or.inr z
  generalize rF kA h ad M s.heap.size = A at hH hA ⊢
  have hl := lv_entry ([.ref h, .double a1]) (n := 13) (Nat.le_of_ble_eq_true rfl)
  rw [lg_entry_eq]
  generalize (lg_sl ([.ref h, .double a1]) ++ List.replicate (13 - (lg_sl ([.ref h, .double a1])).length) Slot.unset).toArray = ls at hl ⊢
  generalize ([.ref h, .double a1] : List Value).toArray = args at hts ⊢
  have hl : lv_has ls 13 [(0, .ref h), (1, .double a1)] := hl
  have b165 : ∀ (M : RM) (H : Heap) (locs : List Loc) (ls : Array Slot), rH D kA h ad A s.heap M H locs → lv_has ls 13 [] → fm_sayNumber_b165 Q   M → W p l e (headSpec wsX11_sayNumber rmX11_sayNumber).room s m args below meth c H locs 0 0 (MQ below (va_Qv Q (rB D kA h ad A) A) args s 0 0 A) (F0 m 165 ls []) := by
    intro    M H locs ls hH hl hw
    unfold fm_sayNumber_b165 at hw
    exact r_retv hx hb hr hlocks hK hH hw dX11_sayNumber_165
  have l118 : ∀ (nn : Nat) (v9 : Int64) (v11 : Int64) (M : RM) (H : Heap) (locs : List Loc) (ls : Array Slot), rH D kA h ad A s.heap M H locs → lv_has ls 13 [(0, .ref h), (9, .long v9), (11, .long v11)] → fm_sayNumber_l118 Q  nn v9 v11 M → W p l e (headSpec wsX11_sayNumber rmX11_sayNumber).room s m args below meth c H locs 0 0 (MQ below (va_Qv Q (rB D kA h ad A) A) args s 0 0 A) (F0 m 118 ls []) := by
    intro   nn
    induction nn with
    | zero => intro v9 v11 M H locs ls hH hl hw; exact False.elim hw
    | succ nn hk118 =>
      intro v9 v11 M H locs ls hH hl hw
      replace hw : fm_sayNumber_c118 Q  (fm_sayNumber_l118 Q  nn) v9 v11 M := hw
      unfold fm_sayNumber_c118 at hw
      refine lv_lload hx hb dX11_sayNumber_118 (lv_at hl 2 rfl) ?_
      refine lv_lconst (v := 0) hx hb dX11_sayNumber_120 (by decide) ?_
      refine W.lcmp hx hb dX11_sayNumber_121 ?_
      refine lv_if_le (tgt := 165) hx hb dX11_sayNumber_122 (by decide) (fun c1 => ?_) (fun c1 => ?_)
      · replace hw := hw.1 c1
        exact b165    M H locs ls hH (lv_sub hl [] rfl) hw
      · replace hw := hw.2 c1
        refine lv_lload hx hb dX11_sayNumber_125 (lv_at hl 1 rfl) ?_
        refine lv_lconst (v := 0) hx hb dX11_sayNumber_127 (by decide) ?_
        refine W.lcmp hx hb dX11_sayNumber_128 ?_
        refine lv_if_le (tgt := 165) hx hb dX11_sayNumber_129 (by decide) (fun c2 => ?_) (fun c2 => ?_)
        · replace hw := hw.1 c2
          exact b165    M H locs ls hH (lv_sub hl [] rfl) hw
        · replace hw := hw.2 c2
          refine lv_aload_n hx hb dX11_sayNumber_132 rfl (lv_at hl 0 rfl) ?_
          refine lv_ldc2 (v := 48) hx hb hown (hts (.constantLong RX11 237 48) (by decide +kernel)) dX11_sayNumber_133 ?_
          refine lv_lload hx hb dX11_sayNumber_136 (lv_at hl 1 rfl) ?_
          refine lv_lload hx hb dX11_sayNumber_138 (lv_at hl 2 rfl) ?_
          obtain ⟨h3, hw⟩ := hw
          refine lv_ldiv hx hb dX11_sayNumber_140 h3 ?_
          refine lv_ladd hx hb dX11_sayNumber_141 ?_
          refine lv_l2i hx hb dX11_sayNumber_142 rfl ?_
          refine lv_i2c hx hb dX11_sayNumber_143 rfl ?_
          refine r_callv (va_runV (As := [.int ((((48 + (v9 / v11)).toInt32).toUInt32 % 65536).toInt32)]) (rest := []) ⟨hx, hb, hml, hown, hts⟩ (tm_say l D kA h ad H.size M ((((48 + (v9 / v11)).toInt32).toUInt32 % 65536).toInt32) _ hw) (cwV 1 hts gX11_sayNumber_X11_say rfl rfl rfl (by decide +kernel) ⟨Nat.le_of_ble_eq_true rfl, Nat.le_of_ble_eq_true rfl⟩) (r_preV hK hH) rfl rfl hl.1 rfl (lv_room (Nat.le_of_ble_eq_true rfl)) dX11_sayNumber_144 ⟨Nat.le_of_ble_eq_true rfl, Nat.le_of_ble_eq_true rfl⟩) hH hA (fun M4 H locs hw hH => ?_)
          refine lv_lload hx hb dX11_sayNumber_147 (lv_at hl 1 rfl) ?_
          refine lv_lload hx hb dX11_sayNumber_149 (lv_at hl 2 rfl) ?_
          obtain ⟨h6, hw⟩ := hw
          refine lv_lrem hx hb dX11_sayNumber_151 h6 ?_
          refine lv_topl (fun x7 ex7 => ?_)
          replace hw := hw x7 ex7
          refine lv_lstore (lv' := [(9, .long x7), (0, .ref h), (11, .long v11)]) hx hb dX11_sayNumber_152 hl (by decide) rfl (fun ls hl => ?_)
          refine lv_lload hx hb dX11_sayNumber_154 (lv_at hl 2 rfl) ?_
          refine lv_ldc2 (v := 10) hx hb hown (hts (.constantLong RX11 235 10) (by decide +kernel)) dX11_sayNumber_156 ?_
          obtain ⟨h8, hw⟩ := hw
          refine lv_ldiv hx hb dX11_sayNumber_159 h8 ?_
          refine lv_topl (fun x9 ex9 => ?_)
          replace hw := hw x9 ex9
          refine lv_lstore (lv' := [(11, .long x9), (9, .long x7), (0, .ref h)]) hx hb dX11_sayNumber_160 hl (by decide) rfl (fun ls hl => ?_)
          refine lv_goto (tgt := 118) hx hb dX11_sayNumber_162 (by decide) ?_
          exact hk118 x7 x9 M4 H locs ls hH (lv_sub hl [2, 1, 0] rfl) hw
  have l51 : ∀ (nn : Nat) (v3 : UInt64) (v5 : Int64) (v9 : Int64) (M : RM) (H : Heap) (locs : List Loc) (ls : Array Slot), rH D kA h ad A s.heap M H locs → lv_has ls 13 [(0, .ref h), (3, .double v3), (5, .long v5), (9, .long v9)] → fm_sayNumber_l51 Q  nn v3 v5 v9 M → W p l e (headSpec wsX11_sayNumber rmX11_sayNumber).room s m args below meth c H locs 0 0 (MQ below (va_Qv Q (rB D kA h ad A) A) args s 0 0 A) (F0 m 51 ls []) := by
    intro   nn
    induction nn with
    | zero => intro v3 v5 v9 M H locs ls hH hl hw; exact False.elim hw
    | succ nn hk51 =>
      intro v3 v5 v9 M H locs ls hH hl hw
      replace hw : fm_sayNumber_c51 Q  (fm_sayNumber_l51 Q  nn) v3 v5 v9 M := hw
      unfold fm_sayNumber_c51 at hw
      refine lv_lload hx hb dX11_sayNumber_51 (lv_at hl 3 rfl) ?_
      refine lv_lconst (v := 0) hx hb dX11_sayNumber_53 (by decide) ?_
      refine W.lcmp hx hb dX11_sayNumber_54 ?_
      refine lv_if_le (tgt := 88) hx hb dX11_sayNumber_55 (by decide) (fun c10 => ?_) (fun c10 => ?_)
      · replace hw := hw.1 c10
        refine lv_dload_n hx hb dX11_sayNumber_88 rfl (lv_at hl 1 rfl) ?_
        refine lv_lload hx hb dX11_sayNumber_89 (lv_at hl 2 rfl) ?_
        refine lv_l2d hx hb dX11_sayNumber_91 ?_
        obtain ⟨h11, hw⟩ := hw
        refine lv_dsub hx hb dX11_sayNumber_92 h11 ?_
        refine lv_ldc2d (v := 4652007308841189376) hx hb hown (hts (.constantDouble RX11 239 4652007308841189376) (by decide +kernel)) dX11_sayNumber_93 ?_
        obtain ⟨h12, hw⟩ := hw
        refine lv_dmul hx hb dX11_sayNumber_96 h12 ?_
        refine lv_d2l hx hb dX11_sayNumber_97 ?_
        refine lv_topl (fun x13 ex13 => ?_)
        replace hw := hw x13 ex13
        refine lv_lstore (lv' := [(9, .long x13), (0, .ref h), (3, .double v3), (5, .long v5)]) hx hb dX11_sayNumber_98 hl (by decide) rfl (fun ls hl => ?_)
        refine lv_lload hx hb dX11_sayNumber_100 (lv_at hl 0 rfl) ?_
        refine lv_lconst (v := 0) hx hb dX11_sayNumber_102 (by decide) ?_
        refine W.lcmp hx hb dX11_sayNumber_103 ?_
        refine lv_if_le (tgt := 165) hx hb dX11_sayNumber_104 (by decide) (fun c14 => ?_) (fun c14 => ?_)
        · replace hw := hw.1 c14
          exact b165    M H locs ls hH (lv_sub hl [] rfl) hw
        · replace hw := hw.2 c14
          refine lv_aload_n hx hb dX11_sayNumber_107 rfl (lv_at hl 1 rfl) ?_
          refine lv_bipush (v := 46) hx hb dX11_sayNumber_108 (by decide) ?_
          refine r_callv (va_runV (As := [.int 46]) (rest := []) ⟨hx, hb, hml, hown, hts⟩ (tm_say l D kA h ad H.size M 46 _ hw) (cwV 1 hts gX11_sayNumber_X11_say rfl rfl rfl (by decide +kernel) ⟨Nat.le_of_ble_eq_true rfl, Nat.le_of_ble_eq_true rfl⟩) (r_preV hK hH) rfl rfl hl.1 rfl (lv_room (Nat.le_of_ble_eq_true rfl)) dX11_sayNumber_110 ⟨Nat.le_of_ble_eq_true rfl, Nat.le_of_ble_eq_true rfl⟩) hH hA (fun M15 H locs hw hH => ?_)
          refine lv_ldc2 (v := 100) hx hb hown (hts (.constantLong RX11 241 100) (by decide +kernel)) dX11_sayNumber_113 ?_
          refine lv_lstore (lv' := [(11, .long 100), (9, .long x13), (0, .ref h), (3, .double v3), (5, .long v5)]) hx hb dX11_sayNumber_116 hl (by decide) rfl (fun ls hl => ?_)
          obtain ⟨nn, hw⟩ := hw
          exact l118   nn x13 100 M15 H locs ls hH (lv_sub hl [2, 1, 0] rfl) hw
      · replace hw := hw.2 c10
        refine lv_aload_n hx hb dX11_sayNumber_58 rfl (lv_at hl 0 rfl) ?_
        refine lv_ldc2 (v := 48) hx hb hown (hts (.constantLong RX11 237 48) (by decide +kernel)) dX11_sayNumber_59 ?_
        refine lv_lload hx hb dX11_sayNumber_62 (lv_at hl 2 rfl) ?_
        refine lv_lload hx hb dX11_sayNumber_64 (lv_at hl 3 rfl) ?_
        obtain ⟨h17, hw⟩ := hw
        refine lv_ldiv hx hb dX11_sayNumber_66 h17 ?_
        refine lv_ldc2 (v := 10) hx hb hown (hts (.constantLong RX11 235 10) (by decide +kernel)) dX11_sayNumber_67 ?_
        obtain ⟨h18, hw⟩ := hw
        refine lv_lrem hx hb dX11_sayNumber_70 h18 ?_
        refine lv_ladd hx hb dX11_sayNumber_71 ?_
        refine lv_l2i hx hb dX11_sayNumber_72 rfl ?_
        refine lv_i2c hx hb dX11_sayNumber_73 rfl ?_
        refine r_callv (va_runV (As := [.int ((((48 + ((v5 / v9) - (v5 / v9) / 10 * 10)).toInt32).toUInt32 % 65536).toInt32)]) (rest := []) ⟨hx, hb, hml, hown, hts⟩ (tm_say l D kA h ad H.size M ((((48 + ((v5 / v9) - (v5 / v9) / 10 * 10)).toInt32).toUInt32 % 65536).toInt32) _ hw) (cwV 1 hts gX11_sayNumber_X11_say rfl rfl rfl (by decide +kernel) ⟨Nat.le_of_ble_eq_true rfl, Nat.le_of_ble_eq_true rfl⟩) (r_preV hK hH) rfl rfl hl.1 rfl (lv_room (Nat.le_of_ble_eq_true rfl)) dX11_sayNumber_74 ⟨Nat.le_of_ble_eq_true rfl, Nat.le_of_ble_eq_true rfl⟩) hH hA (fun M19 H locs hw hH => ?_)
        refine lv_lload hx hb dX11_sayNumber_77 (lv_at hl 3 rfl) ?_
        refine lv_ldc2 (v := 10) hx hb hown (hts (.constantLong RX11 235 10) (by decide +kernel)) dX11_sayNumber_79 ?_
        obtain ⟨h21, hw⟩ := hw
        refine lv_ldiv hx hb dX11_sayNumber_82 h21 ?_
        refine lv_topl (fun x22 ex22 => ?_)
        replace hw := hw x22 ex22
        refine lv_lstore (lv' := [(9, .long x22), (0, .ref h), (3, .double v3), (5, .long v5)]) hx hb dX11_sayNumber_83 hl (by decide) rfl (fun ls hl => ?_)
        refine lv_goto (tgt := 51) hx hb dX11_sayNumber_85 (by decide) ?_
        exact hk51 v3 v5 x22 M19 H locs ls hH (lv_sub hl [1, 2, 3, 0] rfl) hw
  have l24 : ∀ (nn : Nat) (v3 : UInt64) (v5 : Int64) (v7 : Int64) (M : RM) (H : Heap) (locs : List Loc) (ls : Array Slot), rH D kA h ad A s.heap M H locs → lv_has ls 13 [(0, .ref h), (3, .double v3), (5, .long v5), (7, .long v7)] → fm_sayNumber_l24 Q  nn v3 v5 v7 M → W p l e (headSpec wsX11_sayNumber rmX11_sayNumber).room s m args below meth c H locs 0 0 (MQ below (va_Qv Q (rB D kA h ad A) A) args s 0 0 A) (F0 m 24 ls []) := by
    intro   nn
    induction nn with
    | zero => intro v3 v5 v7 M H locs ls hH hl hw; exact False.elim hw
    | succ nn hk24 =>
      intro v3 v5 v7 M H locs ls hH hl hw
      replace hw : fm_sayNumber_c24 Q  (fm_sayNumber_l24 Q  nn) v3 v5 v7 M := hw
      unfold fm_sayNumber_c24 at hw
      refine lv_lload hx hb dX11_sayNumber_24 (lv_at hl 2 rfl) ?_
      refine lv_lload hx hb dX11_sayNumber_26 (lv_at hl 3 rfl) ?_
      obtain ⟨h23, hw⟩ := hw
      refine lv_ldiv hx hb dX11_sayNumber_28 h23 ?_
      refine lv_ldc2 (v := 9) hx hb hown (hts (.constantLong RX11 233 9) (by decide +kernel)) dX11_sayNumber_29 ?_
      refine W.lcmp hx hb dX11_sayNumber_32 ?_
      refine lv_if_le (tgt := 47) hx hb dX11_sayNumber_33 (by decide) (fun c24 => ?_) (fun c24 => ?_)
      · replace hw := hw.1 c24
        refine lv_lload hx hb dX11_sayNumber_47 (lv_at hl 3 rfl) ?_
        refine lv_lstore (lv' := [(9, .long v7), (0, .ref h), (3, .double v3), (5, .long v5), (7, .long v7)]) hx hb dX11_sayNumber_49 hl (by decide) rfl (fun ls hl => ?_)
        obtain ⟨nn, hw⟩ := hw
        exact l51   nn v3 v5 v7 M H locs ls hH (lv_sub hl [1, 2, 3, 0] rfl) hw
      · replace hw := hw.2 c24
        refine lv_lload hx hb dX11_sayNumber_36 (lv_at hl 3 rfl) ?_
        refine lv_ldc2 (v := 10) hx hb hown (hts (.constantLong RX11 235 10) (by decide +kernel)) dX11_sayNumber_38 ?_
        refine lv_lmul hx hb dX11_sayNumber_41 ?_
        refine lv_topl (fun x25 ex25 => ?_)
        replace hw := hw x25 ex25
        refine lv_lstore (lv' := [(7, .long x25), (0, .ref h), (3, .double v3), (5, .long v5)]) hx hb dX11_sayNumber_42 hl (by decide) rfl (fun ls hl => ?_)
        refine lv_goto (tgt := 24) hx hb dX11_sayNumber_44 (by decide) ?_
        exact hk24 v3 v5 x25 M H locs ls hH (lv_sub hl [1, 2, 3, 0] rfl) hw
  have b17 : ∀ (v3 : UInt64) (M : RM) (H : Heap) (locs : List Loc) (ls : Array Slot), rH D kA h ad A s.heap M H locs → lv_has ls 13 [(0, .ref h), (3, .double v3)] → fm_sayNumber_b17 Q  v3 M → W p l e (headSpec wsX11_sayNumber rmX11_sayNumber).room s m args below meth c H locs 0 0 (MQ below (va_Qv Q (rB D kA h ad A) A) args s 0 0 A) (F0 m 17 ls []) := by
    intro   v3 M H locs ls hH hl hw
    unfold fm_sayNumber_b17 at hw
    refine lv_dload_n hx hb dX11_sayNumber_17 rfl (lv_at hl 1 rfl) ?_
    refine lv_d2l hx hb dX11_sayNumber_18 ?_
    refine lv_topl (fun x26 ex26 => ?_)
    replace hw := hw x26 ex26
    refine lv_lstore (lv' := [(5, .long x26), (0, .ref h), (3, .double v3)]) hx hb dX11_sayNumber_19 hl (by decide) rfl (fun ls hl => ?_)
    refine lv_lconst (v := 1) hx hb dX11_sayNumber_21 (by decide) ?_
    refine lv_lstore (lv' := [(7, .long 1), (5, .long x26), (0, .ref h), (3, .double v3)]) hx hb dX11_sayNumber_22 hl (by decide) rfl (fun ls hl => ?_)
    obtain ⟨nn, hw⟩ := hw
    exact l24   nn v3 x26 1 M H locs ls hH (lv_sub hl [2, 3, 1, 0] rfl) hw
  clear hP hD0
  unfold fm_sayNumber at hw
  have hst : ∀ (M : RM) (H : Heap) (locs : List Loc) (ls : Array Slot), rH D kA h ad A s.heap M H locs → lv_has ls 13 [(0, .ref h), (1, .double a1)] → ((0 ≤ (Op.cmpValue (FP.dcmp a1 FP.dconst0) .g) → fm_sayNumber_b17 Q  a1 M) ∧ (¬ 0 ≤ (Op.cmpValue (FP.dcmp a1 FP.dconst0) .g) → fm_say 45 M (fun (M28 : RM) => (∀ x30 : UInt64, x30 = FP.dneg a1 → fm_sayNumber_b17 Q  x30 M28)))) → W p l e (headSpec wsX11_sayNumber rmX11_sayNumber).room s m args below meth c H locs 0 0 (MQ below (va_Qv Q (rB D kA h ad A) A) args s 0 0 A) (F0 m 0 ls []) := by
    intro M H locs ls hH hl hw
    refine lv_dload_n hx hb dX11_sayNumber_0 rfl (lv_at hl 1 rfl) ?_
    refine lv_dstore_n (lv' := [(3, .double a1), (0, .ref h), (1, .double a1)]) hx hb dX11_sayNumber_1 rfl hl (by decide) rfl (fun ls hl => ?_)
    refine lv_dload_n hx hb dX11_sayNumber_2 rfl (lv_at hl 0 rfl) ?_
    refine lv_dconst0 hx hb dX11_sayNumber_3 ?_
    refine lv_dcmp hx hb dX11_sayNumber_4 ?_
    refine lv_if_ge (tgt := 17) hx hb dX11_sayNumber_5 (by decide) (fun c27 => ?_) (fun c27 => ?_)
    · replace hw := hw.1 c27
      exact b17   a1 M H locs ls hH (lv_sub hl [1, 0] rfl) hw
    · replace hw := hw.2 c27
      refine lv_aload_n hx hb dX11_sayNumber_8 rfl (lv_at hl 1 rfl) ?_
      refine lv_bipush (v := 45) hx hb dX11_sayNumber_9 (by decide) ?_
      refine r_callv (va_runV (As := [.int 45]) (rest := []) ⟨hx, hb, hml, hown, hts⟩ (tm_say l D kA h ad H.size M 45 _ hw) (cwV 1 hts gX11_sayNumber_X11_say rfl rfl rfl (by decide +kernel) ⟨Nat.le_of_ble_eq_true rfl, Nat.le_of_ble_eq_true rfl⟩) (r_preV hK hH) rfl rfl hl.1 rfl (lv_room (Nat.le_of_ble_eq_true rfl)) dX11_sayNumber_11 ⟨Nat.le_of_ble_eq_true rfl, Nat.le_of_ble_eq_true rfl⟩) hH hA (fun M28 H locs hw hH => ?_)
      refine lv_dload_n hx hb dX11_sayNumber_14 rfl (lv_at hl 0 rfl) ?_
      refine lv_dneg hx hb dX11_sayNumber_15 ?_
      refine lv_topd (fun x30 ex30 => ?_)
      replace hw := hw x30 ex30
      refine lv_dstore_n (lv' := [(3, .double x30), (0, .ref h), (1, .double a1)]) hx hb dX11_sayNumber_16 rfl hl (by decide) rfl (fun ls hl => ?_)
      exact b17   x30 M28 H locs ls hH (lv_sub hl [1, 0] rfl) hw
  exact hst M s.heap [] ls hH hl hw
