def fm_thrown (M : RM) (Q : Int32 → RM → Prop) : Prop := Q (rI M 0) M
abbrev rmX11_thrown : Room := { frames := 0, cells := 0, slots := 0, locals := 0 }
set_option maxHeartbeats 4000000 in
set_option maxRecDepth 100000 in
theorem tm_thrown (l : Launch) (D : va_G) (kA : Nat → ClassId) (h : Nat) (ad : Nat → Nat) (sz : Nat) (M : RM) (Q : Int32 → RM → Prop) (hw : fm_thrown  M Q) : Met l yX11_thrown wsX11_thrown rmX11_thrown (va_Pc [.ref h] (rPc D kA h ad M sz)) (va_Qi Q (rB D kA h ad (rF kA h ad M sz)) (rF kA h ad M sz)) 0 0 (rF kA h ad M sz) := by
  refine Met.ofW (cc := cX11_thrown) (maxL := 1) (ret := (some .int)) (by decide) rfl ?_
  intro p e s m args below meth c s₁ B hml hv
  obtain ⟨rfl, hsz, hP, hK, hD0⟩ := hv
  have hx := B.exec
  have hb := B.bytes
  have hr := B.returns
  have hts := atoms_spec (ws := wsX11_thrown) B.pre
  have hown : s.vm.findClass RX11 = some m.cls := findClass_of_methodNamed B.named
  have hlocks : meth.locks = false := B.notSynchronized
  subst hsz
  have hH : rH D kA h ad (rF kA h ad M s.heap.size) s.heap M s.heap [] := ⟨hP, hD0.self, va_S.rf⟩
  have hA : ∀ q : Nat, s.heap.size ≤ q → rF kA h ad M s.heap.size q := fun q z => Or.inr z
  generalize rF kA h ad M s.heap.size = A at hH hA ⊢
  have hl := lv_entry ([.ref h]) (n := 1) (Nat.le_of_ble_eq_true rfl)
  rw [lg_entry_eq]
  generalize (lg_sl ([.ref h]) ++ List.replicate (1 - (lg_sl ([.ref h])).length) Slot.unset).toArray = ls at hl ⊢
  generalize ([.ref h] : List Value).toArray = args at hts ⊢
  have hl : lv_has ls 1 [(0, .ref h)] := hl
  have hin : ∀ w ∈ wsX110, w ∈ wsX11_thrown := by decide +kernel
  clear hP hD0
  unfold fm_thrown at hw
  have hst : ∀ (M : RM) (H : Heap) (locs : List Loc) (ls : Array Slot), rH D kA h ad A s.heap M H locs → lv_has ls 1 [(0, .ref h)] → Q (rI M 0) M → W p l e (headSpec wsX11_thrown rmX11_thrown).room s m args below meth c H locs 0 0 (MQ below (va_Qi Q (rB D kA h ad A) A) args s 0 0 A) (F0 m 0 ls []) := by
    intro M H locs ls hH hl hw
    refine lv_aload_n hx hb dX11_thrown_0 rfl (lv_at hl 0 rfl) ?_
    refine rg_0 hx hb hts hin hown hK hH (hts (.fieldLink RX11 78 "IdlCallerModel" "refusal" "I") (by decide +kernel)) dX11_thrown_1 ?_
    exact r_reti hx hb hr hlocks hK hH hw dX11_thrown_4
  exact hst M s.heap [] ls hH hl hw
def fm_refused_b14 (Q : Int32 → RM → Prop) (s0 : Int32) (M : RM) : Prop := (nZ s0 ∧ Q s0 M)
def fm_refused (a1 : Int32) (M : RM) (Q : Int32 → RM → Prop) : Prop := (∀ M1 : RM, M1 = wI M 0 a1 → ((a1 ≤ 0 → fm_refused_b14 Q  0 M1) ∧ (¬ a1 ≤ 0 → fm_refused_b14 Q  1 M1)))
abbrev rmX11_refused : Room := { frames := 0, cells := 0, slots := 0, locals := 0 }
set_option maxHeartbeats 4000000 in
set_option maxRecDepth 100000 in
theorem tm_refused (l : Launch) (D : va_G) (kA : Nat → ClassId) (h : Nat) (ad : Nat → Nat) (sz : Nat) (M : RM) (a1 : Int32) (Q : Int32 → RM → Prop) (hw : fm_refused a1 M Q) : Met l yX11_refused wsX11_refused rmX11_refused (va_Pc [.ref h, .int a1] (rPc D kA h ad M sz)) (va_Qi Q (rB D kA h ad (rF kA h ad M sz)) (rF kA h ad M sz)) 0 0 (rF kA h ad M sz) := by
  refine Met.ofW (cc := cX11_refused) (maxL := 2) (ret := (some .boolean)) (by decide) rfl ?_
  intro p e s m args below meth c s₁ B hml hv
  obtain ⟨rfl, hsz, hP, hK, hD0⟩ := hv
  have hx := B.exec
  have hb := B.bytes
  have hr := B.returns
  have hts := atoms_spec (ws := wsX11_refused) B.pre
  have hown : s.vm.findClass RX11 = some m.cls := findClass_of_methodNamed B.named
  have hlocks : meth.locks = false := B.notSynchronized
  subst hsz
  have hH : rH D kA h ad (rF kA h ad M s.heap.size) s.heap M s.heap [] := ⟨hP, hD0.self, va_S.rf⟩
  have hA : ∀ q : Nat, s.heap.size ≤ q → rF kA h ad M s.heap.size q := fun q z => Or.inr z
  generalize rF kA h ad M s.heap.size = A at hH hA ⊢
  have hl := lv_entry ([.ref h, .int a1]) (n := 2) (Nat.le_of_ble_eq_true rfl)
  rw [lg_entry_eq]
  generalize (lg_sl ([.ref h, .int a1]) ++ List.replicate (2 - (lg_sl ([.ref h, .int a1])).length) Slot.unset).toArray = ls at hl ⊢
  generalize ([.ref h, .int a1] : List Value).toArray = args at hts ⊢
  have hl : lv_has ls 2 [(0, .ref h), (1, .int a1)] := hl
  have hin : ∀ w ∈ wsX110, w ∈ wsX11_refused := by decide +kernel
  have b14 : ∀ (s0 : Int32) (M : RM) (H : Heap) (locs : List Loc) (ls : Array Slot), rH D kA h ad A s.heap M H locs → lv_has ls 2 [] → fm_refused_b14 Q  s0 M → W p l e (headSpec wsX11_refused rmX11_refused).room s m args below meth c H locs 0 0 (MQ below (va_Qi Q (rB D kA h ad A) A) args s 0 0 A) (F0 m 14 ls [.int s0]) := by
    intro   s0 M H locs ls hH hl hw
    unfold fm_refused_b14 at hw
    exact r_retz hx hb hr hw.1.1 hlocks hK hH hw.2 dX11_refused_14
  clear hP hD0
  unfold fm_refused at hw
  have hst : ∀ (M : RM) (H : Heap) (locs : List Loc) (ls : Array Slot), rH D kA h ad A s.heap M H locs → lv_has ls 2 [(0, .ref h), (1, .int a1)] → (∀ M1 : RM, M1 = wI M 0 a1 → ((a1 ≤ 0 → fm_refused_b14 Q  0 M1) ∧ (¬ a1 ≤ 0 → fm_refused_b14 Q  1 M1))) → W p l e (headSpec wsX11_refused rmX11_refused).room s m args below meth c H locs 0 0 (MQ below (va_Qi Q (rB D kA h ad A) A) args s 0 0 A) (F0 m 0 ls []) := by
    intro M H locs ls hH hl hw
    refine lv_aload_n hx hb dX11_refused_0 rfl (lv_at hl 0 rfl) ?_
    refine lv_iload_n hx hb dX11_refused_1 rfl (lv_at hl 1 rfl) ?_
    refine rp_0 hx hb hts hin hown hK hH (hts (.fieldLink RX11 78 "IdlCallerModel" "refusal" "I") (by decide +kernel)) dX11_refused_2 (fun M1 H locs eM1 hH => ?_)
    replace hw := hw M1 eM1
    refine lv_iload_n hx hb dX11_refused_5 rfl (lv_at hl 1 rfl) ?_
    refine lv_if_le (tgt := 13) hx hb dX11_refused_6 (by decide) (fun c2 => ?_) (fun c2 => ?_)
    · replace hw := hw.1 c2
      refine lv_iconst (v := 0) hx hb dX11_refused_13 (by decide) ?_
      exact b14   0 M1 H locs ls hH (lv_sub hl [] rfl) hw
    · replace hw := hw.2 c2
      refine lv_iconst (v := 1) hx hb dX11_refused_9 (by decide) ?_
      refine lv_goto (tgt := 14) hx hb dX11_refused_10 (by decide) ?_
      exact b14   1 M1 H locs ls hH (lv_sub hl [] rfl) hw
  exact hst M s.heap [] ls hH hl hw
def fm_isIn_b15 (Q : Int32 → RM → Prop) (s0 : Int32) (M : RM) : Prop := (nZ s0 ∧ Q s0 M)
def fm_isIn_b14 (Q : Int32 → RM → Prop) (M : RM) : Prop := fm_isIn_b15 Q  0 M
def fm_isIn (a1 : Int32) (a2 : Int32) (a3 : Int32) (M : RM) (Q : Int32 → RM → Prop) : Prop := ((a1 < a2 → fm_isIn_b14 Q   M) ∧ (¬ a1 < a2 → ((a3 < a1 → fm_isIn_b14 Q   M) ∧ (¬ a3 < a1 → fm_isIn_b15 Q  1 M))))
abbrev rmX11_isIn : Room := { frames := 0, cells := 0, slots := 0, locals := 0 }
set_option maxHeartbeats 4000000 in
set_option maxRecDepth 100000 in
theorem tm_isIn (l : Launch) (D : va_G) (kA : Nat → ClassId) (h : Nat) (ad : Nat → Nat) (sz : Nat) (M : RM) (a1 : Int32) (a2 : Int32) (a3 : Int32) (Q : Int32 → RM → Prop) (hw : fm_isIn a1 a2 a3 M Q) : Met l yX11_isIn wsX11_isIn rmX11_isIn (va_Pc [.int a1, .int a2, .int a3] (rPc D kA h ad M sz)) (va_Qi Q (rB D kA h ad (rF kA h ad M sz)) (rF kA h ad M sz)) 0 0 (rF kA h ad M sz) := by
  refine Met.ofW (cc := cX11_isIn) (maxL := 3) (ret := (some .boolean)) (by decide) rfl ?_
  intro p e s m args below meth c s₁ B hml hv
  obtain ⟨rfl, hsz, hP, hK, hD0⟩ := hv
  have hx := B.exec
  have hb := B.bytes
  have hr := B.returns
  have hts := atoms_spec (ws := wsX11_isIn) B.pre
  have hown : s.vm.findClass RX11 = some m.cls := findClass_of_methodNamed B.named
  have hlocks : meth.locks = false := B.notSynchronized
  subst hsz
  have hH : rH D kA h ad (rF kA h ad M s.heap.size) s.heap M s.heap [] := ⟨hP, hD0.self, va_S.rf⟩
  have hA : ∀ q : Nat, s.heap.size ≤ q → rF kA h ad M s.heap.size q := fun q z => Or.inr z
  generalize rF kA h ad M s.heap.size = A at hH hA ⊢
  have hl := lv_entry ([.int a1, .int a2, .int a3]) (n := 3) (Nat.le_of_ble_eq_true rfl)
  rw [lg_entry_eq]
  generalize (lg_sl ([.int a1, .int a2, .int a3]) ++ List.replicate (3 - (lg_sl ([.int a1, .int a2, .int a3])).length) Slot.unset).toArray = ls at hl ⊢
  generalize ([.int a1, .int a2, .int a3] : List Value).toArray = args at hts ⊢
  have hl : lv_has ls 3 [(0, .int a1), (1, .int a2), (2, .int a3)] := hl
  have b15 : ∀ (s0 : Int32) (M : RM) (H : Heap) (locs : List Loc) (ls : Array Slot), rH D kA h ad A s.heap M H locs → lv_has ls 3 [] → fm_isIn_b15 Q  s0 M → W p l e (headSpec wsX11_isIn rmX11_isIn).room s m args below meth c H locs 0 0 (MQ below (va_Qi Q (rB D kA h ad A) A) args s 0 0 A) (F0 m 15 ls [.int s0]) := by
    intro   s0 M H locs ls hH hl hw
    unfold fm_isIn_b15 at hw
    exact r_retz hx hb hr hw.1.1 hlocks hK hH hw.2 dX11_isIn_15
  have b14 : ∀ (M : RM) (H : Heap) (locs : List Loc) (ls : Array Slot), rH D kA h ad A s.heap M H locs → lv_has ls 3 [] → fm_isIn_b14 Q   M → W p l e (headSpec wsX11_isIn rmX11_isIn).room s m args below meth c H locs 0 0 (MQ below (va_Qi Q (rB D kA h ad A) A) args s 0 0 A) (F0 m 14 ls []) := by
    intro    M H locs ls hH hl hw
    unfold fm_isIn_b14 at hw
    refine lv_iconst (v := 0) hx hb dX11_isIn_14 (by decide) ?_
    exact b15   0 M H locs ls hH (lv_sub hl [] rfl) hw
  clear hP hD0
  unfold fm_isIn at hw
  have hst : ∀ (M : RM) (H : Heap) (locs : List Loc) (ls : Array Slot), rH D kA h ad A s.heap M H locs → lv_has ls 3 [(0, .int a1), (1, .int a2), (2, .int a3)] → ((a1 < a2 → fm_isIn_b14 Q   M) ∧ (¬ a1 < a2 → ((a3 < a1 → fm_isIn_b14 Q   M) ∧ (¬ a3 < a1 → fm_isIn_b15 Q  1 M)))) → W p l e (headSpec wsX11_isIn rmX11_isIn).room s m args below meth c H locs 0 0 (MQ below (va_Qi Q (rB D kA h ad A) A) args s 0 0 A) (F0 m 0 ls []) := by
    intro M H locs ls hH hl hw
    refine lv_iload_n hx hb dX11_isIn_0 rfl (lv_at hl 0 rfl) ?_
    refine lv_iload_n hx hb dX11_isIn_1 rfl (lv_at hl 1 rfl) ?_
    refine lv_icmp_lt (tgt := 14) hx hb dX11_isIn_2 (by decide) (fun c1 => ?_) (fun c1 => ?_)
    · replace hw := hw.1 c1
      exact b14    M H locs ls hH (lv_sub hl [] rfl) hw
    · replace hw := hw.2 c1
      refine lv_iload_n hx hb dX11_isIn_5 rfl (lv_at hl 0 rfl) ?_
      refine lv_iload_n hx hb dX11_isIn_6 rfl (lv_at hl 2 rfl) ?_
      refine lv_icmp_gt (tgt := 14) hx hb dX11_isIn_7 (by decide) (fun c2 => ?_) (fun c2 => ?_)
      · replace hw := hw.1 c2
        exact b14    M H locs ls hH (lv_sub hl [] rfl) hw
      · replace hw := hw.2 c2
        refine lv_iconst (v := 1) hx hb dX11_isIn_10 (by decide) ?_
        refine lv_goto (tgt := 15) hx hb dX11_isIn_11 (by decide) ?_
        exact b15   1 M H locs ls hH (lv_sub hl [] rfl) hw
  exact hst M s.heap [] ls hH hl hw
def fm_put_b42 (Q : RM → Prop) (M : RM) : Prop := Q M
def fm_put_b32 (Q : RM → Prop) (M : RM) : Prop := (∀ M1 : RM, M1 = wI M 2 ((rI M 2) + 1) → fm_put_b42 Q   M1)
def fm_put (a1 : Int32) (a2 : Int32) (M : RM) (Q : RM → Prop) : Prop := (∀ x2 : Int32, x2 = (a1 >>> (a2 &&& 31)) &&& 255 → ((x2 ≤ 0 → fm_put_b42 Q   M) ∧ (¬ x2 ≤ 0 → ((100 ≤ (rI M 2) → fm_put_b32 Q   M) ∧ (¬ 100 ≤ (rI M 2) → (vp_in (rI M 2) 100 ∧ (∀ M6 : RM, M6 = wA M 1 (rI M 2).toNatClampNeg (vp_nar .char ((x2.toUInt32 % 65536).toInt32)) → fm_put_b32 Q   M6)))))))
abbrev rmX11_put : Room := { frames := 0, cells := 0, slots := 0, locals := 0 }
set_option maxHeartbeats 4000000 in
set_option maxRecDepth 100000 in
theorem tm_put (l : Launch) (D : va_G) (kA : Nat → ClassId) (h : Nat) (ad : Nat → Nat) (sz : Nat) (M : RM) (a1 : Int32) (a2 : Int32) (Q : RM → Prop) (hw : fm_put a1 a2 M Q) : Met l yX11_put wsX11_put rmX11_put (va_Pc [.ref h, .int a1, .int a2] (rPc D kA h ad M sz)) (va_Qv Q (rB D kA h ad (rF kA h ad M sz)) (rF kA h ad M sz)) 0 0 (rF kA h ad M sz) := by
  refine Met.ofW (cc := cX11_put) (maxL := 4) (ret := none) (by decide) rfl ?_
  intro p e s m args below meth c s₁ B hml hv
  obtain ⟨rfl, hsz, hP, hK, hD0⟩ := hv
  have hx := B.exec
  have hb := B.bytes
  have hr := B.returns
  have hts := atoms_spec (ws := wsX11_put) B.pre
  have hown : s.vm.findClass RX11 = some m.cls := findClass_of_methodNamed B.named
  have hlocks : meth.locks = false := B.notSynchronized
  subst hsz
  have hH : rH D kA h ad (rF kA h ad M s.heap.size) s.heap M s.heap [] := ⟨hP, hD0.self, va_S.rf⟩
  have hA : ∀ q : Nat, s.heap.size ≤ q → rF kA h ad M s.heap.size q := fun q z => Or.inr z
  generalize rF kA h ad M s.heap.size = A at hH hA ⊢
  have hl := lv_entry ([.ref h, .int a1, .int a2]) (n := 4) (Nat.le_of_ble_eq_true rfl)
  rw [lg_entry_eq]
  generalize (lg_sl ([.ref h, .int a1, .int a2]) ++ List.replicate (4 - (lg_sl ([.ref h, .int a1, .int a2])).length) Slot.unset).toArray = ls at hl ⊢
  generalize ([.ref h, .int a1, .int a2] : List Value).toArray = args at hts ⊢
  have hl : lv_has ls 4 [(0, .ref h), (1, .int a1), (2, .int a2)] := hl
  have hin : ∀ w ∈ wsX110, w ∈ wsX11_put := by decide +kernel
  have b42 : ∀ (M : RM) (H : Heap) (locs : List Loc) (ls : Array Slot), rH D kA h ad A s.heap M H locs → lv_has ls 4 [] → fm_put_b42 Q   M → W p l e (headSpec wsX11_put rmX11_put).room s m args below meth c H locs 0 0 (MQ below (va_Qv Q (rB D kA h ad A) A) args s 0 0 A) (F0 m 42 ls []) := by
    intro    M H locs ls hH hl hw
    unfold fm_put_b42 at hw
    exact r_retv hx hb hr hlocks hK hH hw dX11_put_42
  have b32 : ∀ (M : RM) (H : Heap) (locs : List Loc) (ls : Array Slot), rH D kA h ad A s.heap M H locs → lv_has ls 4 [(0, .ref h)] → fm_put_b32 Q   M → W p l e (headSpec wsX11_put rmX11_put).room s m args below meth c H locs 0 0 (MQ below (va_Qv Q (rB D kA h ad A) A) args s 0 0 A) (F0 m 32 ls []) := by
    intro    M H locs ls hH hl hw
    unfold fm_put_b32 at hw
    refine lv_aload_n hx hb dX11_put_32 rfl (lv_at hl 0 rfl) ?_
    refine lv_dup hx hb dX11_put_33 rfl ?_
    refine rg_2 hx hb hts hin hown hK hH (hts (.fieldLink RX11 81 "IdlCallerModel" "lineSize" "I") (by decide +kernel)) dX11_put_34 ?_
    refine lv_iconst (v := 1) hx hb dX11_put_37 (by decide) ?_
    refine lv_iadd hx hb dX11_put_38 ?_
    refine rp_2 hx hb hts hin hown hK hH (hts (.fieldLink RX11 81 "IdlCallerModel" "lineSize" "I") (by decide +kernel)) dX11_put_39 (fun M1 H locs eM1 hH => ?_)
    replace hw := hw M1 eM1
    exact b42    M1 H locs ls hH (lv_sub hl [] rfl) hw
  clear hP hD0
  unfold fm_put at hw
  have hst : ∀ (M : RM) (H : Heap) (locs : List Loc) (ls : Array Slot), rH D kA h ad A s.heap M H locs → lv_has ls 4 [(0, .ref h), (1, .int a1), (2, .int a2)] → (∀ x2 : Int32, x2 = (a1 >>> (a2 &&& 31)) &&& 255 → ((x2 ≤ 0 → fm_put_b42 Q   M) ∧ (¬ x2 ≤ 0 → ((100 ≤ (rI M 2) → fm_put_b32 Q   M) ∧ (¬ 100 ≤ (rI M 2) → (vp_in (rI M 2) 100 ∧ (∀ M6 : RM, M6 = wA M 1 (rI M 2).toNatClampNeg (vp_nar .char ((x2.toUInt32 % 65536).toInt32)) → fm_put_b32 Q   M6))))))) → W p l e (headSpec wsX11_put rmX11_put).room s m args below meth c H locs 0 0 (MQ below (va_Qv Q (rB D kA h ad A) A) args s 0 0 A) (F0 m 0 ls []) := by
    intro M H locs ls hH hl hw
    refine lv_iload_n hx hb dX11_put_0 rfl (lv_at hl 1 rfl) ?_
    refine lv_iload_n hx hb dX11_put_1 rfl (lv_at hl 2 rfl) ?_
    refine lv_ishr hx hb dX11_put_2 ?_
    refine lv_sipush (v := 255) hx hb dX11_put_3 (by decide) ?_
    refine lv_iand hx hb dX11_put_6 ?_
    refine lv_topi (fun x2 ex2 => ?_)
    replace hw := hw x2 ex2
    refine lv_istore_n (lv' := [(3, .int x2), (0, .ref h), (1, .int a1), (2, .int a2)]) hx hb dX11_put_7 rfl hl (by decide) rfl (fun ls hl => ?_)
    refine lv_iload_n hx hb dX11_put_8 rfl (lv_at hl 0 rfl) ?_
    refine lv_if_le (tgt := 42) hx hb dX11_put_9 (by decide) (fun c3 => ?_) (fun c3 => ?_)
    · replace hw := hw.1 c3
      exact b42    M H locs ls hH (lv_sub hl [] rfl) hw
    · replace hw := hw.2 c3
      refine lv_aload_n hx hb dX11_put_12 rfl (lv_at hl 1 rfl) ?_
      refine rg_2 hx hb hts hin hown hK hH (hts (.fieldLink RX11 81 "IdlCallerModel" "lineSize" "I") (by decide +kernel)) dX11_put_13 ?_
      refine lv_bipush (v := 100) hx hb dX11_put_16 (by decide) ?_
      refine lv_icmp_ge (tgt := 32) hx hb dX11_put_18 (by decide) (fun c4 => ?_) (fun c4 => ?_)
      · replace hw := hw.1 c4
        exact b32    M H locs ls hH (lv_sub hl [1] rfl) hw
      · replace hw := hw.2 c4
        refine lv_aload_n hx hb dX11_put_21 rfl (lv_at hl 1 rfl) ?_
        refine rg_1 hx hb hts hin hown hK hH (hts (.fieldLink RX11 7 "IdlCallerModel" "line" "[C") (by decide +kernel)) dX11_put_22 ?_
        refine lv_aload_n hx hb dX11_put_25 rfl (lv_at hl 1 rfl) ?_
        refine rg_2 hx hb hts hin hown hK hH (hts (.fieldLink RX11 81 "IdlCallerModel" "lineSize" "I") (by decide +kernel)) dX11_put_26 ?_
        refine lv_iload_n hx hb dX11_put_29 rfl (lv_at hl 0 rfl) ?_
        refine lv_i2c hx hb dX11_put_30 rfl ?_
        obtain ⟨h5, hw⟩ := hw
        refine rs_1 hx hb hK hH h5 dX11_put_31 (fun M6 H locs eM6 hH => ?_)
        replace hw := hw M6 eM6
        exact b32    M6 H locs ls hH (lv_sub hl [1] rfl) hw
  exact hst M s.heap [] ls hH hl hw
def fm_type_b107 (Q : Int32 → RM → Prop) (v6 : Int32) (s0 : Int32) (M : RM) : Prop := fm_refused s0 M (fun (r2 : Int32) (M1 : RM) => ((r2 = 0 → Q (rI M1 2) M1) ∧ (¬ r2 = 0 → (∀ M4 : RM, M4 = wI M1 2 v6 → Q 0 M4))))
def fm_type_c63 (Q : Int32 → RM → Prop) (k9 : Int32 → Int32 → Int32 → Int32 → Int32 → Int32 → Int32 → RM → Prop) (k63 : Int32 → Int32 → Int32 → Int32 → Int32 → Int32 → Int32 → Int32 → Int32 → RM → Prop) (v1 : Int32) (v2 : Int32) (v3 : Int32) (v4 : Int32) (v5 : Int32) (v6 : Int32) (v7 : Int32) (v8 : Int32) (v9 : Int32) (M : RM) : Prop := ((v9 < 0 → (∀ x6 : Int32, x6 = v7 + 1 → k9 v1 v2 v3 v4 v5 v6 x6 M)) ∧ (¬ v9 < 0 → fm_put v8 v9 M (fun (M7 : RM) => (∀ x9 : Int32, x9 = v9 - 8 → k63 v1 v2 v3 v4 v5 v6 v7 v8 x9 M7))))
def fm_type_l63 (Q : Int32 → RM → Prop) (k9 : Int32 → Int32 → Int32 → Int32 → Int32 → Int32 → Int32 → RM → Prop) : Nat → Int32 → Int32 → Int32 → Int32 → Int32 → Int32 → Int32 → Int32 → Int32 → RM → Prop := lit (τ := Int32 → Int32 → Int32 → Int32 → Int32 → Int32 → Int32 → Int32 → Int32 → RM → Prop) (fun _ _ _ _ _ _ _ _ _ _ => False) (fun k => fm_type_c63 Q k9 k)
def fm_type_b57 (Q : Int32 → RM → Prop) (k9 : Int32 → Int32 → Int32 → Int32 → Int32 → Int32 → Int32 → RM → Prop) (v1 : Int32) (v2 : Int32) (v3 : Int32) (v4 : Int32) (v5 : Int32) (v6 : Int32) (v7 : Int32) (s0 : Int32) (M : RM) : Prop := (∃ nn : Nat, fm_type_l63 Q k9 nn v1 v2 v3 v4 v5 v6 v7 s0 24 M)
def fm_type_c9 (Q : Int32 → RM → Prop) (k9 : Int32 → Int32 → Int32 → Int32 → Int32 → Int32 → Int32 → RM → Prop) (v1 : Int32) (v2 : Int32) (v3 : Int32) (v4 : Int32) (v5 : Int32) (v6 : Int32) (v7 : Int32) (M : RM) : Prop := ((5 ≤ v7 → (((rI M 2) ≤ 100 → fm_type_b107 Q  v6 0 M) ∧ (¬ (rI M 2) ≤ 100 → fm_type_b107 Q  v6 1 M))) ∧ (¬ 5 ≤ v7 → ((¬ v7 = 0 → ((¬ v7 = 1 → ((¬ v7 = 2 → ((¬ v7 = 3 → fm_type_b57 Q k9 v1 v2 v3 v4 v5 v6 v7 v5 M) ∧ (v7 = 3 → fm_type_b57 Q k9 v1 v2 v3 v4 v5 v6 v7 v4 M))) ∧ (v7 = 2 → fm_type_b57 Q k9 v1 v2 v3 v4 v5 v6 v7 v3 M))) ∧ (v7 = 1 → fm_type_b57 Q k9 v1 v2 v3 v4 v5 v6 v7 v2 M))) ∧ (v7 = 0 → fm_type_b57 Q k9 v1 v2 v3 v4 v5 v6 v7 v1 M))))
def fm_type_l9 (Q : Int32 → RM → Prop) : Nat → Int32 → Int32 → Int32 → Int32 → Int32 → Int32 → Int32 → RM → Prop := lit (τ := Int32 → Int32 → Int32 → Int32 → Int32 → Int32 → Int32 → RM → Prop) (fun _ _ _ _ _ _ _ _ => False) (fun k => fm_type_c9 Q  k)
def fm_type (a1 : Int32) (a2 : Int32) (a3 : Int32) (a4 : Int32) (a5 : Int32) (M : RM) (Q : Int32 → RM → Prop) : Prop := (∀ x16 : Int32, x16 = rI M 2 → (∃ nn : Nat, fm_type_l9 Q  nn a1 a2 a3 a4 a5 x16 0 M))
abbrev rmX11_type : Room := { frames := 1, cells := 0, slots := 0, locals := 23 }
set_option maxHeartbeats 4000000 in
set_option maxRecDepth 100000 in
theorem tm_type (l : Launch) (D : va_G) (kA : Nat → ClassId) (h : Nat) (ad : Nat → Nat) (sz : Nat) (M : RM) (a1 : Int32) (a2 : Int32) (a3 : Int32) (a4 : Int32) (a5 : Int32) (Q : Int32 → RM → Prop) (hw : fm_type a1 a2 a3 a4 a5 M Q) : Met l yX11_type wsX11_type rmX11_type (va_Pc [.ref h, .int a1, .int a2, .int a3, .int a4, .int a5] (rPc D kA h ad M sz)) (va_Qi Q (rB D kA h ad (rF kA h ad M sz)) (rF kA h ad M sz)) 0 0 (rF kA h ad M sz) := by
  refine Met.ofW (cc := cX11_type) (maxL := 10) (ret := (some .int)) (by decide) rfl ?_
  intro p e s m args below meth c s₁ B hml hv
  obtain ⟨rfl, hsz, hP, hK, hD0⟩ := hv
  have hx := B.exec
  have hb := B.bytes
  have hr := B.returns
  have hts := atoms_spec (ws := wsX11_type) B.pre
  have hown : s.vm.findClass RX11 = some m.cls := findClass_of_methodNamed B.named
  have hlocks : meth.locks = false := B.notSynchronized
  subst hsz
  have hH : rH D kA h ad (rF kA h ad M s.heap.size) s.heap M s.heap [] := ⟨hP, hD0.self, va_S.rf⟩
  have hA : ∀ q : Nat, s.heap.size ≤ q → rF kA h ad M s.heap.size q := fun q z => Or.inr z
  generalize rF kA h ad M s.heap.size = A at hH hA ⊢
  have hl := lv_entry ([.ref h, .int a1, .int a2, .int a3, .int a4, .int a5]) (n := 10) (Nat.le_of_ble_eq_true rfl)
  rw [lg_entry_eq]
  generalize (lg_sl ([.ref h, .int a1, .int a2, .int a3, .int a4, .int a5]) ++ List.replicate (10 - (lg_sl ([.ref h, .int a1, .int a2, .int a3, .int a4, .int a5])).length) Slot.unset).toArray = ls at hl ⊢
  generalize ([.ref h, .int a1, .int a2, .int a3, .int a4, .int a5] : List Value).toArray = args at hts ⊢
  have hl : lv_has ls 10 [(0, .ref h), (1, .int a1), (2, .int a2), (3, .int a3), (4, .int a4), (5, .int a5)] := hl
  have hin : ∀ w ∈ wsX110, w ∈ wsX11_type := by decide +kernel
  have b107 : ∀ (v6 : Int32) (s0 : Int32) (M : RM) (H : Heap) (locs : List Loc) (ls : Array Slot), rH D kA h ad A s.heap M H locs → lv_has ls 10 [(0, .ref h), (6, .int v6)] → fm_type_b107 Q  v6 s0 M → W p l e (headSpec wsX11_type rmX11_type).room s m args below meth c H locs 0 0 (MQ below (va_Qi Q (rB D kA h ad A) A) args s 0 0 A) (F0 m 107 ls [.int s0, .ref h]) := by
    intro   v6 s0 M H locs ls hH hl hw
    unfold fm_type_b107 at hw
    refine r_calli (va_runV (As := [.int s0]) (rest := []) ⟨hx, hb, hml, hown, hts⟩ (tm_refused l D kA h ad H.size M s0 _ hw) (cwV 1 hts gX11_type_X11_refused rfl rfl rfl (by decide +kernel) ⟨Nat.le_of_ble_eq_true rfl, Nat.le_of_ble_eq_true rfl⟩) (r_preV hK hH) rfl rfl hl.1 rfl (lv_room (Nat.le_of_ble_eq_true rfl)) dX11_type_107 ⟨Nat.le_of_ble_eq_true rfl, Nat.le_of_ble_eq_true rfl⟩) hH hA (fun r2 M1 H locs hw hH => ?_)
    refine lv_if_eq (tgt := 121) hx hb dX11_type_110 (by decide) (fun c3 => ?_) (fun c3 => ?_)
    · replace hw := hw.1 c3
      refine lv_aload_n hx hb dX11_type_121 rfl (lv_at hl 0 rfl) ?_
      refine rg_2 hx hb hts hin hown hK hH (hts (.fieldLink RX11 81 "IdlCallerModel" "lineSize" "I") (by decide +kernel)) dX11_type_122 ?_
      exact r_reti hx hb hr hlocks hK hH hw dX11_type_125
    · replace hw := hw.2 c3
      refine lv_aload_n hx hb dX11_type_113 rfl (lv_at hl 0 rfl) ?_
      refine lv_iload hx hb dX11_type_114 (lv_at hl 1 rfl) ?_
      refine rp_2 hx hb hts hin hown hK hH (hts (.fieldLink RX11 81 "IdlCallerModel" "lineSize" "I") (by decide +kernel)) dX11_type_116 (fun M4 H locs eM4 hH => ?_)
      replace hw := hw M4 eM4
      refine lv_iconst (v := 0) hx hb dX11_type_119 (by decide) ?_
      exact r_reti hx hb hr hlocks hK hH hw dX11_type_120
  have l63 : ∀ (k9 : Int32 → Int32 → Int32 → Int32 → Int32 → Int32 → Int32 → RM → Prop) (hk9 : ∀ (v1 : Int32) (v2 : Int32) (v3 : Int32) (v4 : Int32) (v5 : Int32) (v6 : Int32) (v7 : Int32) (M : RM) (H : Heap) (locs : List Loc) (ls : Array Slot), rH D kA h ad A s.heap M H locs → lv_has ls 10 [(0, .ref h), (1, .int v1), (2, .int v2), (3, .int v3), (4, .int v4), (5, .int v5), (6, .int v6), (7, .int v7)] → k9 v1 v2 v3 v4 v5 v6 v7 M → W p l e (headSpec wsX11_type rmX11_type).room s m args below meth c H locs 0 0 (MQ below (va_Qi Q (rB D kA h ad A) A) args s 0 0 A) (F0 m 9 ls [])) (nn : Nat) (v1 : Int32) (v2 : Int32) (v3 : Int32) (v4 : Int32) (v5 : Int32) (v6 : Int32) (v7 : Int32) (v8 : Int32) (v9 : Int32) (M : RM) (H : Heap) (locs : List Loc) (ls : Array Slot), rH D kA h ad A s.heap M H locs → lv_has ls 10 [(0, .ref h), (1, .int v1), (2, .int v2), (3, .int v3), (4, .int v4), (5, .int v5), (6, .int v6), (7, .int v7), (8, .int v8), (9, .int v9)] → fm_type_l63 Q k9 nn v1 v2 v3 v4 v5 v6 v7 v8 v9 M → W p l e (headSpec wsX11_type rmX11_type).room s m args below meth c H locs 0 0 (MQ below (va_Qi Q (rB D kA h ad A) A) args s 0 0 A) (F0 m 63 ls []) := by
    intro k9 hk9 nn
    induction nn with
    | zero => intro v1 v2 v3 v4 v5 v6 v7 v8 v9 M H locs ls hH hl hw; exact False.elim hw
    | succ nn hk63 =>
      intro v1 v2 v3 v4 v5 v6 v7 v8 v9 M H locs ls hH hl hw
      replace hw : fm_type_c63 Q k9 (fm_type_l63 Q k9 nn) v1 v2 v3 v4 v5 v6 v7 v8 v9 M := hw
      unfold fm_type_c63 at hw
      refine lv_iload hx hb dX11_type_63 (lv_at hl 9 rfl) ?_
      refine lv_if_lt (tgt := 86) hx hb dX11_type_65 (by decide) (fun c5 => ?_) (fun c5 => ?_)
      · replace hw := hw.1 c5
        obtain ⟨x6, ex6⟩ : ∃ y : Int32, y = v7 + 1 := ⟨_, rfl⟩
        replace hw := hw x6 ex6
        refine lv_iinc (v := x6) (lv' := [(7, .int x6), (0, .ref h), (1, .int v1), (2, .int v2), (3, .int v3), (4, .int v4), (5, .int v5), (6, .int v6), (8, .int v8), (9, .int v9)]) hx hb dX11_type_86 hl (k := 7) rfl (by rw [ex6]; rfl) (by decide) rfl (fun ls hl => ?_)
        refine lv_goto (tgt := 9) hx hb dX11_type_89 (by decide) ?_
        exact hk9 v1 v2 v3 v4 v5 v6 x6 M H locs ls hH (lv_sub hl [1, 2, 3, 4, 5, 6, 7, 0] rfl) hw
      · replace hw := hw.2 c5
        refine lv_aload_n hx hb dX11_type_68 rfl (lv_at hl 0 rfl) ?_
        refine lv_iload hx hb dX11_type_69 (lv_at hl 8 rfl) ?_
        refine lv_iload hx hb dX11_type_71 (lv_at hl 9 rfl) ?_
        refine r_callv (va_runV (As := [.int v8, .int v9]) (rest := []) ⟨hx, hb, hml, hown, hts⟩ (tm_put l D kA h ad H.size M v8 v9 _ hw) (cwV 2 hts gX11_type_X11_put rfl rfl rfl (by decide +kernel) ⟨Nat.le_of_ble_eq_true rfl, Nat.le_of_ble_eq_true rfl⟩) (r_preV hK hH) rfl rfl hl.1 rfl (lv_room (Nat.le_of_ble_eq_true rfl)) dX11_type_73 ⟨Nat.le_of_ble_eq_true rfl, Nat.le_of_ble_eq_true rfl⟩) hH hA (fun M7 H locs hw hH => ?_)
        refine lv_iload hx hb dX11_type_76 (lv_at hl 9 rfl) ?_
        refine lv_bipush (v := 8) hx hb dX11_type_78 (by decide) ?_
        refine lv_isub hx hb dX11_type_80 ?_
        refine lv_topi (fun x9 ex9 => ?_)
        replace hw := hw x9 ex9
        refine lv_istore (lv' := [(9, .int x9), (0, .ref h), (1, .int v1), (2, .int v2), (3, .int v3), (4, .int v4), (5, .int v5), (6, .int v6), (7, .int v7), (8, .int v8)]) hx hb dX11_type_81 hl (by decide) rfl (fun ls hl => ?_)
        refine lv_goto (tgt := 63) hx hb dX11_type_83 (by decide) ?_
        exact hk63 v1 v2 v3 v4 v5 v6 v7 v8 x9 M7 H locs ls hH (lv_sub hl [1, 2, 3, 4, 5, 6, 7, 8, 9, 0] rfl) hw
  have b57 : ∀ (k9 : Int32 → Int32 → Int32 → Int32 → Int32 → Int32 → Int32 → RM → Prop) (hk9 : ∀ (v1 : Int32) (v2 : Int32) (v3 : Int32) (v4 : Int32) (v5 : Int32) (v6 : Int32) (v7 : Int32) (M : RM) (H : Heap) (locs : List Loc) (ls : Array Slot), rH D kA h ad A s.heap M H locs → lv_has ls 10 [(0, .ref h), (1, .int v1), (2, .int v2), (3, .int v3), (4, .int v4), (5, .int v5), (6, .int v6), (7, .int v7)] → k9 v1 v2 v3 v4 v5 v6 v7 M → W p l e (headSpec wsX11_type rmX11_type).room s m args below meth c H locs 0 0 (MQ below (va_Qi Q (rB D kA h ad A) A) args s 0 0 A) (F0 m 9 ls [])) (v1 : Int32) (v2 : Int32) (v3 : Int32) (v4 : Int32) (v5 : Int32) (v6 : Int32) (v7 : Int32) (s0 : Int32) (M : RM) (H : Heap) (locs : List Loc) (ls : Array Slot), rH D kA h ad A s.heap M H locs → lv_has ls 10 [(0, .ref h), (1, .int v1), (2, .int v2), (3, .int v3), (4, .int v4), (5, .int v5), (6, .int v6), (7, .int v7)] → fm_type_b57 Q k9 v1 v2 v3 v4 v5 v6 v7 s0 M → W p l e (headSpec wsX11_type rmX11_type).room s m args below meth c H locs 0 0 (MQ below (va_Qi Q (rB D kA h ad A) A) args s 0 0 A) (F0 m 57 ls [.int s0]) := by
    intro k9 hk9 v1 v2 v3 v4 v5 v6 v7 s0 M H locs ls hH hl hw
    unfold fm_type_b57 at hw
    refine lv_istore (lv' := [(8, .int s0), (0, .ref h), (1, .int v1), (2, .int v2), (3, .int v3), (4, .int v4), (5, .int v5), (6, .int v6), (7, .int v7)]) hx hb dX11_type_57 hl (by decide) rfl (fun ls hl => ?_)
    refine lv_bipush (v := 24) hx hb dX11_type_59 (by decide) ?_
    refine lv_istore (lv' := [(9, .int 24), (8, .int s0), (0, .ref h), (1, .int v1), (2, .int v2), (3, .int v3), (4, .int v4), (5, .int v5), (6, .int v6), (7, .int v7)]) hx hb dX11_type_61 hl (by decide) rfl (fun ls hl => ?_)
    obtain ⟨nn, hw⟩ := hw
    exact l63 _ hk9 nn v1 v2 v3 v4 v5 v6 v7 s0 24 M H locs ls hH (lv_sub hl [2, 3, 4, 5, 6, 7, 8, 9, 1, 0] rfl) hw
  have l9 : ∀ (nn : Nat) (v1 : Int32) (v2 : Int32) (v3 : Int32) (v4 : Int32) (v5 : Int32) (v6 : Int32) (v7 : Int32) (M : RM) (H : Heap) (locs : List Loc) (ls : Array Slot), rH D kA h ad A s.heap M H locs → lv_has ls 10 [(0, .ref h), (1, .int v1), (2, .int v2), (3, .int v3), (4, .int v4), (5, .int v5), (6, .int v6), (7, .int v7)] → fm_type_l9 Q  nn v1 v2 v3 v4 v5 v6 v7 M → W p l e (headSpec wsX11_type rmX11_type).room s m args below meth c H locs 0 0 (MQ below (va_Qi Q (rB D kA h ad A) A) args s 0 0 A) (F0 m 9 ls []) := by
    intro   nn
    induction nn with
    | zero => intro v1 v2 v3 v4 v5 v6 v7 M H locs ls hH hl hw; exact False.elim hw
    | succ nn hk9 =>
      intro v1 v2 v3 v4 v5 v6 v7 M H locs ls hH hl hw
      replace hw : fm_type_c9 Q  (fm_type_l9 Q  nn) v1 v2 v3 v4 v5 v6 v7 M := hw
      unfold fm_type_c9 at hw
      refine lv_iload hx hb dX11_type_9 (lv_at hl 7 rfl) ?_
      refine lv_iconst (v := 5) hx hb dX11_type_11 (by decide) ?_
      refine lv_icmp_ge (tgt := 92) hx hb dX11_type_12 (by decide) (fun c10 => ?_) (fun c10 => ?_)
      · replace hw := hw.1 c10
        refine lv_aload_n hx hb dX11_type_92 rfl (lv_at hl 0 rfl) ?_
        refine lv_aload_n hx hb dX11_type_93 rfl (lv_at hl 0 rfl) ?_
        refine rg_2 hx hb hts hin hown hK hH (hts (.fieldLink RX11 81 "IdlCallerModel" "lineSize" "I") (by decide +kernel)) dX11_type_94 ?_
        refine lv_bipush (v := 100) hx hb dX11_type_97 (by decide) ?_
        refine lv_icmp_le (tgt := 106) hx hb dX11_type_99 (by decide) (fun c11 => ?_) (fun c11 => ?_)
        · replace hw := hw.1 c11
          refine lv_iconst (v := 0) hx hb dX11_type_106 (by decide) ?_
          exact b107   v6 0 M H locs ls hH (lv_sub hl [0, 6] rfl) hw
        · replace hw := hw.2 c11
          refine lv_iconst (v := 1) hx hb dX11_type_102 (by decide) ?_
          refine lv_goto (tgt := 107) hx hb dX11_type_103 (by decide) ?_
          exact b107   v6 1 M H locs ls hH (lv_sub hl [0, 6] rfl) hw
      · replace hw := hw.2 c10
        refine lv_iload hx hb dX11_type_15 (lv_at hl 7 rfl) ?_
        refine lv_if_ne (tgt := 24) hx hb dX11_type_17 (by decide) (fun c12 => ?_) (fun c12 => ?_)
        · replace hw := hw.1 c12
          refine lv_iload hx hb dX11_type_24 (lv_at hl 7 rfl) ?_
          refine lv_iconst (v := 1) hx hb dX11_type_26 (by decide) ?_
          refine lv_icmp_ne (tgt := 34) hx hb dX11_type_27 (by decide) (fun c13 => ?_) (fun c13 => ?_)
          · replace hw := hw.1 c13
            refine lv_iload hx hb dX11_type_34 (lv_at hl 7 rfl) ?_
            refine lv_iconst (v := 2) hx hb dX11_type_36 (by decide) ?_
            refine lv_icmp_ne (tgt := 44) hx hb dX11_type_37 (by decide) (fun c14 => ?_) (fun c14 => ?_)
            · replace hw := hw.1 c14
              refine lv_iload hx hb dX11_type_44 (lv_at hl 7 rfl) ?_
              refine lv_iconst (v := 3) hx hb dX11_type_46 (by decide) ?_
              refine lv_icmp_ne (tgt := 55) hx hb dX11_type_47 (by decide) (fun c15 => ?_) (fun c15 => ?_)
              · replace hw := hw.1 c15
                refine lv_iload hx hb dX11_type_55 (lv_at hl 5 rfl) ?_
                exact b57 _ hk9 v1 v2 v3 v4 v5 v6 v7 v5 M H locs ls hH (lv_sub hl [0, 1, 2, 3, 4, 5, 6, 7] rfl) hw
              · replace hw := hw.2 c15
                refine lv_iload hx hb dX11_type_50 (lv_at hl 4 rfl) ?_
                refine lv_goto (tgt := 57) hx hb dX11_type_52 (by decide) ?_
                exact b57 _ hk9 v1 v2 v3 v4 v5 v6 v7 v4 M H locs ls hH (lv_sub hl [0, 1, 2, 3, 4, 5, 6, 7] rfl) hw
            · replace hw := hw.2 c14
              refine lv_iload_n hx hb dX11_type_40 rfl (lv_at hl 3 rfl) ?_
              refine lv_goto (tgt := 57) hx hb dX11_type_41 (by decide) ?_
              exact b57 _ hk9 v1 v2 v3 v4 v5 v6 v7 v3 M H locs ls hH (lv_sub hl [0, 1, 2, 3, 4, 5, 6, 7] rfl) hw
          · replace hw := hw.2 c13
            refine lv_iload_n hx hb dX11_type_30 rfl (lv_at hl 2 rfl) ?_
            refine lv_goto (tgt := 57) hx hb dX11_type_31 (by decide) ?_
            exact b57 _ hk9 v1 v2 v3 v4 v5 v6 v7 v2 M H locs ls hH (lv_sub hl [0, 1, 2, 3, 4, 5, 6, 7] rfl) hw
        · replace hw := hw.2 c12
          refine lv_iload_n hx hb dX11_type_20 rfl (lv_at hl 1 rfl) ?_
          refine lv_goto (tgt := 57) hx hb dX11_type_21 (by decide) ?_
          exact b57 _ hk9 v1 v2 v3 v4 v5 v6 v7 v1 M H locs ls hH (lv_sub hl [0, 1, 2, 3, 4, 5, 6, 7] rfl) hw
  clear hP hD0
  unfold fm_type at hw
  have hst : ∀ (M : RM) (H : Heap) (locs : List Loc) (ls : Array Slot), rH D kA h ad A s.heap M H locs → lv_has ls 10 [(0, .ref h), (1, .int a1), (2, .int a2), (3, .int a3), (4, .int a4), (5, .int a5)] → (∀ x16 : Int32, x16 = rI M 2 → (∃ nn : Nat, fm_type_l9 Q  nn a1 a2 a3 a4 a5 x16 0 M)) → W p l e (headSpec wsX11_type rmX11_type).room s m args below meth c H locs 0 0 (MQ below (va_Qi Q (rB D kA h ad A) A) args s 0 0 A) (F0 m 0 ls []) := by
    intro M H locs ls hH hl hw
    refine lv_aload_n hx hb dX11_type_0 rfl (lv_at hl 0 rfl) ?_
    refine rg_2 hx hb hts hin hown hK hH (hts (.fieldLink RX11 81 "IdlCallerModel" "lineSize" "I") (by decide +kernel)) dX11_type_1 ?_
    refine lv_topi (fun x16 ex16 => ?_)
    replace hw := hw x16 ex16
    refine lv_istore (lv' := [(6, .int x16), (0, .ref h), (1, .int a1), (2, .int a2), (3, .int a3), (4, .int a4), (5, .int a5)]) hx hb dX11_type_4 hl (by decide) rfl (fun ls hl => ?_)
    refine lv_iconst (v := 0) hx hb dX11_type_6 (by decide) ?_
    refine lv_istore (lv' := [(7, .int 0), (6, .int x16), (0, .ref h), (1, .int a1), (2, .int a2), (3, .int a3), (4, .int a4), (5, .int a5)]) hx hb dX11_type_7 hl (by decide) rfl (fun ls hl => ?_)
    obtain ⟨nn, hw⟩ := hw
    exact l9   nn a1 a2 a3 a4 a5 x16 0 M H locs ls hH (lv_sub hl [2, 3, 4, 5, 6, 7, 1, 0] rfl) hw
  exact hst M s.heap [] ls hH hl hw
def fm_erase (M : RM) (Q : Int32 → RM → Prop) : Prop := (∀ M1 : RM, M1 = wI M 0 0 → (∀ x2 : Int32, x2 = rI M1 2 → (∀ M3 : RM, M3 = wI M1 2 0 → Q x2 M3)))
abbrev rmX11_erase : Room := { frames := 0, cells := 0, slots := 0, locals := 0 }
set_option maxHeartbeats 4000000 in
set_option maxRecDepth 100000 in
theorem tm_erase (l : Launch) (D : va_G) (kA : Nat → ClassId) (h : Nat) (ad : Nat → Nat) (sz : Nat) (M : RM) (Q : Int32 → RM → Prop) (hw : fm_erase  M Q) : Met l yX11_erase wsX11_erase rmX11_erase (va_Pc [.ref h] (rPc D kA h ad M sz)) (va_Qi Q (rB D kA h ad (rF kA h ad M sz)) (rF kA h ad M sz)) 0 0 (rF kA h ad M sz) := by
  refine Met.ofW (cc := cX11_erase) (maxL := 2) (ret := (some .int)) (by decide) rfl ?_
  intro p e s m args below meth c s₁ B hml hv
  obtain ⟨rfl, hsz, hP, hK, hD0⟩ := hv
  have hx := B.exec
  have hb := B.bytes
  have hr := B.returns
  have hts := atoms_spec (ws := wsX11_erase) B.pre
  have hown : s.vm.findClass RX11 = some m.cls := findClass_of_methodNamed B.named
  have hlocks : meth.locks = false := B.notSynchronized
  subst hsz
  have hH : rH D kA h ad (rF kA h ad M s.heap.size) s.heap M s.heap [] := ⟨hP, hD0.self, va_S.rf⟩
  have hA : ∀ q : Nat, s.heap.size ≤ q → rF kA h ad M s.heap.size q := fun q z => Or.inr z
  generalize rF kA h ad M s.heap.size = A at hH hA ⊢
  have hl := lv_entry ([.ref h]) (n := 2) (Nat.le_of_ble_eq_true rfl)
  rw [lg_entry_eq]
  generalize (lg_sl ([.ref h]) ++ List.replicate (2 - (lg_sl ([.ref h])).length) Slot.unset).toArray = ls at hl ⊢
  generalize ([.ref h] : List Value).toArray = args at hts ⊢
  have hl : lv_has ls 2 [(0, .ref h)] := hl
  have hin : ∀ w ∈ wsX110, w ∈ wsX11_erase := by decide +kernel
  clear hP hD0
  unfold fm_erase at hw
  have hst : ∀ (M : RM) (H : Heap) (locs : List Loc) (ls : Array Slot), rH D kA h ad A s.heap M H locs → lv_has ls 2 [(0, .ref h)] → (∀ M1 : RM, M1 = wI M 0 0 → (∀ x2 : Int32, x2 = rI M1 2 → (∀ M3 : RM, M3 = wI M1 2 0 → Q x2 M3))) → W p l e (headSpec wsX11_erase rmX11_erase).room s m args below meth c H locs 0 0 (MQ below (va_Qi Q (rB D kA h ad A) A) args s 0 0 A) (F0 m 0 ls []) := by
    intro M H locs ls hH hl hw
    refine lv_aload_n hx hb dX11_erase_0 rfl (lv_at hl 0 rfl) ?_
    refine lv_iconst (v := 0) hx hb dX11_erase_1 (by decide) ?_
    refine rp_0 hx hb hts hin hown hK hH (hts (.fieldLink RX11 78 "IdlCallerModel" "refusal" "I") (by decide +kernel)) dX11_erase_2 (fun M1 H locs eM1 hH => ?_)
    replace hw := hw M1 eM1
    refine lv_aload_n hx hb dX11_erase_5 rfl (lv_at hl 0 rfl) ?_
    refine rg_2 hx hb hts hin hown hK hH (hts (.fieldLink RX11 81 "IdlCallerModel" "lineSize" "I") (by decide +kernel)) dX11_erase_6 ?_
    refine lv_topi (fun x2 ex2 => ?_)
    replace hw := hw x2 ex2
    refine lv_istore_n (lv' := [(1, .int x2), (0, .ref h)]) hx hb dX11_erase_9 rfl hl (by decide) rfl (fun ls hl => ?_)
    refine lv_aload_n hx hb dX11_erase_10 rfl (lv_at hl 1 rfl) ?_
    refine lv_iconst (v := 0) hx hb dX11_erase_11 (by decide) ?_
    refine rp_2 hx hb hts hin hown hK hH (hts (.fieldLink RX11 81 "IdlCallerModel" "lineSize" "I") (by decide +kernel)) dX11_erase_12 (fun M3 H locs eM3 hH => ?_)
    replace hw := hw M3 eM3
    refine lv_iload_n hx hb dX11_erase_15 rfl (lv_at hl 0 rfl) ?_
    exact r_reti hx hb hr hlocks hK hH hw dX11_erase_16
  exact hst M s.heap [] ls hH hl hw
def fm_next_b62 (Q : Int32 → RM → Prop) (s0 : Int32) (M : RM) : Prop := (nC s0 ∧ Q s0 M)
def fm_next_b38 (Q : Int32 → RM → Prop) (M : RM) : Prop := (((rI M 2) ≤ (rI M 26) → fm_next_b62 Q  0 M) ∧ (¬ (rI M 2) ≤ (rI M 26) → (vp_in (rI M 26) 100 ∧ fm_next_b62 Q  (rA M 1 (rI M 26).toNatClampNeg) M)))
def fm_next_c0 (Q : Int32 → RM → Prop) (k0 : RM → Prop) (M : RM) : Prop := (((rI M 2) ≤ (rI M 26) → fm_next_b38 Q   M) ∧ (¬ (rI M 2) ≤ (rI M 26) → (vp_in (rI M 26) 100 ∧ ((¬ (rA M 1 (rI M 26).toNatClampNeg) = 32 → fm_next_b38 Q   M) ∧ ((rA M 1 (rI M 26).toNatClampNeg) = 32 → (∀ M6 : RM, M6 = wI M 26 ((rI M 26) + 1) → k0  M6))))))
def fm_next_l0 (Q : Int32 → RM → Prop) : Nat → RM → Prop := lit (τ := RM → Prop) (fun  _ => False) (fun k => fm_next_c0 Q  k)
def fm_next (M : RM) (Q : Int32 → RM → Prop) : Prop := (∃ nn : Nat, fm_next_l0 Q  nn  M)
abbrev rmX11_next : Room := { frames := 0, cells := 0, slots := 0, locals := 0 }
set_option maxHeartbeats 4000000 in
set_option maxRecDepth 100000 in
theorem tm_next (l : Launch) (D : va_G) (kA : Nat → ClassId) (h : Nat) (ad : Nat → Nat) (sz : Nat) (M : RM) (Q : Int32 → RM → Prop) (hw : fm_next  M Q) : Met l yX11_next wsX11_next rmX11_next (va_Pc [.ref h] (rPc D kA h ad M sz)) (va_Qi Q (rB D kA h ad (rF kA h ad M sz)) (rF kA h ad M sz)) 0 0 (rF kA h ad M sz) := by
  refine Met.ofW (cc := cX11_next) (maxL := 1) (ret := (some .char)) (by decide) rfl ?_
  intro p e s m args below meth c s₁ B hml hv
  obtain ⟨rfl, hsz, hP, hK, hD0⟩ := hv
  have hx := B.exec
  have hb := B.bytes
  have hr := B.returns
  have hts := atoms_spec (ws := wsX11_next) B.pre
  have hown : s.vm.findClass RX11 = some m.cls := findClass_of_methodNamed B.named
  have hlocks : meth.locks = false := B.notSynchronized
  subst hsz
  have hH : rH D kA h ad (rF kA h ad M s.heap.size) s.heap M s.heap [] := ⟨hP, hD0.self, va_S.rf⟩
  have hA : ∀ q : Nat, s.heap.size ≤ q → rF kA h ad M s.heap.size q := fun q z => Or.inr z
  generalize rF kA h ad M s.heap.size = A at hH hA ⊢
  have hl := lv_entry ([.ref h]) (n := 1) (Nat.le_of_ble_eq_true rfl)
  rw [lg_entry_eq]
  generalize (lg_sl ([.ref h]) ++ List.replicate (1 - (lg_sl ([.ref h])).length) Slot.unset).toArray = ls at hl ⊢
  generalize ([.ref h] : List Value).toArray = args at hts ⊢
  have hl : lv_has ls 1 [(0, .ref h)] := hl
  have hin : ∀ w ∈ wsX110, w ∈ wsX11_next := by decide +kernel
  have b62 : ∀ (s0 : Int32) (M : RM) (H : Heap) (locs : List Loc) (ls : Array Slot), rH D kA h ad A s.heap M H locs → lv_has ls 1 [] → fm_next_b62 Q  s0 M → W p l e (headSpec wsX11_next rmX11_next).room s m args below meth c H locs 0 0 (MQ below (va_Qi Q (rB D kA h ad A) A) args s 0 0 A) (F0 m 62 ls [.int s0]) := by
    intro   s0 M H locs ls hH hl hw
    unfold fm_next_b62 at hw
    exact r_retz hx hb hr hw.1.1 hlocks hK hH hw.2 dX11_next_62
  have b38 : ∀ (M : RM) (H : Heap) (locs : List Loc) (ls : Array Slot), rH D kA h ad A s.heap M H locs → lv_has ls 1 [(0, .ref h)] → fm_next_b38 Q   M → W p l e (headSpec wsX11_next rmX11_next).room s m args below meth c H locs 0 0 (MQ below (va_Qi Q (rB D kA h ad A) A) args s 0 0 A) (F0 m 38 ls []) := by
    intro    M H locs ls hH hl hw
    unfold fm_next_b38 at hw
    refine lv_aload_n hx hb dX11_next_38 rfl (lv_at hl 0 rfl) ?_
    refine rg_26 hx hb hts hin hown hK hH (hts (.fieldLink RX11 92 "IdlCallerModel" "at" "I") (by decide +kernel)) dX11_next_39 ?_
    refine lv_aload_n hx hb dX11_next_42 rfl (lv_at hl 0 rfl) ?_
    refine rg_2 hx hb hts hin hown hK hH (hts (.fieldLink RX11 81 "IdlCallerModel" "lineSize" "I") (by decide +kernel)) dX11_next_43 ?_
    refine lv_icmp_ge (tgt := 61) hx hb dX11_next_46 (by decide) (fun c1 => ?_) (fun c1 => ?_)
    · replace hw := hw.1 c1
      refine lv_iconst (v := 0) hx hb dX11_next_61 (by decide) ?_
      exact b62   0 M H locs ls hH (lv_sub hl [] rfl) hw
    · replace hw := hw.2 c1
      refine lv_aload_n hx hb dX11_next_49 rfl (lv_at hl 0 rfl) ?_
      refine rg_1 hx hb hts hin hown hK hH (hts (.fieldLink RX11 7 "IdlCallerModel" "line" "[C") (by decide +kernel)) dX11_next_50 ?_
      refine lv_aload_n hx hb dX11_next_53 rfl (lv_at hl 0 rfl) ?_
      refine rg_26 hx hb hts hin hown hK hH (hts (.fieldLink RX11 92 "IdlCallerModel" "at" "I") (by decide +kernel)) dX11_next_54 ?_
      obtain ⟨h2, hw⟩ := hw
      refine rl_1 hx hb hK hH h2 dX11_next_57 ?_
      refine lv_goto (tgt := 62) hx hb dX11_next_58 (by decide) ?_
      exact b62   (rA M 1 (rI M 26).toNatClampNeg) M H locs ls hH (lv_sub hl [] rfl) hw
  have l0 : ∀ (nn : Nat) (M : RM) (H : Heap) (locs : List Loc) (ls : Array Slot), rH D kA h ad A s.heap M H locs → lv_has ls 1 [(0, .ref h)] → fm_next_l0 Q  nn  M → W p l e (headSpec wsX11_next rmX11_next).room s m args below meth c H locs 0 0 (MQ below (va_Qi Q (rB D kA h ad A) A) args s 0 0 A) (F0 m 0 ls []) := by
    intro   nn
    induction nn with
    | zero => intro  M H locs ls hH hl hw; exact False.elim hw
    | succ nn hk0 =>
      intro  M H locs ls hH hl hw
      replace hw : fm_next_c0 Q  (fm_next_l0 Q  nn)  M := hw
      unfold fm_next_c0 at hw
      refine lv_aload_n hx hb dX11_next_0 rfl (lv_at hl 0 rfl) ?_
      refine rg_26 hx hb hts hin hown hK hH (hts (.fieldLink RX11 92 "IdlCallerModel" "at" "I") (by decide +kernel)) dX11_next_1 ?_
      refine lv_aload_n hx hb dX11_next_4 rfl (lv_at hl 0 rfl) ?_
      refine rg_2 hx hb hts hin hown hK hH (hts (.fieldLink RX11 81 "IdlCallerModel" "lineSize" "I") (by decide +kernel)) dX11_next_5 ?_
      refine lv_icmp_ge (tgt := 38) hx hb dX11_next_8 (by decide) (fun c3 => ?_) (fun c3 => ?_)
      · replace hw := hw.1 c3
        exact b38    M H locs ls hH (lv_sub hl [0] rfl) hw
      · replace hw := hw.2 c3
        refine lv_aload_n hx hb dX11_next_11 rfl (lv_at hl 0 rfl) ?_
        refine rg_1 hx hb hts hin hown hK hH (hts (.fieldLink RX11 7 "IdlCallerModel" "line" "[C") (by decide +kernel)) dX11_next_12 ?_
        refine lv_aload_n hx hb dX11_next_15 rfl (lv_at hl 0 rfl) ?_
        refine rg_26 hx hb hts hin hown hK hH (hts (.fieldLink RX11 92 "IdlCallerModel" "at" "I") (by decide +kernel)) dX11_next_16 ?_
        obtain ⟨h4, hw⟩ := hw
        refine rl_1 hx hb hK hH h4 dX11_next_19 ?_
        refine lv_bipush (v := 32) hx hb dX11_next_20 (by decide) ?_
        refine lv_icmp_ne (tgt := 38) hx hb dX11_next_22 (by decide) (fun c5 => ?_) (fun c5 => ?_)
        · replace hw := hw.1 c5
          exact b38    M H locs ls hH (lv_sub hl [0] rfl) hw
        · replace hw := hw.2 c5
          refine lv_aload_n hx hb dX11_next_25 rfl (lv_at hl 0 rfl) ?_
          refine lv_dup hx hb dX11_next_26 rfl ?_
          refine rg_26 hx hb hts hin hown hK hH (hts (.fieldLink RX11 92 "IdlCallerModel" "at" "I") (by decide +kernel)) dX11_next_27 ?_
          refine lv_iconst (v := 1) hx hb dX11_next_30 (by decide) ?_
          refine lv_iadd hx hb dX11_next_31 ?_
          refine rp_26 hx hb hts hin hown hK hH (hts (.fieldLink RX11 92 "IdlCallerModel" "at" "I") (by decide +kernel)) dX11_next_32 (fun M6 H locs eM6 hH => ?_)
          replace hw := hw M6 eM6
          refine lv_goto (tgt := 0) hx hb dX11_next_35 (by decide) ?_
          exact hk0  M6 H locs ls hH (lv_sub hl [0] rfl) hw
  clear hP hD0
  unfold fm_next at hw
  have hst : ∀ (M : RM) (H : Heap) (locs : List Loc) (ls : Array Slot), rH D kA h ad A s.heap M H locs → lv_has ls 1 [(0, .ref h)] → (∃ nn : Nat, fm_next_l0 Q  nn  M) → W p l e (headSpec wsX11_next rmX11_next).room s m args below meth c H locs 0 0 (MQ below (va_Qi Q (rB D kA h ad A) A) args s 0 0 A) (F0 m 0 ls []) := by
    intro M H locs ls hH hl hw
    obtain ⟨nn, hw⟩ := hw
    exact l0   nn  M H locs ls hH (lv_sub hl [0] rfl) hw
  exact hst M s.heap [] ls hH hl hw
def fm_wrong_b12 (Q : RM → Prop) (M : RM) : Prop := (nZ (1 : Int32) ∧ (∀ M2 : RM, M2 = wI M 27 1 → Q M2))
def fm_wrong (a1 : Int32) (M : RM) (Q : RM → Prop) : Prop := ((¬ (rI M 27) = 0 → fm_wrong_b12 Q   M) ∧ ((rI M 27) = 0 → (∀ M4 : RM, M4 = wI M 3 a1 → fm_wrong_b12 Q   M4)))
abbrev rmX11_wrong : Room := { frames := 0, cells := 0, slots := 0, locals := 0 }
set_option maxHeartbeats 4000000 in
set_option maxRecDepth 100000 in
theorem tm_wrong (l : Launch) (D : va_G) (kA : Nat → ClassId) (h : Nat) (ad : Nat → Nat) (sz : Nat) (M : RM) (a1 : Int32) (Q : RM → Prop) (hw : fm_wrong a1 M Q) : Met l yX11_wrong wsX11_wrong rmX11_wrong (va_Pc [.ref h, .int a1] (rPc D kA h ad M sz)) (va_Qv Q (rB D kA h ad (rF kA h ad M sz)) (rF kA h ad M sz)) 0 0 (rF kA h ad M sz) := by
  refine Met.ofW (cc := cX11_wrong) (maxL := 2) (ret := none) (by decide) rfl ?_
  intro p e s m args below meth c s₁ B hml hv
  obtain ⟨rfl, hsz, hP, hK, hD0⟩ := hv
  have hx := B.exec
  have hb := B.bytes
  have hr := B.returns
  have hts := atoms_spec (ws := wsX11_wrong) B.pre
  have hown : s.vm.findClass RX11 = some m.cls := findClass_of_methodNamed B.named
  have hlocks : meth.locks = false := B.notSynchronized
  subst hsz
  have hH : rH D kA h ad (rF kA h ad M s.heap.size) s.heap M s.heap [] := ⟨hP, hD0.self, va_S.rf⟩
  have hA : ∀ q : Nat, s.heap.size ≤ q → rF kA h ad M s.heap.size q := fun q z => Or.inr z
  generalize rF kA h ad M s.heap.size = A at hH hA ⊢
  have hl := lv_entry ([.ref h, .int a1]) (n := 2) (Nat.le_of_ble_eq_true rfl)
  rw [lg_entry_eq]
  generalize (lg_sl ([.ref h, .int a1]) ++ List.replicate (2 - (lg_sl ([.ref h, .int a1])).length) Slot.unset).toArray = ls at hl ⊢
  generalize ([.ref h, .int a1] : List Value).toArray = args at hts ⊢
  have hl : lv_has ls 2 [(0, .ref h), (1, .int a1)] := hl
  have hin : ∀ w ∈ wsX110, w ∈ wsX11_wrong := by decide +kernel
  have b12 : ∀ (M : RM) (H : Heap) (locs : List Loc) (ls : Array Slot), rH D kA h ad A s.heap M H locs → lv_has ls 2 [(0, .ref h)] → fm_wrong_b12 Q   M → W p l e (headSpec wsX11_wrong rmX11_wrong).room s m args below meth c H locs 0 0 (MQ below (va_Qv Q (rB D kA h ad A) A) args s 0 0 A) (F0 m 12 ls []) := by
    intro    M H locs ls hH hl hw
    unfold fm_wrong_b12 at hw
    refine lv_aload_n hx hb dX11_wrong_12 rfl (lv_at hl 0 rfl) ?_
    refine lv_iconst (v := 1) hx hb dX11_wrong_13 (by decide) ?_
    obtain ⟨h1, hw⟩ := hw
    refine rp_27 hx hb hts hin hown hK hH (hts (.fieldLink RX11 95 "IdlCallerModel" "isWrong" "Z") (by decide +kernel)) h1 dX11_wrong_14 (fun M2 H locs eM2 hH => ?_)
    replace hw := hw M2 eM2
    exact r_retv hx hb hr hlocks hK hH hw dX11_wrong_17
  clear hP hD0
  unfold fm_wrong at hw
  have hst : ∀ (M : RM) (H : Heap) (locs : List Loc) (ls : Array Slot), rH D kA h ad A s.heap M H locs → lv_has ls 2 [(0, .ref h), (1, .int a1)] → ((¬ (rI M 27) = 0 → fm_wrong_b12 Q   M) ∧ ((rI M 27) = 0 → (∀ M4 : RM, M4 = wI M 3 a1 → fm_wrong_b12 Q   M4))) → W p l e (headSpec wsX11_wrong rmX11_wrong).room s m args below meth c H locs 0 0 (MQ below (va_Qv Q (rB D kA h ad A) A) args s 0 0 A) (F0 m 0 ls []) := by
    intro M H locs ls hH hl hw
    refine lv_aload_n hx hb dX11_wrong_0 rfl (lv_at hl 0 rfl) ?_
    refine rg_27 hx hb hts hin hown hK hH (hts (.fieldLink RX11 95 "IdlCallerModel" "isWrong" "Z") (by decide +kernel)) dX11_wrong_1 ?_
    refine lv_if_ne (tgt := 12) hx hb dX11_wrong_4 (by decide) (fun c3 => ?_) (fun c3 => ?_)
    · replace hw := hw.1 c3
      exact b12    M H locs ls hH (lv_sub hl [0] rfl) hw
    · replace hw := hw.2 c3
      refine lv_aload_n hx hb dX11_wrong_7 rfl (lv_at hl 0 rfl) ?_
      refine lv_iload_n hx hb dX11_wrong_8 rfl (lv_at hl 1 rfl) ?_
      refine rp_3 hx hb hts hin hown hK hH (hts (.fieldLink RX11 13 "IdlCallerModel" "faultPlace" "I") (by decide +kernel)) dX11_wrong_9 (fun M4 H locs eM4 hH => ?_)
      replace hw := hw M4 eM4
      exact b12    M4 H locs ls hH (lv_sub hl [0] rfl) hw
  exact hst M s.heap [] ls hH hl hw
def fm_takes_b15 (Q : Int32 → RM → Prop) (M : RM) : Prop := Q 0 M
def fm_takes (a1 : Int32) (M : RM) (Q : Int32 → RM → Prop) : Prop := ((¬ (rI M 27) = 0 → fm_takes_b15 Q   M) ∧ ((rI M 27) = 0 → fm_next  M (fun (r3 : Int32) (M2 : RM) => ((r3 = a1 → (∀ M5 : RM, M5 = wI M2 26 ((rI M2 26) + 1) → Q 1 M5)) ∧ (¬ r3 = a1 → fm_takes_b15 Q   M2)))))
abbrev rmX11_takes : Room := { frames := 1, cells := 0, slots := 0, locals := 20 }
set_option maxHeartbeats 4000000 in
set_option maxRecDepth 100000 in
theorem tm_takes (l : Launch) (D : va_G) (kA : Nat → ClassId) (h : Nat) (ad : Nat → Nat) (sz : Nat) (M : RM) (a1 : Int32) (Q : Int32 → RM → Prop) (hw : fm_takes a1 M Q) : Met l yX11_takes wsX11_takes rmX11_takes (va_Pc [.ref h, .int a1] (rPc D kA h ad M sz)) (va_Qi Q (rB D kA h ad (rF kA h ad M sz)) (rF kA h ad M sz)) 0 0 (rF kA h ad M sz) := by
  refine Met.ofW (cc := cX11_takes) (maxL := 2) (ret := (some .boolean)) (by decide) rfl ?_
  intro p e s m args below meth c s₁ B hml hv
  obtain ⟨rfl, hsz, hP, hK, hD0⟩ := hv
  have hx := B.exec
  have hb := B.bytes
  have hr := B.returns
  have hts := atoms_spec (ws := wsX11_takes) B.pre
  have hown : s.vm.findClass RX11 = some m.cls := findClass_of_methodNamed B.named
  have hlocks : meth.locks = false := B.notSynchronized
  subst hsz
  have hH : rH D kA h ad (rF kA h ad M s.heap.size) s.heap M s.heap [] := ⟨hP, hD0.self, va_S.rf⟩
  have hA : ∀ q : Nat, s.heap.size ≤ q → rF kA h ad M s.heap.size q := fun q z => Or.inr z
  generalize rF kA h ad M s.heap.size = A at hH hA ⊢
  have hl := lv_entry ([.ref h, .int a1]) (n := 2) (Nat.le_of_ble_eq_true rfl)
  rw [lg_entry_eq]
  generalize (lg_sl ([.ref h, .int a1]) ++ List.replicate (2 - (lg_sl ([.ref h, .int a1])).length) Slot.unset).toArray = ls at hl ⊢
  generalize ([.ref h, .int a1] : List Value).toArray = args at hts ⊢
  have hl : lv_has ls 2 [(0, .ref h), (1, .int a1)] := hl
  have hin : ∀ w ∈ wsX110, w ∈ wsX11_takes := by decide +kernel
  have b15 : ∀ (M : RM) (H : Heap) (locs : List Loc) (ls : Array Slot), rH D kA h ad A s.heap M H locs → lv_has ls 2 [] → fm_takes_b15 Q   M → W p l e (headSpec wsX11_takes rmX11_takes).room s m args below meth c H locs 0 0 (MQ below (va_Qi Q (rB D kA h ad A) A) args s 0 0 A) (F0 m 15 ls []) := by
    intro    M H locs ls hH hl hw
    unfold fm_takes_b15 at hw
    refine lv_iconst (v := 0) hx hb dX11_takes_15 (by decide) ?_
    exact r_retz hx hb hr rfl hlocks hK hH hw dX11_takes_16
  clear hP hD0
  unfold fm_takes at hw
  have hst : ∀ (M : RM) (H : Heap) (locs : List Loc) (ls : Array Slot), rH D kA h ad A s.heap M H locs → lv_has ls 2 [(0, .ref h), (1, .int a1)] → ((¬ (rI M 27) = 0 → fm_takes_b15 Q   M) ∧ ((rI M 27) = 0 → fm_next  M (fun (r3 : Int32) (M2 : RM) => ((r3 = a1 → (∀ M5 : RM, M5 = wI M2 26 ((rI M2 26) + 1) → Q 1 M5)) ∧ (¬ r3 = a1 → fm_takes_b15 Q   M2))))) → W p l e (headSpec wsX11_takes rmX11_takes).room s m args below meth c H locs 0 0 (MQ below (va_Qi Q (rB D kA h ad A) A) args s 0 0 A) (F0 m 0 ls []) := by
    intro M H locs ls hH hl hw
    refine lv_aload_n hx hb dX11_takes_0 rfl (lv_at hl 0 rfl) ?_
    refine rg_27 hx hb hts hin hown hK hH (hts (.fieldLink RX11 95 "IdlCallerModel" "isWrong" "Z") (by decide +kernel)) dX11_takes_1 ?_
    refine lv_if_ne (tgt := 15) hx hb dX11_takes_4 (by decide) (fun c1 => ?_) (fun c1 => ?_)
    · replace hw := hw.1 c1
      exact b15    M H locs ls hH (lv_sub hl [] rfl) hw
    · replace hw := hw.2 c1
      refine lv_aload_n hx hb dX11_takes_7 rfl (lv_at hl 0 rfl) ?_
      refine r_calli (va_runV (As := []) (rest := []) ⟨hx, hb, hml, hown, hts⟩ (tm_next l D kA h ad H.size M  _ hw) (cwV 0 hts gX11_takes_X11_next rfl rfl rfl (by decide +kernel) ⟨Nat.le_of_ble_eq_true rfl, Nat.le_of_ble_eq_true rfl⟩) (r_preV hK hH) rfl rfl hl.1 rfl (lv_room (Nat.le_of_ble_eq_true rfl)) dX11_takes_8 ⟨Nat.le_of_ble_eq_true rfl, Nat.le_of_ble_eq_true rfl⟩) hH hA (fun r3 M2 H locs hw hH => ?_)
      refine lv_iload_n hx hb dX11_takes_11 rfl (lv_at hl 1 rfl) ?_
      refine lv_icmp_eq (tgt := 17) hx hb dX11_takes_12 (by decide) (fun c4 => ?_) (fun c4 => ?_)
      · replace hw := hw.1 c4
        refine lv_aload_n hx hb dX11_takes_17 rfl (lv_at hl 0 rfl) ?_
        refine lv_dup hx hb dX11_takes_18 rfl ?_
        refine rg_26 hx hb hts hin hown hK hH (hts (.fieldLink RX11 92 "IdlCallerModel" "at" "I") (by decide +kernel)) dX11_takes_19 ?_
        refine lv_iconst (v := 1) hx hb dX11_takes_22 (by decide) ?_
        refine lv_iadd hx hb dX11_takes_23 ?_
        refine rp_26 hx hb hts hin hown hK hH (hts (.fieldLink RX11 92 "IdlCallerModel" "at" "I") (by decide +kernel)) dX11_takes_24 (fun M5 H locs eM5 hH => ?_)
        replace hw := hw M5 eM5
        refine lv_iconst (v := 1) hx hb dX11_takes_27 (by decide) ?_
        exact r_retz hx hb hr rfl hlocks hK hH hw dX11_takes_28
      · replace hw := hw.2 c4
        exact b15    M2 H locs ls hH (lv_sub hl [] rfl) hw
  exact hst M s.heap [] ls hH hl hw
def fm_want_b16 (Q : RM → Prop) (M : RM) : Prop := Q M
def fm_want (a1 : Int32) (M : RM) (Q : RM → Prop) : Prop := fm_takes a1 M (fun (r2 : Int32) (M1 : RM) => ((¬ r2 = 0 → fm_want_b16 Q   M1) ∧ (r2 = 0 → fm_wrong (rI M1 26) M1 (fun (M4 : RM) => fm_want_b16 Q   M4))))
abbrev rmX11_want : Room := { frames := 2, cells := 0, slots := 0, locals := 41 }
set_option maxHeartbeats 4000000 in
set_option maxRecDepth 100000 in
theorem tm_want (l : Launch) (D : va_G) (kA : Nat → ClassId) (h : Nat) (ad : Nat → Nat) (sz : Nat) (M : RM) (a1 : Int32) (Q : RM → Prop) (hw : fm_want a1 M Q) : Met l yX11_want wsX11_want rmX11_want (va_Pc [.ref h, .int a1] (rPc D kA h ad M sz)) (va_Qv Q (rB D kA h ad (rF kA h ad M sz)) (rF kA h ad M sz)) 0 0 (rF kA h ad M sz) := by
  refine Met.ofW (cc := cX11_want) (maxL := 2) (ret := none) (by decide) rfl ?_
  intro p e s m args below meth c s₁ B hml hv
  obtain ⟨rfl, hsz, hP, hK, hD0⟩ := hv
  have hx := B.exec
  have hb := B.bytes
  have hr := B.returns
  have hts := atoms_spec (ws := wsX11_want) B.pre
  have hown : s.vm.findClass RX11 = some m.cls := findClass_of_methodNamed B.named
  have hlocks : meth.locks = false := B.notSynchronized
  subst hsz
  have hH : rH D kA h ad (rF kA h ad M s.heap.size) s.heap M s.heap [] := ⟨hP, hD0.self, va_S.rf⟩
  have hA : ∀ q : Nat, s.heap.size ≤ q → rF kA h ad M s.heap.size q := fun q z => Or.inr z
  generalize rF kA h ad M s.heap.size = A at hH hA ⊢
  have hl := lv_entry ([.ref h, .int a1]) (n := 2) (Nat.le_of_ble_eq_true rfl)
  rw [lg_entry_eq]
  generalize (lg_sl ([.ref h, .int a1]) ++ List.replicate (2 - (lg_sl ([.ref h, .int a1])).length) Slot.unset).toArray = ls at hl ⊢
  generalize ([.ref h, .int a1] : List Value).toArray = args at hts ⊢
  have hl : lv_has ls 2 [(0, .ref h), (1, .int a1)] := hl
  have hin : ∀ w ∈ wsX110, w ∈ wsX11_want := by decide +kernel
  have b16 : ∀ (M : RM) (H : Heap) (locs : List Loc) (ls : Array Slot), rH D kA h ad A s.heap M H locs → lv_has ls 2 [] → fm_want_b16 Q   M → W p l e (headSpec wsX11_want rmX11_want).room s m args below meth c H locs 0 0 (MQ below (va_Qv Q (rB D kA h ad A) A) args s 0 0 A) (F0 m 16 ls []) := by
    intro    M H locs ls hH hl hw
    unfold fm_want_b16 at hw
    exact r_retv hx hb hr hlocks hK hH hw dX11_want_16
  clear hP hD0
  unfold fm_want at hw
  have hst : ∀ (M : RM) (H : Heap) (locs : List Loc) (ls : Array Slot), rH D kA h ad A s.heap M H locs → lv_has ls 2 [(0, .ref h), (1, .int a1)] → fm_takes a1 M (fun (r2 : Int32) (M1 : RM) => ((¬ r2 = 0 → fm_want_b16 Q   M1) ∧ (r2 = 0 → fm_wrong (rI M1 26) M1 (fun (M4 : RM) => fm_want_b16 Q   M4)))) → W p l e (headSpec wsX11_want rmX11_want).room s m args below meth c H locs 0 0 (MQ below (va_Qv Q (rB D kA h ad A) A) args s 0 0 A) (F0 m 0 ls []) := by
    intro M H locs ls hH hl hw
    refine lv_aload_n hx hb dX11_want_0 rfl (lv_at hl 0 rfl) ?_
    refine lv_iload_n hx hb dX11_want_1 rfl (lv_at hl 1 rfl) ?_
    refine r_calli (va_runV (As := [.int a1]) (rest := []) ⟨hx, hb, hml, hown, hts⟩ (tm_takes l D kA h ad H.size M a1 _ hw) (cwV 1 hts gX11_want_X11_takes rfl rfl rfl (by decide +kernel) ⟨Nat.le_of_ble_eq_true rfl, Nat.le_of_ble_eq_true rfl⟩) (r_preV hK hH) rfl rfl hl.1 rfl (lv_room (Nat.le_of_ble_eq_true rfl)) dX11_want_2 ⟨Nat.le_of_ble_eq_true rfl, Nat.le_of_ble_eq_true rfl⟩) hH hA (fun r2 M1 H locs hw hH => ?_)
    refine lv_if_ne (tgt := 16) hx hb dX11_want_5 (by decide) (fun c3 => ?_) (fun c3 => ?_)
    · replace hw := hw.1 c3
      exact b16    M1 H locs ls hH (lv_sub hl [] rfl) hw
    · replace hw := hw.2 c3
      refine lv_aload_n hx hb dX11_want_8 rfl (lv_at hl 0 rfl) ?_
      refine lv_aload_n hx hb dX11_want_9 rfl (lv_at hl 0 rfl) ?_
      refine rg_26 hx hb hts hin hown hK hH (hts (.fieldLink RX11 92 "IdlCallerModel" "at" "I") (by decide +kernel)) dX11_want_10 ?_
      refine r_callv (va_runV (As := [.int (rI M1 26)]) (rest := []) ⟨hx, hb, hml, hown, hts⟩ (tm_wrong l D kA h ad H.size M1 (rI M1 26) _ hw) (cwV 1 hts gX11_want_X11_wrong rfl rfl rfl (by decide +kernel) ⟨Nat.le_of_ble_eq_true rfl, Nat.le_of_ble_eq_true rfl⟩) (r_preV hK hH) rfl rfl hl.1 rfl (lv_room (Nat.le_of_ble_eq_true rfl)) dX11_want_13 ⟨Nat.le_of_ble_eq_true rfl, Nat.le_of_ble_eq_true rfl⟩) hH hA (fun M4 H locs hw hH => ?_)
      exact b16    M4 H locs ls hH (lv_sub hl [] rfl) hw
  exact hst M s.heap [] ls hH hl hw
def fm_isLetter_b17 (Q : Int32 → RM → Prop) (s0 : Int32) (M : RM) : Prop := (nZ s0 ∧ Q s0 M)
def fm_isLetter_b16 (Q : Int32 → RM → Prop) (M : RM) : Prop := fm_isLetter_b17 Q  0 M
def fm_isLetter (a1 : Int32) (M : RM) (Q : Int32 → RM → Prop) : Prop := ((a1 < 97 → fm_isLetter_b16 Q   M) ∧ (¬ a1 < 97 → ((122 < a1 → fm_isLetter_b16 Q   M) ∧ (¬ 122 < a1 → fm_isLetter_b17 Q  1 M))))
abbrev rmX11_isLetter : Room := { frames := 0, cells := 0, slots := 0, locals := 0 }
set_option maxHeartbeats 4000000 in
set_option maxRecDepth 100000 in
theorem tm_isLetter (l : Launch) (D : va_G) (kA : Nat → ClassId) (h : Nat) (ad : Nat → Nat) (sz : Nat) (M : RM) (a1 : Int32) (Q : Int32 → RM → Prop) (hw : fm_isLetter a1 M Q) : Met l yX11_isLetter wsX11_isLetter rmX11_isLetter (va_Pc [.int a1] (rPc D kA h ad M sz)) (va_Qi Q (rB D kA h ad (rF kA h ad M sz)) (rF kA h ad M sz)) 0 0 (rF kA h ad M sz) := by
  refine Met.ofW (cc := cX11_isLetter) (maxL := 1) (ret := (some .boolean)) (by decide) rfl ?_
  intro p e s m args below meth c s₁ B hml hv
  obtain ⟨rfl, hsz, hP, hK, hD0⟩ := hv
  have hx := B.exec
  have hb := B.bytes
  have hr := B.returns
  have hts := atoms_spec (ws := wsX11_isLetter) B.pre
  have hown : s.vm.findClass RX11 = some m.cls := findClass_of_methodNamed B.named
  have hlocks : meth.locks = false := B.notSynchronized
  subst hsz
  have hH : rH D kA h ad (rF kA h ad M s.heap.size) s.heap M s.heap [] := ⟨hP, hD0.self, va_S.rf⟩
  have hA : ∀ q : Nat, s.heap.size ≤ q → rF kA h ad M s.heap.size q := fun q z => Or.inr z
  generalize rF kA h ad M s.heap.size = A at hH hA ⊢
  have hl := lv_entry ([.int a1]) (n := 1) (Nat.le_of_ble_eq_true rfl)
  rw [lg_entry_eq]
  generalize (lg_sl ([.int a1]) ++ List.replicate (1 - (lg_sl ([.int a1])).length) Slot.unset).toArray = ls at hl ⊢
  generalize ([.int a1] : List Value).toArray = args at hts ⊢
  have hl : lv_has ls 1 [(0, .int a1)] := hl
  have b17 : ∀ (s0 : Int32) (M : RM) (H : Heap) (locs : List Loc) (ls : Array Slot), rH D kA h ad A s.heap M H locs → lv_has ls 1 [] → fm_isLetter_b17 Q  s0 M → W p l e (headSpec wsX11_isLetter rmX11_isLetter).room s m args below meth c H locs 0 0 (MQ below (va_Qi Q (rB D kA h ad A) A) args s 0 0 A) (F0 m 17 ls [.int s0]) := by
    intro   s0 M H locs ls hH hl hw
    unfold fm_isLetter_b17 at hw
    exact r_retz hx hb hr hw.1.1 hlocks hK hH hw.2 dX11_isLetter_17
  have b16 : ∀ (M : RM) (H : Heap) (locs : List Loc) (ls : Array Slot), rH D kA h ad A s.heap M H locs → lv_has ls 1 [] → fm_isLetter_b16 Q   M → W p l e (headSpec wsX11_isLetter rmX11_isLetter).room s m args below meth c H locs 0 0 (MQ below (va_Qi Q (rB D kA h ad A) A) args s 0 0 A) (F0 m 16 ls []) := by
    intro    M H locs ls hH hl hw
    unfold fm_isLetter_b16 at hw
    refine lv_iconst (v := 0) hx hb dX11_isLetter_16 (by decide) ?_
    exact b17   0 M H locs ls hH (lv_sub hl [] rfl) hw
  clear hP hD0
  unfold fm_isLetter at hw
  have hst : ∀ (M : RM) (H : Heap) (locs : List Loc) (ls : Array Slot), rH D kA h ad A s.heap M H locs → lv_has ls 1 [(0, .int a1)] → ((a1 < 97 → fm_isLetter_b16 Q   M) ∧ (¬ a1 < 97 → ((122 < a1 → fm_isLetter_b16 Q   M) ∧ (¬ 122 < a1 → fm_isLetter_b17 Q  1 M)))) → W p l e (headSpec wsX11_isLetter rmX11_isLetter).room s m args below meth c H locs 0 0 (MQ below (va_Qi Q (rB D kA h ad A) A) args s 0 0 A) (F0 m 0 ls []) := by
    intro M H locs ls hH hl hw
    refine lv_iload_n hx hb dX11_isLetter_0 rfl (lv_at hl 0 rfl) ?_
    refine lv_bipush (v := 97) hx hb dX11_isLetter_1 (by decide) ?_
    refine lv_icmp_lt (tgt := 16) hx hb dX11_isLetter_3 (by decide) (fun c1 => ?_) (fun c1 => ?_)
    · replace hw := hw.1 c1
      exact b16    M H locs ls hH (lv_sub hl [] rfl) hw
    · replace hw := hw.2 c1
      refine lv_iload_n hx hb dX11_isLetter_6 rfl (lv_at hl 0 rfl) ?_
      refine lv_bipush (v := 122) hx hb dX11_isLetter_7 (by decide) ?_
      refine lv_icmp_gt (tgt := 16) hx hb dX11_isLetter_9 (by decide) (fun c2 => ?_) (fun c2 => ?_)
      · replace hw := hw.1 c2
        exact b16    M H locs ls hH (lv_sub hl [] rfl) hw
      · replace hw := hw.2 c2
        refine lv_iconst (v := 1) hx hb dX11_isLetter_12 (by decide) ?_
        refine lv_goto (tgt := 17) hx hb dX11_isLetter_13 (by decide) ?_
        exact b17   1 M H locs ls hH (lv_sub hl [] rfl) hw
  exact hst M s.heap [] ls hH hl hw
def fm_wordEnd_b36 (Q : Int32 → RM → Prop) (v1 : Int32) (M : RM) : Prop := Q v1 M
def fm_wordEnd_c10 (Q : Int32 → RM → Prop) (k10 : Int32 → RM → Prop) (v1 : Int32) (M : RM) : Prop := (((rI M 2) ≤ v1 → fm_wordEnd_b36 Q  v1 M) ∧ (¬ (rI M 2) ≤ v1 → (vp_in v1 100 ∧ fm_isLetter (rA M 1 v1.toNatClampNeg) M (fun (r4 : Int32) (M3 : RM) => ((r4 = 0 → fm_wordEnd_b36 Q  v1 M3) ∧ (¬ r4 = 0 → (∀ x6 : Int32, x6 = v1 + 1 → k10 x6 M3)))))))
def fm_wordEnd_l10 (Q : Int32 → RM → Prop) : Nat → Int32 → RM → Prop := lit (τ := Int32 → RM → Prop) (fun _ _ => False) (fun k => fm_wordEnd_c10 Q  k)
def fm_wordEnd (M : RM) (Q : Int32 → RM → Prop) : Prop := fm_next  M (fun (r8 : Int32) (M7 : RM) => (∀ x9 : Int32, x9 = rI M7 26 → (∃ nn : Nat, fm_wordEnd_l10 Q  nn x9 M7)))
abbrev rmX11_wordEnd : Room := { frames := 1, cells := 0, slots := 0, locals := 20 }
set_option maxHeartbeats 4000000 in
set_option maxRecDepth 100000 in
theorem tm_wordEnd (l : Launch) (D : va_G) (kA : Nat → ClassId) (h : Nat) (ad : Nat → Nat) (sz : Nat) (M : RM) (Q : Int32 → RM → Prop) (hw : fm_wordEnd  M Q) : Met l yX11_wordEnd wsX11_wordEnd rmX11_wordEnd (va_Pc [.ref h] (rPc D kA h ad M sz)) (va_Qi Q (rB D kA h ad (rF kA h ad M sz)) (rF kA h ad M sz)) 0 0 (rF kA h ad M sz) := by
  refine Met.ofW (cc := cX11_wordEnd) (maxL := 2) (ret := (some .int)) (by decide) rfl ?_
  intro p e s m args below meth c s₁ B hml hv
  obtain ⟨rfl, hsz, hP, hK, hD0⟩ := hv
  have hx := B.exec
  have hb := B.bytes
  have hr := B.returns
  have hts := atoms_spec (ws := wsX11_wordEnd) B.pre
  have hown : s.vm.findClass RX11 = some m.cls := findClass_of_methodNamed B.named
  have hlocks : meth.locks = false := B.notSynchronized
  subst hsz
  have hH : rH D kA h ad (rF kA h ad M s.heap.size) s.heap M s.heap [] := ⟨hP, hD0.self, va_S.rf⟩
  have hA : ∀ q : Nat, s.heap.size ≤ q → rF kA h ad M s.heap.size q := fun q z => Or.inr z
  generalize rF kA h ad M s.heap.size = A at hH hA ⊢
  have hl := lv_entry ([.ref h]) (n := 2) (Nat.le_of_ble_eq_true rfl)
  rw [lg_entry_eq]
  generalize (lg_sl ([.ref h]) ++ List.replicate (2 - (lg_sl ([.ref h])).length) Slot.unset).toArray = ls at hl ⊢
  generalize ([.ref h] : List Value).toArray = args at hts ⊢
  have hl : lv_has ls 2 [(0, .ref h)] := hl
  have hin : ∀ w ∈ wsX110, w ∈ wsX11_wordEnd := by decide +kernel
  have b36 : ∀ (v1 : Int32) (M : RM) (H : Heap) (locs : List Loc) (ls : Array Slot), rH D kA h ad A s.heap M H locs → lv_has ls 2 [(1, .int v1)] → fm_wordEnd_b36 Q  v1 M → W p l e (headSpec wsX11_wordEnd rmX11_wordEnd).room s m args below meth c H locs 0 0 (MQ below (va_Qi Q (rB D kA h ad A) A) args s 0 0 A) (F0 m 36 ls []) := by
    intro   v1 M H locs ls hH hl hw
    unfold fm_wordEnd_b36 at hw
    refine lv_iload_n hx hb dX11_wordEnd_36 rfl (lv_at hl 0 rfl) ?_
    exact r_reti hx hb hr hlocks hK hH hw dX11_wordEnd_37
  have l10 : ∀ (nn : Nat) (v1 : Int32) (M : RM) (H : Heap) (locs : List Loc) (ls : Array Slot), rH D kA h ad A s.heap M H locs → lv_has ls 2 [(0, .ref h), (1, .int v1)] → fm_wordEnd_l10 Q  nn v1 M → W p l e (headSpec wsX11_wordEnd rmX11_wordEnd).room s m args below meth c H locs 0 0 (MQ below (va_Qi Q (rB D kA h ad A) A) args s 0 0 A) (F0 m 10 ls []) := by
    intro   nn
    induction nn with
    | zero => intro v1 M H locs ls hH hl hw; exact False.elim hw
    | succ nn hk10 =>
      intro v1 M H locs ls hH hl hw
      replace hw : fm_wordEnd_c10 Q  (fm_wordEnd_l10 Q  nn) v1 M := hw
      unfold fm_wordEnd_c10 at hw
      refine lv_iload_n hx hb dX11_wordEnd_10 rfl (lv_at hl 1 rfl) ?_
      refine lv_aload_n hx hb dX11_wordEnd_11 rfl (lv_at hl 0 rfl) ?_
      refine rg_2 hx hb hts hin hown hK hH (hts (.fieldLink RX11 81 "IdlCallerModel" "lineSize" "I") (by decide +kernel)) dX11_wordEnd_12 ?_
      refine lv_icmp_ge (tgt := 36) hx hb dX11_wordEnd_15 (by decide) (fun c1 => ?_) (fun c1 => ?_)
      · replace hw := hw.1 c1
        exact b36   v1 M H locs ls hH (lv_sub hl [1] rfl) hw
      · replace hw := hw.2 c1
        refine lv_aload_n hx hb dX11_wordEnd_18 rfl (lv_at hl 0 rfl) ?_
        refine rg_1 hx hb hts hin hown hK hH (hts (.fieldLink RX11 7 "IdlCallerModel" "line" "[C") (by decide +kernel)) dX11_wordEnd_19 ?_
        refine lv_iload_n hx hb dX11_wordEnd_22 rfl (lv_at hl 1 rfl) ?_
        obtain ⟨h2, hw⟩ := hw
        refine rl_1 hx hb hK hH h2 dX11_wordEnd_23 ?_
        refine r_calli (va_runS (As := [.int (rA M 1 v1.toNatClampNeg)]) (rest := []) ⟨hx, hb, hml, hown, hts⟩ (tm_isLetter l D kA h ad H.size M (rA M 1 v1.toNatClampNeg) _ hw) (va_cwS 1 hts gX11_wordEnd_X11_isLetter rfl rfl rfl (by decide +kernel) ⟨Nat.le_of_ble_eq_true rfl, Nat.le_of_ble_eq_true rfl⟩) (r_preS hK hH) rfl rfl hl.1 rfl (lv_room (Nat.le_of_ble_eq_true rfl)) dX11_wordEnd_24 ⟨Nat.le_of_ble_eq_true rfl, Nat.le_of_ble_eq_true rfl⟩) hH hA (fun r4 M3 H locs hw hH => ?_)
        refine lv_if_eq (tgt := 36) hx hb dX11_wordEnd_27 (by decide) (fun c5 => ?_) (fun c5 => ?_)
        · replace hw := hw.1 c5
          exact b36   v1 M3 H locs ls hH (lv_sub hl [1] rfl) hw
        · replace hw := hw.2 c5
          obtain ⟨x6, ex6⟩ : ∃ y : Int32, y = v1 + 1 := ⟨_, rfl⟩
          replace hw := hw x6 ex6
          refine lv_iinc (v := x6) (lv' := [(1, .int x6), (0, .ref h)]) hx hb dX11_wordEnd_30 hl (k := 1) rfl (by rw [ex6]; rfl) (by decide) rfl (fun ls hl => ?_)
          refine lv_goto (tgt := 10) hx hb dX11_wordEnd_33 (by decide) ?_
          exact hk10 x6 M3 H locs ls hH (lv_sub hl [1, 0] rfl) hw
  clear hP hD0
  unfold fm_wordEnd at hw
  have hst : ∀ (M : RM) (H : Heap) (locs : List Loc) (ls : Array Slot), rH D kA h ad A s.heap M H locs → lv_has ls 2 [(0, .ref h)] → fm_next  M (fun (r8 : Int32) (M7 : RM) => (∀ x9 : Int32, x9 = rI M7 26 → (∃ nn : Nat, fm_wordEnd_l10 Q  nn x9 M7))) → W p l e (headSpec wsX11_wordEnd rmX11_wordEnd).room s m args below meth c H locs 0 0 (MQ below (va_Qi Q (rB D kA h ad A) A) args s 0 0 A) (F0 m 0 ls []) := by
    intro M H locs ls hH hl hw
    refine lv_aload_n hx hb dX11_wordEnd_0 rfl (lv_at hl 0 rfl) ?_
    refine r_calli (va_runV (As := []) (rest := []) ⟨hx, hb, hml, hown, hts⟩ (tm_next l D kA h ad H.size M  _ hw) (cwV 0 hts gX11_wordEnd_X11_next rfl rfl rfl (by decide +kernel) ⟨Nat.le_of_ble_eq_true rfl, Nat.le_of_ble_eq_true rfl⟩) (r_preV hK hH) rfl rfl hl.1 rfl (lv_room (Nat.le_of_ble_eq_true rfl)) dX11_wordEnd_1 ⟨Nat.le_of_ble_eq_true rfl, Nat.le_of_ble_eq_true rfl⟩) hH hA (fun r8 M7 H locs hw hH => ?_)
    refine lv_pop hx hb dX11_wordEnd_4 rfl ?_
    refine lv_aload_n hx hb dX11_wordEnd_5 rfl (lv_at hl 0 rfl) ?_
    refine rg_26 hx hb hts hin hown hK hH (hts (.fieldLink RX11 92 "IdlCallerModel" "at" "I") (by decide +kernel)) dX11_wordEnd_6 ?_
    refine lv_topi (fun x9 ex9 => ?_)
    replace hw := hw x9 ex9
    refine lv_istore_n (lv' := [(1, .int x9), (0, .ref h)]) hx hb dX11_wordEnd_9 rfl hl (by decide) rfl (fun ls hl => ?_)
    obtain ⟨nn, hw⟩ := hw
    exact l10   nn x9 M7 H locs ls hH (lv_sub hl [1, 0] rfl) hw
  exact hst M s.heap [] ls hH hl hw
def fm_isWord_b104 (Q : Int32 → RM → Prop) (v4 : Int32) (M : RM) : Prop := (nZ v4 ∧ Q v4 M)
def fm_isWord_b96 (Q : Int32 → RM → Prop) (k48 : Int64 → Int32 → Int32 → Int32 → RM → Prop) (v1 : Int64) (v3 : Int32) (v5 : Int32) (s0 : Int32) (M : RM) : Prop := (∀ x1 : Int32, x1 = v5 + 1 → k48 v1 v3 s0 x1 M)
def fm_isWord_c48 (Q : Int32 → RM → Prop) (k48 : Int64 → Int32 → Int32 → Int32 → RM → Prop) (v1 : Int64) (v3 : Int32) (v4 : Int32) (v5 : Int32) (M : RM) : Prop := ((v3 ≤ v5 → fm_isWord_b104 Q  v4 M) ∧ (¬ v3 ≤ v5 → ((v4 = 0 → fm_isWord_b104 Q  v4 M) ∧ (¬ v4 = 0 → (vp_in ((rI M 26) + v5) 100 ∧ ((¬ (rA M 1 ((rI M 26) + v5).toNatClampNeg) = (((((v1 >>> ((8 * ((v3 - 1) - v5)).toInt64 &&& 63)) &&& 255).toInt32).toUInt32 % 65536).toInt32) → fm_isWord_b96 Q k48 v1 v3 v5 0 M) ∧ ((rA M 1 ((rI M 26) + v5).toNatClampNeg) = (((((v1 >>> ((8 * ((v3 - 1) - v5)).toInt64 &&& 63)) &&& 255).toInt32).toUInt32 % 65536).toInt32) → fm_isWord_b96 Q k48 v1 v3 v5 1 M)))))))
def fm_isWord_l48 (Q : Int32 → RM → Prop) : Nat → Int64 → Int32 → Int32 → Int32 → RM → Prop := lit (τ := Int64 → Int32 → Int32 → Int32 → RM → Prop) (fun _ _ _ _ _ => False) (fun k => fm_isWord_c48 Q  k)
def fm_isWord_b43 (Q : Int32 → RM → Prop) (v1 : Int64) (v3 : Int32) (s0 : Int32) (M : RM) : Prop := (∃ nn : Nat, fm_isWord_l48 Q  nn v1 v3 s0 0 M)
def fm_isWord_c5 (Q : Int32 → RM → Prop) (k5 : Int64 → Int32 → Int64 → RM → Prop) (v1 : Int64) (v3 : Int32) (v4 : Int64) (M : RM) : Prop := (((lg_cmp v4 0) = 0 → fm_wordEnd  M (fun (r8 : Int32) (M7 : RM) => ((¬ (r8 - (rI M7 26)) = v3 → fm_isWord_b43 Q  v1 v3 0 M7) ∧ ((r8 - (rI M7 26)) = v3 → fm_isWord_b43 Q  v1 v3 1 M7)))) ∧ (¬ (lg_cmp v4 0) = 0 → (∀ x10 : Int32, x10 = v3 + 1 → (∀ x11 : Int64, x11 = v4 >>> ((8 : Int32).toInt64 &&& 63) → k5 v1 x10 x11 M))))
def fm_isWord_l5 (Q : Int32 → RM → Prop) : Nat → Int64 → Int32 → Int64 → RM → Prop := lit (τ := Int64 → Int32 → Int64 → RM → Prop) (fun _ _ _ _ => False) (fun k => fm_isWord_c5 Q  k)
def fm_isWord (a1 : Int64) (M : RM) (Q : Int32 → RM → Prop) : Prop := (∃ nn : Nat, fm_isWord_l5 Q  nn a1 0 a1 M)
abbrev rmX11_isWord : Room := { frames := 2, cells := 0, slots := 0, locals := 41 }
set_option maxHeartbeats 4000000 in
set_option maxRecDepth 100000 in
theorem tm_isWord (l : Launch) (D : va_G) (kA : Nat → ClassId) (h : Nat) (ad : Nat → Nat) (sz : Nat) (M : RM) (a1 : Int64) (Q : Int32 → RM → Prop) (hw : fm_isWord a1 M Q) : Met l yX11_isWord wsX11_isWord rmX11_isWord (va_Pc [.ref h, .long a1] (rPc D kA h ad M sz)) (va_Qi Q (rB D kA h ad (rF kA h ad M sz)) (rF kA h ad M sz)) 0 0 (rF kA h ad M sz) := by
  refine Met.ofW (cc := cX11_isWord) (maxL := 6) (ret := (some .boolean)) (by decide) rfl ?_
  intro p e s m args below meth c s₁ B hml hv
  obtain ⟨rfl, hsz, hP, hK, hD0⟩ := hv
  have hx := B.exec
  have hb := B.bytes
  have hr := B.returns
  have hts := atoms_spec (ws := wsX11_isWord) B.pre
  have hown : s.vm.findClass RX11 = some m.cls := findClass_of_methodNamed B.named
  have hlocks : meth.locks = false := B.notSynchronized
  subst hsz
  have hH : rH D kA h ad (rF kA h ad M s.heap.size) s.heap M s.heap [] := ⟨hP, hD0.self, va_S.rf⟩
  have hA : ∀ q : Nat, s.heap.size ≤ q → rF kA h ad M s.heap.size q := fun q z => Or.inr z
  generalize rF kA h ad M s.heap.size = A at hH hA ⊢
  have hl := lv_entry ([.ref h, .long a1]) (n := 6) (Nat.le_of_ble_eq_true rfl)
  rw [lg_entry_eq]
  generalize (lg_sl ([.ref h, .long a1]) ++ List.replicate (6 - (lg_sl ([.ref h, .long a1])).length) Slot.unset).toArray = ls at hl ⊢
  generalize ([.ref h, .long a1] : List Value).toArray = args at hts ⊢
  have hl : lv_has ls 6 [(0, .ref h), (1, .long a1)] := hl
  have hin : ∀ w ∈ wsX110, w ∈ wsX11_isWord := by decide +kernel
  have b104 : ∀ (v4 : Int32) (M : RM) (H : Heap) (locs : List Loc) (ls : Array Slot), rH D kA h ad A s.heap M H locs → lv_has ls 6 [(4, .int v4)] → fm_isWord_b104 Q  v4 M → W p l e (headSpec wsX11_isWord rmX11_isWord).room s m args below meth c H locs 0 0 (MQ below (va_Qi Q (rB D kA h ad A) A) args s 0 0 A) (F0 m 104 ls []) := by
    intro   v4 M H locs ls hH hl hw
    unfold fm_isWord_b104 at hw
    refine lv_iload hx hb dX11_isWord_104 (lv_at hl 0 rfl) ?_
    exact r_retz hx hb hr hw.1.1 hlocks hK hH hw.2 dX11_isWord_106
  have b96 : ∀ (k48 : Int64 → Int32 → Int32 → Int32 → RM → Prop) (hk48 : ∀ (v1 : Int64) (v3 : Int32) (v4 : Int32) (v5 : Int32) (M : RM) (H : Heap) (locs : List Loc) (ls : Array Slot), rH D kA h ad A s.heap M H locs → lv_has ls 6 [(0, .ref h), (1, .long v1), (3, .int v3), (4, .int v4), (5, .int v5)] → k48 v1 v3 v4 v5 M → W p l e (headSpec wsX11_isWord rmX11_isWord).room s m args below meth c H locs 0 0 (MQ below (va_Qi Q (rB D kA h ad A) A) args s 0 0 A) (F0 m 48 ls [])) (v1 : Int64) (v3 : Int32) (v5 : Int32) (s0 : Int32) (M : RM) (H : Heap) (locs : List Loc) (ls : Array Slot), rH D kA h ad A s.heap M H locs → lv_has ls 6 [(0, .ref h), (1, .long v1), (3, .int v3), (5, .int v5)] → fm_isWord_b96 Q k48 v1 v3 v5 s0 M → W p l e (headSpec wsX11_isWord rmX11_isWord).room s m args below meth c H locs 0 0 (MQ below (va_Qi Q (rB D kA h ad A) A) args s 0 0 A) (F0 m 96 ls [.int s0]) := by
    intro k48 hk48 v1 v3 v5 s0 M H locs ls hH hl hw
    unfold fm_isWord_b96 at hw
    refine lv_istore (lv' := [(4, .int s0), (0, .ref h), (1, .long v1), (3, .int v3), (5, .int v5)]) hx hb dX11_isWord_96 hl (by decide) rfl (fun ls hl => ?_)
    obtain ⟨x1, ex1⟩ : ∃ y : Int32, y = v5 + 1 := ⟨_, rfl⟩
    replace hw := hw x1 ex1
    refine lv_iinc (v := x1) (lv' := [(5, .int x1), (4, .int s0), (0, .ref h), (1, .long v1), (3, .int v3)]) hx hb dX11_isWord_98 hl (k := 4) rfl (by rw [ex1]; rfl) (by decide) rfl (fun ls hl => ?_)
    refine lv_goto (tgt := 48) hx hb dX11_isWord_101 (by decide) ?_
    exact hk48 v1 v3 s0 x1 M H locs ls hH (lv_sub hl [2, 3, 4, 1, 0] rfl) hw
  have l48 : ∀ (nn : Nat) (v1 : Int64) (v3 : Int32) (v4 : Int32) (v5 : Int32) (M : RM) (H : Heap) (locs : List Loc) (ls : Array Slot), rH D kA h ad A s.heap M H locs → lv_has ls 6 [(0, .ref h), (1, .long v1), (3, .int v3), (4, .int v4), (5, .int v5)] → fm_isWord_l48 Q  nn v1 v3 v4 v5 M → W p l e (headSpec wsX11_isWord rmX11_isWord).room s m args below meth c H locs 0 0 (MQ below (va_Qi Q (rB D kA h ad A) A) args s 0 0 A) (F0 m 48 ls []) := by
    intro   nn
    induction nn with
    | zero => intro v1 v3 v4 v5 M H locs ls hH hl hw; exact False.elim hw
    | succ nn hk48 =>
      intro v1 v3 v4 v5 M H locs ls hH hl hw
      replace hw : fm_isWord_c48 Q  (fm_isWord_l48 Q  nn) v1 v3 v4 v5 M := hw
      unfold fm_isWord_c48 at hw
      refine lv_iload hx hb dX11_isWord_48 (lv_at hl 4 rfl) ?_
      refine lv_iload_n hx hb dX11_isWord_50 rfl (lv_at hl 2 rfl) ?_
      refine lv_icmp_ge (tgt := 104) hx hb dX11_isWord_51 (by decide) (fun c2 => ?_) (fun c2 => ?_)
      · replace hw := hw.1 c2
        exact b104   v4 M H locs ls hH (lv_sub hl [3] rfl) hw
      · replace hw := hw.2 c2
        refine lv_iload hx hb dX11_isWord_54 (lv_at hl 3 rfl) ?_
        refine lv_if_eq (tgt := 104) hx hb dX11_isWord_56 (by decide) (fun c3 => ?_) (fun c3 => ?_)
        · replace hw := hw.1 c3
          exact b104   v4 M H locs ls hH (lv_sub hl [3] rfl) hw
        · replace hw := hw.2 c3
          refine lv_aload_n hx hb dX11_isWord_59 rfl (lv_at hl 0 rfl) ?_
          refine rg_1 hx hb hts hin hown hK hH (hts (.fieldLink RX11 7 "IdlCallerModel" "line" "[C") (by decide +kernel)) dX11_isWord_60 ?_
          refine lv_aload_n hx hb dX11_isWord_63 rfl (lv_at hl 0 rfl) ?_
          refine rg_26 hx hb hts hin hown hK hH (hts (.fieldLink RX11 92 "IdlCallerModel" "at" "I") (by decide +kernel)) dX11_isWord_64 ?_
          refine lv_iload hx hb dX11_isWord_67 (lv_at hl 4 rfl) ?_
          refine lv_iadd hx hb dX11_isWord_69 ?_
          obtain ⟨h4, hw⟩ := hw
          refine rl_1 hx hb hK hH h4 dX11_isWord_70 ?_
          refine lv_lload_n hx hb dX11_isWord_71 rfl (lv_at hl 1 rfl) ?_
          refine lv_bipush (v := 8) hx hb dX11_isWord_72 (by decide) ?_
          refine lv_iload_n hx hb dX11_isWord_74 rfl (lv_at hl 2 rfl) ?_
          refine lv_iconst (v := 1) hx hb dX11_isWord_75 (by decide) ?_
          refine lv_isub hx hb dX11_isWord_76 ?_
          refine lv_iload hx hb dX11_isWord_77 (lv_at hl 4 rfl) ?_
          refine lv_isub hx hb dX11_isWord_79 ?_
          refine lv_imul hx hb dX11_isWord_80 ?_
          refine lv_lshr hx hb dX11_isWord_81 rfl ?_
          refine lv_ldc2 (v := 255) hx hb hown (hts (.constantLong RX11 118 255) (by decide +kernel)) dX11_isWord_82 ?_
          refine lv_land hx hb dX11_isWord_85 ?_
          refine lv_l2i hx hb dX11_isWord_86 rfl ?_
          refine lv_i2c hx hb dX11_isWord_87 rfl ?_
          refine lv_icmp_ne (tgt := 95) hx hb dX11_isWord_88 (by decide) (fun c5 => ?_) (fun c5 => ?_)
          · replace hw := hw.1 c5
            refine lv_iconst (v := 0) hx hb dX11_isWord_95 (by decide) ?_
            exact b96 _ hk48 v1 v3 v5 0 M H locs ls hH (lv_sub hl [0, 1, 2, 4] rfl) hw
          · replace hw := hw.2 c5
            refine lv_iconst (v := 1) hx hb dX11_isWord_91 (by decide) ?_
            refine lv_goto (tgt := 96) hx hb dX11_isWord_92 (by decide) ?_
            exact b96 _ hk48 v1 v3 v5 1 M H locs ls hH (lv_sub hl [0, 1, 2, 4] rfl) hw
  have b43 : ∀ (v1 : Int64) (v3 : Int32) (s0 : Int32) (M : RM) (H : Heap) (locs : List Loc) (ls : Array Slot), rH D kA h ad A s.heap M H locs → lv_has ls 6 [(0, .ref h), (1, .long v1), (3, .int v3)] → fm_isWord_b43 Q  v1 v3 s0 M → W p l e (headSpec wsX11_isWord rmX11_isWord).room s m args below meth c H locs 0 0 (MQ below (va_Qi Q (rB D kA h ad A) A) args s 0 0 A) (F0 m 43 ls [.int s0]) := by
    intro   v1 v3 s0 M H locs ls hH hl hw
    unfold fm_isWord_b43 at hw
    refine lv_istore (lv' := [(4, .int s0), (0, .ref h), (1, .long v1), (3, .int v3)]) hx hb dX11_isWord_43 hl (by decide) rfl (fun ls hl => ?_)
    refine lv_iconst (v := 0) hx hb dX11_isWord_45 (by decide) ?_
    refine lv_istore (lv' := [(5, .int 0), (4, .int s0), (0, .ref h), (1, .long v1), (3, .int v3)]) hx hb dX11_isWord_46 hl (by decide) rfl (fun ls hl => ?_)
    obtain ⟨nn, hw⟩ := hw
    exact l48   nn v1 v3 s0 0 M H locs ls hH (lv_sub hl [2, 3, 4, 1, 0] rfl) hw
  have l5 : ∀ (nn : Nat) (v1 : Int64) (v3 : Int32) (v4 : Int64) (M : RM) (H : Heap) (locs : List Loc) (ls : Array Slot), rH D kA h ad A s.heap M H locs → lv_has ls 6 [(0, .ref h), (1, .long v1), (3, .int v3), (4, .long v4)] → fm_isWord_l5 Q  nn v1 v3 v4 M → W p l e (headSpec wsX11_isWord rmX11_isWord).room s m args below meth c H locs 0 0 (MQ below (va_Qi Q (rB D kA h ad A) A) args s 0 0 A) (F0 m 5 ls []) := by
    intro   nn
    induction nn with
    | zero => intro v1 v3 v4 M H locs ls hH hl hw; exact False.elim hw
    | succ nn hk5 =>
      intro v1 v3 v4 M H locs ls hH hl hw
      replace hw : fm_isWord_c5 Q  (fm_isWord_l5 Q  nn) v1 v3 v4 M := hw
      unfold fm_isWord_c5 at hw
      refine lv_lload hx hb dX11_isWord_5 (lv_at hl 3 rfl) ?_
      refine lv_lconst (v := 0) hx hb dX11_isWord_7 (by decide) ?_
      refine W.lcmp hx hb dX11_isWord_8 ?_
      refine lv_if_eq (tgt := 25) hx hb dX11_isWord_9 (by decide) (fun c6 => ?_) (fun c6 => ?_)
      · replace hw := hw.1 c6
        refine lv_aload_n hx hb dX11_isWord_25 rfl (lv_at hl 0 rfl) ?_
        refine r_calli (va_runV (As := []) (rest := []) ⟨hx, hb, hml, hown, hts⟩ (tm_wordEnd l D kA h ad H.size M  _ hw) (cwV 0 hts gX11_isWord_X11_wordEnd rfl rfl rfl (by decide +kernel) ⟨Nat.le_of_ble_eq_true rfl, Nat.le_of_ble_eq_true rfl⟩) (r_preV hK hH) rfl rfl hl.1 rfl (lv_room (Nat.le_of_ble_eq_true rfl)) dX11_isWord_26 ⟨Nat.le_of_ble_eq_true rfl, Nat.le_of_ble_eq_true rfl⟩) hH hA (fun r8 M7 H locs hw hH => ?_)
        refine lv_aload_n hx hb dX11_isWord_29 rfl (lv_at hl 0 rfl) ?_
        refine rg_26 hx hb hts hin hown hK hH (hts (.fieldLink RX11 92 "IdlCallerModel" "at" "I") (by decide +kernel)) dX11_isWord_30 ?_
        refine lv_isub hx hb dX11_isWord_33 ?_
        refine lv_iload_n hx hb dX11_isWord_34 rfl (lv_at hl 2 rfl) ?_
        refine lv_icmp_ne (tgt := 42) hx hb dX11_isWord_35 (by decide) (fun c9 => ?_) (fun c9 => ?_)
        · replace hw := hw.1 c9
          refine lv_iconst (v := 0) hx hb dX11_isWord_42 (by decide) ?_
          exact b43   v1 v3 0 M7 H locs ls hH (lv_sub hl [0, 1, 2] rfl) hw
        · replace hw := hw.2 c9
          refine lv_iconst (v := 1) hx hb dX11_isWord_38 (by decide) ?_
          refine lv_goto (tgt := 43) hx hb dX11_isWord_39 (by decide) ?_
          exact b43   v1 v3 1 M7 H locs ls hH (lv_sub hl [0, 1, 2] rfl) hw
      · replace hw := hw.2 c6
        obtain ⟨x10, ex10⟩ : ∃ y : Int32, y = v3 + 1 := ⟨_, rfl⟩
        replace hw := hw x10 ex10
        refine lv_iinc (v := x10) (lv' := [(3, .int x10), (0, .ref h), (1, .long v1), (4, .long v4)]) hx hb dX11_isWord_12 hl (k := 2) rfl (by rw [ex10]; rfl) (by decide) rfl (fun ls hl => ?_)
        refine lv_lload hx hb dX11_isWord_15 (lv_at hl 3 rfl) ?_
        refine lv_bipush (v := 8) hx hb dX11_isWord_17 (by decide) ?_
        refine lv_lshr hx hb dX11_isWord_19 rfl ?_
        refine lv_topl (fun x11 ex11 => ?_)
        replace hw := hw x11 ex11
        refine lv_lstore (lv' := [(4, .long x11), (3, .int x10), (0, .ref h), (1, .long v1)]) hx hb dX11_isWord_20 hl (by decide) rfl (fun ls hl => ?_)
        refine lv_goto (tgt := 5) hx hb dX11_isWord_22 (by decide) ?_
        exact hk5 v1 x10 x11 M H locs ls hH (lv_sub hl [2, 3, 1, 0] rfl) hw
  clear hP hD0
  unfold fm_isWord at hw
  have hst : ∀ (M : RM) (H : Heap) (locs : List Loc) (ls : Array Slot), rH D kA h ad A s.heap M H locs → lv_has ls 6 [(0, .ref h), (1, .long a1)] → (∃ nn : Nat, fm_isWord_l5 Q  nn a1 0 a1 M) → W p l e (headSpec wsX11_isWord rmX11_isWord).room s m args below meth c H locs 0 0 (MQ below (va_Qi Q (rB D kA h ad A) A) args s 0 0 A) (F0 m 0 ls []) := by
    intro M H locs ls hH hl hw
    refine lv_iconst (v := 0) hx hb dX11_isWord_0 (by decide) ?_
    refine lv_istore_n (lv' := [(3, .int 0), (0, .ref h), (1, .long a1)]) hx hb dX11_isWord_1 rfl hl (by decide) rfl (fun ls hl => ?_)
    refine lv_lload_n hx hb dX11_isWord_2 rfl (lv_at hl 2 rfl) ?_
    refine lv_lstore (lv' := [(4, .long a1), (3, .int 0), (0, .ref h), (1, .long a1)]) hx hb dX11_isWord_3 hl (by decide) rfl (fun ls hl => ?_)
    obtain ⟨nn, hw⟩ := hw
    exact l5   nn a1 0 a1 M H locs ls hH (lv_sub hl [2, 3, 1, 0] rfl) hw
  exact hst M s.heap [] ls hH hl hw
def fm_typeHere_b145 (Q : Int32 → RM → Prop) (s0 : Int32) (M : RM) : Prop := Q s0 M
def fm_typeHere (M : RM) (Q : Int32 → RM → Prop) : Prop := fm_isWord 27707072068280686 M (fun (r2 : Int32) (M1 : RM) => ((r2 = 0 → fm_isWord 1652126821 M1 (fun (r5 : Int32) (M4 : RM) => ((r5 = 0 → fm_isWord 478409942388 M4 (fun (r8 : Int32) (M7 : RM) => ((r8 = 0 → fm_isWord 495673373300 M7 (fun (r11 : Int32) (M10 : RM) => ((r11 = 0 → fm_isWord 1819242087 M10 (fun (r14 : Int32) (M13 : RM) => ((r14 = 0 → fm_isWord 110429873532005 M13 (fun (r17 : Int32) (M16 : RM) => ((r17 = 0 → fm_isWord 126943972912743 M16 (fun (r20 : Int32) (M19 : RM) => ((r20 = 0 → fm_isWord 6385273 M19 (fun (r23 : Int32) (M22 : RM) => ((r23 = 0 → fm_isWord 1701737837 M22 (fun (r26 : Int32) (M25 : RM) => ((r26 = 0 → fm_isWord 1818850164 M25 (fun (r29 : Int32) (M28 : RM) => ((r29 = 0 → fm_typeHere_b145 Q  (-1) M28) ∧ (¬ r29 = 0 → fm_typeHere_b145 Q  9 M28)))) ∧ (¬ r26 = 0 → fm_typeHere_b145 Q  8 M25)))) ∧ (¬ r23 = 0 → fm_typeHere_b145 Q  7 M22)))) ∧ (¬ r20 = 0 → fm_typeHere_b145 Q  6 M19)))) ∧ (¬ r17 = 0 → fm_typeHere_b145 Q  5 M16)))) ∧ (¬ r14 = 0 → fm_typeHere_b145 Q  4 M13)))) ∧ (¬ r11 = 0 → fm_typeHere_b145 Q  3 M10)))) ∧ (¬ r8 = 0 → fm_typeHere_b145 Q  2 M7)))) ∧ (¬ r5 = 0 → fm_typeHere_b145 Q  1 M4)))) ∧ (¬ r2 = 0 → fm_typeHere_b145 Q  0 M1)))
abbrev rmX11_typeHere : Room := { frames := 3, cells := 0, slots := 0, locals := 66 }
set_option maxHeartbeats 4000000 in
set_option maxRecDepth 100000 in
theorem tm_typeHere (l : Launch) (D : va_G) (kA : Nat → ClassId) (h : Nat) (ad : Nat → Nat) (sz : Nat) (M : RM) (Q : Int32 → RM → Prop) (hw : fm_typeHere  M Q) : Met l yX11_typeHere wsX11_typeHere rmX11_typeHere (va_Pc [.ref h] (rPc D kA h ad M sz)) (va_Qi Q (rB D kA h ad (rF kA h ad M sz)) (rF kA h ad M sz)) 0 0 (rF kA h ad M sz) := by
  refine Met.ofW (cc := cX11_typeHere) (maxL := 1) (ret := (some .int)) (by decide) rfl ?_
  intro p e s m args below meth c s₁ B hml hv
  obtain ⟨rfl, hsz, hP, hK, hD0⟩ := hv
  have hx := B.exec
  have hb := B.bytes
  have hr := B.returns
  have hts := atoms_spec (ws := wsX11_typeHere) B.pre
  have hown : s.vm.findClass RX11 = some m.cls := findClass_of_methodNamed B.named
  have hlocks : meth.locks = false := B.notSynchronized
  subst hsz
  have hH : rH D kA h ad (rF kA h ad M s.heap.size) s.heap M s.heap [] := ⟨hP, hD0.self, va_S.rf⟩
  have hA : ∀ q : Nat, s.heap.size ≤ q → rF kA h ad M s.heap.size q := fun q z => Or.inr z
  generalize rF kA h ad M s.heap.size = A at hH hA ⊢
  have hl := lv_entry ([.ref h]) (n := 1) (Nat.le_of_ble_eq_true rfl)
  rw [lg_entry_eq]
  generalize (lg_sl ([.ref h]) ++ List.replicate (1 - (lg_sl ([.ref h])).length) Slot.unset).toArray = ls at hl ⊢
  generalize ([.ref h] : List Value).toArray = args at hts ⊢
  have hl : lv_has ls 1 [(0, .ref h)] := hl
  have b145 : ∀ (s0 : Int32) (M : RM) (H : Heap) (locs : List Loc) (ls : Array Slot), rH D kA h ad A s.heap M H locs → lv_has ls 1 [] → fm_typeHere_b145 Q  s0 M → W p l e (headSpec wsX11_typeHere rmX11_typeHere).room s m args below meth c H locs 0 0 (MQ below (va_Qi Q (rB D kA h ad A) A) args s 0 0 A) (F0 m 145 ls [.int s0]) := by
    intro   s0 M H locs ls hH hl hw
    unfold fm_typeHere_b145 at hw
    exact r_reti hx hb hr hlocks hK hH hw dX11_typeHere_145
  clear hP hD0
  unfold fm_typeHere at hw
  have hst : ∀ (M : RM) (H : Heap) (locs : List Loc) (ls : Array Slot), rH D kA h ad A s.heap M H locs → lv_has ls 1 [(0, .ref h)] → fm_isWord 27707072068280686 M (fun (r2 : Int32) (M1 : RM) => ((r2 = 0 → fm_isWord 1652126821 M1 (fun (r5 : Int32) (M4 : RM) => ((r5 = 0 → fm_isWord 478409942388 M4 (fun (r8 : Int32) (M7 : RM) => ((r8 = 0 → fm_isWord 495673373300 M7 (fun (r11 : Int32) (M10 : RM) => ((r11 = 0 → fm_isWord 1819242087 M10 (fun (r14 : Int32) (M13 : RM) => ((r14 = 0 → fm_isWord 110429873532005 M13 (fun (r17 : Int32) (M16 : RM) => ((r17 = 0 → fm_isWord 126943972912743 M16 (fun (r20 : Int32) (M19 : RM) => ((r20 = 0 → fm_isWord 6385273 M19 (fun (r23 : Int32) (M22 : RM) => ((r23 = 0 → fm_isWord 1701737837 M22 (fun (r26 : Int32) (M25 : RM) => ((r26 = 0 → fm_isWord 1818850164 M25 (fun (r29 : Int32) (M28 : RM) => ((r29 = 0 → fm_typeHere_b145 Q  (-1) M28) ∧ (¬ r29 = 0 → fm_typeHere_b145 Q  9 M28)))) ∧ (¬ r26 = 0 → fm_typeHere_b145 Q  8 M25)))) ∧ (¬ r23 = 0 → fm_typeHere_b145 Q  7 M22)))) ∧ (¬ r20 = 0 → fm_typeHere_b145 Q  6 M19)))) ∧ (¬ r17 = 0 → fm_typeHere_b145 Q  5 M16)))) ∧ (¬ r14 = 0 → fm_typeHere_b145 Q  4 M13)))) ∧ (¬ r11 = 0 → fm_typeHere_b145 Q  3 M10)))) ∧ (¬ r8 = 0 → fm_typeHere_b145 Q  2 M7)))) ∧ (¬ r5 = 0 → fm_typeHere_b145 Q  1 M4)))) ∧ (¬ r2 = 0 → fm_typeHere_b145 Q  0 M1))) → W p l e (headSpec wsX11_typeHere rmX11_typeHere).room s m args below meth c H locs 0 0 (MQ below (va_Qi Q (rB D kA h ad A) A) args s 0 0 A) (F0 m 0 ls []) := by
    intro M H locs ls hH hl hw
    refine lv_aload_n hx hb dX11_typeHere_0 rfl (lv_at hl 0 rfl) ?_
    refine lv_ldc2 (v := 27707072068280686) hx hb hown (hts (.constantLong RX11 120 27707072068280686) (by decide +kernel)) dX11_typeHere_1 ?_
    refine r_calli (va_runV (As := [.long 27707072068280686]) (rest := []) ⟨hx, hb, hml, hown, hts⟩ (tm_isWord l D kA h ad H.size M 27707072068280686 _ hw) (cwV 1 hts gX11_typeHere_X11_isWord rfl rfl rfl (by decide +kernel) ⟨Nat.le_of_ble_eq_true rfl, Nat.le_of_ble_eq_true rfl⟩) (r_preV hK hH) rfl rfl hl.1 rfl (lv_room (Nat.le_of_ble_eq_true rfl)) dX11_typeHere_4 ⟨Nat.le_of_ble_eq_true rfl, Nat.le_of_ble_eq_true rfl⟩) hH hA (fun r2 M1 H locs hw hH => ?_)
    refine lv_if_eq (tgt := 14) hx hb dX11_typeHere_7 (by decide) (fun c3 => ?_) (fun c3 => ?_)
    · replace hw := hw.1 c3
      refine lv_aload_n hx hb dX11_typeHere_14 rfl (lv_at hl 0 rfl) ?_
      refine lv_ldc2 (v := 1652126821) hx hb hown (hts (.constantLong RX11 126 1652126821) (by decide +kernel)) dX11_typeHere_15 ?_
      refine r_calli (va_runV (As := [.long 1652126821]) (rest := []) ⟨hx, hb, hml, hown, hts⟩ (tm_isWord l D kA h ad H.size M1 1652126821 _ hw) (cwV 1 hts gX11_typeHere_X11_isWord rfl rfl rfl (by decide +kernel) ⟨Nat.le_of_ble_eq_true rfl, Nat.le_of_ble_eq_true rfl⟩) (r_preV hK hH) rfl rfl hl.1 rfl (lv_room (Nat.le_of_ble_eq_true rfl)) dX11_typeHere_18 ⟨Nat.le_of_ble_eq_true rfl, Nat.le_of_ble_eq_true rfl⟩) hH hA (fun r5 M4 H locs hw hH => ?_)
      refine lv_if_eq (tgt := 28) hx hb dX11_typeHere_21 (by decide) (fun c6 => ?_) (fun c6 => ?_)
      · replace hw := hw.1 c6
        refine lv_aload_n hx hb dX11_typeHere_28 rfl (lv_at hl 0 rfl) ?_
        refine lv_ldc2 (v := 478409942388) hx hb hown (hts (.constantLong RX11 128 478409942388) (by decide +kernel)) dX11_typeHere_29 ?_
        refine r_calli (va_runV (As := [.long 478409942388]) (rest := []) ⟨hx, hb, hml, hown, hts⟩ (tm_isWord l D kA h ad H.size M4 478409942388 _ hw) (cwV 1 hts gX11_typeHere_X11_isWord rfl rfl rfl (by decide +kernel) ⟨Nat.le_of_ble_eq_true rfl, Nat.le_of_ble_eq_true rfl⟩) (r_preV hK hH) rfl rfl hl.1 rfl (lv_room (Nat.le_of_ble_eq_true rfl)) dX11_typeHere_32 ⟨Nat.le_of_ble_eq_true rfl, Nat.le_of_ble_eq_true rfl⟩) hH hA (fun r8 M7 H locs hw hH => ?_)
        refine lv_if_eq (tgt := 42) hx hb dX11_typeHere_35 (by decide) (fun c9 => ?_) (fun c9 => ?_)
        · replace hw := hw.1 c9
          refine lv_aload_n hx hb dX11_typeHere_42 rfl (lv_at hl 0 rfl) ?_
          refine lv_ldc2 (v := 495673373300) hx hb hown (hts (.constantLong RX11 130 495673373300) (by decide +kernel)) dX11_typeHere_43 ?_
          refine r_calli (va_runV (As := [.long 495673373300]) (rest := []) ⟨hx, hb, hml, hown, hts⟩ (tm_isWord l D kA h ad H.size M7 495673373300 _ hw) (cwV 1 hts gX11_typeHere_X11_isWord rfl rfl rfl (by decide +kernel) ⟨Nat.le_of_ble_eq_true rfl, Nat.le_of_ble_eq_true rfl⟩) (r_preV hK hH) rfl rfl hl.1 rfl (lv_room (Nat.le_of_ble_eq_true rfl)) dX11_typeHere_46 ⟨Nat.le_of_ble_eq_true rfl, Nat.le_of_ble_eq_true rfl⟩) hH hA (fun r11 M10 H locs hw hH => ?_)
          refine lv_if_eq (tgt := 56) hx hb dX11_typeHere_49 (by decide) (fun c12 => ?_) (fun c12 => ?_)
          · replace hw := hw.1 c12
            refine lv_aload_n hx hb dX11_typeHere_56 rfl (lv_at hl 0 rfl) ?_
            refine lv_ldc2 (v := 1819242087) hx hb hown (hts (.constantLong RX11 132 1819242087) (by decide +kernel)) dX11_typeHere_57 ?_
            refine r_calli (va_runV (As := [.long 1819242087]) (rest := []) ⟨hx, hb, hml, hown, hts⟩ (tm_isWord l D kA h ad H.size M10 1819242087 _ hw) (cwV 1 hts gX11_typeHere_X11_isWord rfl rfl rfl (by decide +kernel) ⟨Nat.le_of_ble_eq_true rfl, Nat.le_of_ble_eq_true rfl⟩) (r_preV hK hH) rfl rfl hl.1 rfl (lv_room (Nat.le_of_ble_eq_true rfl)) dX11_typeHere_60 ⟨Nat.le_of_ble_eq_true rfl, Nat.le_of_ble_eq_true rfl⟩) hH hA (fun r14 M13 H locs hw hH => ?_)
            refine lv_if_eq (tgt := 70) hx hb dX11_typeHere_63 (by decide) (fun c15 => ?_) (fun c15 => ?_)
            · replace hw := hw.1 c15
              refine lv_aload_n hx hb dX11_typeHere_70 rfl (lv_at hl 0 rfl) ?_
              refine lv_ldc2 (v := 110429873532005) hx hb hown (hts (.constantLong RX11 134 110429873532005) (by decide +kernel)) dX11_typeHere_71 ?_
              refine r_calli (va_runV (As := [.long 110429873532005]) (rest := []) ⟨hx, hb, hml, hown, hts⟩ (tm_isWord l D kA h ad H.size M13 110429873532005 _ hw) (cwV 1 hts gX11_typeHere_X11_isWord rfl rfl rfl (by decide +kernel) ⟨Nat.le_of_ble_eq_true rfl, Nat.le_of_ble_eq_true rfl⟩) (r_preV hK hH) rfl rfl hl.1 rfl (lv_room (Nat.le_of_ble_eq_true rfl)) dX11_typeHere_74 ⟨Nat.le_of_ble_eq_true rfl, Nat.le_of_ble_eq_true rfl⟩) hH hA (fun r17 M16 H locs hw hH => ?_)
              refine lv_if_eq (tgt := 84) hx hb dX11_typeHere_77 (by decide) (fun c18 => ?_) (fun c18 => ?_)
              · replace hw := hw.1 c18
                refine lv_aload_n hx hb dX11_typeHere_84 rfl (lv_at hl 0 rfl) ?_
                refine lv_ldc2 (v := 126943972912743) hx hb hown (hts (.constantLong RX11 136 126943972912743) (by decide +kernel)) dX11_typeHere_85 ?_
                refine r_calli (va_runV (As := [.long 126943972912743]) (rest := []) ⟨hx, hb, hml, hown, hts⟩ (tm_isWord l D kA h ad H.size M16 126943972912743 _ hw) (cwV 1 hts gX11_typeHere_X11_isWord rfl rfl rfl (by decide +kernel) ⟨Nat.le_of_ble_eq_true rfl, Nat.le_of_ble_eq_true rfl⟩) (r_preV hK hH) rfl rfl hl.1 rfl (lv_room (Nat.le_of_ble_eq_true rfl)) dX11_typeHere_88 ⟨Nat.le_of_ble_eq_true rfl, Nat.le_of_ble_eq_true rfl⟩) hH hA (fun r20 M19 H locs hw hH => ?_)
                refine lv_if_eq (tgt := 99) hx hb dX11_typeHere_91 (by decide) (fun c21 => ?_) (fun c21 => ?_)
                · replace hw := hw.1 c21
                  refine lv_aload_n hx hb dX11_typeHere_99 rfl (lv_at hl 0 rfl) ?_
                  refine lv_ldc2 (v := 6385273) hx hb hown (hts (.constantLong RX11 138 6385273) (by decide +kernel)) dX11_typeHere_100 ?_
                  refine r_calli (va_runV (As := [.long 6385273]) (rest := []) ⟨hx, hb, hml, hown, hts⟩ (tm_isWord l D kA h ad H.size M19 6385273 _ hw) (cwV 1 hts gX11_typeHere_X11_isWord rfl rfl rfl (by decide +kernel) ⟨Nat.le_of_ble_eq_true rfl, Nat.le_of_ble_eq_true rfl⟩) (r_preV hK hH) rfl rfl hl.1 rfl (lv_room (Nat.le_of_ble_eq_true rfl)) dX11_typeHere_103 ⟨Nat.le_of_ble_eq_true rfl, Nat.le_of_ble_eq_true rfl⟩) hH hA (fun r23 M22 H locs hw hH => ?_)
                  refine lv_if_eq (tgt := 114) hx hb dX11_typeHere_106 (by decide) (fun c24 => ?_) (fun c24 => ?_)
                  · replace hw := hw.1 c24
                    refine lv_aload_n hx hb dX11_typeHere_114 rfl (lv_at hl 0 rfl) ?_
                    refine lv_ldc2 (v := 1701737837) hx hb hown (hts (.constantLong RX11 140 1701737837) (by decide +kernel)) dX11_typeHere_115 ?_
                    refine r_calli (va_runV (As := [.long 1701737837]) (rest := []) ⟨hx, hb, hml, hown, hts⟩ (tm_isWord l D kA h ad H.size M22 1701737837 _ hw) (cwV 1 hts gX11_typeHere_X11_isWord rfl rfl rfl (by decide +kernel) ⟨Nat.le_of_ble_eq_true rfl, Nat.le_of_ble_eq_true rfl⟩) (r_preV hK hH) rfl rfl hl.1 rfl (lv_room (Nat.le_of_ble_eq_true rfl)) dX11_typeHere_118 ⟨Nat.le_of_ble_eq_true rfl, Nat.le_of_ble_eq_true rfl⟩) hH hA (fun r26 M25 H locs hw hH => ?_)
                    refine lv_if_eq (tgt := 129) hx hb dX11_typeHere_121 (by decide) (fun c27 => ?_) (fun c27 => ?_)
                    · replace hw := hw.1 c27
                      refine lv_aload_n hx hb dX11_typeHere_129 rfl (lv_at hl 0 rfl) ?_
                      refine lv_ldc2 (v := 1818850164) hx hb hown (hts (.constantLong RX11 142 1818850164) (by decide +kernel)) dX11_typeHere_130 ?_
                      refine r_calli (va_runV (As := [.long 1818850164]) (rest := []) ⟨hx, hb, hml, hown, hts⟩ (tm_isWord l D kA h ad H.size M25 1818850164 _ hw) (cwV 1 hts gX11_typeHere_X11_isWord rfl rfl rfl (by decide +kernel) ⟨Nat.le_of_ble_eq_true rfl, Nat.le_of_ble_eq_true rfl⟩) (r_preV hK hH) rfl rfl hl.1 rfl (lv_room (Nat.le_of_ble_eq_true rfl)) dX11_typeHere_133 ⟨Nat.le_of_ble_eq_true rfl, Nat.le_of_ble_eq_true rfl⟩) hH hA (fun r29 M28 H locs hw hH => ?_)
                      refine lv_if_eq (tgt := 144) hx hb dX11_typeHere_136 (by decide) (fun c30 => ?_) (fun c30 => ?_)
                      · replace hw := hw.1 c30
                        refine lv_iconst (v := (-1)) hx hb dX11_typeHere_144 (by decide) ?_
                        exact b145   (-1) M28 H locs ls hH (lv_sub hl [] rfl) hw
                      · replace hw := hw.2 c30
                        refine lv_bipush (v := 9) hx hb dX11_typeHere_139 (by decide) ?_
                        refine lv_goto (tgt := 145) hx hb dX11_typeHere_141 (by decide) ?_
                        exact b145   9 M28 H locs ls hH (lv_sub hl [] rfl) hw
                    · replace hw := hw.2 c27
                      refine lv_bipush (v := 8) hx hb dX11_typeHere_124 (by decide) ?_
                      refine lv_goto (tgt := 145) hx hb dX11_typeHere_126 (by decide) ?_
                      exact b145   8 M25 H locs ls hH (lv_sub hl [] rfl) hw
                  · replace hw := hw.2 c24
                    refine lv_bipush (v := 7) hx hb dX11_typeHere_109 (by decide) ?_
                    refine lv_goto (tgt := 145) hx hb dX11_typeHere_111 (by decide) ?_
                    exact b145   7 M22 H locs ls hH (lv_sub hl [] rfl) hw
                · replace hw := hw.2 c21
                  refine lv_bipush (v := 6) hx hb dX11_typeHere_94 (by decide) ?_
                  refine lv_goto (tgt := 145) hx hb dX11_typeHere_96 (by decide) ?_
                  exact b145   6 M19 H locs ls hH (lv_sub hl [] rfl) hw
              · replace hw := hw.2 c18
                refine lv_iconst (v := 5) hx hb dX11_typeHere_80 (by decide) ?_
                refine lv_goto (tgt := 145) hx hb dX11_typeHere_81 (by decide) ?_
                exact b145   5 M16 H locs ls hH (lv_sub hl [] rfl) hw
            · replace hw := hw.2 c15
              refine lv_iconst (v := 4) hx hb dX11_typeHere_66 (by decide) ?_
              refine lv_goto (tgt := 145) hx hb dX11_typeHere_67 (by decide) ?_
              exact b145   4 M13 H locs ls hH (lv_sub hl [] rfl) hw
          · replace hw := hw.2 c12
            refine lv_iconst (v := 3) hx hb dX11_typeHere_52 (by decide) ?_
            refine lv_goto (tgt := 145) hx hb dX11_typeHere_53 (by decide) ?_
            exact b145   3 M10 H locs ls hH (lv_sub hl [] rfl) hw
        · replace hw := hw.2 c9
          refine lv_iconst (v := 2) hx hb dX11_typeHere_38 (by decide) ?_
          refine lv_goto (tgt := 145) hx hb dX11_typeHere_39 (by decide) ?_
          exact b145   2 M7 H locs ls hH (lv_sub hl [] rfl) hw
      · replace hw := hw.2 c6
        refine lv_iconst (v := 1) hx hb dX11_typeHere_24 (by decide) ?_
        refine lv_goto (tgt := 145) hx hb dX11_typeHere_25 (by decide) ?_
        exact b145   1 M4 H locs ls hH (lv_sub hl [] rfl) hw
    · replace hw := hw.2 c3
      refine lv_iconst (v := 0) hx hb dX11_typeHere_10 (by decide) ?_
      refine lv_goto (tgt := 145) hx hb dX11_typeHere_11 (by decide) ?_
      exact b145   0 M1 H locs ls hH (lv_sub hl [] rfl) hw
  exact hst M s.heap [] ls hH hl hw
def fm_isSameWord_b48 (Q : Int32 → RM → Prop) (k5 : Int32 → Int32 → Int32 → Int32 → RM → Prop) (v1 : Int32) (v2 : Int32) (v4 : Int32) (s0 : Int32) (M : RM) : Prop := (∀ x1 : Int32, x1 = v4 + 1 → k5 v1 v2 s0 x1 M)
def fm_isSameWord_b47 (Q : Int32 → RM → Prop) (k5 : Int32 → Int32 → Int32 → Int32 → RM → Prop) (v1 : Int32) (v2 : Int32) (v4 : Int32) (M : RM) : Prop := fm_isSameWord_b48 Q k5 v1 v2 v4 0 M
def fm_isSameWord_c5 (Q : Int32 → RM → Prop) (k5 : Int32 → Int32 → Int32 → Int32 → RM → Prop) (v1 : Int32) (v2 : Int32) (v3 : Int32) (v4 : Int32) (M : RM) : Prop := ((8 ≤ v4 → (nZ v3 ∧ Q v3 M)) ∧ (¬ 8 ≤ v4 → ((v3 = 0 → fm_isSameWord_b47 Q k5 v1 v2 v4 M) ∧ (¬ v3 = 0 → (vp_in ((8 * v1) + v4) 14800 ∧ (vp_in ((8 * v2) + v4) 14800 ∧ ((¬ (rA M 12 ((8 * v1) + v4).toNatClampNeg) = (rA M 12 ((8 * v2) + v4).toNatClampNeg) → fm_isSameWord_b47 Q k5 v1 v2 v4 M) ∧ ((rA M 12 ((8 * v1) + v4).toNatClampNeg) = (rA M 12 ((8 * v2) + v4).toNatClampNeg) → fm_isSameWord_b48 Q k5 v1 v2 v4 1 M))))))))
def fm_isSameWord_l5 (Q : Int32 → RM → Prop) : Nat → Int32 → Int32 → Int32 → Int32 → RM → Prop := lit (τ := Int32 → Int32 → Int32 → Int32 → RM → Prop) (fun _ _ _ _ _ => False) (fun k => fm_isSameWord_c5 Q  k)
def fm_isSameWord (a1 : Int32) (a2 : Int32) (M : RM) (Q : Int32 → RM → Prop) : Prop := (∃ nn : Nat, fm_isSameWord_l5 Q  nn a1 a2 1 0 M)
abbrev rmX11_isSameWord : Room := { frames := 0, cells := 0, slots := 0, locals := 0 }
set_option maxHeartbeats 4000000 in
set_option maxRecDepth 100000 in
theorem tm_isSameWord (l : Launch) (D : va_G) (kA : Nat → ClassId) (h : Nat) (ad : Nat → Nat) (sz : Nat) (M : RM) (a1 : Int32) (a2 : Int32) (Q : Int32 → RM → Prop) (hw : fm_isSameWord a1 a2 M Q) : Met l yX11_isSameWord wsX11_isSameWord rmX11_isSameWord (va_Pc [.ref h, .int a1, .int a2] (rPc D kA h ad M sz)) (va_Qi Q (rB D kA h ad (rF kA h ad M sz)) (rF kA h ad M sz)) 0 0 (rF kA h ad M sz) := by
  refine Met.ofW (cc := cX11_isSameWord) (maxL := 5) (ret := (some .boolean)) (by decide) rfl ?_
  intro p e s m args below meth c s₁ B hml hv
  obtain ⟨rfl, hsz, hP, hK, hD0⟩ := hv
  have hx := B.exec
  have hb := B.bytes
  have hr := B.returns
  have hts := atoms_spec (ws := wsX11_isSameWord) B.pre
  have hown : s.vm.findClass RX11 = some m.cls := findClass_of_methodNamed B.named
  have hlocks : meth.locks = false := B.notSynchronized
  subst hsz
  have hH : rH D kA h ad (rF kA h ad M s.heap.size) s.heap M s.heap [] := ⟨hP, hD0.self, va_S.rf⟩
  have hA : ∀ q : Nat, s.heap.size ≤ q → rF kA h ad M s.heap.size q := fun q z => Or.inr z
  generalize rF kA h ad M s.heap.size = A at hH hA ⊢
  have hl := lv_entry ([.ref h, .int a1, .int a2]) (n := 5) (Nat.le_of_ble_eq_true rfl)
  rw [lg_entry_eq]
  generalize (lg_sl ([.ref h, .int a1, .int a2]) ++ List.replicate (5 - (lg_sl ([.ref h, .int a1, .int a2])).length) Slot.unset).toArray = ls at hl ⊢
  generalize ([.ref h, .int a1, .int a2] : List Value).toArray = args at hts ⊢
  have hl : lv_has ls 5 [(0, .ref h), (1, .int a1), (2, .int a2)] := hl
  have hin : ∀ w ∈ wsX110, w ∈ wsX11_isSameWord := by decide +kernel
  have b48 : ∀ (k5 : Int32 → Int32 → Int32 → Int32 → RM → Prop) (hk5 : ∀ (v1 : Int32) (v2 : Int32) (v3 : Int32) (v4 : Int32) (M : RM) (H : Heap) (locs : List Loc) (ls : Array Slot), rH D kA h ad A s.heap M H locs → lv_has ls 5 [(0, .ref h), (1, .int v1), (2, .int v2), (3, .int v3), (4, .int v4)] → k5 v1 v2 v3 v4 M → W p l e (headSpec wsX11_isSameWord rmX11_isSameWord).room s m args below meth c H locs 0 0 (MQ below (va_Qi Q (rB D kA h ad A) A) args s 0 0 A) (F0 m 5 ls [])) (v1 : Int32) (v2 : Int32) (v4 : Int32) (s0 : Int32) (M : RM) (H : Heap) (locs : List Loc) (ls : Array Slot), rH D kA h ad A s.heap M H locs → lv_has ls 5 [(0, .ref h), (1, .int v1), (2, .int v2), (4, .int v4)] → fm_isSameWord_b48 Q k5 v1 v2 v4 s0 M → W p l e (headSpec wsX11_isSameWord rmX11_isSameWord).room s m args below meth c H locs 0 0 (MQ below (va_Qi Q (rB D kA h ad A) A) args s 0 0 A) (F0 m 48 ls [.int s0]) := by
    intro k5 hk5 v1 v2 v4 s0 M H locs ls hH hl hw
    unfold fm_isSameWord_b48 at hw
    refine lv_istore_n (lv' := [(3, .int s0), (0, .ref h), (1, .int v1), (2, .int v2), (4, .int v4)]) hx hb dX11_isSameWord_48 rfl hl (by decide) rfl (fun ls hl => ?_)
    obtain ⟨x1, ex1⟩ : ∃ y : Int32, y = v4 + 1 := ⟨_, rfl⟩
    replace hw := hw x1 ex1
    refine lv_iinc (v := x1) (lv' := [(4, .int x1), (3, .int s0), (0, .ref h), (1, .int v1), (2, .int v2)]) hx hb dX11_isSameWord_49 hl (k := 4) rfl (by rw [ex1]; rfl) (by decide) rfl (fun ls hl => ?_)
    refine lv_goto (tgt := 5) hx hb dX11_isSameWord_52 (by decide) ?_
    exact hk5 v1 v2 s0 x1 M H locs ls hH (lv_sub hl [2, 3, 4, 1, 0] rfl) hw
  have b47 : ∀ (k5 : Int32 → Int32 → Int32 → Int32 → RM → Prop) (hk5 : ∀ (v1 : Int32) (v2 : Int32) (v3 : Int32) (v4 : Int32) (M : RM) (H : Heap) (locs : List Loc) (ls : Array Slot), rH D kA h ad A s.heap M H locs → lv_has ls 5 [(0, .ref h), (1, .int v1), (2, .int v2), (3, .int v3), (4, .int v4)] → k5 v1 v2 v3 v4 M → W p l e (headSpec wsX11_isSameWord rmX11_isSameWord).room s m args below meth c H locs 0 0 (MQ below (va_Qi Q (rB D kA h ad A) A) args s 0 0 A) (F0 m 5 ls [])) (v1 : Int32) (v2 : Int32) (v4 : Int32) (M : RM) (H : Heap) (locs : List Loc) (ls : Array Slot), rH D kA h ad A s.heap M H locs → lv_has ls 5 [(0, .ref h), (1, .int v1), (2, .int v2), (4, .int v4)] → fm_isSameWord_b47 Q k5 v1 v2 v4 M → W p l e (headSpec wsX11_isSameWord rmX11_isSameWord).room s m args below meth c H locs 0 0 (MQ below (va_Qi Q (rB D kA h ad A) A) args s 0 0 A) (F0 m 47 ls []) := by
    intro k5 hk5 v1 v2 v4 M H locs ls hH hl hw
    unfold fm_isSameWord_b47 at hw
    refine lv_iconst (v := 0) hx hb dX11_isSameWord_47 (by decide) ?_
    exact b48 _ hk5 v1 v2 v4 0 M H locs ls hH (lv_sub hl [0, 1, 2, 3] rfl) hw
  have l5 : ∀ (nn : Nat) (v1 : Int32) (v2 : Int32) (v3 : Int32) (v4 : Int32) (M : RM) (H : Heap) (locs : List Loc) (ls : Array Slot), rH D kA h ad A s.heap M H locs → lv_has ls 5 [(0, .ref h), (1, .int v1), (2, .int v2), (3, .int v3), (4, .int v4)] → fm_isSameWord_l5 Q  nn v1 v2 v3 v4 M → W p l e (headSpec wsX11_isSameWord rmX11_isSameWord).room s m args below meth c H locs 0 0 (MQ below (va_Qi Q (rB D kA h ad A) A) args s 0 0 A) (F0 m 5 ls []) := by
    intro   nn
    induction nn with
    | zero => intro v1 v2 v3 v4 M H locs ls hH hl hw; exact False.elim hw
    | succ nn hk5 =>
      intro v1 v2 v3 v4 M H locs ls hH hl hw
      replace hw : fm_isSameWord_c5 Q  (fm_isSameWord_l5 Q  nn) v1 v2 v3 v4 M := hw
      unfold fm_isSameWord_c5 at hw
      refine lv_iload hx hb dX11_isSameWord_5 (lv_at hl 4 rfl) ?_
      refine lv_bipush (v := 8) hx hb dX11_isSameWord_7 (by decide) ?_
      refine lv_icmp_ge (tgt := 55) hx hb dX11_isSameWord_9 (by decide) (fun c2 => ?_) (fun c2 => ?_)
      · replace hw := hw.1 c2
        refine lv_iload_n hx hb dX11_isSameWord_55 rfl (lv_at hl 3 rfl) ?_
        exact r_retz hx hb hr hw.1.1 hlocks hK hH hw.2 dX11_isSameWord_56
      · replace hw := hw.2 c2
        refine lv_iload_n hx hb dX11_isSameWord_12 rfl (lv_at hl 3 rfl) ?_
        refine lv_if_eq (tgt := 47) hx hb dX11_isSameWord_13 (by decide) (fun c3 => ?_) (fun c3 => ?_)
        · replace hw := hw.1 c3
          exact b47 _ hk5 v1 v2 v4 M H locs ls hH (lv_sub hl [0, 1, 2, 4] rfl) hw
        · replace hw := hw.2 c3
          refine lv_aload_n hx hb dX11_isSameWord_16 rfl (lv_at hl 0 rfl) ?_
          refine rg_12 hx hb hts hin hown hK hH (hts (.fieldLink RX11 43 "IdlCallerModel" "wordText" "[C") (by decide +kernel)) dX11_isSameWord_17 ?_
          refine lv_bipush (v := 8) hx hb dX11_isSameWord_20 (by decide) ?_
          refine lv_iload_n hx hb dX11_isSameWord_22 rfl (lv_at hl 1 rfl) ?_
          refine lv_imul hx hb dX11_isSameWord_23 ?_
          refine lv_iload hx hb dX11_isSameWord_24 (lv_at hl 4 rfl) ?_
          refine lv_iadd hx hb dX11_isSameWord_26 ?_
          obtain ⟨h4, hw⟩ := hw
          refine rl_12 hx hb hK hH h4 dX11_isSameWord_27 ?_
          refine lv_aload_n hx hb dX11_isSameWord_28 rfl (lv_at hl 0 rfl) ?_
          refine rg_12 hx hb hts hin hown hK hH (hts (.fieldLink RX11 43 "IdlCallerModel" "wordText" "[C") (by decide +kernel)) dX11_isSameWord_29 ?_
          refine lv_bipush (v := 8) hx hb dX11_isSameWord_32 (by decide) ?_
          refine lv_iload_n hx hb dX11_isSameWord_34 rfl (lv_at hl 2 rfl) ?_
          refine lv_imul hx hb dX11_isSameWord_35 ?_
          refine lv_iload hx hb dX11_isSameWord_36 (lv_at hl 4 rfl) ?_
          refine lv_iadd hx hb dX11_isSameWord_38 ?_
          obtain ⟨h5, hw⟩ := hw
          refine rl_12 hx hb hK hH h5 dX11_isSameWord_39 ?_
          refine lv_icmp_ne (tgt := 47) hx hb dX11_isSameWord_40 (by decide) (fun c6 => ?_) (fun c6 => ?_)
          · replace hw := hw.1 c6
            exact b47 _ hk5 v1 v2 v4 M H locs ls hH (lv_sub hl [0, 1, 2, 4] rfl) hw
          · replace hw := hw.2 c6
            refine lv_iconst (v := 1) hx hb dX11_isSameWord_43 (by decide) ?_
            refine lv_goto (tgt := 48) hx hb dX11_isSameWord_44 (by decide) ?_
            exact b48 _ hk5 v1 v2 v4 1 M H locs ls hH (lv_sub hl [0, 1, 2, 4] rfl) hw
  clear hP hD0
  unfold fm_isSameWord at hw
  have hst : ∀ (M : RM) (H : Heap) (locs : List Loc) (ls : Array Slot), rH D kA h ad A s.heap M H locs → lv_has ls 5 [(0, .ref h), (1, .int a1), (2, .int a2)] → (∃ nn : Nat, fm_isSameWord_l5 Q  nn a1 a2 1 0 M) → W p l e (headSpec wsX11_isSameWord rmX11_isSameWord).room s m args below meth c H locs 0 0 (MQ below (va_Qi Q (rB D kA h ad A) A) args s 0 0 A) (F0 m 0 ls []) := by
    intro M H locs ls hH hl hw
    refine lv_iconst (v := 1) hx hb dX11_isSameWord_0 (by decide) ?_
    refine lv_istore_n (lv' := [(3, .int 1), (0, .ref h), (1, .int a1), (2, .int a2)]) hx hb dX11_isSameWord_1 rfl hl (by decide) rfl (fun ls hl => ?_)
    refine lv_iconst (v := 0) hx hb dX11_isSameWord_2 (by decide) ?_
    refine lv_istore (lv' := [(4, .int 0), (3, .int 1), (0, .ref h), (1, .int a1), (2, .int a2)]) hx hb dX11_isSameWord_3 hl (by decide) rfl (fun ls hl => ?_)
    obtain ⟨nn, hw⟩ := hw
    exact l5   nn a1 a2 1 0 M H locs ls hH (lv_sub hl [2, 3, 4, 1, 0] rfl) hw
  exact hst M s.heap [] ls hH hl hw
def fm_readWord_b126 (Q : RM → Prop) (k102 : Int32 → Int32 → Int32 → Int32 → RM → Prop) (v1 : Int32) (v2 : Int32) (v3 : Int32) (v5 : Int32) (M : RM) : Prop := (∀ x1 : Int32, x1 = v5 + 1 → k102 v1 v2 v3 x1 M)
def fm_readWord_c102 (Q : RM → Prop) (k102 : Int32 → Int32 → Int32 → Int32 → RM → Prop) (v1 : Int32) (v2 : Int32) (v3 : Int32) (v5 : Int32) (M : RM) : Prop := ((v2 ≤ v5 → (vp_in v1 370 ∧ (vp_in v1 370 ∧ (∀ M5 : RM, M5 = wA M 11 v1.toNatClampNeg ((rA M 11 v1.toNatClampNeg) + 1) → (∀ M6 : RM, M6 = wI M5 26 v3 → Q M6))))) ∧ (¬ v2 ≤ v5 → fm_isSameWord v5 v2 M (fun (r8 : Int32) (M7 : RM) => ((r8 = 0 → fm_readWord_b126 Q k102 v1 v2 v3 v5 M7) ∧ (¬ r8 = 0 → fm_wrong (rI M7 26) M7 (fun (M10 : RM) => fm_readWord_b126 Q k102 v1 v2 v3 v5 M10))))))
def fm_readWord_l102 (Q : RM → Prop) : Nat → Int32 → Int32 → Int32 → Int32 → RM → Prop := lit (τ := Int32 → Int32 → Int32 → Int32 → RM → Prop) (fun _ _ _ _ _ => False) (fun k => fm_readWord_c102 Q  k)
def fm_readWord_b90 (Q : RM → Prop) (k49 : Int32 → Int32 → Int32 → Int32 → Int32 → RM → Prop) (v1 : Int32) (v2 : Int32) (v3 : Int32) (v4 : Int32) (v5 : Int32) (s0 : Int32) (s1 : Int32) (M : RM) : Prop := (vp_in s1 14800 ∧ (∀ M13 : RM, M13 = wA M 12 s1.toNatClampNeg (vp_nar .char s0) → (∀ x14 : Int32, x14 = v5 + 1 → k49 v1 v2 v3 v4 x14 M13)))
def fm_readWord_c49 (Q : RM → Prop) (k49 : Int32 → Int32 → Int32 → Int32 → Int32 → RM → Prop) (v1 : Int32) (v2 : Int32) (v3 : Int32) (v4 : Int32) (v5 : Int32) (M : RM) : Prop := ((8 ≤ v5 → (∀ x16 : Int32, x16 = 5 * v1 → (∃ nn : Nat, fm_readWord_l102 Q  nn v1 v2 v3 x16 M))) ∧ (¬ 8 ≤ v5 → ((v4 ≤ v5 → fm_readWord_b90 Q k49 v1 v2 v3 v4 v5 0 ((8 * v2) + v5) M) ∧ (¬ v4 ≤ v5 → (vp_in ((rI M 26) + v5) 100 ∧ fm_readWord_b90 Q k49 v1 v2 v3 v4 v5 (rA M 1 ((rI M 26) + v5).toNatClampNeg) ((8 * v2) + v5) M)))))
def fm_readWord_l49 (Q : RM → Prop) : Nat → Int32 → Int32 → Int32 → Int32 → Int32 → RM → Prop := lit (τ := Int32 → Int32 → Int32 → Int32 → Int32 → RM → Prop) (fun _ _ _ _ _ _ => False) (fun k => fm_readWord_c49 Q  k)
def fm_readWord_b37 (Q : RM → Prop) (M : RM) : Prop := fm_wrong (rI M 26) M (fun (M19 : RM) => Q M19)
def fm_readWord (a1 : Int32) (M : RM) (Q : RM → Prop) : Prop := (vp_in a1 370 ∧ (∀ x22 : Int32, x22 = (5 * a1) + (rA M 11 a1.toNatClampNeg) → fm_wordEnd  M (fun (r24 : Int32) (M23 : RM) => (∀ x25 : Int32, x25 = r24 - (rI M23 26) → ((x25 < 1 → fm_readWord_b37 Q   M23) ∧ (¬ x25 < 1 → ((x25 ≤ 8 → (∃ nn : Nat, fm_readWord_l49 Q  nn a1 x22 r24 x25 0 M23)) ∧ (¬ x25 ≤ 8 → fm_readWord_b37 Q   M23))))))))
abbrev rmX11_readWord : Room := { frames := 2, cells := 0, slots := 0, locals := 41 }
set_option maxHeartbeats 4000000 in
set_option maxRecDepth 100000 in
theorem tm_readWord (l : Launch) (D : va_G) (kA : Nat → ClassId) (h : Nat) (ad : Nat → Nat) (sz : Nat) (M : RM) (a1 : Int32) (Q : RM → Prop) (hw : fm_readWord a1 M Q) : Met l yX11_readWord wsX11_readWord rmX11_readWord (va_Pc [.ref h, .int a1] (rPc D kA h ad M sz)) (va_Qv Q (rB D kA h ad (rF kA h ad M sz)) (rF kA h ad M sz)) 0 0 (rF kA h ad M sz) := by
  refine Met.ofW (cc := cX11_readWord) (maxL := 6) (ret := none) (by decide) rfl ?_
  intro p e s m args below meth c s₁ B hml hv
  obtain ⟨rfl, hsz, hP, hK, hD0⟩ := hv
  have hx := B.exec
  have hb := B.bytes
  have hr := B.returns
  have hts := atoms_spec (ws := wsX11_readWord) B.pre
  have hown : s.vm.findClass RX11 = some m.cls := findClass_of_methodNamed B.named
  have hlocks : meth.locks = false := B.notSynchronized
  subst hsz
  have hH : rH D kA h ad (rF kA h ad M s.heap.size) s.heap M s.heap [] := ⟨hP, hD0.self, va_S.rf⟩
  have hA : ∀ q : Nat, s.heap.size ≤ q → rF kA h ad M s.heap.size q := fun q z => Or.inr z
  generalize rF kA h ad M s.heap.size = A at hH hA ⊢
  have hl := lv_entry ([.ref h, .int a1]) (n := 6) (Nat.le_of_ble_eq_true rfl)
  rw [lg_entry_eq]
  generalize (lg_sl ([.ref h, .int a1]) ++ List.replicate (6 - (lg_sl ([.ref h, .int a1])).length) Slot.unset).toArray = ls at hl ⊢
  generalize ([.ref h, .int a1] : List Value).toArray = args at hts ⊢
  have hl : lv_has ls 6 [(0, .ref h), (1, .int a1)] := hl
  have hin : ∀ w ∈ wsX110, w ∈ wsX11_readWord := by decide +kernel
  have b126 : ∀ (k102 : Int32 → Int32 → Int32 → Int32 → RM → Prop) (hk102 : ∀ (v1 : Int32) (v2 : Int32) (v3 : Int32) (v5 : Int32) (M : RM) (H : Heap) (locs : List Loc) (ls : Array Slot), rH D kA h ad A s.heap M H locs → lv_has ls 6 [(0, .ref h), (1, .int v1), (2, .int v2), (3, .int v3), (5, .int v5)] → k102 v1 v2 v3 v5 M → W p l e (headSpec wsX11_readWord rmX11_readWord).room s m args below meth c H locs 0 0 (MQ below (va_Qv Q (rB D kA h ad A) A) args s 0 0 A) (F0 m 102 ls [])) (v1 : Int32) (v2 : Int32) (v3 : Int32) (v5 : Int32) (M : RM) (H : Heap) (locs : List Loc) (ls : Array Slot), rH D kA h ad A s.heap M H locs → lv_has ls 6 [(0, .ref h), (1, .int v1), (2, .int v2), (3, .int v3), (5, .int v5)] → fm_readWord_b126 Q k102 v1 v2 v3 v5 M → W p l e (headSpec wsX11_readWord rmX11_readWord).room s m args below meth c H locs 0 0 (MQ below (va_Qv Q (rB D kA h ad A) A) args s 0 0 A) (F0 m 126 ls []) := by
    intro k102 hk102 v1 v2 v3 v5 M H locs ls hH hl hw
    unfold fm_readWord_b126 at hw
    obtain ⟨x1, ex1⟩ : ∃ y : Int32, y = v5 + 1 := ⟨_, rfl⟩
    replace hw := hw x1 ex1
    refine lv_iinc (v := x1) (lv' := [(5, .int x1), (0, .ref h), (1, .int v1), (2, .int v2), (3, .int v3)]) hx hb dX11_readWord_126 hl (k := 4) rfl (by rw [ex1]; rfl) (by decide) rfl (fun ls hl => ?_)
    refine lv_goto (tgt := 102) hx hb dX11_readWord_129 (by decide) ?_
    exact hk102 v1 v2 v3 x1 M H locs ls hH (lv_sub hl [1, 2, 3, 4, 0] rfl) hw
  have l102 : ∀ (nn : Nat) (v1 : Int32) (v2 : Int32) (v3 : Int32) (v5 : Int32) (M : RM) (H : Heap) (locs : List Loc) (ls : Array Slot), rH D kA h ad A s.heap M H locs → lv_has ls 6 [(0, .ref h), (1, .int v1), (2, .int v2), (3, .int v3), (5, .int v5)] → fm_readWord_l102 Q  nn v1 v2 v3 v5 M → W p l e (headSpec wsX11_readWord rmX11_readWord).room s m args below meth c H locs 0 0 (MQ below (va_Qv Q (rB D kA h ad A) A) args s 0 0 A) (F0 m 102 ls []) := by
    intro   nn
    induction nn with
    | zero => intro v1 v2 v3 v5 M H locs ls hH hl hw; exact False.elim hw
    | succ nn hk102 =>
      intro v1 v2 v3 v5 M H locs ls hH hl hw
      replace hw : fm_readWord_c102 Q  (fm_readWord_l102 Q  nn) v1 v2 v3 v5 M := hw
      unfold fm_readWord_c102 at hw
      refine lv_iload hx hb dX11_readWord_102 (lv_at hl 4 rfl) ?_
      refine lv_iload_n hx hb dX11_readWord_104 rfl (lv_at hl 2 rfl) ?_
      refine lv_icmp_ge (tgt := 132) hx hb dX11_readWord_105 (by decide) (fun c2 => ?_) (fun c2 => ?_)
      · replace hw := hw.1 c2
        refine lv_aload_n hx hb dX11_readWord_132 rfl (lv_at hl 0 rfl) ?_
        refine rg_11 hx hb hts hin hown hK hH (hts (.fieldLink RX11 40 "IdlCallerModel" "wordMany" "[I") (by decide +kernel)) dX11_readWord_133 ?_
        refine lv_iload_n hx hb dX11_readWord_136 rfl (lv_at hl 1 rfl) ?_
        refine lv_dup2_11 hx hb dX11_readWord_137 rfl rfl ?_
        obtain ⟨h3, hw⟩ := hw
        refine rl_11 hx hb hK hH h3 dX11_readWord_138 ?_
        refine lv_iconst (v := 1) hx hb dX11_readWord_139 (by decide) ?_
        refine lv_iadd hx hb dX11_readWord_140 ?_
        obtain ⟨h4, hw⟩ := hw
        refine rs_11 hx hb hK hH h4 dX11_readWord_141 (fun M5 H locs eM5 hH => ?_)
        replace hw := hw M5 eM5
        refine lv_aload_n hx hb dX11_readWord_142 rfl (lv_at hl 0 rfl) ?_
        refine lv_iload_n hx hb dX11_readWord_143 rfl (lv_at hl 3 rfl) ?_
        refine rp_26 hx hb hts hin hown hK hH (hts (.fieldLink RX11 92 "IdlCallerModel" "at" "I") (by decide +kernel)) dX11_readWord_144 (fun M6 H locs eM6 hH => ?_)
        replace hw := hw M6 eM6
        exact r_retv hx hb hr hlocks hK hH hw dX11_readWord_147
      · replace hw := hw.2 c2
        refine lv_aload_n hx hb dX11_readWord_108 rfl (lv_at hl 0 rfl) ?_
        refine lv_iload hx hb dX11_readWord_109 (lv_at hl 4 rfl) ?_
        refine lv_iload_n hx hb dX11_readWord_111 rfl (lv_at hl 2 rfl) ?_
        refine r_calli (va_runV (As := [.int v5, .int v2]) (rest := []) ⟨hx, hb, hml, hown, hts⟩ (tm_isSameWord l D kA h ad H.size M v5 v2 _ hw) (cwV 2 hts gX11_readWord_X11_isSameWord rfl rfl rfl (by decide +kernel) ⟨Nat.le_of_ble_eq_true rfl, Nat.le_of_ble_eq_true rfl⟩) (r_preV hK hH) rfl rfl hl.1 rfl (lv_room (Nat.le_of_ble_eq_true rfl)) dX11_readWord_112 ⟨Nat.le_of_ble_eq_true rfl, Nat.le_of_ble_eq_true rfl⟩) hH hA (fun r8 M7 H locs hw hH => ?_)
        refine lv_if_eq (tgt := 126) hx hb dX11_readWord_115 (by decide) (fun c9 => ?_) (fun c9 => ?_)
        · replace hw := hw.1 c9
          exact b126 _ hk102 v1 v2 v3 v5 M7 H locs ls hH (lv_sub hl [0, 1, 2, 3, 4] rfl) hw
        · replace hw := hw.2 c9
          refine lv_aload_n hx hb dX11_readWord_118 rfl (lv_at hl 0 rfl) ?_
          refine lv_aload_n hx hb dX11_readWord_119 rfl (lv_at hl 0 rfl) ?_
          refine rg_26 hx hb hts hin hown hK hH (hts (.fieldLink RX11 92 "IdlCallerModel" "at" "I") (by decide +kernel)) dX11_readWord_120 ?_
          refine r_callv (va_runV (As := [.int (rI M7 26)]) (rest := []) ⟨hx, hb, hml, hown, hts⟩ (tm_wrong l D kA h ad H.size M7 (rI M7 26) _ hw) (cwV 1 hts gX11_readWord_X11_wrong rfl rfl rfl (by decide +kernel) ⟨Nat.le_of_ble_eq_true rfl, Nat.le_of_ble_eq_true rfl⟩) (r_preV hK hH) rfl rfl hl.1 rfl (lv_room (Nat.le_of_ble_eq_true rfl)) dX11_readWord_123 ⟨Nat.le_of_ble_eq_true rfl, Nat.le_of_ble_eq_true rfl⟩) hH hA (fun M10 H locs hw hH => ?_)
          exact b126 _ hk102 v1 v2 v3 v5 M10 H locs ls hH (lv_sub hl [0, 1, 2, 3, 4] rfl) hw
  have b90 : ∀ (k49 : Int32 → Int32 → Int32 → Int32 → Int32 → RM → Prop) (hk49 : ∀ (v1 : Int32) (v2 : Int32) (v3 : Int32) (v4 : Int32) (v5 : Int32) (M : RM) (H : Heap) (locs : List Loc) (ls : Array Slot), rH D kA h ad A s.heap M H locs → lv_has ls 6 [(0, .ref h), (1, .int v1), (2, .int v2), (3, .int v3), (4, .int v4), (5, .int v5)] → k49 v1 v2 v3 v4 v5 M → W p l e (headSpec wsX11_readWord rmX11_readWord).room s m args below meth c H locs 0 0 (MQ below (va_Qv Q (rB D kA h ad A) A) args s 0 0 A) (F0 m 49 ls [])) (v1 : Int32) (v2 : Int32) (v3 : Int32) (v4 : Int32) (v5 : Int32) (s0 : Int32) (s1 : Int32) (M : RM) (H : Heap) (locs : List Loc) (ls : Array Slot), rH D kA h ad A s.heap M H locs → lv_has ls 6 [(0, .ref h), (1, .int v1), (2, .int v2), (3, .int v3), (4, .int v4), (5, .int v5)] → fm_readWord_b90 Q k49 v1 v2 v3 v4 v5 s0 s1 M → W p l e (headSpec wsX11_readWord rmX11_readWord).room s m args below meth c H locs 0 0 (MQ below (va_Qv Q (rB D kA h ad A) A) args s 0 0 A) (F0 m 90 ls [.int s0, .int s1, .ref (ad 12)]) := by
    intro k49 hk49 v1 v2 v3 v4 v5 s0 s1 M H locs ls hH hl hw
    unfold fm_readWord_b90 at hw
    obtain ⟨h12, hw⟩ := hw
    refine rs_12 hx hb hK hH h12 dX11_readWord_90 (fun M13 H locs eM13 hH => ?_)
    replace hw := hw M13 eM13
    obtain ⟨x14, ex14⟩ : ∃ y : Int32, y = v5 + 1 := ⟨_, rfl⟩
    replace hw := hw x14 ex14
    refine lv_iinc (v := x14) (lv' := [(5, .int x14), (0, .ref h), (1, .int v1), (2, .int v2), (3, .int v3), (4, .int v4)]) hx hb dX11_readWord_91 hl (k := 5) rfl (by rw [ex14]; rfl) (by decide) rfl (fun ls hl => ?_)
    refine lv_goto (tgt := 49) hx hb dX11_readWord_94 (by decide) ?_
    exact hk49 v1 v2 v3 v4 x14 M13 H locs ls hH (lv_sub hl [1, 2, 3, 4, 5, 0] rfl) hw
  have l49 : ∀ (nn : Nat) (v1 : Int32) (v2 : Int32) (v3 : Int32) (v4 : Int32) (v5 : Int32) (M : RM) (H : Heap) (locs : List Loc) (ls : Array Slot), rH D kA h ad A s.heap M H locs → lv_has ls 6 [(0, .ref h), (1, .int v1), (2, .int v2), (3, .int v3), (4, .int v4), (5, .int v5)] → fm_readWord_l49 Q  nn v1 v2 v3 v4 v5 M → W p l e (headSpec wsX11_readWord rmX11_readWord).room s m args below meth c H locs 0 0 (MQ below (va_Qv Q (rB D kA h ad A) A) args s 0 0 A) (F0 m 49 ls []) := by
    intro   nn
    induction nn with
    | zero => intro v1 v2 v3 v4 v5 M H locs ls hH hl hw; exact False.elim hw
    | succ nn hk49 =>
      intro v1 v2 v3 v4 v5 M H locs ls hH hl hw
      replace hw : fm_readWord_c49 Q  (fm_readWord_l49 Q  nn) v1 v2 v3 v4 v5 M := hw
      unfold fm_readWord_c49 at hw
      refine lv_iload hx hb dX11_readWord_49 (lv_at hl 5 rfl) ?_
      refine lv_bipush (v := 8) hx hb dX11_readWord_51 (by decide) ?_
      refine lv_icmp_ge (tgt := 97) hx hb dX11_readWord_53 (by decide) (fun c15 => ?_) (fun c15 => ?_)
      · replace hw := hw.1 c15
        refine lv_iconst (v := 5) hx hb dX11_readWord_97 (by decide) ?_
        refine lv_iload_n hx hb dX11_readWord_98 rfl (lv_at hl 1 rfl) ?_
        refine lv_imul hx hb dX11_readWord_99 ?_
        refine lv_topi (fun x16 ex16 => ?_)
        replace hw := hw x16 ex16
        refine lv_istore (lv' := [(5, .int x16), (0, .ref h), (1, .int v1), (2, .int v2), (3, .int v3), (4, .int v4)]) hx hb dX11_readWord_100 hl (by decide) rfl (fun ls hl => ?_)
        obtain ⟨nn, hw⟩ := hw
        exact l102   nn v1 v2 v3 x16 M H locs ls hH (lv_sub hl [1, 2, 3, 4, 0] rfl) hw
      · replace hw := hw.2 c15
        refine lv_aload_n hx hb dX11_readWord_56 rfl (lv_at hl 0 rfl) ?_
        refine rg_12 hx hb hts hin hown hK hH (hts (.fieldLink RX11 43 "IdlCallerModel" "wordText" "[C") (by decide +kernel)) dX11_readWord_57 ?_
        refine lv_bipush (v := 8) hx hb dX11_readWord_60 (by decide) ?_
        refine lv_iload_n hx hb dX11_readWord_62 rfl (lv_at hl 2 rfl) ?_
        refine lv_imul hx hb dX11_readWord_63 ?_
        refine lv_iload hx hb dX11_readWord_64 (lv_at hl 5 rfl) ?_
        refine lv_iadd hx hb dX11_readWord_66 ?_
        refine lv_iload hx hb dX11_readWord_67 (lv_at hl 5 rfl) ?_
        refine lv_iload hx hb dX11_readWord_69 (lv_at hl 4 rfl) ?_
        refine lv_icmp_ge (tgt := 89) hx hb dX11_readWord_71 (by decide) (fun c17 => ?_) (fun c17 => ?_)
        · replace hw := hw.1 c17
          refine lv_iconst (v := 0) hx hb dX11_readWord_89 (by decide) ?_
          exact b90 _ hk49 v1 v2 v3 v4 v5 0 ((8 * v2) + v5) M H locs ls hH (lv_sub hl [0, 1, 2, 3, 4, 5] rfl) hw
        · replace hw := hw.2 c17
          refine lv_aload_n hx hb dX11_readWord_74 rfl (lv_at hl 0 rfl) ?_
          refine rg_1 hx hb hts hin hown hK hH (hts (.fieldLink RX11 7 "IdlCallerModel" "line" "[C") (by decide +kernel)) dX11_readWord_75 ?_
          refine lv_aload_n hx hb dX11_readWord_78 rfl (lv_at hl 0 rfl) ?_
          refine rg_26 hx hb hts hin hown hK hH (hts (.fieldLink RX11 92 "IdlCallerModel" "at" "I") (by decide +kernel)) dX11_readWord_79 ?_
          refine lv_iload hx hb dX11_readWord_82 (lv_at hl 5 rfl) ?_
          refine lv_iadd hx hb dX11_readWord_84 ?_
          obtain ⟨h18, hw⟩ := hw
          refine rl_1 hx hb hK hH h18 dX11_readWord_85 ?_
          refine lv_goto (tgt := 90) hx hb dX11_readWord_86 (by decide) ?_
          exact b90 _ hk49 v1 v2 v3 v4 v5 (rA M 1 ((rI M 26) + v5).toNatClampNeg) ((8 * v2) + v5) M H locs ls hH (lv_sub hl [0, 1, 2, 3, 4, 5] rfl) hw
  have b37 : ∀ (M : RM) (H : Heap) (locs : List Loc) (ls : Array Slot), rH D kA h ad A s.heap M H locs → lv_has ls 6 [(0, .ref h)] → fm_readWord_b37 Q   M → W p l e (headSpec wsX11_readWord rmX11_readWord).room s m args below meth c H locs 0 0 (MQ below (va_Qv Q (rB D kA h ad A) A) args s 0 0 A) (F0 m 37 ls []) := by
    intro    M H locs ls hH hl hw
    unfold fm_readWord_b37 at hw
    refine lv_aload_n hx hb dX11_readWord_37 rfl (lv_at hl 0 rfl) ?_
    refine lv_aload_n hx hb dX11_readWord_38 rfl (lv_at hl 0 rfl) ?_
    refine rg_26 hx hb hts hin hown hK hH (hts (.fieldLink RX11 92 "IdlCallerModel" "at" "I") (by decide +kernel)) dX11_readWord_39 ?_
    refine r_callv (va_runV (As := [.int (rI M 26)]) (rest := []) ⟨hx, hb, hml, hown, hts⟩ (tm_wrong l D kA h ad H.size M (rI M 26) _ hw) (cwV 1 hts gX11_readWord_X11_wrong rfl rfl rfl (by decide +kernel) ⟨Nat.le_of_ble_eq_true rfl, Nat.le_of_ble_eq_true rfl⟩) (r_preV hK hH) rfl rfl hl.1 rfl (lv_room (Nat.le_of_ble_eq_true rfl)) dX11_readWord_42 ⟨Nat.le_of_ble_eq_true rfl, Nat.le_of_ble_eq_true rfl⟩) hH hA (fun M19 H locs hw hH => ?_)
    exact r_retv hx hb hr hlocks hK hH hw dX11_readWord_45
  clear hP hD0
  unfold fm_readWord at hw
  have hst : ∀ (M : RM) (H : Heap) (locs : List Loc) (ls : Array Slot), rH D kA h ad A s.heap M H locs → lv_has ls 6 [(0, .ref h), (1, .int a1)] → (vp_in a1 370 ∧ (∀ x22 : Int32, x22 = (5 * a1) + (rA M 11 a1.toNatClampNeg) → fm_wordEnd  M (fun (r24 : Int32) (M23 : RM) => (∀ x25 : Int32, x25 = r24 - (rI M23 26) → ((x25 < 1 → fm_readWord_b37 Q   M23) ∧ (¬ x25 < 1 → ((x25 ≤ 8 → (∃ nn : Nat, fm_readWord_l49 Q  nn a1 x22 r24 x25 0 M23)) ∧ (¬ x25 ≤ 8 → fm_readWord_b37 Q   M23)))))))) → W p l e (headSpec wsX11_readWord rmX11_readWord).room s m args below meth c H locs 0 0 (MQ below (va_Qv Q (rB D kA h ad A) A) args s 0 0 A) (F0 m 0 ls []) := by
    intro M H locs ls hH hl hw
    refine lv_iconst (v := 5) hx hb dX11_readWord_0 (by decide) ?_
    refine lv_iload_n hx hb dX11_readWord_1 rfl (lv_at hl 1 rfl) ?_
    refine lv_imul hx hb dX11_readWord_2 ?_
    refine lv_aload_n hx hb dX11_readWord_3 rfl (lv_at hl 0 rfl) ?_
    refine rg_11 hx hb hts hin hown hK hH (hts (.fieldLink RX11 40 "IdlCallerModel" "wordMany" "[I") (by decide +kernel)) dX11_readWord_4 ?_
    refine lv_iload_n hx hb dX11_readWord_7 rfl (lv_at hl 1 rfl) ?_
    obtain ⟨h21, hw⟩ := hw
    refine rl_11 hx hb hK hH h21 dX11_readWord_8 ?_
    refine lv_iadd hx hb dX11_readWord_9 ?_
    refine lv_topi (fun x22 ex22 => ?_)
    replace hw := hw x22 ex22
    refine lv_istore_n (lv' := [(2, .int x22), (0, .ref h), (1, .int a1)]) hx hb dX11_readWord_10 rfl hl (by decide) rfl (fun ls hl => ?_)
    refine lv_aload_n hx hb dX11_readWord_11 rfl (lv_at hl 1 rfl) ?_
    refine r_calli (va_runV (As := []) (rest := []) ⟨hx, hb, hml, hown, hts⟩ (tm_wordEnd l D kA h ad H.size M  _ hw) (cwV 0 hts gX11_readWord_X11_wordEnd rfl rfl rfl (by decide +kernel) ⟨Nat.le_of_ble_eq_true rfl, Nat.le_of_ble_eq_true rfl⟩) (r_preV hK hH) rfl rfl hl.1 rfl (lv_room (Nat.le_of_ble_eq_true rfl)) dX11_readWord_12 ⟨Nat.le_of_ble_eq_true rfl, Nat.le_of_ble_eq_true rfl⟩) hH hA (fun r24 M23 H locs hw hH => ?_)
    refine lv_istore_n (lv' := [(3, .int r24), (2, .int x22), (0, .ref h), (1, .int a1)]) hx hb dX11_readWord_15 rfl hl (by decide) rfl (fun ls hl => ?_)
    refine lv_iload_n hx hb dX11_readWord_16 rfl (lv_at hl 0 rfl) ?_
    refine lv_aload_n hx hb dX11_readWord_17 rfl (lv_at hl 2 rfl) ?_
    refine rg_26 hx hb hts hin hown hK hH (hts (.fieldLink RX11 92 "IdlCallerModel" "at" "I") (by decide +kernel)) dX11_readWord_18 ?_
    refine lv_isub hx hb dX11_readWord_21 ?_
    refine lv_topi (fun x25 ex25 => ?_)
    replace hw := hw x25 ex25
    refine lv_istore (lv' := [(4, .int x25), (3, .int r24), (2, .int x22), (0, .ref h), (1, .int a1)]) hx hb dX11_readWord_22 hl (by decide) rfl (fun ls hl => ?_)
    refine lv_iload hx hb dX11_readWord_24 (lv_at hl 0 rfl) ?_
    refine lv_iconst (v := 1) hx hb dX11_readWord_26 (by decide) ?_
    refine lv_icmp_lt (tgt := 37) hx hb dX11_readWord_27 (by decide) (fun c26 => ?_) (fun c26 => ?_)
    · replace hw := hw.1 c26
      exact b37    M23 H locs ls hH (lv_sub hl [3] rfl) hw
    · replace hw := hw.2 c26
      refine lv_iload hx hb dX11_readWord_30 (lv_at hl 0 rfl) ?_
      refine lv_bipush (v := 8) hx hb dX11_readWord_32 (by decide) ?_
      refine lv_icmp_le (tgt := 46) hx hb dX11_readWord_34 (by decide) (fun c27 => ?_) (fun c27 => ?_)
      · replace hw := hw.1 c27
        refine lv_iconst (v := 0) hx hb dX11_readWord_46 (by decide) ?_
        refine lv_istore (lv' := [(5, .int 0), (4, .int x25), (3, .int r24), (2, .int x22), (0, .ref h), (1, .int a1)]) hx hb dX11_readWord_47 hl (by decide) rfl (fun ls hl => ?_)
        obtain ⟨nn, hw⟩ := hw
        exact l49   nn a1 x22 r24 x25 0 M23 H locs ls hH (lv_sub hl [4, 5, 3, 2, 1, 0] rfl) hw
      · replace hw := hw.2 c27
        exact b37    M23 H locs ls hH (lv_sub hl [3] rfl) hw
  exact hst M s.heap [] ls hH hl hw
