def fm_takesMany_b23 (Q : Int32 → RM → Prop) (s0 : Int32) (M : RM) : Prop := (nZ s0 ∧ Q s0 M)
def fm_takesMany_b22 (Q : Int32 → RM → Prop) (M : RM) : Prop := fm_takesMany_b23 Q  0 M
def fm_takesMany (a1 : Int32) (a2 : Int32) (M : RM) (Q : Int32 → RM → Prop) : Prop := fm_least a1 M (fun (r2 : Int32) (M1 : RM) => ((a2 < r2 → fm_takesMany_b22 Q   M1) ∧ (¬ a2 < r2 → fm_most a1 M1 (fun (r5 : Int32) (M4 : RM) => ((r5 < a2 → fm_takesMany_b22 Q   M4) ∧ (¬ r5 < a2 → fm_takesMany_b23 Q  1 M4))))))
abbrev rmX11_takesMany : Room := { frames := 1, cells := 0, slots := 0, locals := 22 }
set_option maxHeartbeats 4000000 in
set_option maxRecDepth 100000 in
theorem tm_takesMany (l : Launch) (D : va_G) (kA : Nat → ClassId) (h : Nat) (ad : Nat → Nat) (sz : Nat) (M : RM) (a1 : Int32) (a2 : Int32) (Q : Int32 → RM → Prop) (hw : fm_takesMany a1 a2 M Q) : Met l yX11_takesMany wsX11_takesMany rmX11_takesMany (va_Pc [.ref h, .int a1, .int a2] (rPc D kA h ad M sz)) (va_Qi Q (rB D kA h ad (rF kA h ad M sz)) (rF kA h ad M sz)) 0 0 (rF kA h ad M sz) := by
  refine Met.ofW (cc := cX11_takesMany) (maxL := 3) (ret := (some .boolean)) (by decide) rfl ?_
  intro p e s m args below meth c s₁ B hml hv
  obtain ⟨rfl, hsz, hP, hK, hD0⟩ := hv
  have hx := B.exec
  have hb := B.bytes
  have hr := B.returns
  have hts := atoms_spec (ws := wsX11_takesMany) B.pre
  have hown : s.vm.findClass RX11 = some m.cls := findClass_of_methodNamed B.named
  have hlocks : meth.locks = false := B.notSynchronized
  subst hsz
  have hH : rH D kA h ad (rF kA h ad M s.heap.size) s.heap M s.heap [] := ⟨hP, hD0.self, va_S.rf⟩
  have hA : ∀ q : Nat, s.heap.size ≤ q → rF kA h ad M s.heap.size q := fun q z => Or.inr z
  generalize rF kA h ad M s.heap.size = A at hH hA ⊢
  have hl := lv_entry ([.ref h, .int a1, .int a2]) (n := 3) (Nat.le_of_ble_eq_true rfl)
  rw [lg_entry_eq]
  generalize (lg_sl ([.ref h, .int a1, .int a2]) ++ List.replicate (3 - (lg_sl ([.ref h, .int a1, .int a2])).length) Slot.unset).toArray = ls at hl ⊢
  generalize ([.ref h, .int a1, .int a2] : List Value).toArray = args at hts ⊢
  have hl : lv_has ls 3 [(0, .ref h), (1, .int a1), (2, .int a2)] := hl
  have b23 : ∀ (s0 : Int32) (M : RM) (H : Heap) (locs : List Loc) (ls : Array Slot), rH D kA h ad A s.heap M H locs → lv_has ls 3 [] → fm_takesMany_b23 Q  s0 M → W p l e (headSpec wsX11_takesMany rmX11_takesMany).room s m args below meth c H locs 0 0 (MQ below (va_Qi Q (rB D kA h ad A) A) args s 0 0 A) (F0 m 23 ls [.int s0]) := by
    intro   s0 M H locs ls hH hl hw
    unfold fm_takesMany_b23 at hw
    exact r_retz hx hb hr hw.1.1 hlocks hK hH hw.2 dX11_takesMany_23
  have b22 : ∀ (M : RM) (H : Heap) (locs : List Loc) (ls : Array Slot), rH D kA h ad A s.heap M H locs → lv_has ls 3 [] → fm_takesMany_b22 Q   M → W p l e (headSpec wsX11_takesMany rmX11_takesMany).room s m args below meth c H locs 0 0 (MQ below (va_Qi Q (rB D kA h ad A) A) args s 0 0 A) (F0 m 22 ls []) := by
    intro    M H locs ls hH hl hw
    unfold fm_takesMany_b22 at hw
    refine lv_iconst (v := 0) hx hb dX11_takesMany_22 (by decide) ?_
    exact b23   0 M H locs ls hH (lv_sub hl [] rfl) hw
  clear hP hD0
  unfold fm_takesMany at hw
  have hst : ∀ (M : RM) (H : Heap) (locs : List Loc) (ls : Array Slot), rH D kA h ad A s.heap M H locs → lv_has ls 3 [(0, .ref h), (1, .int a1), (2, .int a2)] → fm_least a1 M (fun (r2 : Int32) (M1 : RM) => ((a2 < r2 → fm_takesMany_b22 Q   M1) ∧ (¬ a2 < r2 → fm_most a1 M1 (fun (r5 : Int32) (M4 : RM) => ((r5 < a2 → fm_takesMany_b22 Q   M4) ∧ (¬ r5 < a2 → fm_takesMany_b23 Q  1 M4)))))) → W p l e (headSpec wsX11_takesMany rmX11_takesMany).room s m args below meth c H locs 0 0 (MQ below (va_Qi Q (rB D kA h ad A) A) args s 0 0 A) (F0 m 0 ls []) := by
    intro M H locs ls hH hl hw
    refine lv_iload_n hx hb dX11_takesMany_0 rfl (lv_at hl 2 rfl) ?_
    refine lv_aload_n hx hb dX11_takesMany_1 rfl (lv_at hl 0 rfl) ?_
    refine lv_iload_n hx hb dX11_takesMany_2 rfl (lv_at hl 1 rfl) ?_
    refine r_calli (va_runV (As := [.int a1]) (rest := [.int a2]) ⟨hx, hb, hml, hown, hts⟩ (tm_least l D kA h ad H.size M a1 _ hw) (cwV 1 hts gX11_takesMany_X11_least rfl rfl rfl (by decide +kernel) ⟨Nat.le_of_ble_eq_true rfl, Nat.le_of_ble_eq_true rfl⟩) (r_preV hK hH) rfl rfl hl.1 rfl (lv_room (Nat.le_of_ble_eq_true rfl)) dX11_takesMany_3 ⟨Nat.le_of_ble_eq_true rfl, Nat.le_of_ble_eq_true rfl⟩) hH hA (fun r2 M1 H locs hw hH => ?_)
    refine lv_icmp_lt (tgt := 22) hx hb dX11_takesMany_6 (by decide) (fun c3 => ?_) (fun c3 => ?_)
    · replace hw := hw.1 c3
      exact b22    M1 H locs ls hH (lv_sub hl [] rfl) hw
    · replace hw := hw.2 c3
      refine lv_iload_n hx hb dX11_takesMany_9 rfl (lv_at hl 2 rfl) ?_
      refine lv_aload_n hx hb dX11_takesMany_10 rfl (lv_at hl 0 rfl) ?_
      refine lv_iload_n hx hb dX11_takesMany_11 rfl (lv_at hl 1 rfl) ?_
      refine r_calli (va_runV (As := [.int a1]) (rest := [.int a2]) ⟨hx, hb, hml, hown, hts⟩ (tm_most l D kA h ad H.size M1 a1 _ hw) (cwV 1 hts gX11_takesMany_X11_most rfl rfl rfl (by decide +kernel) ⟨Nat.le_of_ble_eq_true rfl, Nat.le_of_ble_eq_true rfl⟩) (r_preV hK hH) rfl rfl hl.1 rfl (lv_room (Nat.le_of_ble_eq_true rfl)) dX11_takesMany_12 ⟨Nat.le_of_ble_eq_true rfl, Nat.le_of_ble_eq_true rfl⟩) hH hA (fun r5 M4 H locs hw hH => ?_)
      refine lv_icmp_gt (tgt := 22) hx hb dX11_takesMany_15 (by decide) (fun c6 => ?_) (fun c6 => ?_)
      · replace hw := hw.1 c6
        exact b22    M4 H locs ls hH (lv_sub hl [] rfl) hw
      · replace hw := hw.2 c6
        refine lv_iconst (v := 1) hx hb dX11_takesMany_18 (by decide) ?_
        refine lv_goto (tgt := 23) hx hb dX11_takesMany_19 (by decide) ?_
        exact b23   1 M4 H locs ls hH (lv_sub hl [] rfl) hw
  exact hst M s.heap [] ls hH hl hw
def fm_argumentOf_b25 (Q : Int32 → RM → Prop) (s0 : Int32) (s1 : Int32) (M : RM) : Prop := Q (s1 + s0) M
def fm_argumentOf (a1 : Int32) (a2 : Int32) (M : RM) (Q : Int32 → RM → Prop) : Prop := (vp_in a1 37 ∧ (((rA M 5 a1.toNatClampNeg) ≤ a2 → (vp_in a1 37 ∧ fm_argumentOf_b25 Q  ((rA M 5 a1.toNatClampNeg) - 1) (5 * a1) M)) ∧ (¬ (rA M 5 a1.toNatClampNeg) ≤ a2 → fm_argumentOf_b25 Q  a2 (5 * a1) M)))
abbrev rmX11_argumentOf : Room := { frames := 0, cells := 0, slots := 0, locals := 0 }
set_option maxHeartbeats 4000000 in
set_option maxRecDepth 100000 in
theorem tm_argumentOf (l : Launch) (D : va_G) (kA : Nat → ClassId) (h : Nat) (ad : Nat → Nat) (sz : Nat) (M : RM) (a1 : Int32) (a2 : Int32) (Q : Int32 → RM → Prop) (hw : fm_argumentOf a1 a2 M Q) : Met l yX11_argumentOf wsX11_argumentOf rmX11_argumentOf (va_Pc [.ref h, .int a1, .int a2] (rPc D kA h ad M sz)) (va_Qi Q (rB D kA h ad (rF kA h ad M sz)) (rF kA h ad M sz)) 0 0 (rF kA h ad M sz) := by
  refine Met.ofW (cc := cX11_argumentOf) (maxL := 3) (ret := (some .int)) (by decide) rfl ?_
  intro p e s m args below meth c s₁ B hml hv
  obtain ⟨rfl, hsz, hP, hK, hD0⟩ := hv
  have hx := B.exec
  have hb := B.bytes
  have hr := B.returns
  have hts := atoms_spec (ws := wsX11_argumentOf) B.pre
  have hown : s.vm.findClass RX11 = some m.cls := findClass_of_methodNamed B.named
  have hlocks : meth.locks = false := B.notSynchronized
  subst hsz
  have hH : rH D kA h ad (rF kA h ad M s.heap.size) s.heap M s.heap [] := ⟨hP, hD0.self, va_S.rf⟩
  have hA : ∀ q : Nat, s.heap.size ≤ q → rF kA h ad M s.heap.size q := fun q z => Or.inr z
  generalize rF kA h ad M s.heap.size = A at hH hA ⊢
  have hl := lv_entry ([.ref h, .int a1, .int a2]) (n := 3) (Nat.le_of_ble_eq_true rfl)
  rw [lg_entry_eq]
  generalize (lg_sl ([.ref h, .int a1, .int a2]) ++ List.replicate (3 - (lg_sl ([.ref h, .int a1, .int a2])).length) Slot.unset).toArray = ls at hl ⊢
  generalize ([.ref h, .int a1, .int a2] : List Value).toArray = args at hts ⊢
  have hl : lv_has ls 3 [(0, .ref h), (1, .int a1), (2, .int a2)] := hl
  have hin : ∀ w ∈ wsX110, w ∈ wsX11_argumentOf := by decide +kernel
  have b25 : ∀ (s0 : Int32) (s1 : Int32) (M : RM) (H : Heap) (locs : List Loc) (ls : Array Slot), rH D kA h ad A s.heap M H locs → lv_has ls 3 [] → fm_argumentOf_b25 Q  s0 s1 M → W p l e (headSpec wsX11_argumentOf rmX11_argumentOf).room s m args below meth c H locs 0 0 (MQ below (va_Qi Q (rB D kA h ad A) A) args s 0 0 A) (F0 m 25 ls [.int s0, .int s1]) := by
    intro   s0 s1 M H locs ls hH hl hw
    unfold fm_argumentOf_b25 at hw
    refine lv_iadd hx hb dX11_argumentOf_25 ?_
    exact r_reti hx hb hr hlocks hK hH hw dX11_argumentOf_26
  clear hP hD0
  unfold fm_argumentOf at hw
  have hst : ∀ (M : RM) (H : Heap) (locs : List Loc) (ls : Array Slot), rH D kA h ad A s.heap M H locs → lv_has ls 3 [(0, .ref h), (1, .int a1), (2, .int a2)] → (vp_in a1 37 ∧ (((rA M 5 a1.toNatClampNeg) ≤ a2 → (vp_in a1 37 ∧ fm_argumentOf_b25 Q  ((rA M 5 a1.toNatClampNeg) - 1) (5 * a1) M)) ∧ (¬ (rA M 5 a1.toNatClampNeg) ≤ a2 → fm_argumentOf_b25 Q  a2 (5 * a1) M))) → W p l e (headSpec wsX11_argumentOf rmX11_argumentOf).room s m args below meth c H locs 0 0 (MQ below (va_Qi Q (rB D kA h ad A) A) args s 0 0 A) (F0 m 0 ls []) := by
    intro M H locs ls hH hl hw
    refine lv_iconst (v := 5) hx hb dX11_argumentOf_0 (by decide) ?_
    refine lv_iload_n hx hb dX11_argumentOf_1 rfl (lv_at hl 1 rfl) ?_
    refine lv_imul hx hb dX11_argumentOf_2 ?_
    refine lv_iload_n hx hb dX11_argumentOf_3 rfl (lv_at hl 2 rfl) ?_
    refine lv_aload_n hx hb dX11_argumentOf_4 rfl (lv_at hl 0 rfl) ?_
    refine rg_5 hx hb hts hin hown hK hH (hts (.fieldLink RX11 21 "IdlCallerModel" "many" "[I") (by decide +kernel)) dX11_argumentOf_5 ?_
    refine lv_iload_n hx hb dX11_argumentOf_8 rfl (lv_at hl 1 rfl) ?_
    obtain ⟨h1, hw⟩ := hw
    refine rl_5 hx hb hK hH h1 dX11_argumentOf_9 ?_
    refine lv_icmp_ge (tgt := 17) hx hb dX11_argumentOf_10 (by decide) (fun c2 => ?_) (fun c2 => ?_)
    · replace hw := hw.1 c2
      refine lv_aload_n hx hb dX11_argumentOf_17 rfl (lv_at hl 0 rfl) ?_
      refine rg_5 hx hb hts hin hown hK hH (hts (.fieldLink RX11 21 "IdlCallerModel" "many" "[I") (by decide +kernel)) dX11_argumentOf_18 ?_
      refine lv_iload_n hx hb dX11_argumentOf_21 rfl (lv_at hl 1 rfl) ?_
      obtain ⟨h3, hw⟩ := hw
      refine rl_5 hx hb hK hH h3 dX11_argumentOf_22 ?_
      refine lv_iconst (v := 1) hx hb dX11_argumentOf_23 (by decide) ?_
      refine lv_isub hx hb dX11_argumentOf_24 ?_
      exact b25   ((rA M 5 a1.toNatClampNeg) - 1) (5 * a1) M H locs ls hH (lv_sub hl [] rfl) hw
    · replace hw := hw.2 c2
      refine lv_iload_n hx hb dX11_argumentOf_13 rfl (lv_at hl 2 rfl) ?_
      refine lv_goto (tgt := 25) hx hb dX11_argumentOf_14 (by decide) ?_
      exact b25   a2 (5 * a1) M H locs ls hH (lv_sub hl [] rfl) hw
  exact hst M s.heap [] ls hH hl hw
def fm_isSameName_b128 (Q : Int32 → RM → Prop) (v3 : Int32) (M : RM) : Prop := (nZ v3 ∧ Q v3 M)
def fm_isSameName_c90 (Q : Int32 → RM → Prop) (k90 : Int32 → Int32 → Int32 → Int32 → RM → Prop) (v1 : Int32) (v2 : Int32) (v3 : Int32) (v4 : Int32) (M : RM) : Prop := (vp_in v1 370 ∧ (((rA M 11 v1.toNatClampNeg) ≤ v4 → fm_isSameName_b128 Q  v3 M) ∧ (¬ (rA M 11 v1.toNatClampNeg) ≤ v4 → ((v3 = 0 → fm_isSameName_b128 Q  v3 M) ∧ (¬ v3 = 0 → fm_isSameWord ((5 * v1) + v4) ((5 * v2) + v4) M (fun (r5 : Int32) (M4 : RM) => (∀ x6 : Int32, x6 = v4 + 1 → k90 v1 v2 r5 x6 M4)))))))
def fm_isSameName_l90 (Q : Int32 → RM → Prop) : Nat → Int32 → Int32 → Int32 → Int32 → RM → Prop := lit (τ := Int32 → Int32 → Int32 → Int32 → RM → Prop) (fun _ _ _ _ _ => False) (fun k => fm_isSameName_c90 Q  k)
def fm_isSameName_b86 (Q : Int32 → RM → Prop) (v1 : Int32) (v2 : Int32) (s0 : Int32) (M : RM) : Prop := (∃ nn : Nat, fm_isSameName_l90 Q  nn v1 v2 s0 0 M)
def fm_isSameName_b50 (Q : Int32 → RM → Prop) (v1 : Int32) (v2 : Int32) (s0 : Int32) (M : RM) : Prop := ((s0 = 0 → fm_isSameName_b128 Q  s0 M) ∧ (¬ s0 = 0 → (vp_in v1 370 ∧ ((¬ (rA M 8 v1.toNatClampNeg) = 8 → fm_isSameName_b128 Q  s0 M) ∧ ((rA M 8 v1.toNatClampNeg) = 8 → (vp_in v1 370 ∧ (vp_in v2 370 ∧ ((¬ (rA M 11 v1.toNatClampNeg) = (rA M 11 v2.toNatClampNeg) → fm_isSameName_b86 Q  v1 v2 0 M) ∧ ((rA M 11 v1.toNatClampNeg) = (rA M 11 v2.toNatClampNeg) → fm_isSameName_b86 Q  v1 v2 1 M)))))))))
def fm_isSameName_b49 (Q : Int32 → RM → Prop) (v1 : Int32) (v2 : Int32) (M : RM) : Prop := fm_isSameName_b50 Q  v1 v2 0 M
def fm_isSameName (a1 : Int32) (a2 : Int32) (M : RM) (Q : Int32 → RM → Prop) : Prop := (vp_in a1 370 ∧ (vp_in a2 370 ∧ ((¬ (rA M 8 a1.toNatClampNeg) = (rA M 8 a2.toNatClampNeg) → fm_isSameName_b49 Q  a1 a2 M) ∧ ((rA M 8 a1.toNatClampNeg) = (rA M 8 a2.toNatClampNeg) → (vp_in a1 370 ∧ (vp_in a2 370 ∧ ((¬ (rA M 9 a1.toNatClampNeg) = (rA M 9 a2.toNatClampNeg) → fm_isSameName_b49 Q  a1 a2 M) ∧ ((rA M 9 a1.toNatClampNeg) = (rA M 9 a2.toNatClampNeg) → (vp_in a1 370 ∧ (vp_in a2 370 ∧ ((¬ (rA M 10 a1.toNatClampNeg) = (rA M 10 a2.toNatClampNeg) → fm_isSameName_b49 Q  a1 a2 M) ∧ ((rA M 10 a1.toNatClampNeg) = (rA M 10 a2.toNatClampNeg) → fm_isSameName_b50 Q  a1 a2 1 M))))))))))))
abbrev rmX11_isSameName : Room := { frames := 1, cells := 0, slots := 0, locals := 24 }
set_option maxHeartbeats 4000000 in
set_option maxRecDepth 100000 in
theorem tm_isSameName (l : Launch) (D : va_G) (kA : Nat → ClassId) (h : Nat) (ad : Nat → Nat) (sz : Nat) (M : RM) (a1 : Int32) (a2 : Int32) (Q : Int32 → RM → Prop) (hw : fm_isSameName a1 a2 M Q) : Met l yX11_isSameName wsX11_isSameName rmX11_isSameName (va_Pc [.ref h, .int a1, .int a2] (rPc D kA h ad M sz)) (va_Qi Q (rB D kA h ad (rF kA h ad M sz)) (rF kA h ad M sz)) 0 0 (rF kA h ad M sz) := by
  refine Met.ofW (cc := cX11_isSameName) (maxL := 5) (ret := (some .boolean)) (by decide) rfl ?_
  intro p e s m args below meth c s₁ B hml hv
  obtain ⟨rfl, hsz, hP, hK, hD0⟩ := hv
  have hx := B.exec
  have hb := B.bytes
  have hr := B.returns
  have hts := atoms_spec (ws := wsX11_isSameName) B.pre
  have hown : s.vm.findClass RX11 = some m.cls := findClass_of_methodNamed B.named
  have hlocks : meth.locks = false := B.notSynchronized
  subst hsz
  have hH : rH D kA h ad (rF kA h ad M s.heap.size) s.heap M s.heap [] := ⟨hP, hD0.self, va_S.rf⟩
  have hA : ∀ q : Nat, s.heap.size ≤ q → rF kA h ad M s.heap.size q := fun q z => Or.inr z
  generalize rF kA h ad M s.heap.size = A at hH hA ⊢
  have hl := lv_entry ([.ref h, .int a1, .int a2]) (n := 5) (Nat.le_of_ble_eq_true rfl)
  rw [lg_entry_eq]
  generalize (lg_sl ([.ref h, .int a1, .int a2]) ++ List.replicate (5 - (lg_sl ([.ref h, .int a1, .int a2])).length) Slot.unset).toArray = ls at hl ⊢
  generalize ([.ref h, .int a1, .int a2] : List Value).toArray = args at hts ⊢
  have hl : lv_has ls 5 [(0, .ref h), (1, .int a1), (2, .int a2)] := hl
  have hin : ∀ w ∈ wsX110, w ∈ wsX11_isSameName := by decide +kernel
  have b128 : ∀ (v3 : Int32) (M : RM) (H : Heap) (locs : List Loc) (ls : Array Slot), rH D kA h ad A s.heap M H locs → lv_has ls 5 [(3, .int v3)] → fm_isSameName_b128 Q  v3 M → W p l e (headSpec wsX11_isSameName rmX11_isSameName).room s m args below meth c H locs 0 0 (MQ below (va_Qi Q (rB D kA h ad A) A) args s 0 0 A) (F0 m 128 ls []) := by
    intro   v3 M H locs ls hH hl hw
    unfold fm_isSameName_b128 at hw
    refine lv_iload_n hx hb dX11_isSameName_128 rfl (lv_at hl 0 rfl) ?_
    exact r_retz hx hb hr hw.1.1 hlocks hK hH hw.2 dX11_isSameName_129
  have l90 : ∀ (nn : Nat) (v1 : Int32) (v2 : Int32) (v3 : Int32) (v4 : Int32) (M : RM) (H : Heap) (locs : List Loc) (ls : Array Slot), rH D kA h ad A s.heap M H locs → lv_has ls 5 [(0, .ref h), (1, .int v1), (2, .int v2), (3, .int v3), (4, .int v4)] → fm_isSameName_l90 Q  nn v1 v2 v3 v4 M → W p l e (headSpec wsX11_isSameName rmX11_isSameName).room s m args below meth c H locs 0 0 (MQ below (va_Qi Q (rB D kA h ad A) A) args s 0 0 A) (F0 m 90 ls []) := by
    intro   nn
    induction nn with
    | zero => intro v1 v2 v3 v4 M H locs ls hH hl hw; exact False.elim hw
    | succ nn hk90 =>
      intro v1 v2 v3 v4 M H locs ls hH hl hw
      replace hw : fm_isSameName_c90 Q  (fm_isSameName_l90 Q  nn) v1 v2 v3 v4 M := hw
      unfold fm_isSameName_c90 at hw
      refine lv_iload hx hb dX11_isSameName_90 (lv_at hl 4 rfl) ?_
      refine lv_aload_n hx hb dX11_isSameName_92 rfl (lv_at hl 0 rfl) ?_
      refine rg_11 hx hb hts hin hown hK hH (hts (.fieldLink RX11 40 "IdlCallerModel" "wordMany" "[I") (by decide +kernel)) dX11_isSameName_93 ?_
      refine lv_iload_n hx hb dX11_isSameName_96 rfl (lv_at hl 1 rfl) ?_
      obtain ⟨h1, hw⟩ := hw
      refine rl_11 hx hb hK hH h1 dX11_isSameName_97 ?_
      refine lv_icmp_ge (tgt := 128) hx hb dX11_isSameName_98 (by decide) (fun c2 => ?_) (fun c2 => ?_)
      · replace hw := hw.1 c2
        exact b128   v3 M H locs ls hH (lv_sub hl [3] rfl) hw
      · replace hw := hw.2 c2
        refine lv_iload_n hx hb dX11_isSameName_101 rfl (lv_at hl 3 rfl) ?_
        refine lv_if_eq (tgt := 128) hx hb dX11_isSameName_102 (by decide) (fun c3 => ?_) (fun c3 => ?_)
        · replace hw := hw.1 c3
          exact b128   v3 M H locs ls hH (lv_sub hl [3] rfl) hw
        · replace hw := hw.2 c3
          refine lv_aload_n hx hb dX11_isSameName_105 rfl (lv_at hl 0 rfl) ?_
          refine lv_iconst (v := 5) hx hb dX11_isSameName_106 (by decide) ?_
          refine lv_iload_n hx hb dX11_isSameName_107 rfl (lv_at hl 1 rfl) ?_
          refine lv_imul hx hb dX11_isSameName_108 ?_
          refine lv_iload hx hb dX11_isSameName_109 (lv_at hl 4 rfl) ?_
          refine lv_iadd hx hb dX11_isSameName_111 ?_
          refine lv_iconst (v := 5) hx hb dX11_isSameName_112 (by decide) ?_
          refine lv_iload_n hx hb dX11_isSameName_113 rfl (lv_at hl 2 rfl) ?_
          refine lv_imul hx hb dX11_isSameName_114 ?_
          refine lv_iload hx hb dX11_isSameName_115 (lv_at hl 4 rfl) ?_
          refine lv_iadd hx hb dX11_isSameName_117 ?_
          refine r_calli (va_runV (As := [.int ((5 * v1) + v4), .int ((5 * v2) + v4)]) (rest := []) ⟨hx, hb, hml, hown, hts⟩ (tm_isSameWord l D kA h ad H.size M ((5 * v1) + v4) ((5 * v2) + v4) _ hw) (cwV 2 hts gX11_isSameName_X11_isSameWord rfl rfl rfl (by decide +kernel) ⟨Nat.le_of_ble_eq_true rfl, Nat.le_of_ble_eq_true rfl⟩) (r_preV hK hH) rfl rfl hl.1 rfl (lv_room (Nat.le_of_ble_eq_true rfl)) dX11_isSameName_118 ⟨Nat.le_of_ble_eq_true rfl, Nat.le_of_ble_eq_true rfl⟩) hH hA (fun r5 M4 H locs hw hH => ?_)
          refine lv_istore_n (lv' := [(3, .int r5), (0, .ref h), (1, .int v1), (2, .int v2), (4, .int v4)]) hx hb dX11_isSameName_121 rfl hl (by decide) rfl (fun ls hl => ?_)
          obtain ⟨x6, ex6⟩ : ∃ y : Int32, y = v4 + 1 := ⟨_, rfl⟩
          replace hw := hw x6 ex6
          refine lv_iinc (v := x6) (lv' := [(4, .int x6), (3, .int r5), (0, .ref h), (1, .int v1), (2, .int v2)]) hx hb dX11_isSameName_122 hl (k := 4) rfl (by rw [ex6]; rfl) (by decide) rfl (fun ls hl => ?_)
          refine lv_goto (tgt := 90) hx hb dX11_isSameName_125 (by decide) ?_
          exact hk90 v1 v2 r5 x6 M4 H locs ls hH (lv_sub hl [2, 3, 4, 1, 0] rfl) hw
  have b86 : ∀ (v1 : Int32) (v2 : Int32) (s0 : Int32) (M : RM) (H : Heap) (locs : List Loc) (ls : Array Slot), rH D kA h ad A s.heap M H locs → lv_has ls 5 [(0, .ref h), (1, .int v1), (2, .int v2)] → fm_isSameName_b86 Q  v1 v2 s0 M → W p l e (headSpec wsX11_isSameName rmX11_isSameName).room s m args below meth c H locs 0 0 (MQ below (va_Qi Q (rB D kA h ad A) A) args s 0 0 A) (F0 m 86 ls [.int s0]) := by
    intro   v1 v2 s0 M H locs ls hH hl hw
    unfold fm_isSameName_b86 at hw
    refine lv_istore_n (lv' := [(3, .int s0), (0, .ref h), (1, .int v1), (2, .int v2)]) hx hb dX11_isSameName_86 rfl hl (by decide) rfl (fun ls hl => ?_)
    refine lv_iconst (v := 0) hx hb dX11_isSameName_87 (by decide) ?_
    refine lv_istore (lv' := [(4, .int 0), (3, .int s0), (0, .ref h), (1, .int v1), (2, .int v2)]) hx hb dX11_isSameName_88 hl (by decide) rfl (fun ls hl => ?_)
    obtain ⟨nn, hw⟩ := hw
    exact l90   nn v1 v2 s0 0 M H locs ls hH (lv_sub hl [2, 3, 4, 1, 0] rfl) hw
  have b50 : ∀ (v1 : Int32) (v2 : Int32) (s0 : Int32) (M : RM) (H : Heap) (locs : List Loc) (ls : Array Slot), rH D kA h ad A s.heap M H locs → lv_has ls 5 [(0, .ref h), (1, .int v1), (2, .int v2)] → fm_isSameName_b50 Q  v1 v2 s0 M → W p l e (headSpec wsX11_isSameName rmX11_isSameName).room s m args below meth c H locs 0 0 (MQ below (va_Qi Q (rB D kA h ad A) A) args s 0 0 A) (F0 m 50 ls [.int s0]) := by
    intro   v1 v2 s0 M H locs ls hH hl hw
    unfold fm_isSameName_b50 at hw
    refine lv_istore_n (lv' := [(3, .int s0), (0, .ref h), (1, .int v1), (2, .int v2)]) hx hb dX11_isSameName_50 rfl hl (by decide) rfl (fun ls hl => ?_)
    refine lv_iload_n hx hb dX11_isSameName_51 rfl (lv_at hl 0 rfl) ?_
    refine lv_if_eq (tgt := 128) hx hb dX11_isSameName_52 (by decide) (fun c7 => ?_) (fun c7 => ?_)
    · replace hw := hw.1 c7
      exact b128   s0 M H locs ls hH (lv_sub hl [0] rfl) hw
    · replace hw := hw.2 c7
      refine lv_aload_n hx hb dX11_isSameName_55 rfl (lv_at hl 1 rfl) ?_
      refine rg_8 hx hb hts hin hown hK hH (hts (.fieldLink RX11 31 "IdlCallerModel" "sort" "[I") (by decide +kernel)) dX11_isSameName_56 ?_
      refine lv_iload_n hx hb dX11_isSameName_59 rfl (lv_at hl 2 rfl) ?_
      obtain ⟨h8, hw⟩ := hw
      refine rl_8 hx hb hK hH h8 dX11_isSameName_60 ?_
      refine lv_bipush (v := 8) hx hb dX11_isSameName_61 (by decide) ?_
      refine lv_icmp_ne (tgt := 128) hx hb dX11_isSameName_63 (by decide) (fun c9 => ?_) (fun c9 => ?_)
      · replace hw := hw.1 c9
        exact b128   s0 M H locs ls hH (lv_sub hl [0] rfl) hw
      · replace hw := hw.2 c9
        refine lv_aload_n hx hb dX11_isSameName_66 rfl (lv_at hl 1 rfl) ?_
        refine rg_11 hx hb hts hin hown hK hH (hts (.fieldLink RX11 40 "IdlCallerModel" "wordMany" "[I") (by decide +kernel)) dX11_isSameName_67 ?_
        refine lv_iload_n hx hb dX11_isSameName_70 rfl (lv_at hl 2 rfl) ?_
        obtain ⟨h10, hw⟩ := hw
        refine rl_11 hx hb hK hH h10 dX11_isSameName_71 ?_
        refine lv_aload_n hx hb dX11_isSameName_72 rfl (lv_at hl 1 rfl) ?_
        refine rg_11 hx hb hts hin hown hK hH (hts (.fieldLink RX11 40 "IdlCallerModel" "wordMany" "[I") (by decide +kernel)) dX11_isSameName_73 ?_
        refine lv_iload_n hx hb dX11_isSameName_76 rfl (lv_at hl 3 rfl) ?_
        obtain ⟨h11, hw⟩ := hw
        refine rl_11 hx hb hK hH h11 dX11_isSameName_77 ?_
        refine lv_icmp_ne (tgt := 85) hx hb dX11_isSameName_78 (by decide) (fun c12 => ?_) (fun c12 => ?_)
        · replace hw := hw.1 c12
          refine lv_iconst (v := 0) hx hb dX11_isSameName_85 (by decide) ?_
          exact b86   v1 v2 0 M H locs ls hH (lv_sub hl [1, 2, 3] rfl) hw
        · replace hw := hw.2 c12
          refine lv_iconst (v := 1) hx hb dX11_isSameName_81 (by decide) ?_
          refine lv_goto (tgt := 86) hx hb dX11_isSameName_82 (by decide) ?_
          exact b86   v1 v2 1 M H locs ls hH (lv_sub hl [1, 2, 3] rfl) hw
  have b49 : ∀ (v1 : Int32) (v2 : Int32) (M : RM) (H : Heap) (locs : List Loc) (ls : Array Slot), rH D kA h ad A s.heap M H locs → lv_has ls 5 [(0, .ref h), (1, .int v1), (2, .int v2)] → fm_isSameName_b49 Q  v1 v2 M → W p l e (headSpec wsX11_isSameName rmX11_isSameName).room s m args below meth c H locs 0 0 (MQ below (va_Qi Q (rB D kA h ad A) A) args s 0 0 A) (F0 m 49 ls []) := by
    intro   v1 v2 M H locs ls hH hl hw
    unfold fm_isSameName_b49 at hw
    refine lv_iconst (v := 0) hx hb dX11_isSameName_49 (by decide) ?_
    exact b50   v1 v2 0 M H locs ls hH (lv_sub hl [0, 1, 2] rfl) hw
  clear hP hD0
  unfold fm_isSameName at hw
  have hst : ∀ (M : RM) (H : Heap) (locs : List Loc) (ls : Array Slot), rH D kA h ad A s.heap M H locs → lv_has ls 5 [(0, .ref h), (1, .int a1), (2, .int a2)] → (vp_in a1 370 ∧ (vp_in a2 370 ∧ ((¬ (rA M 8 a1.toNatClampNeg) = (rA M 8 a2.toNatClampNeg) → fm_isSameName_b49 Q  a1 a2 M) ∧ ((rA M 8 a1.toNatClampNeg) = (rA M 8 a2.toNatClampNeg) → (vp_in a1 370 ∧ (vp_in a2 370 ∧ ((¬ (rA M 9 a1.toNatClampNeg) = (rA M 9 a2.toNatClampNeg) → fm_isSameName_b49 Q  a1 a2 M) ∧ ((rA M 9 a1.toNatClampNeg) = (rA M 9 a2.toNatClampNeg) → (vp_in a1 370 ∧ (vp_in a2 370 ∧ ((¬ (rA M 10 a1.toNatClampNeg) = (rA M 10 a2.toNatClampNeg) → fm_isSameName_b49 Q  a1 a2 M) ∧ ((rA M 10 a1.toNatClampNeg) = (rA M 10 a2.toNatClampNeg) → fm_isSameName_b50 Q  a1 a2 1 M)))))))))))) → W p l e (headSpec wsX11_isSameName rmX11_isSameName).room s m args below meth c H locs 0 0 (MQ below (va_Qi Q (rB D kA h ad A) A) args s 0 0 A) (F0 m 0 ls []) := by
    intro M H locs ls hH hl hw
    refine lv_aload_n hx hb dX11_isSameName_0 rfl (lv_at hl 0 rfl) ?_
    refine rg_8 hx hb hts hin hown hK hH (hts (.fieldLink RX11 31 "IdlCallerModel" "sort" "[I") (by decide +kernel)) dX11_isSameName_1 ?_
    refine lv_iload_n hx hb dX11_isSameName_4 rfl (lv_at hl 1 rfl) ?_
    obtain ⟨h13, hw⟩ := hw
    refine rl_8 hx hb hK hH h13 dX11_isSameName_5 ?_
    refine lv_aload_n hx hb dX11_isSameName_6 rfl (lv_at hl 0 rfl) ?_
    refine rg_8 hx hb hts hin hown hK hH (hts (.fieldLink RX11 31 "IdlCallerModel" "sort" "[I") (by decide +kernel)) dX11_isSameName_7 ?_
    refine lv_iload_n hx hb dX11_isSameName_10 rfl (lv_at hl 2 rfl) ?_
    obtain ⟨h14, hw⟩ := hw
    refine rl_8 hx hb hK hH h14 dX11_isSameName_11 ?_
    refine lv_icmp_ne (tgt := 49) hx hb dX11_isSameName_12 (by decide) (fun c15 => ?_) (fun c15 => ?_)
    · replace hw := hw.1 c15
      exact b49   a1 a2 M H locs ls hH (lv_sub hl [0, 1, 2] rfl) hw
    · replace hw := hw.2 c15
      refine lv_aload_n hx hb dX11_isSameName_15 rfl (lv_at hl 0 rfl) ?_
      refine rg_9 hx hb hts hin hown hK hH (hts (.fieldLink RX11 34 "IdlCallerModel" "mode" "[I") (by decide +kernel)) dX11_isSameName_16 ?_
      refine lv_iload_n hx hb dX11_isSameName_19 rfl (lv_at hl 1 rfl) ?_
      obtain ⟨h16, hw⟩ := hw
      refine rl_9 hx hb hK hH h16 dX11_isSameName_20 ?_
      refine lv_aload_n hx hb dX11_isSameName_21 rfl (lv_at hl 0 rfl) ?_
      refine rg_9 hx hb hts hin hown hK hH (hts (.fieldLink RX11 34 "IdlCallerModel" "mode" "[I") (by decide +kernel)) dX11_isSameName_22 ?_
      refine lv_iload_n hx hb dX11_isSameName_25 rfl (lv_at hl 2 rfl) ?_
      obtain ⟨h17, hw⟩ := hw
      refine rl_9 hx hb hK hH h17 dX11_isSameName_26 ?_
      refine lv_icmp_ne (tgt := 49) hx hb dX11_isSameName_27 (by decide) (fun c18 => ?_) (fun c18 => ?_)
      · replace hw := hw.1 c18
        exact b49   a1 a2 M H locs ls hH (lv_sub hl [0, 1, 2] rfl) hw
      · replace hw := hw.2 c18
        refine lv_aload_n hx hb dX11_isSameName_30 rfl (lv_at hl 0 rfl) ?_
        refine rg_10 hx hb hts hin hown hK hH (hts (.fieldLink RX11 37 "IdlCallerModel" "isNullable" "[Z") (by decide +kernel)) dX11_isSameName_31 ?_
        refine lv_iload_n hx hb dX11_isSameName_34 rfl (lv_at hl 1 rfl) ?_
        obtain ⟨h19, hw⟩ := hw
        refine rl_10 hx hb hK hH h19 dX11_isSameName_35 ?_
        refine lv_aload_n hx hb dX11_isSameName_36 rfl (lv_at hl 0 rfl) ?_
        refine rg_10 hx hb hts hin hown hK hH (hts (.fieldLink RX11 37 "IdlCallerModel" "isNullable" "[Z") (by decide +kernel)) dX11_isSameName_37 ?_
        refine lv_iload_n hx hb dX11_isSameName_40 rfl (lv_at hl 2 rfl) ?_
        obtain ⟨h20, hw⟩ := hw
        refine rl_10 hx hb hK hH h20 dX11_isSameName_41 ?_
        refine lv_icmp_ne (tgt := 49) hx hb dX11_isSameName_42 (by decide) (fun c21 => ?_) (fun c21 => ?_)
        · replace hw := hw.1 c21
          exact b49   a1 a2 M H locs ls hH (lv_sub hl [0, 1, 2] rfl) hw
        · replace hw := hw.2 c21
          refine lv_iconst (v := 1) hx hb dX11_isSameName_45 (by decide) ?_
          refine lv_goto (tgt := 50) hx hb dX11_isSameName_46 (by decide) ?_
          exact b50   a1 a2 1 M H locs ls hH (lv_sub hl [0, 1, 2] rfl) hw
  exact hst M s.heap [] ls hH hl hw
def fm_isSame_b88 (Q : Int32 → RM → Prop) (s0 : Int32) (M : RM) : Prop := (nZ s0 ∧ Q s0 M)
def fm_isSame_b87 (Q : Int32 → RM → Prop) (M : RM) : Prop := fm_isSame_b88 Q  0 M
def fm_isSame_b83 (Q : Int32 → RM → Prop) (M : RM) : Prop := fm_isSame_b88 Q  1 M
def fm_isSame_b48 (Q : Int32 → RM → Prop) (v1 : Int32) (v2 : Int32) (s0 : Int32) (M : RM) : Prop := ((s0 = 0 → fm_isSame_b87 Q   M) ∧ (¬ s0 = 0 → (vp_in (2 * v1) 370 ∧ ((¬ (rA M 8 (2 * v1).toNatClampNeg) = 9 → fm_isSame_b83 Q   M) ∧ ((rA M 8 (2 * v1).toNatClampNeg) = 9 → fm_isSameName ((2 * v1) + 1) ((2 * v2) + 1) M (fun (r5 : Int32) (M4 : RM) => ((r5 = 0 → fm_isSame_b87 Q   M4) ∧ (¬ r5 = 0 → fm_isSame_b83 Q   M4))))))))
def fm_isSame_b47 (Q : Int32 → RM → Prop) (v1 : Int32) (v2 : Int32) (M : RM) : Prop := fm_isSame_b48 Q  v1 v2 0 M
def fm_isSame (a1 : Int32) (a2 : Int32) (M : RM) (Q : Int32 → RM → Prop) : Prop := (vp_in a1 185 ∧ (vp_in a2 185 ∧ ((¬ (rA M 6 a1.toNatClampNeg) = (rA M 6 a2.toNatClampNeg) → fm_isSame_b47 Q  a1 a2 M) ∧ ((rA M 6 a1.toNatClampNeg) = (rA M 6 a2.toNatClampNeg) → (vp_in a1 185 ∧ (vp_in a2 185 ∧ ((¬ (rA M 7 a1.toNatClampNeg) = (rA M 7 a2.toNatClampNeg) → fm_isSame_b47 Q  a1 a2 M) ∧ ((rA M 7 a1.toNatClampNeg) = (rA M 7 a2.toNatClampNeg) → fm_isSameName (2 * a1) (2 * a2) M (fun (r14 : Int32) (M13 : RM) => ((r14 = 0 → fm_isSame_b47 Q  a1 a2 M13) ∧ (¬ r14 = 0 → fm_isSame_b48 Q  a1 a2 1 M13)))))))))))
abbrev rmX11_isSame : Room := { frames := 2, cells := 0, slots := 0, locals := 48 }
set_option maxHeartbeats 4000000 in
set_option maxRecDepth 100000 in
theorem tm_isSame (l : Launch) (D : va_G) (kA : Nat → ClassId) (h : Nat) (ad : Nat → Nat) (sz : Nat) (M : RM) (a1 : Int32) (a2 : Int32) (Q : Int32 → RM → Prop) (hw : fm_isSame a1 a2 M Q) : Met l yX11_isSame wsX11_isSame rmX11_isSame (va_Pc [.ref h, .int a1, .int a2] (rPc D kA h ad M sz)) (va_Qi Q (rB D kA h ad (rF kA h ad M sz)) (rF kA h ad M sz)) 0 0 (rF kA h ad M sz) := by
  refine Met.ofW (cc := cX11_isSame) (maxL := 4) (ret := (some .boolean)) (by decide) rfl ?_
  intro p e s m args below meth c s₁ B hml hv
  obtain ⟨rfl, hsz, hP, hK, hD0⟩ := hv
  have hx := B.exec
  have hb := B.bytes
  have hr := B.returns
  have hts := atoms_spec (ws := wsX11_isSame) B.pre
  have hown : s.vm.findClass RX11 = some m.cls := findClass_of_methodNamed B.named
  have hlocks : meth.locks = false := B.notSynchronized
  subst hsz
  have hH : rH D kA h ad (rF kA h ad M s.heap.size) s.heap M s.heap [] := ⟨hP, hD0.self, va_S.rf⟩
  have hA : ∀ q : Nat, s.heap.size ≤ q → rF kA h ad M s.heap.size q := fun q z => Or.inr z
  generalize rF kA h ad M s.heap.size = A at hH hA ⊢
  have hl := lv_entry ([.ref h, .int a1, .int a2]) (n := 4) (Nat.le_of_ble_eq_true rfl)
  rw [lg_entry_eq]
  generalize (lg_sl ([.ref h, .int a1, .int a2]) ++ List.replicate (4 - (lg_sl ([.ref h, .int a1, .int a2])).length) Slot.unset).toArray = ls at hl ⊢
  generalize ([.ref h, .int a1, .int a2] : List Value).toArray = args at hts ⊢
  have hl : lv_has ls 4 [(0, .ref h), (1, .int a1), (2, .int a2)] := hl
  have hin : ∀ w ∈ wsX110, w ∈ wsX11_isSame := by decide +kernel
  have b88 : ∀ (s0 : Int32) (M : RM) (H : Heap) (locs : List Loc) (ls : Array Slot), rH D kA h ad A s.heap M H locs → lv_has ls 4 [] → fm_isSame_b88 Q  s0 M → W p l e (headSpec wsX11_isSame rmX11_isSame).room s m args below meth c H locs 0 0 (MQ below (va_Qi Q (rB D kA h ad A) A) args s 0 0 A) (F0 m 88 ls [.int s0]) := by
    intro   s0 M H locs ls hH hl hw
    unfold fm_isSame_b88 at hw
    exact r_retz hx hb hr hw.1.1 hlocks hK hH hw.2 dX11_isSame_88
  have b87 : ∀ (M : RM) (H : Heap) (locs : List Loc) (ls : Array Slot), rH D kA h ad A s.heap M H locs → lv_has ls 4 [] → fm_isSame_b87 Q   M → W p l e (headSpec wsX11_isSame rmX11_isSame).room s m args below meth c H locs 0 0 (MQ below (va_Qi Q (rB D kA h ad A) A) args s 0 0 A) (F0 m 87 ls []) := by
    intro    M H locs ls hH hl hw
    unfold fm_isSame_b87 at hw
    refine lv_iconst (v := 0) hx hb dX11_isSame_87 (by decide) ?_
    exact b88   0 M H locs ls hH (lv_sub hl [] rfl) hw
  have b83 : ∀ (M : RM) (H : Heap) (locs : List Loc) (ls : Array Slot), rH D kA h ad A s.heap M H locs → lv_has ls 4 [] → fm_isSame_b83 Q   M → W p l e (headSpec wsX11_isSame rmX11_isSame).room s m args below meth c H locs 0 0 (MQ below (va_Qi Q (rB D kA h ad A) A) args s 0 0 A) (F0 m 83 ls []) := by
    intro    M H locs ls hH hl hw
    unfold fm_isSame_b83 at hw
    refine lv_iconst (v := 1) hx hb dX11_isSame_83 (by decide) ?_
    refine lv_goto (tgt := 88) hx hb dX11_isSame_84 (by decide) ?_
    exact b88   1 M H locs ls hH (lv_sub hl [] rfl) hw
  have b48 : ∀ (v1 : Int32) (v2 : Int32) (s0 : Int32) (M : RM) (H : Heap) (locs : List Loc) (ls : Array Slot), rH D kA h ad A s.heap M H locs → lv_has ls 4 [(0, .ref h), (1, .int v1), (2, .int v2)] → fm_isSame_b48 Q  v1 v2 s0 M → W p l e (headSpec wsX11_isSame rmX11_isSame).room s m args below meth c H locs 0 0 (MQ below (va_Qi Q (rB D kA h ad A) A) args s 0 0 A) (F0 m 48 ls [.int s0]) := by
    intro   v1 v2 s0 M H locs ls hH hl hw
    unfold fm_isSame_b48 at hw
    refine lv_istore_n (lv' := [(3, .int s0), (0, .ref h), (1, .int v1), (2, .int v2)]) hx hb dX11_isSame_48 rfl hl (by decide) rfl (fun ls hl => ?_)
    refine lv_iload_n hx hb dX11_isSame_49 rfl (lv_at hl 0 rfl) ?_
    refine lv_if_eq (tgt := 87) hx hb dX11_isSame_50 (by decide) (fun c1 => ?_) (fun c1 => ?_)
    · replace hw := hw.1 c1
      exact b87    M H locs ls hH (lv_sub hl [] rfl) hw
    · replace hw := hw.2 c1
      refine lv_aload_n hx hb dX11_isSame_53 rfl (lv_at hl 1 rfl) ?_
      refine rg_8 hx hb hts hin hown hK hH (hts (.fieldLink RX11 31 "IdlCallerModel" "sort" "[I") (by decide +kernel)) dX11_isSame_54 ?_
      refine lv_iconst (v := 2) hx hb dX11_isSame_57 (by decide) ?_
      refine lv_iload_n hx hb dX11_isSame_58 rfl (lv_at hl 2 rfl) ?_
      refine lv_imul hx hb dX11_isSame_59 ?_
      obtain ⟨h2, hw⟩ := hw
      refine rl_8 hx hb hK hH h2 dX11_isSame_60 ?_
      refine lv_bipush (v := 9) hx hb dX11_isSame_61 (by decide) ?_
      refine lv_icmp_ne (tgt := 83) hx hb dX11_isSame_63 (by decide) (fun c3 => ?_) (fun c3 => ?_)
      · replace hw := hw.1 c3
        exact b83    M H locs ls hH (lv_sub hl [] rfl) hw
      · replace hw := hw.2 c3
        refine lv_aload_n hx hb dX11_isSame_66 rfl (lv_at hl 1 rfl) ?_
        refine lv_iconst (v := 2) hx hb dX11_isSame_67 (by decide) ?_
        refine lv_iload_n hx hb dX11_isSame_68 rfl (lv_at hl 2 rfl) ?_
        refine lv_imul hx hb dX11_isSame_69 ?_
        refine lv_iconst (v := 1) hx hb dX11_isSame_70 (by decide) ?_
        refine lv_iadd hx hb dX11_isSame_71 ?_
        refine lv_iconst (v := 2) hx hb dX11_isSame_72 (by decide) ?_
        refine lv_iload_n hx hb dX11_isSame_73 rfl (lv_at hl 3 rfl) ?_
        refine lv_imul hx hb dX11_isSame_74 ?_
        refine lv_iconst (v := 1) hx hb dX11_isSame_75 (by decide) ?_
        refine lv_iadd hx hb dX11_isSame_76 ?_
        refine r_calli (va_runV (As := [.int ((2 * v1) + 1), .int ((2 * v2) + 1)]) (rest := []) ⟨hx, hb, hml, hown, hts⟩ (tm_isSameName l D kA h ad H.size M ((2 * v1) + 1) ((2 * v2) + 1) _ hw) (cwV 2 hts gX11_isSame_X11_isSameName rfl rfl rfl (by decide +kernel) ⟨Nat.le_of_ble_eq_true rfl, Nat.le_of_ble_eq_true rfl⟩) (r_preV hK hH) rfl rfl hl.1 rfl (lv_room (Nat.le_of_ble_eq_true rfl)) dX11_isSame_77 ⟨Nat.le_of_ble_eq_true rfl, Nat.le_of_ble_eq_true rfl⟩) hH hA (fun r5 M4 H locs hw hH => ?_)
        refine lv_if_eq (tgt := 87) hx hb dX11_isSame_80 (by decide) (fun c6 => ?_) (fun c6 => ?_)
        · replace hw := hw.1 c6
          exact b87    M4 H locs ls hH (lv_sub hl [] rfl) hw
        · replace hw := hw.2 c6
          exact b83    M4 H locs ls hH (lv_sub hl [] rfl) hw
  have b47 : ∀ (v1 : Int32) (v2 : Int32) (M : RM) (H : Heap) (locs : List Loc) (ls : Array Slot), rH D kA h ad A s.heap M H locs → lv_has ls 4 [(0, .ref h), (1, .int v1), (2, .int v2)] → fm_isSame_b47 Q  v1 v2 M → W p l e (headSpec wsX11_isSame rmX11_isSame).room s m args below meth c H locs 0 0 (MQ below (va_Qi Q (rB D kA h ad A) A) args s 0 0 A) (F0 m 47 ls []) := by
    intro   v1 v2 M H locs ls hH hl hw
    unfold fm_isSame_b47 at hw
    refine lv_iconst (v := 0) hx hb dX11_isSame_47 (by decide) ?_
    exact b48   v1 v2 0 M H locs ls hH (lv_sub hl [0, 1, 2] rfl) hw
  clear hP hD0
  unfold fm_isSame at hw
  have hst : ∀ (M : RM) (H : Heap) (locs : List Loc) (ls : Array Slot), rH D kA h ad A s.heap M H locs → lv_has ls 4 [(0, .ref h), (1, .int a1), (2, .int a2)] → (vp_in a1 185 ∧ (vp_in a2 185 ∧ ((¬ (rA M 6 a1.toNatClampNeg) = (rA M 6 a2.toNatClampNeg) → fm_isSame_b47 Q  a1 a2 M) ∧ ((rA M 6 a1.toNatClampNeg) = (rA M 6 a2.toNatClampNeg) → (vp_in a1 185 ∧ (vp_in a2 185 ∧ ((¬ (rA M 7 a1.toNatClampNeg) = (rA M 7 a2.toNatClampNeg) → fm_isSame_b47 Q  a1 a2 M) ∧ ((rA M 7 a1.toNatClampNeg) = (rA M 7 a2.toNatClampNeg) → fm_isSameName (2 * a1) (2 * a2) M (fun (r14 : Int32) (M13 : RM) => ((r14 = 0 → fm_isSame_b47 Q  a1 a2 M13) ∧ (¬ r14 = 0 → fm_isSame_b48 Q  a1 a2 1 M13))))))))))) → W p l e (headSpec wsX11_isSame rmX11_isSame).room s m args below meth c H locs 0 0 (MQ below (va_Qi Q (rB D kA h ad A) A) args s 0 0 A) (F0 m 0 ls []) := by
    intro M H locs ls hH hl hw
    refine lv_aload_n hx hb dX11_isSame_0 rfl (lv_at hl 0 rfl) ?_
    refine rg_6 hx hb hts hin hown hK hH (hts (.fieldLink RX11 24 "IdlCallerModel" "isOptional" "[Z") (by decide +kernel)) dX11_isSame_1 ?_
    refine lv_iload_n hx hb dX11_isSame_4 rfl (lv_at hl 1 rfl) ?_
    obtain ⟨h7, hw⟩ := hw
    refine rl_6 hx hb hK hH h7 dX11_isSame_5 ?_
    refine lv_aload_n hx hb dX11_isSame_6 rfl (lv_at hl 0 rfl) ?_
    refine rg_6 hx hb hts hin hown hK hH (hts (.fieldLink RX11 24 "IdlCallerModel" "isOptional" "[Z") (by decide +kernel)) dX11_isSame_7 ?_
    refine lv_iload_n hx hb dX11_isSame_10 rfl (lv_at hl 2 rfl) ?_
    obtain ⟨h8, hw⟩ := hw
    refine rl_6 hx hb hK hH h8 dX11_isSame_11 ?_
    refine lv_icmp_ne (tgt := 47) hx hb dX11_isSame_12 (by decide) (fun c9 => ?_) (fun c9 => ?_)
    · replace hw := hw.1 c9
      exact b47   a1 a2 M H locs ls hH (lv_sub hl [0, 1, 2] rfl) hw
    · replace hw := hw.2 c9
      refine lv_aload_n hx hb dX11_isSame_15 rfl (lv_at hl 0 rfl) ?_
      refine rg_7 hx hb hts hin hown hK hH (hts (.fieldLink RX11 28 "IdlCallerModel" "isVariadic" "[Z") (by decide +kernel)) dX11_isSame_16 ?_
      refine lv_iload_n hx hb dX11_isSame_19 rfl (lv_at hl 1 rfl) ?_
      obtain ⟨h10, hw⟩ := hw
      refine rl_7 hx hb hK hH h10 dX11_isSame_20 ?_
      refine lv_aload_n hx hb dX11_isSame_21 rfl (lv_at hl 0 rfl) ?_
      refine rg_7 hx hb hts hin hown hK hH (hts (.fieldLink RX11 28 "IdlCallerModel" "isVariadic" "[Z") (by decide +kernel)) dX11_isSame_22 ?_
      refine lv_iload_n hx hb dX11_isSame_25 rfl (lv_at hl 2 rfl) ?_
      obtain ⟨h11, hw⟩ := hw
      refine rl_7 hx hb hK hH h11 dX11_isSame_26 ?_
      refine lv_icmp_ne (tgt := 47) hx hb dX11_isSame_27 (by decide) (fun c12 => ?_) (fun c12 => ?_)
      · replace hw := hw.1 c12
        exact b47   a1 a2 M H locs ls hH (lv_sub hl [0, 1, 2] rfl) hw
      · replace hw := hw.2 c12
        refine lv_aload_n hx hb dX11_isSame_30 rfl (lv_at hl 0 rfl) ?_
        refine lv_iconst (v := 2) hx hb dX11_isSame_31 (by decide) ?_
        refine lv_iload_n hx hb dX11_isSame_32 rfl (lv_at hl 1 rfl) ?_
        refine lv_imul hx hb dX11_isSame_33 ?_
        refine lv_iconst (v := 2) hx hb dX11_isSame_34 (by decide) ?_
        refine lv_iload_n hx hb dX11_isSame_35 rfl (lv_at hl 2 rfl) ?_
        refine lv_imul hx hb dX11_isSame_36 ?_
        refine r_calli (va_runV (As := [.int (2 * a1), .int (2 * a2)]) (rest := []) ⟨hx, hb, hml, hown, hts⟩ (tm_isSameName l D kA h ad H.size M (2 * a1) (2 * a2) _ hw) (cwV 2 hts gX11_isSame_X11_isSameName rfl rfl rfl (by decide +kernel) ⟨Nat.le_of_ble_eq_true rfl, Nat.le_of_ble_eq_true rfl⟩) (r_preV hK hH) rfl rfl hl.1 rfl (lv_room (Nat.le_of_ble_eq_true rfl)) dX11_isSame_37 ⟨Nat.le_of_ble_eq_true rfl, Nat.le_of_ble_eq_true rfl⟩) hH hA (fun r14 M13 H locs hw hH => ?_)
        refine lv_if_eq (tgt := 47) hx hb dX11_isSame_40 (by decide) (fun c15 => ?_) (fun c15 => ?_)
        · replace hw := hw.1 c15
          exact b47   a1 a2 M13 H locs ls hH (lv_sub hl [0, 1, 2] rfl) hw
        · replace hw := hw.2 c15
          refine lv_iconst (v := 1) hx hb dX11_isSame_43 (by decide) ?_
          refine lv_goto (tgt := 48) hx hb dX11_isSame_44 (by decide) ?_
          exact b48   a1 a2 1 M13 H locs ls hH (lv_sub hl [0, 1, 2] rfl) hw
  exact hst M s.heap [] ls hH hl hw
def fm_family_b44 (Q : Int32 → RM → Prop) (s0 : Int32) (M : RM) : Prop := Q s0 M
def fm_family_b29 (Q : Int32 → RM → Prop) (M : RM) : Prop := fm_family_b44 Q  2 M
def fm_family (a1 : Int32) (M : RM) (Q : Int32 → RM → Prop) : Prop := ((¬ a1 = 0 → ((5 < a1 → ((a1 = 6 → fm_family_b29 Q   M) ∧ (¬ a1 = 6 → ((¬ a1 = 8 → ((¬ a1 = 9 → fm_family_b44 Q  4 M) ∧ (a1 = 9 → fm_family_b44 Q  3 M))) ∧ (a1 = 8 → fm_family_b29 Q   M))))) ∧ (¬ 5 < a1 → fm_family_b44 Q  1 M))) ∧ (a1 = 0 → fm_family_b44 Q  0 M))
abbrev rmX11_family : Room := { frames := 0, cells := 0, slots := 0, locals := 0 }
set_option maxHeartbeats 4000000 in
set_option maxRecDepth 100000 in
theorem tm_family (l : Launch) (D : va_G) (kA : Nat → ClassId) (h : Nat) (ad : Nat → Nat) (sz : Nat) (M : RM) (a1 : Int32) (Q : Int32 → RM → Prop) (hw : fm_family a1 M Q) : Met l yX11_family wsX11_family rmX11_family (va_Pc [.int a1] (rPc D kA h ad M sz)) (va_Qi Q (rB D kA h ad (rF kA h ad M sz)) (rF kA h ad M sz)) 0 0 (rF kA h ad M sz) := by
  refine Met.ofW (cc := cX11_family) (maxL := 1) (ret := (some .int)) (by decide) rfl ?_
  intro p e s m args below meth c s₁ B hml hv
  obtain ⟨rfl, hsz, hP, hK, hD0⟩ := hv
  have hx := B.exec
  have hb := B.bytes
  have hr := B.returns
  have hts := atoms_spec (ws := wsX11_family) B.pre
  have hown : s.vm.findClass RX11 = some m.cls := findClass_of_methodNamed B.named
  have hlocks : meth.locks = false := B.notSynchronized
  subst hsz
  have hH : rH D kA h ad (rF kA h ad M s.heap.size) s.heap M s.heap [] := ⟨hP, hD0.self, va_S.rf⟩
  have hA : ∀ q : Nat, s.heap.size ≤ q → rF kA h ad M s.heap.size q := fun q z => Or.inr z
  generalize rF kA h ad M s.heap.size = A at hH hA ⊢
  have hl := lv_entry ([.int a1]) (n := 1) (Nat.le_of_ble_eq_true rfl)
  rw [lg_entry_eq]
  generalize (lg_sl ([.int a1]) ++ List.replicate (1 - (lg_sl ([.int a1])).length) Slot.unset).toArray = ls at hl ⊢
  generalize ([.int a1] : List Value).toArray = args at hts ⊢
  have hl : lv_has ls 1 [(0, .int a1)] := hl
  have b44 : ∀ (s0 : Int32) (M : RM) (H : Heap) (locs : List Loc) (ls : Array Slot), rH D kA h ad A s.heap M H locs → lv_has ls 1 [] → fm_family_b44 Q  s0 M → W p l e (headSpec wsX11_family rmX11_family).room s m args below meth c H locs 0 0 (MQ below (va_Qi Q (rB D kA h ad A) A) args s 0 0 A) (F0 m 44 ls [.int s0]) := by
    intro   s0 M H locs ls hH hl hw
    unfold fm_family_b44 at hw
    exact r_reti hx hb hr hlocks hK hH hw dX11_family_44
  have b29 : ∀ (M : RM) (H : Heap) (locs : List Loc) (ls : Array Slot), rH D kA h ad A s.heap M H locs → lv_has ls 1 [] → fm_family_b29 Q   M → W p l e (headSpec wsX11_family rmX11_family).room s m args below meth c H locs 0 0 (MQ below (va_Qi Q (rB D kA h ad A) A) args s 0 0 A) (F0 m 29 ls []) := by
    intro    M H locs ls hH hl hw
    unfold fm_family_b29 at hw
    refine lv_iconst (v := 2) hx hb dX11_family_29 (by decide) ?_
    refine lv_goto (tgt := 44) hx hb dX11_family_30 (by decide) ?_
    exact b44   2 M H locs ls hH (lv_sub hl [] rfl) hw
  clear hP hD0
  unfold fm_family at hw
  have hst : ∀ (M : RM) (H : Heap) (locs : List Loc) (ls : Array Slot), rH D kA h ad A s.heap M H locs → lv_has ls 1 [(0, .int a1)] → ((¬ a1 = 0 → ((5 < a1 → ((a1 = 6 → fm_family_b29 Q   M) ∧ (¬ a1 = 6 → ((¬ a1 = 8 → ((¬ a1 = 9 → fm_family_b44 Q  4 M) ∧ (a1 = 9 → fm_family_b44 Q  3 M))) ∧ (a1 = 8 → fm_family_b29 Q   M))))) ∧ (¬ 5 < a1 → fm_family_b44 Q  1 M))) ∧ (a1 = 0 → fm_family_b44 Q  0 M)) → W p l e (headSpec wsX11_family rmX11_family).room s m args below meth c H locs 0 0 (MQ below (va_Qi Q (rB D kA h ad A) A) args s 0 0 A) (F0 m 0 ls []) := by
    intro M H locs ls hH hl hw
    refine lv_iload_n hx hb dX11_family_0 rfl (lv_at hl 0 rfl) ?_
    refine lv_if_ne (tgt := 8) hx hb dX11_family_1 (by decide) (fun c1 => ?_) (fun c1 => ?_)
    · replace hw := hw.1 c1
      refine lv_iload_n hx hb dX11_family_8 rfl (lv_at hl 0 rfl) ?_
      refine lv_iconst (v := 5) hx hb dX11_family_9 (by decide) ?_
      refine lv_icmp_gt (tgt := 17) hx hb dX11_family_10 (by decide) (fun c2 => ?_) (fun c2 => ?_)
      · replace hw := hw.1 c2
        refine lv_iload_n hx hb dX11_family_17 rfl (lv_at hl 0 rfl) ?_
        refine lv_bipush (v := 6) hx hb dX11_family_18 (by decide) ?_
        refine lv_icmp_eq (tgt := 29) hx hb dX11_family_20 (by decide) (fun c3 => ?_) (fun c3 => ?_)
        · replace hw := hw.1 c3
          exact b29    M H locs ls hH (lv_sub hl [] rfl) hw
        · replace hw := hw.2 c3
          refine lv_iload_n hx hb dX11_family_23 rfl (lv_at hl 0 rfl) ?_
          refine lv_bipush (v := 8) hx hb dX11_family_24 (by decide) ?_
          refine lv_icmp_ne (tgt := 33) hx hb dX11_family_26 (by decide) (fun c4 => ?_) (fun c4 => ?_)
          · replace hw := hw.1 c4
            refine lv_iload_n hx hb dX11_family_33 rfl (lv_at hl 0 rfl) ?_
            refine lv_bipush (v := 9) hx hb dX11_family_34 (by decide) ?_
            refine lv_icmp_ne (tgt := 43) hx hb dX11_family_36 (by decide) (fun c5 => ?_) (fun c5 => ?_)
            · replace hw := hw.1 c5
              refine lv_iconst (v := 4) hx hb dX11_family_43 (by decide) ?_
              exact b44   4 M H locs ls hH (lv_sub hl [] rfl) hw
            · replace hw := hw.2 c5
              refine lv_iconst (v := 3) hx hb dX11_family_39 (by decide) ?_
              refine lv_goto (tgt := 44) hx hb dX11_family_40 (by decide) ?_
              exact b44   3 M H locs ls hH (lv_sub hl [] rfl) hw
          · replace hw := hw.2 c4
            exact b29    M H locs ls hH (lv_sub hl [] rfl) hw
      · replace hw := hw.2 c2
        refine lv_iconst (v := 1) hx hb dX11_family_13 (by decide) ?_
        refine lv_goto (tgt := 44) hx hb dX11_family_14 (by decide) ?_
        exact b44   1 M H locs ls hH (lv_sub hl [] rfl) hw
    · replace hw := hw.2 c1
      refine lv_iconst (v := 0) hx hb dX11_family_4 (by decide) ?_
      refine lv_goto (tgt := 44) hx hb dX11_family_5 (by decide) ?_
      exact b44   0 M H locs ls hH (lv_sub hl [] rfl) hw
  exact hst M s.heap [] ls hH hl hw
def fm_isDistinct_b78 (Q : Int32 → RM → Prop) (s0 : Int32) (M : RM) : Prop := (nZ s0 ∧ Q s0 M)
def fm_isDistinct_b77 (Q : Int32 → RM → Prop) (M : RM) : Prop := fm_isDistinct_b78 Q  0 M
def fm_isDistinct_b51 (Q : Int32 → RM → Prop) (v3 : Int32) (v4 : Int32) (M : RM) : Prop := (vp_in v3 370 ∧ fm_family (rA M 8 v3.toNatClampNeg) M (fun (r3 : Int32) (M2 : RM) => (vp_in v4 370 ∧ fm_family (rA M2 8 v4.toNatClampNeg) M2 (fun (r6 : Int32) (M5 : RM) => ((r3 = r6 → fm_isDistinct_b77 Q   M5) ∧ (¬ r3 = r6 → fm_isDistinct_b78 Q  1 M5))))))
def fm_isDistinct (a1 : Int32) (a2 : Int32) (M : RM) (Q : Int32 → RM → Prop) : Prop := (∀ x8 : Int32, x8 = 2 * a1 → (∀ x9 : Int32, x9 = 2 * a2 → (vp_in x8 370 ∧ (((rA M 8 x8.toNatClampNeg) = 7 → fm_isDistinct_b77 Q   M) ∧ (¬ (rA M 8 x8.toNatClampNeg) = 7 → (vp_in x9 370 ∧ (((rA M 8 x9.toNatClampNeg) = 7 → fm_isDistinct_b77 Q   M) ∧ (¬ (rA M 8 x9.toNatClampNeg) = 7 → (vp_in x8 370 ∧ (((rA M 10 x8.toNatClampNeg) = 0 → fm_isDistinct_b51 Q  x8 x9 M) ∧ (¬ (rA M 10 x8.toNatClampNeg) = 0 → (vp_in x9 370 ∧ ((¬ (rA M 10 x9.toNatClampNeg) = 0 → fm_isDistinct_b77 Q   M) ∧ ((rA M 10 x9.toNatClampNeg) = 0 → fm_isDistinct_b51 Q  x8 x9 M))))))))))))))
abbrev rmX11_isDistinct : Room := { frames := 1, cells := 0, slots := 0, locals := 20 }
set_option maxHeartbeats 4000000 in
set_option maxRecDepth 100000 in
theorem tm_isDistinct (l : Launch) (D : va_G) (kA : Nat → ClassId) (h : Nat) (ad : Nat → Nat) (sz : Nat) (M : RM) (a1 : Int32) (a2 : Int32) (Q : Int32 → RM → Prop) (hw : fm_isDistinct a1 a2 M Q) : Met l yX11_isDistinct wsX11_isDistinct rmX11_isDistinct (va_Pc [.ref h, .int a1, .int a2] (rPc D kA h ad M sz)) (va_Qi Q (rB D kA h ad (rF kA h ad M sz)) (rF kA h ad M sz)) 0 0 (rF kA h ad M sz) := by
  refine Met.ofW (cc := cX11_isDistinct) (maxL := 5) (ret := (some .boolean)) (by decide) rfl ?_
  intro p e s m args below meth c s₁ B hml hv
  obtain ⟨rfl, hsz, hP, hK, hD0⟩ := hv
  have hx := B.exec
  have hb := B.bytes
  have hr := B.returns
  have hts := atoms_spec (ws := wsX11_isDistinct) B.pre
  have hown : s.vm.findClass RX11 = some m.cls := findClass_of_methodNamed B.named
  have hlocks : meth.locks = false := B.notSynchronized
  subst hsz
  have hH : rH D kA h ad (rF kA h ad M s.heap.size) s.heap M s.heap [] := ⟨hP, hD0.self, va_S.rf⟩
  have hA : ∀ q : Nat, s.heap.size ≤ q → rF kA h ad M s.heap.size q := fun q z => Or.inr z
  generalize rF kA h ad M s.heap.size = A at hH hA ⊢
  have hl := lv_entry ([.ref h, .int a1, .int a2]) (n := 5) (Nat.le_of_ble_eq_true rfl)
  rw [lg_entry_eq]
  generalize (lg_sl ([.ref h, .int a1, .int a2]) ++ List.replicate (5 - (lg_sl ([.ref h, .int a1, .int a2])).length) Slot.unset).toArray = ls at hl ⊢
  generalize ([.ref h, .int a1, .int a2] : List Value).toArray = args at hts ⊢
  have hl : lv_has ls 5 [(0, .ref h), (1, .int a1), (2, .int a2)] := hl
  have hin : ∀ w ∈ wsX110, w ∈ wsX11_isDistinct := by decide +kernel
  have b78 : ∀ (s0 : Int32) (M : RM) (H : Heap) (locs : List Loc) (ls : Array Slot), rH D kA h ad A s.heap M H locs → lv_has ls 5 [] → fm_isDistinct_b78 Q  s0 M → W p l e (headSpec wsX11_isDistinct rmX11_isDistinct).room s m args below meth c H locs 0 0 (MQ below (va_Qi Q (rB D kA h ad A) A) args s 0 0 A) (F0 m 78 ls [.int s0]) := by
    intro   s0 M H locs ls hH hl hw
    unfold fm_isDistinct_b78 at hw
    exact r_retz hx hb hr hw.1.1 hlocks hK hH hw.2 dX11_isDistinct_78
  have b77 : ∀ (M : RM) (H : Heap) (locs : List Loc) (ls : Array Slot), rH D kA h ad A s.heap M H locs → lv_has ls 5 [] → fm_isDistinct_b77 Q   M → W p l e (headSpec wsX11_isDistinct rmX11_isDistinct).room s m args below meth c H locs 0 0 (MQ below (va_Qi Q (rB D kA h ad A) A) args s 0 0 A) (F0 m 77 ls []) := by
    intro    M H locs ls hH hl hw
    unfold fm_isDistinct_b77 at hw
    refine lv_iconst (v := 0) hx hb dX11_isDistinct_77 (by decide) ?_
    exact b78   0 M H locs ls hH (lv_sub hl [] rfl) hw
  have b51 : ∀ (v3 : Int32) (v4 : Int32) (M : RM) (H : Heap) (locs : List Loc) (ls : Array Slot), rH D kA h ad A s.heap M H locs → lv_has ls 5 [(0, .ref h), (3, .int v3), (4, .int v4)] → fm_isDistinct_b51 Q  v3 v4 M → W p l e (headSpec wsX11_isDistinct rmX11_isDistinct).room s m args below meth c H locs 0 0 (MQ below (va_Qi Q (rB D kA h ad A) A) args s 0 0 A) (F0 m 51 ls []) := by
    intro   v3 v4 M H locs ls hH hl hw
    unfold fm_isDistinct_b51 at hw
    refine lv_aload_n hx hb dX11_isDistinct_51 rfl (lv_at hl 0 rfl) ?_
    refine rg_8 hx hb hts hin hown hK hH (hts (.fieldLink RX11 31 "IdlCallerModel" "sort" "[I") (by decide +kernel)) dX11_isDistinct_52 ?_
    refine lv_iload_n hx hb dX11_isDistinct_55 rfl (lv_at hl 1 rfl) ?_
    obtain ⟨h1, hw⟩ := hw
    refine rl_8 hx hb hK hH h1 dX11_isDistinct_56 ?_
    refine r_calli (va_runS (As := [.int (rA M 8 v3.toNatClampNeg)]) (rest := []) ⟨hx, hb, hml, hown, hts⟩ (tm_family l D kA h ad H.size M (rA M 8 v3.toNatClampNeg) _ hw) (va_cwS 1 hts gX11_isDistinct_X11_family rfl rfl rfl (by decide +kernel) ⟨Nat.le_of_ble_eq_true rfl, Nat.le_of_ble_eq_true rfl⟩) (r_preS hK hH) rfl rfl hl.1 rfl (lv_room (Nat.le_of_ble_eq_true rfl)) dX11_isDistinct_57 ⟨Nat.le_of_ble_eq_true rfl, Nat.le_of_ble_eq_true rfl⟩) hH hA (fun r3 M2 H locs hw hH => ?_)
    refine lv_aload_n hx hb dX11_isDistinct_60 rfl (lv_at hl 0 rfl) ?_
    refine rg_8 hx hb hts hin hown hK hH (hts (.fieldLink RX11 31 "IdlCallerModel" "sort" "[I") (by decide +kernel)) dX11_isDistinct_61 ?_
    refine lv_iload hx hb dX11_isDistinct_64 (lv_at hl 2 rfl) ?_
    obtain ⟨h4, hw⟩ := hw
    refine rl_8 hx hb hK hH h4 dX11_isDistinct_66 ?_
    refine r_calli (va_runS (As := [.int (rA M2 8 v4.toNatClampNeg)]) (rest := [.int r3]) ⟨hx, hb, hml, hown, hts⟩ (tm_family l D kA h ad H.size M2 (rA M2 8 v4.toNatClampNeg) _ hw) (va_cwS 1 hts gX11_isDistinct_X11_family rfl rfl rfl (by decide +kernel) ⟨Nat.le_of_ble_eq_true rfl, Nat.le_of_ble_eq_true rfl⟩) (r_preS hK hH) rfl rfl hl.1 rfl (lv_room (Nat.le_of_ble_eq_true rfl)) dX11_isDistinct_67 ⟨Nat.le_of_ble_eq_true rfl, Nat.le_of_ble_eq_true rfl⟩) hH hA (fun r6 M5 H locs hw hH => ?_)
    refine lv_icmp_eq (tgt := 77) hx hb dX11_isDistinct_70 (by decide) (fun c7 => ?_) (fun c7 => ?_)
    · replace hw := hw.1 c7
      exact b77    M5 H locs ls hH (lv_sub hl [] rfl) hw
    · replace hw := hw.2 c7
      refine lv_iconst (v := 1) hx hb dX11_isDistinct_73 (by decide) ?_
      refine lv_goto (tgt := 78) hx hb dX11_isDistinct_74 (by decide) ?_
      exact b78   1 M5 H locs ls hH (lv_sub hl [] rfl) hw
  clear hP hD0
  unfold fm_isDistinct at hw
  have hst : ∀ (M : RM) (H : Heap) (locs : List Loc) (ls : Array Slot), rH D kA h ad A s.heap M H locs → lv_has ls 5 [(0, .ref h), (1, .int a1), (2, .int a2)] → (∀ x8 : Int32, x8 = 2 * a1 → (∀ x9 : Int32, x9 = 2 * a2 → (vp_in x8 370 ∧ (((rA M 8 x8.toNatClampNeg) = 7 → fm_isDistinct_b77 Q   M) ∧ (¬ (rA M 8 x8.toNatClampNeg) = 7 → (vp_in x9 370 ∧ (((rA M 8 x9.toNatClampNeg) = 7 → fm_isDistinct_b77 Q   M) ∧ (¬ (rA M 8 x9.toNatClampNeg) = 7 → (vp_in x8 370 ∧ (((rA M 10 x8.toNatClampNeg) = 0 → fm_isDistinct_b51 Q  x8 x9 M) ∧ (¬ (rA M 10 x8.toNatClampNeg) = 0 → (vp_in x9 370 ∧ ((¬ (rA M 10 x9.toNatClampNeg) = 0 → fm_isDistinct_b77 Q   M) ∧ ((rA M 10 x9.toNatClampNeg) = 0 → fm_isDistinct_b51 Q  x8 x9 M)))))))))))))) → W p l e (headSpec wsX11_isDistinct rmX11_isDistinct).room s m args below meth c H locs 0 0 (MQ below (va_Qi Q (rB D kA h ad A) A) args s 0 0 A) (F0 m 0 ls []) := by
    intro M H locs ls hH hl hw
    refine lv_iconst (v := 2) hx hb dX11_isDistinct_0 (by decide) ?_
    refine lv_iload_n hx hb dX11_isDistinct_1 rfl (lv_at hl 1 rfl) ?_
    refine lv_imul hx hb dX11_isDistinct_2 ?_
    refine lv_topi (fun x8 ex8 => ?_)
    replace hw := hw x8 ex8
    refine lv_istore_n (lv' := [(3, .int x8), (0, .ref h), (1, .int a1), (2, .int a2)]) hx hb dX11_isDistinct_3 rfl hl (by decide) rfl (fun ls hl => ?_)
    refine lv_iconst (v := 2) hx hb dX11_isDistinct_4 (by decide) ?_
    refine lv_iload_n hx hb dX11_isDistinct_5 rfl (lv_at hl 3 rfl) ?_
    refine lv_imul hx hb dX11_isDistinct_6 ?_
    refine lv_topi (fun x9 ex9 => ?_)
    replace hw := hw x9 ex9
    refine lv_istore (lv' := [(4, .int x9), (3, .int x8), (0, .ref h), (1, .int a1), (2, .int a2)]) hx hb dX11_isDistinct_7 hl (by decide) rfl (fun ls hl => ?_)
    refine lv_aload_n hx hb dX11_isDistinct_9 rfl (lv_at hl 2 rfl) ?_
    refine rg_8 hx hb hts hin hown hK hH (hts (.fieldLink RX11 31 "IdlCallerModel" "sort" "[I") (by decide +kernel)) dX11_isDistinct_10 ?_
    refine lv_iload_n hx hb dX11_isDistinct_13 rfl (lv_at hl 1 rfl) ?_
    obtain ⟨h10, hw⟩ := hw
    refine rl_8 hx hb hK hH h10 dX11_isDistinct_14 ?_
    refine lv_bipush (v := 7) hx hb dX11_isDistinct_15 (by decide) ?_
    refine lv_icmp_eq (tgt := 77) hx hb dX11_isDistinct_17 (by decide) (fun c11 => ?_) (fun c11 => ?_)
    · replace hw := hw.1 c11
      exact b77    M H locs ls hH (lv_sub hl [] rfl) hw
    · replace hw := hw.2 c11
      refine lv_aload_n hx hb dX11_isDistinct_20 rfl (lv_at hl 2 rfl) ?_
      refine rg_8 hx hb hts hin hown hK hH (hts (.fieldLink RX11 31 "IdlCallerModel" "sort" "[I") (by decide +kernel)) dX11_isDistinct_21 ?_
      refine lv_iload hx hb dX11_isDistinct_24 (lv_at hl 0 rfl) ?_
      obtain ⟨h12, hw⟩ := hw
      refine rl_8 hx hb hK hH h12 dX11_isDistinct_26 ?_
      refine lv_bipush (v := 7) hx hb dX11_isDistinct_27 (by decide) ?_
      refine lv_icmp_eq (tgt := 77) hx hb dX11_isDistinct_29 (by decide) (fun c13 => ?_) (fun c13 => ?_)
      · replace hw := hw.1 c13
        exact b77    M H locs ls hH (lv_sub hl [] rfl) hw
      · replace hw := hw.2 c13
        refine lv_aload_n hx hb dX11_isDistinct_32 rfl (lv_at hl 2 rfl) ?_
        refine rg_10 hx hb hts hin hown hK hH (hts (.fieldLink RX11 37 "IdlCallerModel" "isNullable" "[Z") (by decide +kernel)) dX11_isDistinct_33 ?_
        refine lv_iload_n hx hb dX11_isDistinct_36 rfl (lv_at hl 1 rfl) ?_
        obtain ⟨h14, hw⟩ := hw
        refine rl_10 hx hb hK hH h14 dX11_isDistinct_37 ?_
        refine lv_if_eq (tgt := 51) hx hb dX11_isDistinct_38 (by decide) (fun c15 => ?_) (fun c15 => ?_)
        · replace hw := hw.1 c15
          exact b51   x8 x9 M H locs ls hH (lv_sub hl [2, 1, 0] rfl) hw
        · replace hw := hw.2 c15
          refine lv_aload_n hx hb dX11_isDistinct_41 rfl (lv_at hl 2 rfl) ?_
          refine rg_10 hx hb hts hin hown hK hH (hts (.fieldLink RX11 37 "IdlCallerModel" "isNullable" "[Z") (by decide +kernel)) dX11_isDistinct_42 ?_
          refine lv_iload hx hb dX11_isDistinct_45 (lv_at hl 0 rfl) ?_
          obtain ⟨h16, hw⟩ := hw
          refine rl_10 hx hb hK hH h16 dX11_isDistinct_47 ?_
          refine lv_if_ne (tgt := 77) hx hb dX11_isDistinct_48 (by decide) (fun c17 => ?_) (fun c17 => ?_)
          · replace hw := hw.1 c17
            exact b77    M H locs ls hH (lv_sub hl [] rfl) hw
          · replace hw := hw.2 c17
            exact b51   x8 x9 M H locs ls hH (lv_sub hl [2, 1, 0] rfl) hw
  exact hst M s.heap [] ls hH hl hw
def fm_differAt_b36 (Q : Int32 → RM → Prop) (v4 : Int32) (M : RM) : Prop := Q v4 M
def fm_differAt_c3 (Q : Int32 → RM → Prop) (k3 : Int32 → Int32 → Int32 → Int32 → RM → Prop) (v1 : Int32) (v2 : Int32) (v3 : Int32) (v4 : Int32) (M : RM) : Prop := ((v3 ≤ v4 → fm_differAt_b36 Q  v4 M) ∧ (¬ v3 ≤ v4 → fm_argumentOf v1 v4 M (fun (r3 : Int32) (M2 : RM) => fm_argumentOf v2 v4 M2 (fun (r5 : Int32) (M4 : RM) => fm_isSame r3 r5 M4 (fun (r7 : Int32) (M6 : RM) => ((r7 = 0 → fm_differAt_b36 Q  v4 M6) ∧ (¬ r7 = 0 → (∀ x9 : Int32, x9 = v4 + 1 → k3 v1 v2 v3 x9 M6))))))))
def fm_differAt_l3 (Q : Int32 → RM → Prop) : Nat → Int32 → Int32 → Int32 → Int32 → RM → Prop := lit (τ := Int32 → Int32 → Int32 → Int32 → RM → Prop) (fun _ _ _ _ _ => False) (fun k => fm_differAt_c3 Q  k)
def fm_differAt (a1 : Int32) (a2 : Int32) (a3 : Int32) (M : RM) (Q : Int32 → RM → Prop) : Prop := (∃ nn : Nat, fm_differAt_l3 Q  nn a1 a2 a3 0 M)
abbrev rmX11_differAt : Room := { frames := 3, cells := 0, slots := 0, locals := 71 }
set_option maxHeartbeats 4000000 in
set_option maxRecDepth 100000 in
theorem tm_differAt (l : Launch) (D : va_G) (kA : Nat → ClassId) (h : Nat) (ad : Nat → Nat) (sz : Nat) (M : RM) (a1 : Int32) (a2 : Int32) (a3 : Int32) (Q : Int32 → RM → Prop) (hw : fm_differAt a1 a2 a3 M Q) : Met l yX11_differAt wsX11_differAt rmX11_differAt (va_Pc [.ref h, .int a1, .int a2, .int a3] (rPc D kA h ad M sz)) (va_Qi Q (rB D kA h ad (rF kA h ad M sz)) (rF kA h ad M sz)) 0 0 (rF kA h ad M sz) := by
  refine Met.ofW (cc := cX11_differAt) (maxL := 5) (ret := (some .int)) (by decide) rfl ?_
  intro p e s m args below meth c s₁ B hml hv
  obtain ⟨rfl, hsz, hP, hK, hD0⟩ := hv
  have hx := B.exec
  have hb := B.bytes
  have hr := B.returns
  have hts := atoms_spec (ws := wsX11_differAt) B.pre
  have hown : s.vm.findClass RX11 = some m.cls := findClass_of_methodNamed B.named
  have hlocks : meth.locks = false := B.notSynchronized
  subst hsz
  have hH : rH D kA h ad (rF kA h ad M s.heap.size) s.heap M s.heap [] := ⟨hP, hD0.self, va_S.rf⟩
  have hA : ∀ q : Nat, s.heap.size ≤ q → rF kA h ad M s.heap.size q := fun q z => Or.inr z
  generalize rF kA h ad M s.heap.size = A at hH hA ⊢
  have hl := lv_entry ([.ref h, .int a1, .int a2, .int a3]) (n := 5) (Nat.le_of_ble_eq_true rfl)
  rw [lg_entry_eq]
  generalize (lg_sl ([.ref h, .int a1, .int a2, .int a3]) ++ List.replicate (5 - (lg_sl ([.ref h, .int a1, .int a2, .int a3])).length) Slot.unset).toArray = ls at hl ⊢
  generalize ([.ref h, .int a1, .int a2, .int a3] : List Value).toArray = args at hts ⊢
  have hl : lv_has ls 5 [(0, .ref h), (1, .int a1), (2, .int a2), (3, .int a3)] := hl
  have b36 : ∀ (v4 : Int32) (M : RM) (H : Heap) (locs : List Loc) (ls : Array Slot), rH D kA h ad A s.heap M H locs → lv_has ls 5 [(4, .int v4)] → fm_differAt_b36 Q  v4 M → W p l e (headSpec wsX11_differAt rmX11_differAt).room s m args below meth c H locs 0 0 (MQ below (va_Qi Q (rB D kA h ad A) A) args s 0 0 A) (F0 m 36 ls []) := by
    intro   v4 M H locs ls hH hl hw
    unfold fm_differAt_b36 at hw
    refine lv_iload hx hb dX11_differAt_36 (lv_at hl 0 rfl) ?_
    exact r_reti hx hb hr hlocks hK hH hw dX11_differAt_38
  have l3 : ∀ (nn : Nat) (v1 : Int32) (v2 : Int32) (v3 : Int32) (v4 : Int32) (M : RM) (H : Heap) (locs : List Loc) (ls : Array Slot), rH D kA h ad A s.heap M H locs → lv_has ls 5 [(0, .ref h), (1, .int v1), (2, .int v2), (3, .int v3), (4, .int v4)] → fm_differAt_l3 Q  nn v1 v2 v3 v4 M → W p l e (headSpec wsX11_differAt rmX11_differAt).room s m args below meth c H locs 0 0 (MQ below (va_Qi Q (rB D kA h ad A) A) args s 0 0 A) (F0 m 3 ls []) := by
    intro   nn
    induction nn with
    | zero => intro v1 v2 v3 v4 M H locs ls hH hl hw; exact False.elim hw
    | succ nn hk3 =>
      intro v1 v2 v3 v4 M H locs ls hH hl hw
      replace hw : fm_differAt_c3 Q  (fm_differAt_l3 Q  nn) v1 v2 v3 v4 M := hw
      unfold fm_differAt_c3 at hw
      refine lv_iload hx hb dX11_differAt_3 (lv_at hl 4 rfl) ?_
      refine lv_iload_n hx hb dX11_differAt_5 rfl (lv_at hl 3 rfl) ?_
      refine lv_icmp_ge (tgt := 36) hx hb dX11_differAt_6 (by decide) (fun c1 => ?_) (fun c1 => ?_)
      · replace hw := hw.1 c1
        exact b36   v4 M H locs ls hH (lv_sub hl [4] rfl) hw
      · replace hw := hw.2 c1
        refine lv_aload_n hx hb dX11_differAt_9 rfl (lv_at hl 0 rfl) ?_
        refine lv_aload_n hx hb dX11_differAt_10 rfl (lv_at hl 0 rfl) ?_
        refine lv_iload_n hx hb dX11_differAt_11 rfl (lv_at hl 1 rfl) ?_
        refine lv_iload hx hb dX11_differAt_12 (lv_at hl 4 rfl) ?_
        refine r_calli (va_runV (As := [.int v1, .int v4]) (rest := [.ref h]) ⟨hx, hb, hml, hown, hts⟩ (tm_argumentOf l D kA h ad H.size M v1 v4 _ hw) (cwV 2 hts gX11_differAt_X11_argumentOf rfl rfl rfl (by decide +kernel) ⟨Nat.le_of_ble_eq_true rfl, Nat.le_of_ble_eq_true rfl⟩) (r_preV hK hH) rfl rfl hl.1 rfl (lv_room (Nat.le_of_ble_eq_true rfl)) dX11_differAt_14 ⟨Nat.le_of_ble_eq_true rfl, Nat.le_of_ble_eq_true rfl⟩) hH hA (fun r3 M2 H locs hw hH => ?_)
        refine lv_aload_n hx hb dX11_differAt_17 rfl (lv_at hl 0 rfl) ?_
        refine lv_iload_n hx hb dX11_differAt_18 rfl (lv_at hl 2 rfl) ?_
        refine lv_iload hx hb dX11_differAt_19 (lv_at hl 4 rfl) ?_
        refine r_calli (va_runV (As := [.int v2, .int v4]) (rest := [.int r3, .ref h]) ⟨hx, hb, hml, hown, hts⟩ (tm_argumentOf l D kA h ad H.size M2 v2 v4 _ hw) (cwV 2 hts gX11_differAt_X11_argumentOf rfl rfl rfl (by decide +kernel) ⟨Nat.le_of_ble_eq_true rfl, Nat.le_of_ble_eq_true rfl⟩) (r_preV hK hH) rfl rfl hl.1 rfl (lv_room (Nat.le_of_ble_eq_true rfl)) dX11_differAt_21 ⟨Nat.le_of_ble_eq_true rfl, Nat.le_of_ble_eq_true rfl⟩) hH hA (fun r5 M4 H locs hw hH => ?_)
        refine r_calli (va_runV (As := [.int r3, .int r5]) (rest := []) ⟨hx, hb, hml, hown, hts⟩ (tm_isSame l D kA h ad H.size M4 r3 r5 _ hw) (cwV 2 hts gX11_differAt_X11_isSame rfl rfl rfl (by decide +kernel) ⟨Nat.le_of_ble_eq_true rfl, Nat.le_of_ble_eq_true rfl⟩) (r_preV hK hH) rfl rfl hl.1 rfl (lv_room (Nat.le_of_ble_eq_true rfl)) dX11_differAt_24 ⟨Nat.le_of_ble_eq_true rfl, Nat.le_of_ble_eq_true rfl⟩) hH hA (fun r7 M6 H locs hw hH => ?_)
        refine lv_if_eq (tgt := 36) hx hb dX11_differAt_27 (by decide) (fun c8 => ?_) (fun c8 => ?_)
        · replace hw := hw.1 c8
          exact b36   v4 M6 H locs ls hH (lv_sub hl [4] rfl) hw
        · replace hw := hw.2 c8
          obtain ⟨x9, ex9⟩ : ∃ y : Int32, y = v4 + 1 := ⟨_, rfl⟩
          replace hw := hw x9 ex9
          refine lv_iinc (v := x9) (lv' := [(4, .int x9), (0, .ref h), (1, .int v1), (2, .int v2), (3, .int v3)]) hx hb dX11_differAt_30 hl (k := 4) rfl (by rw [ex9]; rfl) (by decide) rfl (fun ls hl => ?_)
          refine lv_goto (tgt := 3) hx hb dX11_differAt_33 (by decide) ?_
          exact hk3 v1 v2 v3 x9 M6 H locs ls hH (lv_sub hl [1, 2, 3, 4, 0] rfl) hw
  clear hP hD0
  unfold fm_differAt at hw
  have hst : ∀ (M : RM) (H : Heap) (locs : List Loc) (ls : Array Slot), rH D kA h ad A s.heap M H locs → lv_has ls 5 [(0, .ref h), (1, .int a1), (2, .int a2), (3, .int a3)] → (∃ nn : Nat, fm_differAt_l3 Q  nn a1 a2 a3 0 M) → W p l e (headSpec wsX11_differAt rmX11_differAt).room s m args below meth c H locs 0 0 (MQ below (va_Qi Q (rB D kA h ad A) A) args s 0 0 A) (F0 m 0 ls []) := by
    intro M H locs ls hH hl hw
    refine lv_iconst (v := 0) hx hb dX11_differAt_0 (by decide) ?_
    refine lv_istore (lv' := [(4, .int 0), (0, .ref h), (1, .int a1), (2, .int a2), (3, .int a3)]) hx hb dX11_differAt_1 hl (by decide) rfl (fun ls hl => ?_)
    obtain ⟨nn, hw⟩ := hw
    exact l3   nn a1 a2 a3 0 M H locs ls hH (lv_sub hl [1, 2, 3, 4, 0] rfl) hw
  exact hst M s.heap [] ls hH hl hw
def fm_deciding_b157 (Q : Int32 → RM → Prop) (k59 : Int32 → Int32 → Int32 → Int32 → Int32 → Int32 → Int32 → RM → Prop) (v1 : Int32) (v2 : Int32) (v4 : Int32) (v5 : Int32) (v6 : Int32) (v7 : Int32) (v8 : Int32) (M : RM) : Prop := (∀ x1 : Int32, x1 = v8 + 1 → k59 v1 v2 v4 v5 v6 v7 x1 M)
def fm_deciding_b153 (Q : Int32 → RM → Prop) (k59 : Int32 → Int32 → Int32 → Int32 → Int32 → Int32 → Int32 → RM → Prop) (v1 : Int32) (v2 : Int32) (v5 : Int32) (v6 : Int32) (v7 : Int32) (v8 : Int32) (v10 : Int32) (M : RM) : Prop := fm_deciding_b157 Q k59 v1 v2 v10 v5 v6 v7 v8 M
def fm_deciding_b150 (Q : Int32 → RM → Prop) (M : RM) : Prop := Q (-2) M
def fm_deciding_c59 (Q : Int32 → RM → Prop) (k24 : Int32 → Int32 → Int32 → Int32 → Int32 → RM → Prop) (k59 : Int32 → Int32 → Int32 → Int32 → Int32 → Int32 → Int32 → RM → Prop) (v1 : Int32) (v2 : Int32) (v4 : Int32) (v5 : Int32) (v6 : Int32) (v7 : Int32) (v8 : Int32) (M : RM) : Prop := ((v6 ≤ v8 → (∀ x3 : Int32, x3 = v6 + 1 → k24 v1 v2 v4 v5 x3 M)) ∧ (¬ v6 ≤ v8 → (∀ x4 : Int32, x4 = (6 * v1) + v8 → fm_takesMany v7 v2 M (fun (r6 : Int32) (M5 : RM) => ((r6 = 0 → fm_deciding_b157 Q k59 v1 v2 v4 v5 v6 v7 v8 M5) ∧ (¬ r6 = 0 → fm_takesMany x4 v2 M5 (fun (r9 : Int32) (M8 : RM) => ((¬ r9 = 0 → fm_differAt v7 x4 v2 M8 (fun (r12 : Int32) (M11 : RM) => ((r12 = v2 → fm_deciding_b150 Q   M11) ∧ (¬ r12 = v2 → fm_argumentOf v7 r12 M11 (fun (r15 : Int32) (M14 : RM) => fm_argumentOf x4 r12 M14 (fun (r17 : Int32) (M16 : RM) => fm_isDistinct r15 r17 M16 (fun (r19 : Int32) (M18 : RM) => ((r19 = 0 → fm_deciding_b150 Q   M18) ∧ (¬ r19 = 0 → ((v4 < 0 → fm_deciding_b153 Q k59 v1 v2 v5 v6 v7 v8 r12 M18) ∧ (¬ v4 < 0 → ((v4 = r12 → fm_deciding_b153 Q k59 v1 v2 v5 v6 v7 v8 r12 M18) ∧ (¬ v4 = r12 → fm_deciding_b150 Q   M18))))))))))))) ∧ (r9 = 0 → fm_deciding_b157 Q k59 v1 v2 v4 v5 v6 v7 v8 M8)))))))))
def fm_deciding_l59 (Q : Int32 → RM → Prop) (k24 : Int32 → Int32 → Int32 → Int32 → Int32 → RM → Prop) : Nat → Int32 → Int32 → Int32 → Int32 → Int32 → Int32 → Int32 → RM → Prop := lit (τ := Int32 → Int32 → Int32 → Int32 → Int32 → Int32 → Int32 → RM → Prop) (fun _ _ _ _ _ _ _ _ => False) (fun k => fm_deciding_c59 Q k24 k)
def fm_deciding_b54 (Q : Int32 → RM → Prop) (k24 : Int32 → Int32 → Int32 → Int32 → Int32 → RM → Prop) (v1 : Int32) (v2 : Int32) (v4 : Int32) (v5 : Int32) (v6 : Int32) (s0 : Int32) (M : RM) : Prop := (∃ nn : Nat, fm_deciding_l59 Q k24 nn v1 v2 v4 v5 v6 s0 0 M)
def fm_deciding_c24 (Q : Int32 → RM → Prop) (k24 : Int32 → Int32 → Int32 → Int32 → Int32 → RM → Prop) (v1 : Int32) (v2 : Int32) (v4 : Int32) (v5 : Int32) (v6 : Int32) (M : RM) : Prop := ((v5 ≤ v6 → Q v4 M) ∧ (¬ v5 ≤ v6 → (vp_in v1 6 ∧ (((rA M 4 v1.toNatClampNeg) ≤ v6 → fm_deciding_b54 Q k24 v1 v2 v4 v5 v6 36 M) ∧ (¬ (rA M 4 v1.toNatClampNeg) ≤ v6 → fm_deciding_b54 Q k24 v1 v2 v4 v5 v6 ((6 * v1) + v6) M)))))
def fm_deciding_l24 (Q : Int32 → RM → Prop) : Nat → Int32 → Int32 → Int32 → Int32 → Int32 → RM → Prop := lit (τ := Int32 → Int32 → Int32 → Int32 → Int32 → RM → Prop) (fun _ _ _ _ _ _ => False) (fun k => fm_deciding_c24 Q  k)
def fm_deciding_b18 (Q : Int32 → RM → Prop) (v1 : Int32) (v2 : Int32) (v4 : Int32) (s0 : Int32) (s1 : Int32) (M : RM) : Prop := (∀ x26 : Int32, x26 = s1 + s0 → (∃ nn : Nat, fm_deciding_l24 Q  nn v1 v2 v4 x26 0 M))
def fm_deciding (a1 : Int32) (a2 : Int32) (a3 : Int32) (M : RM) (Q : Int32 → RM → Prop) : Prop := (∀ x27 : Int32, x27 = (-1) → (vp_in a1 6 ∧ ((a3 = 0 → fm_deciding_b18 Q  a1 a2 x27 0 (rA M 4 a1.toNatClampNeg) M) ∧ (¬ a3 = 0 → fm_deciding_b18 Q  a1 a2 x27 1 (rA M 4 a1.toNatClampNeg) M))))
abbrev rmX11_deciding : Room := { frames := 4, cells := 0, slots := 0, locals := 95 }
set_option maxHeartbeats 4000000 in
set_option maxRecDepth 100000 in
theorem tm_deciding (l : Launch) (D : va_G) (kA : Nat → ClassId) (h : Nat) (ad : Nat → Nat) (sz : Nat) (M : RM) (a1 : Int32) (a2 : Int32) (a3 : Int32) (Q : Int32 → RM → Prop) (hw : fm_deciding a1 a2 a3 M Q) : Met l yX11_deciding wsX11_deciding rmX11_deciding (va_Pc [.ref h, .int a1, .int a2, .int a3] (rPc D kA h ad M sz)) (va_Qi Q (rB D kA h ad (rF kA h ad M sz)) (rF kA h ad M sz)) 0 0 (rF kA h ad M sz) := by
  refine Met.ofW (cc := cX11_deciding) (maxL := 11) (ret := (some .int)) (by decide) rfl ?_
  intro p e s m args below meth c s₁ B hml hv
  obtain ⟨rfl, hsz, hP, hK, hD0⟩ := hv
  have hx := B.exec
  have hb := B.bytes
  have hr := B.returns
  have hts := atoms_spec (ws := wsX11_deciding) B.pre
  have hown : s.vm.findClass RX11 = some m.cls := findClass_of_methodNamed B.named
  have hlocks : meth.locks = false := B.notSynchronized
  subst hsz
  have hH : rH D kA h ad (rF kA h ad M s.heap.size) s.heap M s.heap [] := ⟨hP, hD0.self, va_S.rf⟩
  have hA : ∀ q : Nat, s.heap.size ≤ q → rF kA h ad M s.heap.size q := fun q z => Or.inr z
  generalize rF kA h ad M s.heap.size = A at hH hA ⊢
  have hl := lv_entry ([.ref h, .int a1, .int a2, .int a3]) (n := 11) (Nat.le_of_ble_eq_true rfl)
  rw [lg_entry_eq]
  generalize (lg_sl ([.ref h, .int a1, .int a2, .int a3]) ++ List.replicate (11 - (lg_sl ([.ref h, .int a1, .int a2, .int a3])).length) Slot.unset).toArray = ls at hl ⊢
  generalize ([.ref h, .int a1, .int a2, .int a3] : List Value).toArray = args at hts ⊢
  have hl : lv_has ls 11 [(0, .ref h), (1, .int a1), (2, .int a2), (3, .int a3)] := hl
  have hin : ∀ w ∈ wsX110, w ∈ wsX11_deciding := by decide +kernel
  have b157 : ∀ (k59 : Int32 → Int32 → Int32 → Int32 → Int32 → Int32 → Int32 → RM → Prop) (hk59 : ∀ (v1 : Int32) (v2 : Int32) (v4 : Int32) (v5 : Int32) (v6 : Int32) (v7 : Int32) (v8 : Int32) (M : RM) (H : Heap) (locs : List Loc) (ls : Array Slot), rH D kA h ad A s.heap M H locs → lv_has ls 11 [(0, .ref h), (1, .int v1), (2, .int v2), (4, .int v4), (5, .int v5), (6, .int v6), (7, .int v7), (8, .int v8)] → k59 v1 v2 v4 v5 v6 v7 v8 M → W p l e (headSpec wsX11_deciding rmX11_deciding).room s m args below meth c H locs 0 0 (MQ below (va_Qi Q (rB D kA h ad A) A) args s 0 0 A) (F0 m 59 ls [])) (v1 : Int32) (v2 : Int32) (v4 : Int32) (v5 : Int32) (v6 : Int32) (v7 : Int32) (v8 : Int32) (M : RM) (H : Heap) (locs : List Loc) (ls : Array Slot), rH D kA h ad A s.heap M H locs → lv_has ls 11 [(0, .ref h), (1, .int v1), (2, .int v2), (4, .int v4), (5, .int v5), (6, .int v6), (7, .int v7), (8, .int v8)] → fm_deciding_b157 Q k59 v1 v2 v4 v5 v6 v7 v8 M → W p l e (headSpec wsX11_deciding rmX11_deciding).room s m args below meth c H locs 0 0 (MQ below (va_Qi Q (rB D kA h ad A) A) args s 0 0 A) (F0 m 157 ls []) := by
    intro k59 hk59 v1 v2 v4 v5 v6 v7 v8 M H locs ls hH hl hw
    unfold fm_deciding_b157 at hw
    obtain ⟨x1, ex1⟩ : ∃ y : Int32, y = v8 + 1 := ⟨_, rfl⟩
    replace hw := hw x1 ex1
    refine lv_iinc (v := x1) (lv' := [(8, .int x1), (0, .ref h), (1, .int v1), (2, .int v2), (4, .int v4), (5, .int v5), (6, .int v6), (7, .int v7)]) hx hb dX11_deciding_157 hl (k := 7) rfl (by rw [ex1]; rfl) (by decide) rfl (fun ls hl => ?_)
    refine lv_goto (tgt := 59) hx hb dX11_deciding_160 (by decide) ?_
    exact hk59 v1 v2 v4 v5 v6 v7 x1 M H locs ls hH (lv_sub hl [1, 2, 3, 4, 5, 6, 7, 0] rfl) hw
  have b153 : ∀ (k59 : Int32 → Int32 → Int32 → Int32 → Int32 → Int32 → Int32 → RM → Prop) (hk59 : ∀ (v1 : Int32) (v2 : Int32) (v4 : Int32) (v5 : Int32) (v6 : Int32) (v7 : Int32) (v8 : Int32) (M : RM) (H : Heap) (locs : List Loc) (ls : Array Slot), rH D kA h ad A s.heap M H locs → lv_has ls 11 [(0, .ref h), (1, .int v1), (2, .int v2), (4, .int v4), (5, .int v5), (6, .int v6), (7, .int v7), (8, .int v8)] → k59 v1 v2 v4 v5 v6 v7 v8 M → W p l e (headSpec wsX11_deciding rmX11_deciding).room s m args below meth c H locs 0 0 (MQ below (va_Qi Q (rB D kA h ad A) A) args s 0 0 A) (F0 m 59 ls [])) (v1 : Int32) (v2 : Int32) (v5 : Int32) (v6 : Int32) (v7 : Int32) (v8 : Int32) (v10 : Int32) (M : RM) (H : Heap) (locs : List Loc) (ls : Array Slot), rH D kA h ad A s.heap M H locs → lv_has ls 11 [(0, .ref h), (1, .int v1), (2, .int v2), (5, .int v5), (6, .int v6), (7, .int v7), (8, .int v8), (10, .int v10)] → fm_deciding_b153 Q k59 v1 v2 v5 v6 v7 v8 v10 M → W p l e (headSpec wsX11_deciding rmX11_deciding).room s m args below meth c H locs 0 0 (MQ below (va_Qi Q (rB D kA h ad A) A) args s 0 0 A) (F0 m 153 ls []) := by
    intro k59 hk59 v1 v2 v5 v6 v7 v8 v10 M H locs ls hH hl hw
    unfold fm_deciding_b153 at hw
    refine lv_iload hx hb dX11_deciding_153 (lv_at hl 7 rfl) ?_
    refine lv_istore (lv' := [(4, .int v10), (0, .ref h), (1, .int v1), (2, .int v2), (5, .int v5), (6, .int v6), (7, .int v7), (8, .int v8), (10, .int v10)]) hx hb dX11_deciding_155 hl (by decide) rfl (fun ls hl => ?_)
    exact b157 _ hk59 v1 v2 v10 v5 v6 v7 v8 M H locs ls hH (lv_sub hl [1, 2, 3, 0, 4, 5, 6, 7] rfl) hw
  have b150 : ∀ (M : RM) (H : Heap) (locs : List Loc) (ls : Array Slot), rH D kA h ad A s.heap M H locs → lv_has ls 11 [] → fm_deciding_b150 Q   M → W p l e (headSpec wsX11_deciding rmX11_deciding).room s m args below meth c H locs 0 0 (MQ below (va_Qi Q (rB D kA h ad A) A) args s 0 0 A) (F0 m 150 ls []) := by
    intro    M H locs ls hH hl hw
    unfold fm_deciding_b150 at hw
    refine lv_bipush (v := (-2)) hx hb dX11_deciding_150 (by decide) ?_
    exact r_reti hx hb hr hlocks hK hH hw dX11_deciding_152
  have l59 : ∀ (k24 : Int32 → Int32 → Int32 → Int32 → Int32 → RM → Prop) (hk24 : ∀ (v1 : Int32) (v2 : Int32) (v4 : Int32) (v5 : Int32) (v6 : Int32) (M : RM) (H : Heap) (locs : List Loc) (ls : Array Slot), rH D kA h ad A s.heap M H locs → lv_has ls 11 [(0, .ref h), (1, .int v1), (2, .int v2), (4, .int v4), (5, .int v5), (6, .int v6)] → k24 v1 v2 v4 v5 v6 M → W p l e (headSpec wsX11_deciding rmX11_deciding).room s m args below meth c H locs 0 0 (MQ below (va_Qi Q (rB D kA h ad A) A) args s 0 0 A) (F0 m 24 ls [])) (nn : Nat) (v1 : Int32) (v2 : Int32) (v4 : Int32) (v5 : Int32) (v6 : Int32) (v7 : Int32) (v8 : Int32) (M : RM) (H : Heap) (locs : List Loc) (ls : Array Slot), rH D kA h ad A s.heap M H locs → lv_has ls 11 [(0, .ref h), (1, .int v1), (2, .int v2), (4, .int v4), (5, .int v5), (6, .int v6), (7, .int v7), (8, .int v8)] → fm_deciding_l59 Q k24 nn v1 v2 v4 v5 v6 v7 v8 M → W p l e (headSpec wsX11_deciding rmX11_deciding).room s m args below meth c H locs 0 0 (MQ below (va_Qi Q (rB D kA h ad A) A) args s 0 0 A) (F0 m 59 ls []) := by
    intro k24 hk24 nn
    induction nn with
    | zero => intro v1 v2 v4 v5 v6 v7 v8 M H locs ls hH hl hw; exact False.elim hw
    | succ nn hk59 =>
      intro v1 v2 v4 v5 v6 v7 v8 M H locs ls hH hl hw
      replace hw : fm_deciding_c59 Q k24 (fm_deciding_l59 Q k24 nn) v1 v2 v4 v5 v6 v7 v8 M := hw
      unfold fm_deciding_c59 at hw
      refine lv_iload hx hb dX11_deciding_59 (lv_at hl 7 rfl) ?_
      refine lv_iload hx hb dX11_deciding_61 (lv_at hl 5 rfl) ?_
      refine lv_icmp_ge (tgt := 163) hx hb dX11_deciding_63 (by decide) (fun c2 => ?_) (fun c2 => ?_)
      · replace hw := hw.1 c2
        obtain ⟨x3, ex3⟩ : ∃ y : Int32, y = v6 + 1 := ⟨_, rfl⟩
        replace hw := hw x3 ex3
        refine lv_iinc (v := x3) (lv' := [(6, .int x3), (0, .ref h), (1, .int v1), (2, .int v2), (4, .int v4), (5, .int v5), (7, .int v7), (8, .int v8)]) hx hb dX11_deciding_163 hl (k := 5) rfl (by rw [ex3]; rfl) (by decide) rfl (fun ls hl => ?_)
        refine lv_goto (tgt := 24) hx hb dX11_deciding_166 (by decide) ?_
        exact hk24 v1 v2 v4 v5 x3 M H locs ls hH (lv_sub hl [1, 2, 3, 4, 5, 0] rfl) hw
      · replace hw := hw.2 c2
        refine lv_bipush (v := 6) hx hb dX11_deciding_66 (by decide) ?_
        refine lv_iload_n hx hb dX11_deciding_68 rfl (lv_at hl 1 rfl) ?_
        refine lv_imul hx hb dX11_deciding_69 ?_
        refine lv_iload hx hb dX11_deciding_70 (lv_at hl 7 rfl) ?_
        refine lv_iadd hx hb dX11_deciding_72 ?_
        refine lv_topi (fun x4 ex4 => ?_)
        replace hw := hw x4 ex4
        refine lv_istore (lv' := [(9, .int x4), (0, .ref h), (1, .int v1), (2, .int v2), (4, .int v4), (5, .int v5), (6, .int v6), (7, .int v7), (8, .int v8)]) hx hb dX11_deciding_73 hl (by decide) rfl (fun ls hl => ?_)
        refine lv_aload_n hx hb dX11_deciding_75 rfl (lv_at hl 1 rfl) ?_
        refine lv_iload hx hb dX11_deciding_76 (lv_at hl 7 rfl) ?_
        refine lv_iload_n hx hb dX11_deciding_78 rfl (lv_at hl 3 rfl) ?_
        refine r_calli (va_runV (As := [.int v7, .int v2]) (rest := []) ⟨hx, hb, hml, hown, hts⟩ (tm_takesMany l D kA h ad H.size M v7 v2 _ hw) (cwV 2 hts gX11_deciding_X11_takesMany rfl rfl rfl (by decide +kernel) ⟨Nat.le_of_ble_eq_true rfl, Nat.le_of_ble_eq_true rfl⟩) (r_preV hK hH) rfl rfl hl.1 rfl (lv_room (Nat.le_of_ble_eq_true rfl)) dX11_deciding_79 ⟨Nat.le_of_ble_eq_true rfl, Nat.le_of_ble_eq_true rfl⟩) hH hA (fun r6 M5 H locs hw hH => ?_)
        refine lv_if_eq (tgt := 157) hx hb dX11_deciding_82 (by decide) (fun c7 => ?_) (fun c7 => ?_)
        · replace hw := hw.1 c7
          exact b157 _ hk59 v1 v2 v4 v5 v6 v7 v8 M5 H locs ls hH (lv_sub hl [1, 2, 3, 4, 5, 6, 7, 8] rfl) hw
        · replace hw := hw.2 c7
          refine lv_aload_n hx hb dX11_deciding_85 rfl (lv_at hl 1 rfl) ?_
          refine lv_iload hx hb dX11_deciding_86 (lv_at hl 0 rfl) ?_
          refine lv_iload_n hx hb dX11_deciding_88 rfl (lv_at hl 3 rfl) ?_
          refine r_calli (va_runV (As := [.int x4, .int v2]) (rest := []) ⟨hx, hb, hml, hown, hts⟩ (tm_takesMany l D kA h ad H.size M5 x4 v2 _ hw) (cwV 2 hts gX11_deciding_X11_takesMany rfl rfl rfl (by decide +kernel) ⟨Nat.le_of_ble_eq_true rfl, Nat.le_of_ble_eq_true rfl⟩) (r_preV hK hH) rfl rfl hl.1 rfl (lv_room (Nat.le_of_ble_eq_true rfl)) dX11_deciding_89 ⟨Nat.le_of_ble_eq_true rfl, Nat.le_of_ble_eq_true rfl⟩) hH hA (fun r9 M8 H locs hw hH => ?_)
          refine lv_if_ne (tgt := 98) hx hb dX11_deciding_92 (by decide) (fun c10 => ?_) (fun c10 => ?_)
          · replace hw := hw.1 c10
            refine lv_aload_n hx hb dX11_deciding_98 rfl (lv_at hl 1 rfl) ?_
            refine lv_iload hx hb dX11_deciding_99 (lv_at hl 7 rfl) ?_
            refine lv_iload hx hb dX11_deciding_101 (lv_at hl 0 rfl) ?_
            refine lv_iload_n hx hb dX11_deciding_103 rfl (lv_at hl 3 rfl) ?_
            refine r_calli (va_runV (As := [.int v7, .int x4, .int v2]) (rest := []) ⟨hx, hb, hml, hown, hts⟩ (tm_differAt l D kA h ad H.size M8 v7 x4 v2 _ hw) (cwV 3 hts gX11_deciding_X11_differAt rfl rfl rfl (by decide +kernel) ⟨Nat.le_of_ble_eq_true rfl, Nat.le_of_ble_eq_true rfl⟩) (r_preV hK hH) rfl rfl hl.1 rfl (lv_room (Nat.le_of_ble_eq_true rfl)) dX11_deciding_104 ⟨Nat.le_of_ble_eq_true rfl, Nat.le_of_ble_eq_true rfl⟩) hH hA (fun r12 M11 H locs hw hH => ?_)
            refine lv_istore (lv' := [(10, .int r12), (9, .int x4), (0, .ref h), (1, .int v1), (2, .int v2), (4, .int v4), (5, .int v5), (6, .int v6), (7, .int v7), (8, .int v8)]) hx hb dX11_deciding_107 hl (by decide) rfl (fun ls hl => ?_)
            refine lv_iload hx hb dX11_deciding_109 (lv_at hl 0 rfl) ?_
            refine lv_iload_n hx hb dX11_deciding_111 rfl (lv_at hl 4 rfl) ?_
            refine lv_icmp_eq (tgt := 150) hx hb dX11_deciding_112 (by decide) (fun c13 => ?_) (fun c13 => ?_)
            · replace hw := hw.1 c13
              exact b150    M11 H locs ls hH (lv_sub hl [] rfl) hw
            · replace hw := hw.2 c13
              refine lv_aload_n hx hb dX11_deciding_115 rfl (lv_at hl 2 rfl) ?_
              refine lv_aload_n hx hb dX11_deciding_116 rfl (lv_at hl 2 rfl) ?_
              refine lv_iload hx hb dX11_deciding_117 (lv_at hl 8 rfl) ?_
              refine lv_iload hx hb dX11_deciding_119 (lv_at hl 0 rfl) ?_
              refine r_calli (va_runV (As := [.int v7, .int r12]) (rest := [.ref h]) ⟨hx, hb, hml, hown, hts⟩ (tm_argumentOf l D kA h ad H.size M11 v7 r12 _ hw) (cwV 2 hts gX11_deciding_X11_argumentOf rfl rfl rfl (by decide +kernel) ⟨Nat.le_of_ble_eq_true rfl, Nat.le_of_ble_eq_true rfl⟩) (r_preV hK hH) rfl rfl hl.1 rfl (lv_room (Nat.le_of_ble_eq_true rfl)) dX11_deciding_121 ⟨Nat.le_of_ble_eq_true rfl, Nat.le_of_ble_eq_true rfl⟩) hH hA (fun r15 M14 H locs hw hH => ?_)
              refine lv_aload_n hx hb dX11_deciding_124 rfl (lv_at hl 2 rfl) ?_
              refine lv_iload hx hb dX11_deciding_125 (lv_at hl 1 rfl) ?_
              refine lv_iload hx hb dX11_deciding_127 (lv_at hl 0 rfl) ?_
              refine r_calli (va_runV (As := [.int x4, .int r12]) (rest := [.int r15, .ref h]) ⟨hx, hb, hml, hown, hts⟩ (tm_argumentOf l D kA h ad H.size M14 x4 r12 _ hw) (cwV 2 hts gX11_deciding_X11_argumentOf rfl rfl rfl (by decide +kernel) ⟨Nat.le_of_ble_eq_true rfl, Nat.le_of_ble_eq_true rfl⟩) (r_preV hK hH) rfl rfl hl.1 rfl (lv_room (Nat.le_of_ble_eq_true rfl)) dX11_deciding_129 ⟨Nat.le_of_ble_eq_true rfl, Nat.le_of_ble_eq_true rfl⟩) hH hA (fun r17 M16 H locs hw hH => ?_)
              refine r_calli (va_runV (As := [.int r15, .int r17]) (rest := []) ⟨hx, hb, hml, hown, hts⟩ (tm_isDistinct l D kA h ad H.size M16 r15 r17 _ hw) (cwV 2 hts gX11_deciding_X11_isDistinct rfl rfl rfl (by decide +kernel) ⟨Nat.le_of_ble_eq_true rfl, Nat.le_of_ble_eq_true rfl⟩) (r_preV hK hH) rfl rfl hl.1 rfl (lv_room (Nat.le_of_ble_eq_true rfl)) dX11_deciding_132 ⟨Nat.le_of_ble_eq_true rfl, Nat.le_of_ble_eq_true rfl⟩) hH hA (fun r19 M18 H locs hw hH => ?_)
              refine lv_if_eq (tgt := 150) hx hb dX11_deciding_135 (by decide) (fun c20 => ?_) (fun c20 => ?_)
              · replace hw := hw.1 c20
                exact b150    M18 H locs ls hH (lv_sub hl [] rfl) hw
              · replace hw := hw.2 c20
                refine lv_iload hx hb dX11_deciding_138 (lv_at hl 5 rfl) ?_
                refine lv_if_lt (tgt := 153) hx hb dX11_deciding_140 (by decide) (fun c21 => ?_) (fun c21 => ?_)
                · replace hw := hw.1 c21
                  exact b153 _ hk59 v1 v2 v5 v6 v7 v8 r12 M18 H locs ls hH (lv_sub hl [2, 3, 4, 6, 7, 8, 9, 0] rfl) hw
                · replace hw := hw.2 c21
                  refine lv_iload hx hb dX11_deciding_143 (lv_at hl 5 rfl) ?_
                  refine lv_iload hx hb dX11_deciding_145 (lv_at hl 0 rfl) ?_
                  refine lv_icmp_eq (tgt := 153) hx hb dX11_deciding_147 (by decide) (fun c22 => ?_) (fun c22 => ?_)
                  · replace hw := hw.1 c22
                    exact b153 _ hk59 v1 v2 v5 v6 v7 v8 r12 M18 H locs ls hH (lv_sub hl [2, 3, 4, 6, 7, 8, 9, 0] rfl) hw
                  · replace hw := hw.2 c22
                    exact b150    M18 H locs ls hH (lv_sub hl [] rfl) hw
          · replace hw := hw.2 c10
            refine lv_goto (tgt := 157) hx hb dX11_deciding_95 (by decide) ?_
            exact b157 _ hk59 v1 v2 v4 v5 v6 v7 v8 M8 H locs ls hH (lv_sub hl [1, 2, 3, 4, 5, 6, 7, 8] rfl) hw
  have b54 : ∀ (k24 : Int32 → Int32 → Int32 → Int32 → Int32 → RM → Prop) (hk24 : ∀ (v1 : Int32) (v2 : Int32) (v4 : Int32) (v5 : Int32) (v6 : Int32) (M : RM) (H : Heap) (locs : List Loc) (ls : Array Slot), rH D kA h ad A s.heap M H locs → lv_has ls 11 [(0, .ref h), (1, .int v1), (2, .int v2), (4, .int v4), (5, .int v5), (6, .int v6)] → k24 v1 v2 v4 v5 v6 M → W p l e (headSpec wsX11_deciding rmX11_deciding).room s m args below meth c H locs 0 0 (MQ below (va_Qi Q (rB D kA h ad A) A) args s 0 0 A) (F0 m 24 ls [])) (v1 : Int32) (v2 : Int32) (v4 : Int32) (v5 : Int32) (v6 : Int32) (s0 : Int32) (M : RM) (H : Heap) (locs : List Loc) (ls : Array Slot), rH D kA h ad A s.heap M H locs → lv_has ls 11 [(0, .ref h), (1, .int v1), (2, .int v2), (4, .int v4), (5, .int v5), (6, .int v6)] → fm_deciding_b54 Q k24 v1 v2 v4 v5 v6 s0 M → W p l e (headSpec wsX11_deciding rmX11_deciding).room s m args below meth c H locs 0 0 (MQ below (va_Qi Q (rB D kA h ad A) A) args s 0 0 A) (F0 m 54 ls [.int s0]) := by
    intro k24 hk24 v1 v2 v4 v5 v6 s0 M H locs ls hH hl hw
    unfold fm_deciding_b54 at hw
    refine lv_istore (lv' := [(7, .int s0), (0, .ref h), (1, .int v1), (2, .int v2), (4, .int v4), (5, .int v5), (6, .int v6)]) hx hb dX11_deciding_54 hl (by decide) rfl (fun ls hl => ?_)
    refine lv_iconst (v := 0) hx hb dX11_deciding_56 (by decide) ?_
    refine lv_istore (lv' := [(8, .int 0), (7, .int s0), (0, .ref h), (1, .int v1), (2, .int v2), (4, .int v4), (5, .int v5), (6, .int v6)]) hx hb dX11_deciding_57 hl (by decide) rfl (fun ls hl => ?_)
    obtain ⟨nn, hw⟩ := hw
    exact l59 _ hk24 nn v1 v2 v4 v5 v6 s0 0 M H locs ls hH (lv_sub hl [2, 3, 4, 5, 6, 7, 1, 0] rfl) hw
  have l24 : ∀ (nn : Nat) (v1 : Int32) (v2 : Int32) (v4 : Int32) (v5 : Int32) (v6 : Int32) (M : RM) (H : Heap) (locs : List Loc) (ls : Array Slot), rH D kA h ad A s.heap M H locs → lv_has ls 11 [(0, .ref h), (1, .int v1), (2, .int v2), (4, .int v4), (5, .int v5), (6, .int v6)] → fm_deciding_l24 Q  nn v1 v2 v4 v5 v6 M → W p l e (headSpec wsX11_deciding rmX11_deciding).room s m args below meth c H locs 0 0 (MQ below (va_Qi Q (rB D kA h ad A) A) args s 0 0 A) (F0 m 24 ls []) := by
    intro   nn
    induction nn with
    | zero => intro v1 v2 v4 v5 v6 M H locs ls hH hl hw; exact False.elim hw
    | succ nn hk24 =>
      intro v1 v2 v4 v5 v6 M H locs ls hH hl hw
      replace hw : fm_deciding_c24 Q  (fm_deciding_l24 Q  nn) v1 v2 v4 v5 v6 M := hw
      unfold fm_deciding_c24 at hw
      refine lv_iload hx hb dX11_deciding_24 (lv_at hl 5 rfl) ?_
      refine lv_iload hx hb dX11_deciding_26 (lv_at hl 4 rfl) ?_
      refine lv_icmp_ge (tgt := 169) hx hb dX11_deciding_28 (by decide) (fun c23 => ?_) (fun c23 => ?_)
      · replace hw := hw.1 c23
        refine lv_iload hx hb dX11_deciding_169 (lv_at hl 3 rfl) ?_
        exact r_reti hx hb hr hlocks hK hH hw dX11_deciding_171
      · replace hw := hw.2 c23
        refine lv_iload hx hb dX11_deciding_31 (lv_at hl 5 rfl) ?_
        refine lv_aload_n hx hb dX11_deciding_33 rfl (lv_at hl 0 rfl) ?_
        refine rg_4 hx hb hts hin hown hK hH (hts (.fieldLink RX11 17 "IdlCallerModel" "forms" "[I") (by decide +kernel)) dX11_deciding_34 ?_
        refine lv_iload_n hx hb dX11_deciding_37 rfl (lv_at hl 1 rfl) ?_
        obtain ⟨h24, hw⟩ := hw
        refine rl_4 hx hb hK hH h24 dX11_deciding_38 ?_
        refine lv_icmp_ge (tgt := 52) hx hb dX11_deciding_39 (by decide) (fun c25 => ?_) (fun c25 => ?_)
        · replace hw := hw.1 c25
          refine lv_bipush (v := 36) hx hb dX11_deciding_52 (by decide) ?_
          exact b54 _ hk24 v1 v2 v4 v5 v6 36 M H locs ls hH (lv_sub hl [0, 1, 2, 3, 4, 5] rfl) hw
        · replace hw := hw.2 c25
          refine lv_bipush (v := 6) hx hb dX11_deciding_42 (by decide) ?_
          refine lv_iload_n hx hb dX11_deciding_44 rfl (lv_at hl 1 rfl) ?_
          refine lv_imul hx hb dX11_deciding_45 ?_
          refine lv_iload hx hb dX11_deciding_46 (lv_at hl 5 rfl) ?_
          refine lv_iadd hx hb dX11_deciding_48 ?_
          refine lv_goto (tgt := 54) hx hb dX11_deciding_49 (by decide) ?_
          exact b54 _ hk24 v1 v2 v4 v5 v6 ((6 * v1) + v6) M H locs ls hH (lv_sub hl [0, 1, 2, 3, 4, 5] rfl) hw
  have b18 : ∀ (v1 : Int32) (v2 : Int32) (v4 : Int32) (s0 : Int32) (s1 : Int32) (M : RM) (H : Heap) (locs : List Loc) (ls : Array Slot), rH D kA h ad A s.heap M H locs → lv_has ls 11 [(0, .ref h), (1, .int v1), (2, .int v2), (4, .int v4)] → fm_deciding_b18 Q  v1 v2 v4 s0 s1 M → W p l e (headSpec wsX11_deciding rmX11_deciding).room s m args below meth c H locs 0 0 (MQ below (va_Qi Q (rB D kA h ad A) A) args s 0 0 A) (F0 m 18 ls [.int s0, .int s1]) := by
    intro   v1 v2 v4 s0 s1 M H locs ls hH hl hw
    unfold fm_deciding_b18 at hw
    refine lv_iadd hx hb dX11_deciding_18 ?_
    refine lv_topi (fun x26 ex26 => ?_)
    replace hw := hw x26 ex26
    refine lv_istore (lv' := [(5, .int x26), (0, .ref h), (1, .int v1), (2, .int v2), (4, .int v4)]) hx hb dX11_deciding_19 hl (by decide) rfl (fun ls hl => ?_)
    refine lv_iconst (v := 0) hx hb dX11_deciding_21 (by decide) ?_
    refine lv_istore (lv' := [(6, .int 0), (5, .int x26), (0, .ref h), (1, .int v1), (2, .int v2), (4, .int v4)]) hx hb dX11_deciding_22 hl (by decide) rfl (fun ls hl => ?_)
    obtain ⟨nn, hw⟩ := hw
    exact l24   nn v1 v2 v4 x26 0 M H locs ls hH (lv_sub hl [2, 3, 4, 5, 1, 0] rfl) hw
  clear hP hD0
  unfold fm_deciding at hw
  have hst : ∀ (M : RM) (H : Heap) (locs : List Loc) (ls : Array Slot), rH D kA h ad A s.heap M H locs → lv_has ls 11 [(0, .ref h), (1, .int a1), (2, .int a2), (3, .int a3)] → (∀ x27 : Int32, x27 = (-1) → (vp_in a1 6 ∧ ((a3 = 0 → fm_deciding_b18 Q  a1 a2 x27 0 (rA M 4 a1.toNatClampNeg) M) ∧ (¬ a3 = 0 → fm_deciding_b18 Q  a1 a2 x27 1 (rA M 4 a1.toNatClampNeg) M)))) → W p l e (headSpec wsX11_deciding rmX11_deciding).room s m args below meth c H locs 0 0 (MQ below (va_Qi Q (rB D kA h ad A) A) args s 0 0 A) (F0 m 0 ls []) := by
    intro M H locs ls hH hl hw
    refine lv_iconst (v := (-1)) hx hb dX11_deciding_0 (by decide) ?_
    refine lv_topi (fun x27 ex27 => ?_)
    replace hw := hw x27 ex27
    refine lv_istore (lv' := [(4, .int x27), (0, .ref h), (1, .int a1), (2, .int a2), (3, .int a3)]) hx hb dX11_deciding_1 hl (by decide) rfl (fun ls hl => ?_)
    refine lv_aload_n hx hb dX11_deciding_3 rfl (lv_at hl 1 rfl) ?_
    refine rg_4 hx hb hts hin hown hK hH (hts (.fieldLink RX11 17 "IdlCallerModel" "forms" "[I") (by decide +kernel)) dX11_deciding_4 ?_
    refine lv_iload_n hx hb dX11_deciding_7 rfl (lv_at hl 2 rfl) ?_
    obtain ⟨h28, hw⟩ := hw
    refine rl_4 hx hb hK hH h28 dX11_deciding_8 ?_
    refine lv_iload_n hx hb dX11_deciding_9 rfl (lv_at hl 4 rfl) ?_
    refine lv_if_eq (tgt := 17) hx hb dX11_deciding_10 (by decide) (fun c29 => ?_) (fun c29 => ?_)
    · replace hw := hw.1 c29
      refine lv_iconst (v := 0) hx hb dX11_deciding_17 (by decide) ?_
      exact b18   a1 a2 x27 0 (rA M 4 a1.toNatClampNeg) M H locs ls hH (lv_sub hl [1, 2, 3, 0] rfl) hw
    · replace hw := hw.2 c29
      refine lv_iconst (v := 1) hx hb dX11_deciding_13 (by decide) ?_
      refine lv_goto (tgt := 18) hx hb dX11_deciding_14 (by decide) ?_
      exact b18   a1 a2 x27 1 (rA M 4 a1.toNatClampNeg) M H locs ls hH (lv_sub hl [1, 2, 3, 0] rfl) hw
  exact hst M s.heap [] ls hH hl hw
def fm_copyType_c50 (Q : RM → Prop) (k50 : Int32 → Int32 → Int32 → RM → Prop) (v1 : Int32) (v2 : Int32) (v3 : Int32) (M : RM) : Prop := ((40 ≤ v3 → Q M) ∧ (¬ 40 ≤ v3 → (vp_in ((40 * v2) + v3) 14800 ∧ (vp_in ((40 * v1) + v3) 14800 ∧ (∀ M4 : RM, M4 = wA M 12 ((40 * v1) + v3).toNatClampNeg (vp_nar .char (rA M 12 ((40 * v2) + v3).toNatClampNeg)) → (∀ x5 : Int32, x5 = v3 + 1 → k50 v1 v2 x5 M4))))))
def fm_copyType_l50 (Q : RM → Prop) : Nat → Int32 → Int32 → Int32 → RM → Prop := lit (τ := Int32 → Int32 → Int32 → RM → Prop) (fun _ _ _ _ => False) (fun k => fm_copyType_c50 Q  k)
def fm_copyType (a1 : Int32) (a2 : Int32) (M : RM) (Q : RM → Prop) : Prop := (vp_in a2 370 ∧ (vp_in a1 370 ∧ (∀ M8 : RM, M8 = wA M 8 a1.toNatClampNeg (rA M 8 a2.toNatClampNeg) → (vp_in a2 370 ∧ (vp_in a1 370 ∧ (∀ M11 : RM, M11 = wA M8 9 a1.toNatClampNeg (rA M8 9 a2.toNatClampNeg) → (vp_in a2 370 ∧ (vp_in a1 370 ∧ (∀ M14 : RM, M14 = wA M11 10 a1.toNatClampNeg (vp_nar .boolean (rA M11 10 a2.toNatClampNeg)) → (vp_in a2 370 ∧ (vp_in a1 370 ∧ (∀ M17 : RM, M17 = wA M14 11 a1.toNatClampNeg (rA M14 11 a2.toNatClampNeg) → (∃ nn : Nat, fm_copyType_l50 Q  nn a1 a2 0 M17)))))))))))))
abbrev rmX11_copyType : Room := { frames := 0, cells := 0, slots := 0, locals := 0 }
set_option maxHeartbeats 4000000 in
set_option maxRecDepth 100000 in
theorem tm_copyType (l : Launch) (D : va_G) (kA : Nat → ClassId) (h : Nat) (ad : Nat → Nat) (sz : Nat) (M : RM) (a1 : Int32) (a2 : Int32) (Q : RM → Prop) (hw : fm_copyType a1 a2 M Q) : Met l yX11_copyType wsX11_copyType rmX11_copyType (va_Pc [.ref h, .int a1, .int a2] (rPc D kA h ad M sz)) (va_Qv Q (rB D kA h ad (rF kA h ad M sz)) (rF kA h ad M sz)) 0 0 (rF kA h ad M sz) := by
  refine Met.ofW (cc := cX11_copyType) (maxL := 4) (ret := none) (by decide) rfl ?_
  intro p e s m args below meth c s₁ B hml hv
  obtain ⟨rfl, hsz, hP, hK, hD0⟩ := hv
  have hx := B.exec
  have hb := B.bytes
  have hr := B.returns
  have hts := atoms_spec (ws := wsX11_copyType) B.pre
  have hown : s.vm.findClass RX11 = some m.cls := findClass_of_methodNamed B.named
  have hlocks : meth.locks = false := B.notSynchronized
  subst hsz
  have hH : rH D kA h ad (rF kA h ad M s.heap.size) s.heap M s.heap [] := ⟨hP, hD0.self, va_S.rf⟩
  have hA : ∀ q : Nat, s.heap.size ≤ q → rF kA h ad M s.heap.size q := fun q z => Or.inr z
  generalize rF kA h ad M s.heap.size = A at hH hA ⊢
  have hl := lv_entry ([.ref h, .int a1, .int a2]) (n := 4) (Nat.le_of_ble_eq_true rfl)
  rw [lg_entry_eq]
  generalize (lg_sl ([.ref h, .int a1, .int a2]) ++ List.replicate (4 - (lg_sl ([.ref h, .int a1, .int a2])).length) Slot.unset).toArray = ls at hl ⊢
  generalize ([.ref h, .int a1, .int a2] : List Value).toArray = args at hts ⊢
  have hl : lv_has ls 4 [(0, .ref h), (1, .int a1), (2, .int a2)] := hl
  have hin : ∀ w ∈ wsX110, w ∈ wsX11_copyType := by decide +kernel
  have l50 : ∀ (nn : Nat) (v1 : Int32) (v2 : Int32) (v3 : Int32) (M : RM) (H : Heap) (locs : List Loc) (ls : Array Slot), rH D kA h ad A s.heap M H locs → lv_has ls 4 [(0, .ref h), (1, .int v1), (2, .int v2), (3, .int v3)] → fm_copyType_l50 Q  nn v1 v2 v3 M → W p l e (headSpec wsX11_copyType rmX11_copyType).room s m args below meth c H locs 0 0 (MQ below (va_Qv Q (rB D kA h ad A) A) args s 0 0 A) (F0 m 50 ls []) := by
    intro   nn
    induction nn with
    | zero => intro v1 v2 v3 M H locs ls hH hl hw; exact False.elim hw
    | succ nn hk50 =>
      intro v1 v2 v3 M H locs ls hH hl hw
      replace hw : fm_copyType_c50 Q  (fm_copyType_l50 Q  nn) v1 v2 v3 M := hw
      unfold fm_copyType_c50 at hw
      refine lv_iload_n hx hb dX11_copyType_50 rfl (lv_at hl 3 rfl) ?_
      refine lv_bipush (v := 40) hx hb dX11_copyType_51 (by decide) ?_
      refine lv_icmp_ge (tgt := 84) hx hb dX11_copyType_53 (by decide) (fun c1 => ?_) (fun c1 => ?_)
      · replace hw := hw.1 c1
        exact r_retv hx hb hr hlocks hK hH hw dX11_copyType_84
      · replace hw := hw.2 c1
        refine lv_aload_n hx hb dX11_copyType_56 rfl (lv_at hl 0 rfl) ?_
        refine rg_12 hx hb hts hin hown hK hH (hts (.fieldLink RX11 43 "IdlCallerModel" "wordText" "[C") (by decide +kernel)) dX11_copyType_57 ?_
        refine lv_bipush (v := 40) hx hb dX11_copyType_60 (by decide) ?_
        refine lv_iload_n hx hb dX11_copyType_62 rfl (lv_at hl 1 rfl) ?_
        refine lv_imul hx hb dX11_copyType_63 ?_
        refine lv_iload_n hx hb dX11_copyType_64 rfl (lv_at hl 3 rfl) ?_
        refine lv_iadd hx hb dX11_copyType_65 ?_
        refine lv_aload_n hx hb dX11_copyType_66 rfl (lv_at hl 0 rfl) ?_
        refine rg_12 hx hb hts hin hown hK hH (hts (.fieldLink RX11 43 "IdlCallerModel" "wordText" "[C") (by decide +kernel)) dX11_copyType_67 ?_
        refine lv_bipush (v := 40) hx hb dX11_copyType_70 (by decide) ?_
        refine lv_iload_n hx hb dX11_copyType_72 rfl (lv_at hl 2 rfl) ?_
        refine lv_imul hx hb dX11_copyType_73 ?_
        refine lv_iload_n hx hb dX11_copyType_74 rfl (lv_at hl 3 rfl) ?_
        refine lv_iadd hx hb dX11_copyType_75 ?_
        obtain ⟨h2, hw⟩ := hw
        refine rl_12 hx hb hK hH h2 dX11_copyType_76 ?_
        obtain ⟨h3, hw⟩ := hw
        refine rs_12 hx hb hK hH h3 dX11_copyType_77 (fun M4 H locs eM4 hH => ?_)
        replace hw := hw M4 eM4
        obtain ⟨x5, ex5⟩ : ∃ y : Int32, y = v3 + 1 := ⟨_, rfl⟩
        replace hw := hw x5 ex5
        refine lv_iinc (v := x5) (lv' := [(3, .int x5), (0, .ref h), (1, .int v1), (2, .int v2)]) hx hb dX11_copyType_78 hl (k := 3) rfl (by rw [ex5]; rfl) (by decide) rfl (fun ls hl => ?_)
        refine lv_goto (tgt := 50) hx hb dX11_copyType_81 (by decide) ?_
        exact hk50 v1 v2 x5 M4 H locs ls hH (lv_sub hl [1, 2, 3, 0] rfl) hw
  clear hP hD0
  unfold fm_copyType at hw
  have hst : ∀ (M : RM) (H : Heap) (locs : List Loc) (ls : Array Slot), rH D kA h ad A s.heap M H locs → lv_has ls 4 [(0, .ref h), (1, .int a1), (2, .int a2)] → (vp_in a2 370 ∧ (vp_in a1 370 ∧ (∀ M8 : RM, M8 = wA M 8 a1.toNatClampNeg (rA M 8 a2.toNatClampNeg) → (vp_in a2 370 ∧ (vp_in a1 370 ∧ (∀ M11 : RM, M11 = wA M8 9 a1.toNatClampNeg (rA M8 9 a2.toNatClampNeg) → (vp_in a2 370 ∧ (vp_in a1 370 ∧ (∀ M14 : RM, M14 = wA M11 10 a1.toNatClampNeg (vp_nar .boolean (rA M11 10 a2.toNatClampNeg)) → (vp_in a2 370 ∧ (vp_in a1 370 ∧ (∀ M17 : RM, M17 = wA M14 11 a1.toNatClampNeg (rA M14 11 a2.toNatClampNeg) → (∃ nn : Nat, fm_copyType_l50 Q  nn a1 a2 0 M17))))))))))))) → W p l e (headSpec wsX11_copyType rmX11_copyType).room s m args below meth c H locs 0 0 (MQ below (va_Qv Q (rB D kA h ad A) A) args s 0 0 A) (F0 m 0 ls []) := by
    intro M H locs ls hH hl hw
    refine lv_aload_n hx hb dX11_copyType_0 rfl (lv_at hl 0 rfl) ?_
    refine rg_8 hx hb hts hin hown hK hH (hts (.fieldLink RX11 31 "IdlCallerModel" "sort" "[I") (by decide +kernel)) dX11_copyType_1 ?_
    refine lv_iload_n hx hb dX11_copyType_4 rfl (lv_at hl 1 rfl) ?_
    refine lv_aload_n hx hb dX11_copyType_5 rfl (lv_at hl 0 rfl) ?_
    refine rg_8 hx hb hts hin hown hK hH (hts (.fieldLink RX11 31 "IdlCallerModel" "sort" "[I") (by decide +kernel)) dX11_copyType_6 ?_
    refine lv_iload_n hx hb dX11_copyType_9 rfl (lv_at hl 2 rfl) ?_
    obtain ⟨h6, hw⟩ := hw
    refine rl_8 hx hb hK hH h6 dX11_copyType_10 ?_
    obtain ⟨h7, hw⟩ := hw
    refine rs_8 hx hb hK hH h7 dX11_copyType_11 (fun M8 H locs eM8 hH => ?_)
    replace hw := hw M8 eM8
    refine lv_aload_n hx hb dX11_copyType_12 rfl (lv_at hl 0 rfl) ?_
    refine rg_9 hx hb hts hin hown hK hH (hts (.fieldLink RX11 34 "IdlCallerModel" "mode" "[I") (by decide +kernel)) dX11_copyType_13 ?_
    refine lv_iload_n hx hb dX11_copyType_16 rfl (lv_at hl 1 rfl) ?_
    refine lv_aload_n hx hb dX11_copyType_17 rfl (lv_at hl 0 rfl) ?_
    refine rg_9 hx hb hts hin hown hK hH (hts (.fieldLink RX11 34 "IdlCallerModel" "mode" "[I") (by decide +kernel)) dX11_copyType_18 ?_
    refine lv_iload_n hx hb dX11_copyType_21 rfl (lv_at hl 2 rfl) ?_
    obtain ⟨h9, hw⟩ := hw
    refine rl_9 hx hb hK hH h9 dX11_copyType_22 ?_
    obtain ⟨h10, hw⟩ := hw
    refine rs_9 hx hb hK hH h10 dX11_copyType_23 (fun M11 H locs eM11 hH => ?_)
    replace hw := hw M11 eM11
    refine lv_aload_n hx hb dX11_copyType_24 rfl (lv_at hl 0 rfl) ?_
    refine rg_10 hx hb hts hin hown hK hH (hts (.fieldLink RX11 37 "IdlCallerModel" "isNullable" "[Z") (by decide +kernel)) dX11_copyType_25 ?_
    refine lv_iload_n hx hb dX11_copyType_28 rfl (lv_at hl 1 rfl) ?_
    refine lv_aload_n hx hb dX11_copyType_29 rfl (lv_at hl 0 rfl) ?_
    refine rg_10 hx hb hts hin hown hK hH (hts (.fieldLink RX11 37 "IdlCallerModel" "isNullable" "[Z") (by decide +kernel)) dX11_copyType_30 ?_
    refine lv_iload_n hx hb dX11_copyType_33 rfl (lv_at hl 2 rfl) ?_
    obtain ⟨h12, hw⟩ := hw
    refine rl_10 hx hb hK hH h12 dX11_copyType_34 ?_
    obtain ⟨h13, hw⟩ := hw
    refine rs_10 hx hb hK hH h13 dX11_copyType_35 (fun M14 H locs eM14 hH => ?_)
    replace hw := hw M14 eM14
    refine lv_aload_n hx hb dX11_copyType_36 rfl (lv_at hl 0 rfl) ?_
    refine rg_11 hx hb hts hin hown hK hH (hts (.fieldLink RX11 40 "IdlCallerModel" "wordMany" "[I") (by decide +kernel)) dX11_copyType_37 ?_
    refine lv_iload_n hx hb dX11_copyType_40 rfl (lv_at hl 1 rfl) ?_
    refine lv_aload_n hx hb dX11_copyType_41 rfl (lv_at hl 0 rfl) ?_
    refine rg_11 hx hb hts hin hown hK hH (hts (.fieldLink RX11 40 "IdlCallerModel" "wordMany" "[I") (by decide +kernel)) dX11_copyType_42 ?_
    refine lv_iload_n hx hb dX11_copyType_45 rfl (lv_at hl 2 rfl) ?_
    obtain ⟨h15, hw⟩ := hw
    refine rl_11 hx hb hK hH h15 dX11_copyType_46 ?_
    obtain ⟨h16, hw⟩ := hw
    refine rs_11 hx hb hK hH h16 dX11_copyType_47 (fun M17 H locs eM17 hH => ?_)
    replace hw := hw M17 eM17
    refine lv_iconst (v := 0) hx hb dX11_copyType_48 (by decide) ?_
    refine lv_istore_n (lv' := [(3, .int 0), (0, .ref h), (1, .int a1), (2, .int a2)]) hx hb dX11_copyType_49 rfl hl (by decide) rfl (fun ls hl => ?_)
    obtain ⟨nn, hw⟩ := hw
    exact l50   nn a1 a2 0 M17 H locs ls hH (lv_sub hl [1, 2, 3, 0] rfl) hw
  exact hst M s.heap [] ls hH hl hw
def fm_define_c110 (Q : Int32 → RM → Prop) (k110 : Int32 → Int32 → Int32 → RM → Prop) (v1 : Int32) (v2 : Int32) (v3 : Int32) (M : RM) : Prop := (vp_in v2 37 ∧ (((rA M 5 v2.toNatClampNeg) ≤ v3 → (vp_in v1 6 ∧ (vp_in v1 6 ∧ (∀ M5 : RM, M5 = wA M 4 v1.toNatClampNeg ((rA M 4 v1.toNatClampNeg) + 1) → (vp_in v1 6 ∧ Q ((rA M5 4 v1.toNatClampNeg) - 1) M5))))) ∧ (¬ (rA M 5 v2.toNatClampNeg) ≤ v3 → (∀ x7 : Int32, x7 = (5 * v2) + v3 → (∀ x8 : Int32, x8 = 180 + v3 → (vp_in x8 185 ∧ (vp_in x7 185 ∧ (∀ M11 : RM, M11 = wA M 6 x7.toNatClampNeg (vp_nar .boolean (rA M 6 x8.toNatClampNeg)) → (vp_in x8 185 ∧ (vp_in x7 185 ∧ (∀ M14 : RM, M14 = wA M11 7 x7.toNatClampNeg (vp_nar .boolean (rA M11 7 x8.toNatClampNeg)) → fm_copyType (2 * x7) (2 * x8) M14 (fun (M15 : RM) => fm_copyType ((2 * x7) + 1) ((2 * x8) + 1) M15 (fun (M17 : RM) => (∀ x19 : Int32, x19 = v3 + 1 → k110 v1 v2 x19 M17))))))))))))))
def fm_define_l110 (Q : Int32 → RM → Prop) : Nat → Int32 → Int32 → Int32 → RM → Prop := lit (τ := Int32 → Int32 → Int32 → RM → Prop) (fun _ _ _ _ => False) (fun k => fm_define_c110 Q  k)
def fm_define_c37 (Q : Int32 → RM → Prop) (k37 : Int32 → Int32 → RM → Prop) (v1 : Int32) (v2 : Int32) (M : RM) : Prop := ((8 < v2 → (vp_in v1 6 ∧ ((¬ (rA M 4 v1.toNatClampNeg) = 6 → (vp_in v1 6 ∧ (∀ x24 : Int32, x24 = (6 * v1) + (rA M 4 v1.toNatClampNeg) → (vp_in (36 : Int32) 37 ∧ (vp_in x24 37 ∧ (∀ M27 : RM, M27 = wA M 5 x24.toNatClampNeg (rA M 5 (36 : Int32).toNatClampNeg) → (∃ nn : Nat, fm_define_l110 Q  nn v1 x24 0 M27))))))) ∧ ((rA M 4 v1.toNatClampNeg) = 6 → Q (-4) M)))) ∧ (¬ 8 < v2 → fm_deciding v1 v2 1 M (fun (r29 : Int32) (M28 : RM) => ((¬ r29 = (-2) → (∀ x31 : Int32, x31 = v2 + 1 → k37 v1 x31 M28)) ∧ (r29 = (-2) → (∀ M32 : RM, M32 = wI M28 3 v2 → Q (-3) M32))))))
def fm_define_l37 (Q : Int32 → RM → Prop) : Nat → Int32 → Int32 → RM → Prop := lit (τ := Int32 → Int32 → RM → Prop) (fun _ _ _ => False) (fun k => fm_define_c37 Q  k)
def fm_define (M : RM) (Q : Int32 → RM → Prop) : Prop := (∀ M33 : RM, M33 = wI M 0 0 → (∀ M34 : RM, M34 = wI M33 3 (-1) → (nZ (0 : Int32) ∧ (∀ M36 : RM, M36 = wI M34 27 0 → (∀ M37 : RM, M37 = wI M36 26 0 → fm_read  M37 (fun (r39 : Int32) (M38 : RM) => (((rI M38 27) = 0 → (∃ nn : Nat, fm_define_l37 Q  nn r39 0 M38)) ∧ (¬ (rI M38 27) = 0 → Q (-2) M38))))))))
abbrev rmX11_define : Room := { frames := 7, cells := 0, slots := 0, locals := 156 }
set_option maxHeartbeats 4000000 in
set_option maxRecDepth 100000 in
theorem tm_define (l : Launch) (D : va_G) (kA : Nat → ClassId) (h : Nat) (ad : Nat → Nat) (sz : Nat) (M : RM) (Q : Int32 → RM → Prop) (hw : fm_define  M Q) : Met l yX11_define wsX11_define rmX11_define (va_Pc [.ref h] (rPc D kA h ad M sz)) (va_Qi Q (rB D kA h ad (rF kA h ad M sz)) (rF kA h ad M sz)) 0 0 (rF kA h ad M sz) := by
  refine Met.ofW (cc := cX11_define) (maxL := 6) (ret := (some .int)) (by decide) rfl ?_
  intro p e s m args below meth c s₁ B hml hv
  obtain ⟨rfl, hsz, hP, hK, hD0⟩ := hv
  have hx := B.exec
  have hb := B.bytes
  have hr := B.returns
  have hts := atoms_spec (ws := wsX11_define) B.pre
  have hown : s.vm.findClass RX11 = some m.cls := findClass_of_methodNamed B.named
  have hlocks : meth.locks = false := B.notSynchronized
  subst hsz
  have hH : rH D kA h ad (rF kA h ad M s.heap.size) s.heap M s.heap [] := ⟨hP, hD0.self, va_S.rf⟩
  have hA : ∀ q : Nat, s.heap.size ≤ q → rF kA h ad M s.heap.size q := fun q z => Or.inr z
  generalize rF kA h ad M s.heap.size = A at hH hA ⊢
  have hl := lv_entry ([.ref h]) (n := 6) (Nat.le_of_ble_eq_true rfl)
  rw [lg_entry_eq]
  generalize (lg_sl ([.ref h]) ++ List.replicate (6 - (lg_sl ([.ref h])).length) Slot.unset).toArray = ls at hl ⊢
  generalize ([.ref h] : List Value).toArray = args at hts ⊢
  have hl : lv_has ls 6 [(0, .ref h)] := hl
  have hin : ∀ w ∈ wsX110, w ∈ wsX11_define := by decide +kernel
  have l110 : ∀ (nn : Nat) (v1 : Int32) (v2 : Int32) (v3 : Int32) (M : RM) (H : Heap) (locs : List Loc) (ls : Array Slot), rH D kA h ad A s.heap M H locs → lv_has ls 6 [(0, .ref h), (1, .int v1), (2, .int v2), (3, .int v3)] → fm_define_l110 Q  nn v1 v2 v3 M → W p l e (headSpec wsX11_define rmX11_define).room s m args below meth c H locs 0 0 (MQ below (va_Qi Q (rB D kA h ad A) A) args s 0 0 A) (F0 m 110 ls []) := by
    intro   nn
    induction nn with
    | zero => intro v1 v2 v3 M H locs ls hH hl hw; exact False.elim hw
    | succ nn hk110 =>
      intro v1 v2 v3 M H locs ls hH hl hw
      replace hw : fm_define_c110 Q  (fm_define_l110 Q  nn) v1 v2 v3 M := hw
      unfold fm_define_c110 at hw
      refine lv_iload_n hx hb dX11_define_110 rfl (lv_at hl 3 rfl) ?_
      refine lv_aload_n hx hb dX11_define_111 rfl (lv_at hl 0 rfl) ?_
      refine rg_5 hx hb hts hin hown hK hH (hts (.fieldLink RX11 21 "IdlCallerModel" "many" "[I") (by decide +kernel)) dX11_define_112 ?_
      refine lv_iload_n hx hb dX11_define_115 rfl (lv_at hl 2 rfl) ?_
      obtain ⟨h1, hw⟩ := hw
      refine rl_5 hx hb hK hH h1 dX11_define_116 ?_
      refine lv_icmp_ge (tgt := 196) hx hb dX11_define_117 (by decide) (fun c2 => ?_) (fun c2 => ?_)
      · replace hw := hw.1 c2
        refine lv_aload_n hx hb dX11_define_196 rfl (lv_at hl 0 rfl) ?_
        refine rg_4 hx hb hts hin hown hK hH (hts (.fieldLink RX11 17 "IdlCallerModel" "forms" "[I") (by decide +kernel)) dX11_define_197 ?_
        refine lv_iload_n hx hb dX11_define_200 rfl (lv_at hl 1 rfl) ?_
        refine lv_dup2_11 hx hb dX11_define_201 rfl rfl ?_
        obtain ⟨h3, hw⟩ := hw
        refine rl_4 hx hb hK hH h3 dX11_define_202 ?_
        refine lv_iconst (v := 1) hx hb dX11_define_203 (by decide) ?_
        refine lv_iadd hx hb dX11_define_204 ?_
        obtain ⟨h4, hw⟩ := hw
        refine rs_4 hx hb hK hH h4 dX11_define_205 (fun M5 H locs eM5 hH => ?_)
        replace hw := hw M5 eM5
        refine lv_aload_n hx hb dX11_define_206 rfl (lv_at hl 0 rfl) ?_
        refine rg_4 hx hb hts hin hown hK hH (hts (.fieldLink RX11 17 "IdlCallerModel" "forms" "[I") (by decide +kernel)) dX11_define_207 ?_
        refine lv_iload_n hx hb dX11_define_210 rfl (lv_at hl 1 rfl) ?_
        obtain ⟨h6, hw⟩ := hw
        refine rl_4 hx hb hK hH h6 dX11_define_211 ?_
        refine lv_iconst (v := 1) hx hb dX11_define_212 (by decide) ?_
        refine lv_isub hx hb dX11_define_213 ?_
        exact r_reti hx hb hr hlocks hK hH hw dX11_define_214
      · replace hw := hw.2 c2
        refine lv_iconst (v := 5) hx hb dX11_define_120 (by decide) ?_
        refine lv_iload_n hx hb dX11_define_121 rfl (lv_at hl 2 rfl) ?_
        refine lv_imul hx hb dX11_define_122 ?_
        refine lv_iload_n hx hb dX11_define_123 rfl (lv_at hl 3 rfl) ?_
        refine lv_iadd hx hb dX11_define_124 ?_
        refine lv_topi (fun x7 ex7 => ?_)
        replace hw := hw x7 ex7
        refine lv_istore (lv' := [(4, .int x7), (0, .ref h), (1, .int v1), (2, .int v2), (3, .int v3)]) hx hb dX11_define_125 hl (by decide) rfl (fun ls hl => ?_)
        refine lv_sipush (v := 180) hx hb dX11_define_127 (by decide) ?_
        refine lv_iload_n hx hb dX11_define_130 rfl (lv_at hl 4 rfl) ?_
        refine lv_iadd hx hb dX11_define_131 ?_
        refine lv_topi (fun x8 ex8 => ?_)
        replace hw := hw x8 ex8
        refine lv_istore (lv' := [(5, .int x8), (4, .int x7), (0, .ref h), (1, .int v1), (2, .int v2), (3, .int v3)]) hx hb dX11_define_132 hl (by decide) rfl (fun ls hl => ?_)
        refine lv_aload_n hx hb dX11_define_134 rfl (lv_at hl 2 rfl) ?_
        refine rg_6 hx hb hts hin hown hK hH (hts (.fieldLink RX11 24 "IdlCallerModel" "isOptional" "[Z") (by decide +kernel)) dX11_define_135 ?_
        refine lv_iload hx hb dX11_define_138 (lv_at hl 1 rfl) ?_
        refine lv_aload_n hx hb dX11_define_140 rfl (lv_at hl 2 rfl) ?_
        refine rg_6 hx hb hts hin hown hK hH (hts (.fieldLink RX11 24 "IdlCallerModel" "isOptional" "[Z") (by decide +kernel)) dX11_define_141 ?_
        refine lv_iload hx hb dX11_define_144 (lv_at hl 0 rfl) ?_
        obtain ⟨h9, hw⟩ := hw
        refine rl_6 hx hb hK hH h9 dX11_define_146 ?_
        obtain ⟨h10, hw⟩ := hw
        refine rs_6 hx hb hK hH h10 dX11_define_147 (fun M11 H locs eM11 hH => ?_)
        replace hw := hw M11 eM11
        refine lv_aload_n hx hb dX11_define_148 rfl (lv_at hl 2 rfl) ?_
        refine rg_7 hx hb hts hin hown hK hH (hts (.fieldLink RX11 28 "IdlCallerModel" "isVariadic" "[Z") (by decide +kernel)) dX11_define_149 ?_
        refine lv_iload hx hb dX11_define_152 (lv_at hl 1 rfl) ?_
        refine lv_aload_n hx hb dX11_define_154 rfl (lv_at hl 2 rfl) ?_
        refine rg_7 hx hb hts hin hown hK hH (hts (.fieldLink RX11 28 "IdlCallerModel" "isVariadic" "[Z") (by decide +kernel)) dX11_define_155 ?_
        refine lv_iload hx hb dX11_define_158 (lv_at hl 0 rfl) ?_
        obtain ⟨h12, hw⟩ := hw
        refine rl_7 hx hb hK hH h12 dX11_define_160 ?_
        obtain ⟨h13, hw⟩ := hw
        refine rs_7 hx hb hK hH h13 dX11_define_161 (fun M14 H locs eM14 hH => ?_)
        replace hw := hw M14 eM14
        refine lv_aload_n hx hb dX11_define_162 rfl (lv_at hl 2 rfl) ?_
        refine lv_iconst (v := 2) hx hb dX11_define_163 (by decide) ?_
        refine lv_iload hx hb dX11_define_164 (lv_at hl 1 rfl) ?_
        refine lv_imul hx hb dX11_define_166 ?_
        refine lv_iconst (v := 2) hx hb dX11_define_167 (by decide) ?_
        refine lv_iload hx hb dX11_define_168 (lv_at hl 0 rfl) ?_
        refine lv_imul hx hb dX11_define_170 ?_
        refine r_callv (va_runV (As := [.int (2 * x7), .int (2 * x8)]) (rest := []) ⟨hx, hb, hml, hown, hts⟩ (tm_copyType l D kA h ad H.size M14 (2 * x7) (2 * x8) _ hw) (cwV 2 hts gX11_define_X11_copyType rfl rfl rfl (by decide +kernel) ⟨Nat.le_of_ble_eq_true rfl, Nat.le_of_ble_eq_true rfl⟩) (r_preV hK hH) rfl rfl hl.1 rfl (lv_room (Nat.le_of_ble_eq_true rfl)) dX11_define_171 ⟨Nat.le_of_ble_eq_true rfl, Nat.le_of_ble_eq_true rfl⟩) hH hA (fun M15 H locs hw hH => ?_)
        refine lv_aload_n hx hb dX11_define_174 rfl (lv_at hl 2 rfl) ?_
        refine lv_iconst (v := 2) hx hb dX11_define_175 (by decide) ?_
        refine lv_iload hx hb dX11_define_176 (lv_at hl 1 rfl) ?_
        refine lv_imul hx hb dX11_define_178 ?_
        refine lv_iconst (v := 1) hx hb dX11_define_179 (by decide) ?_
        refine lv_iadd hx hb dX11_define_180 ?_
        refine lv_iconst (v := 2) hx hb dX11_define_181 (by decide) ?_
        refine lv_iload hx hb dX11_define_182 (lv_at hl 0 rfl) ?_
        refine lv_imul hx hb dX11_define_184 ?_
        refine lv_iconst (v := 1) hx hb dX11_define_185 (by decide) ?_
        refine lv_iadd hx hb dX11_define_186 ?_
        refine r_callv (va_runV (As := [.int ((2 * x7) + 1), .int ((2 * x8) + 1)]) (rest := []) ⟨hx, hb, hml, hown, hts⟩ (tm_copyType l D kA h ad H.size M15 ((2 * x7) + 1) ((2 * x8) + 1) _ hw) (cwV 2 hts gX11_define_X11_copyType rfl rfl rfl (by decide +kernel) ⟨Nat.le_of_ble_eq_true rfl, Nat.le_of_ble_eq_true rfl⟩) (r_preV hK hH) rfl rfl hl.1 rfl (lv_room (Nat.le_of_ble_eq_true rfl)) dX11_define_187 ⟨Nat.le_of_ble_eq_true rfl, Nat.le_of_ble_eq_true rfl⟩) hH hA (fun M17 H locs hw hH => ?_)
        obtain ⟨x19, ex19⟩ : ∃ y : Int32, y = v3 + 1 := ⟨_, rfl⟩
        replace hw := hw x19 ex19
        refine lv_iinc (v := x19) (lv' := [(3, .int x19), (5, .int x8), (4, .int x7), (0, .ref h), (1, .int v1), (2, .int v2)]) hx hb dX11_define_190 hl (k := 5) rfl (by rw [ex19]; rfl) (by decide) rfl (fun ls hl => ?_)
        refine lv_goto (tgt := 110) hx hb dX11_define_193 (by decide) ?_
        exact hk110 v1 v2 x19 M17 H locs ls hH (lv_sub hl [3, 4, 5, 0] rfl) hw
  have l37 : ∀ (nn : Nat) (v1 : Int32) (v2 : Int32) (M : RM) (H : Heap) (locs : List Loc) (ls : Array Slot), rH D kA h ad A s.heap M H locs → lv_has ls 6 [(0, .ref h), (1, .int v1), (2, .int v2)] → fm_define_l37 Q  nn v1 v2 M → W p l e (headSpec wsX11_define rmX11_define).room s m args below meth c H locs 0 0 (MQ below (va_Qi Q (rB D kA h ad A) A) args s 0 0 A) (F0 m 37 ls []) := by
    intro   nn
    induction nn with
    | zero => intro v1 v2 M H locs ls hH hl hw; exact False.elim hw
    | succ nn hk37 =>
      intro v1 v2 M H locs ls hH hl hw
      replace hw : fm_define_c37 Q  (fm_define_l37 Q  nn) v1 v2 M := hw
      unfold fm_define_c37 at hw
      refine lv_iload_n hx hb dX11_define_37 rfl (lv_at hl 2 rfl) ?_
      refine lv_bipush (v := 8) hx hb dX11_define_38 (by decide) ?_
      refine lv_icmp_gt (tgt := 69) hx hb dX11_define_40 (by decide) (fun c20 => ?_) (fun c20 => ?_)
      · replace hw := hw.1 c20
        refine lv_aload_n hx hb dX11_define_69 rfl (lv_at hl 0 rfl) ?_
        refine rg_4 hx hb hts hin hown hK hH (hts (.fieldLink RX11 17 "IdlCallerModel" "forms" "[I") (by decide +kernel)) dX11_define_70 ?_
        refine lv_iload_n hx hb dX11_define_73 rfl (lv_at hl 1 rfl) ?_
        obtain ⟨h21, hw⟩ := hw
        refine rl_4 hx hb hK hH h21 dX11_define_74 ?_
        refine lv_bipush (v := 6) hx hb dX11_define_75 (by decide) ?_
        refine lv_icmp_ne (tgt := 83) hx hb dX11_define_77 (by decide) (fun c22 => ?_) (fun c22 => ?_)
        · replace hw := hw.1 c22
          refine lv_bipush (v := 6) hx hb dX11_define_83 (by decide) ?_
          refine lv_iload_n hx hb dX11_define_85 rfl (lv_at hl 1 rfl) ?_
          refine lv_imul hx hb dX11_define_86 ?_
          refine lv_aload_n hx hb dX11_define_87 rfl (lv_at hl 0 rfl) ?_
          refine rg_4 hx hb hts hin hown hK hH (hts (.fieldLink RX11 17 "IdlCallerModel" "forms" "[I") (by decide +kernel)) dX11_define_88 ?_
          refine lv_iload_n hx hb dX11_define_91 rfl (lv_at hl 1 rfl) ?_
          obtain ⟨h23, hw⟩ := hw
          refine rl_4 hx hb hK hH h23 dX11_define_92 ?_
          refine lv_iadd hx hb dX11_define_93 ?_
          refine lv_topi (fun x24 ex24 => ?_)
          replace hw := hw x24 ex24
          refine lv_istore_n (lv' := [(2, .int x24), (0, .ref h), (1, .int v1)]) hx hb dX11_define_94 rfl hl (by decide) rfl (fun ls hl => ?_)
          refine lv_aload_n hx hb dX11_define_95 rfl (lv_at hl 1 rfl) ?_
          refine rg_5 hx hb hts hin hown hK hH (hts (.fieldLink RX11 21 "IdlCallerModel" "many" "[I") (by decide +kernel)) dX11_define_96 ?_
          refine lv_iload_n hx hb dX11_define_99 rfl (lv_at hl 0 rfl) ?_
          refine lv_aload_n hx hb dX11_define_100 rfl (lv_at hl 1 rfl) ?_
          refine rg_5 hx hb hts hin hown hK hH (hts (.fieldLink RX11 21 "IdlCallerModel" "many" "[I") (by decide +kernel)) dX11_define_101 ?_
          refine lv_bipush (v := 36) hx hb dX11_define_104 (by decide) ?_
          obtain ⟨h25, hw⟩ := hw
          refine rl_5 hx hb hK hH h25 dX11_define_106 ?_
          obtain ⟨h26, hw⟩ := hw
          refine rs_5 hx hb hK hH h26 dX11_define_107 (fun M27 H locs eM27 hH => ?_)
          replace hw := hw M27 eM27
          refine lv_iconst (v := 0) hx hb dX11_define_108 (by decide) ?_
          refine lv_istore_n (lv' := [(3, .int 0), (2, .int x24), (0, .ref h), (1, .int v1)]) hx hb dX11_define_109 rfl hl (by decide) rfl (fun ls hl => ?_)
          obtain ⟨nn, hw⟩ := hw
          exact l110   nn v1 x24 0 M27 H locs ls hH (lv_sub hl [2, 3, 1, 0] rfl) hw
        · replace hw := hw.2 c22
          refine lv_bipush (v := (-4)) hx hb dX11_define_80 (by decide) ?_
          exact r_reti hx hb hr hlocks hK hH hw dX11_define_82
      · replace hw := hw.2 c20
        refine lv_aload_n hx hb dX11_define_43 rfl (lv_at hl 0 rfl) ?_
        refine lv_iload_n hx hb dX11_define_44 rfl (lv_at hl 1 rfl) ?_
        refine lv_iload_n hx hb dX11_define_45 rfl (lv_at hl 2 rfl) ?_
        refine lv_iconst (v := 1) hx hb dX11_define_46 (by decide) ?_
        refine r_calli (va_runV (As := [.int v1, .int v2, .int 1]) (rest := []) ⟨hx, hb, hml, hown, hts⟩ (tm_deciding l D kA h ad H.size M v1 v2 1 _ hw) (cwV 3 hts gX11_define_X11_deciding rfl rfl rfl (by decide +kernel) ⟨Nat.le_of_ble_eq_true rfl, Nat.le_of_ble_eq_true rfl⟩) (r_preV hK hH) rfl rfl hl.1 rfl (lv_room (Nat.le_of_ble_eq_true rfl)) dX11_define_47 ⟨Nat.le_of_ble_eq_true rfl, Nat.le_of_ble_eq_true rfl⟩) hH hA (fun r29 M28 H locs hw hH => ?_)
        refine lv_bipush (v := (-2)) hx hb dX11_define_50 (by decide) ?_
        refine lv_icmp_ne (tgt := 63) hx hb dX11_define_52 (by decide) (fun c30 => ?_) (fun c30 => ?_)
        · replace hw := hw.1 c30
          obtain ⟨x31, ex31⟩ : ∃ y : Int32, y = v2 + 1 := ⟨_, rfl⟩
          replace hw := hw x31 ex31
          refine lv_iinc (v := x31) (lv' := [(2, .int x31), (0, .ref h), (1, .int v1)]) hx hb dX11_define_63 hl (k := 2) rfl (by rw [ex31]; rfl) (by decide) rfl (fun ls hl => ?_)
          refine lv_goto (tgt := 37) hx hb dX11_define_66 (by decide) ?_
          exact hk37 v1 x31 M28 H locs ls hH (lv_sub hl [1, 2, 0] rfl) hw
        · replace hw := hw.2 c30
          refine lv_aload_n hx hb dX11_define_55 rfl (lv_at hl 0 rfl) ?_
          refine lv_iload_n hx hb dX11_define_56 rfl (lv_at hl 2 rfl) ?_
          refine rp_3 hx hb hts hin hown hK hH (hts (.fieldLink RX11 13 "IdlCallerModel" "faultPlace" "I") (by decide +kernel)) dX11_define_57 (fun M32 H locs eM32 hH => ?_)
          replace hw := hw M32 eM32
          refine lv_bipush (v := (-3)) hx hb dX11_define_60 (by decide) ?_
          exact r_reti hx hb hr hlocks hK hH hw dX11_define_62
  clear hP hD0
  unfold fm_define at hw
  have hst : ∀ (M : RM) (H : Heap) (locs : List Loc) (ls : Array Slot), rH D kA h ad A s.heap M H locs → lv_has ls 6 [(0, .ref h)] → (∀ M33 : RM, M33 = wI M 0 0 → (∀ M34 : RM, M34 = wI M33 3 (-1) → (nZ (0 : Int32) ∧ (∀ M36 : RM, M36 = wI M34 27 0 → (∀ M37 : RM, M37 = wI M36 26 0 → fm_read  M37 (fun (r39 : Int32) (M38 : RM) => (((rI M38 27) = 0 → (∃ nn : Nat, fm_define_l37 Q  nn r39 0 M38)) ∧ (¬ (rI M38 27) = 0 → Q (-2) M38)))))))) → W p l e (headSpec wsX11_define rmX11_define).room s m args below meth c H locs 0 0 (MQ below (va_Qi Q (rB D kA h ad A) A) args s 0 0 A) (F0 m 0 ls []) := by
    intro M H locs ls hH hl hw
    refine lv_aload_n hx hb dX11_define_0 rfl (lv_at hl 0 rfl) ?_
    refine lv_iconst (v := 0) hx hb dX11_define_1 (by decide) ?_
    refine rp_0 hx hb hts hin hown hK hH (hts (.fieldLink RX11 78 "IdlCallerModel" "refusal" "I") (by decide +kernel)) dX11_define_2 (fun M33 H locs eM33 hH => ?_)
    replace hw := hw M33 eM33
    refine lv_aload_n hx hb dX11_define_5 rfl (lv_at hl 0 rfl) ?_
    refine lv_iconst (v := (-1)) hx hb dX11_define_6 (by decide) ?_
    refine rp_3 hx hb hts hin hown hK hH (hts (.fieldLink RX11 13 "IdlCallerModel" "faultPlace" "I") (by decide +kernel)) dX11_define_7 (fun M34 H locs eM34 hH => ?_)
    replace hw := hw M34 eM34
    refine lv_aload_n hx hb dX11_define_10 rfl (lv_at hl 0 rfl) ?_
    refine lv_iconst (v := 0) hx hb dX11_define_11 (by decide) ?_
    obtain ⟨h35, hw⟩ := hw
    refine rp_27 hx hb hts hin hown hK hH (hts (.fieldLink RX11 95 "IdlCallerModel" "isWrong" "Z") (by decide +kernel)) h35 dX11_define_12 (fun M36 H locs eM36 hH => ?_)
    replace hw := hw M36 eM36
    refine lv_aload_n hx hb dX11_define_15 rfl (lv_at hl 0 rfl) ?_
    refine lv_iconst (v := 0) hx hb dX11_define_16 (by decide) ?_
    refine rp_26 hx hb hts hin hown hK hH (hts (.fieldLink RX11 92 "IdlCallerModel" "at" "I") (by decide +kernel)) dX11_define_17 (fun M37 H locs eM37 hH => ?_)
    replace hw := hw M37 eM37
    refine lv_aload_n hx hb dX11_define_20 rfl (lv_at hl 0 rfl) ?_
    refine r_calli (va_runV (As := []) (rest := []) ⟨hx, hb, hml, hown, hts⟩ (tm_read l D kA h ad H.size M37  _ hw) (cwV 0 hts gX11_define_X11_read rfl rfl rfl (by decide +kernel) ⟨Nat.le_of_ble_eq_true rfl, Nat.le_of_ble_eq_true rfl⟩) (r_preV hK hH) rfl rfl hl.1 rfl (lv_room (Nat.le_of_ble_eq_true rfl)) dX11_define_21 ⟨Nat.le_of_ble_eq_true rfl, Nat.le_of_ble_eq_true rfl⟩) hH hA (fun r39 M38 H locs hw hH => ?_)
    refine lv_istore_n (lv' := [(1, .int r39), (0, .ref h)]) hx hb dX11_define_24 rfl hl (by decide) rfl (fun ls hl => ?_)
    refine lv_aload_n hx hb dX11_define_25 rfl (lv_at hl 1 rfl) ?_
    refine rg_27 hx hb hts hin hown hK hH (hts (.fieldLink RX11 95 "IdlCallerModel" "isWrong" "Z") (by decide +kernel)) dX11_define_26 ?_
    refine lv_if_eq (tgt := 35) hx hb dX11_define_29 (by decide) (fun c40 => ?_) (fun c40 => ?_)
    · replace hw := hw.1 c40
      refine lv_iconst (v := 0) hx hb dX11_define_35 (by decide) ?_
      refine lv_istore_n (lv' := [(2, .int 0), (1, .int r39), (0, .ref h)]) hx hb dX11_define_36 rfl hl (by decide) rfl (fun ls hl => ?_)
      obtain ⟨nn, hw⟩ := hw
      exact l37   nn r39 0 M38 H locs ls hH (lv_sub hl [2, 1, 0] rfl) hw
    · replace hw := hw.2 c40
      refine lv_bipush (v := (-2)) hx hb dX11_define_32 (by decide) ?_
      exact r_reti hx hb hr hlocks hK hH hw dX11_define_34
  exact hst M s.heap [] ls hH hl hw
