def fm_convert_b178 (Q : Int32 → RM → Prop) (k108 : Int32 → Int32 → Int32 → RM → Prop) (v1 : Int32) (v4 : Int32) (v6 : Int32) (M : RM) : Prop := (∀ x1 : Int32, x1 = v6 + 1 → k108 v1 v4 x1 M)
def fm_convert_c108 (Q : Int32 → RM → Prop) (k108 : Int32 → Int32 → Int32 → RM → Prop) (v1 : Int32) (v4 : Int32) (v6 : Int32) (M : RM) : Prop := (vp_in v1 48 ∧ (((rA M 16 v1.toNatClampNeg) ≤ v6 → Q 1 M) ∧ (¬ (rA M 16 v1.toNatClampNeg) ≤ v6 → fm_itemOf v1 v6 M (fun (r5 : Int32) (M4 : RM) => (∀ x6 : Int32, x6 = 48 + r5 → (vp_in v4 370 ∧ ((¬ (rA M4 8 v4.toNatClampNeg) = 7 → fm_itemOf v1 v6 M4 (fun (r10 : Int32) (M9 : RM) => fm_convertOne x6 r10 (v4 + 1) M9 (fun (r12 : Int32) (M11 : RM) => ((¬ r12 = 0 → fm_convert_b178 Q k108 v1 v4 v6 M11) ∧ (r12 = 0 → Q 0 M11))))) ∧ ((rA M4 8 v4.toNatClampNeg) = 7 → fm_itemOf v1 v6 M4 (fun (r15 : Int32) (M14 : RM) => fm_makeAsItIs x6 r15 M14 (fun (M16 : RM) => fm_convert_b178 Q k108 v1 v4 v6 M16))))))))))
def fm_convert_l108 (Q : Int32 → RM → Prop) : Nat → Int32 → Int32 → Int32 → RM → Prop := lit (τ := Int32 → Int32 → Int32 → RM → Prop) (fun _ _ _ _ => False) (fun k => fm_convert_c108 Q  k)
def fm_convert_b90 (Q : Int32 → RM → Prop) (v1 : Int32) (v3 : Int32) (v4 : Int32) (M : RM) : Prop := (vp_in v1 48 ∧ fm_make v3 6 ((rA M 16 v1.toNatClampNeg).toInt64) FP.dconst0 M (fun (M19 : RM) => (∃ nn : Nat, fm_convert_l108 Q  nn v1 v4 0 M19)))
def fm_convert_b81 (Q : Int32 → RM → Prop) (v1 : Int32) (v3 : Int32) (v4 : Int32) (M : RM) : Prop := fm_convertOne v3 v1 v4 M (fun (r22 : Int32) (M21 : RM) => (nZ r22 ∧ Q r22 M21))
def fm_convert_b51 (Q : Int32 → RM → Prop) (v1 : Int32) (v3 : Int32) (v4 : Int32) (v5 : Int32) (M : RM) : Prop := ((¬ v5 = 5 → fm_convert_b81 Q  v1 v3 v4 M) ∧ (v5 = 5 → (vp_in v4 370 ∧ (((rA M 8 v4.toNatClampNeg) = 9 → fm_convert_b90 Q  v1 v3 v4 M) ∧ (¬ (rA M 8 v4.toNatClampNeg) = 9 → (vp_in v4 370 ∧ (((rA M 8 v4.toNatClampNeg) = 7 → fm_convert_b90 Q  v1 v3 v4 M) ∧ (¬ (rA M 8 v4.toNatClampNeg) = 7 → fm_convert_b81 Q  v1 v3 v4 M))))))))
def fm_convert_b41 (Q : Int32 → RM → Prop) (v3 : Int32) (M : RM) : Prop := fm_make v3 0 0 FP.dconst0 M (fun (M28 : RM) => Q 1 M28)
def fm_convert (a1 : Int32) (a2 : Int32) (M : RM) (Q : Int32 → RM → Prop) : Prop := (∀ x30 : Int32, x30 = 48 + a1 → (∀ x31 : Int32, x31 = 2 * a2 → (vp_in a1 48 ∧ (∀ x33 : Int32, x33 = rA M 13 a1.toNatClampNeg → ((¬ x33 = 0 → fm_convert_b51 Q  a1 x30 x31 x33 M) ∧ (x33 = 0 → (vp_in a2 185 ∧ ((¬ (rA M 6 a2.toNatClampNeg) = 0 → fm_convert_b41 Q  x30 M) ∧ ((rA M 6 a2.toNatClampNeg) = 0 → (vp_in a2 185 ∧ (((rA M 7 a2.toNatClampNeg) = 0 → fm_convert_b51 Q  a1 x30 x31 x33 M) ∧ (¬ (rA M 7 a2.toNatClampNeg) = 0 → fm_convert_b41 Q  x30 M))))))))))))
abbrev rmX11_convert : Room := { frames := 7, cells := 0, slots := 0, locals := 179 }
set_option maxHeartbeats 4000000 in
set_option maxRecDepth 100000 in
theorem tm_convert (l : Launch) (D : va_G) (kA : Nat → ClassId) (h : Nat) (ad : Nat → Nat) (sz : Nat) (M : RM) (a1 : Int32) (a2 : Int32) (Q : Int32 → RM → Prop) (hw : fm_convert a1 a2 M Q) : Met l yX11_convert wsX11_convert rmX11_convert (va_Pc [.ref h, .int a1, .int a2] (rPc D kA h ad M sz)) (va_Qi Q (rB D kA h ad (rF kA h ad M sz)) (rF kA h ad M sz)) 0 0 (rF kA h ad M sz) := by
  refine Met.ofW (cc := cX11_convert) (maxL := 8) (ret := (some .boolean)) (by decide) rfl ?_
  intro p e s m args below meth c s₁ B hml hv
  obtain ⟨rfl, hsz, hP, hK, hD0⟩ := hv
  have hx := B.exec
  have hb := B.bytes
  have hr := B.returns
  have hts := atoms_spec (ws := wsX11_convert) B.pre
  have hown : s.vm.findClass RX11 = some m.cls := findClass_of_methodNamed B.named
  have hlocks : meth.locks = false := B.notSynchronized
  subst hsz
  have hH : rH D kA h ad (rF kA h ad M s.heap.size) s.heap M s.heap [] := ⟨hP, hD0.self, va_S.rf⟩
  have hA : ∀ q : Nat, s.heap.size ≤ q → rF kA h ad M s.heap.size q := fun q z => Or.inr z
  generalize rF kA h ad M s.heap.size = A at hH hA ⊢
  have hl := lv_entry ([.ref h, .int a1, .int a2]) (n := 8) (Nat.le_of_ble_eq_true rfl)
  rw [lg_entry_eq]
  generalize (lg_sl ([.ref h, .int a1, .int a2]) ++ List.replicate (8 - (lg_sl ([.ref h, .int a1, .int a2])).length) Slot.unset).toArray = ls at hl ⊢
  generalize ([.ref h, .int a1, .int a2] : List Value).toArray = args at hts ⊢
  have hl : lv_has ls 8 [(0, .ref h), (1, .int a1), (2, .int a2)] := hl
  have hin : ∀ w ∈ wsX110, w ∈ wsX11_convert := by decide +kernel
  have b178 : ∀ (k108 : Int32 → Int32 → Int32 → RM → Prop) (hk108 : ∀ (v1 : Int32) (v4 : Int32) (v6 : Int32) (M : RM) (H : Heap) (locs : List Loc) (ls : Array Slot), rH D kA h ad A s.heap M H locs → lv_has ls 8 [(0, .ref h), (1, .int v1), (4, .int v4), (6, .int v6)] → k108 v1 v4 v6 M → W p l e (headSpec wsX11_convert rmX11_convert).room s m args below meth c H locs 0 0 (MQ below (va_Qi Q (rB D kA h ad A) A) args s 0 0 A) (F0 m 108 ls [])) (v1 : Int32) (v4 : Int32) (v6 : Int32) (M : RM) (H : Heap) (locs : List Loc) (ls : Array Slot), rH D kA h ad A s.heap M H locs → lv_has ls 8 [(0, .ref h), (1, .int v1), (4, .int v4), (6, .int v6)] → fm_convert_b178 Q k108 v1 v4 v6 M → W p l e (headSpec wsX11_convert rmX11_convert).room s m args below meth c H locs 0 0 (MQ below (va_Qi Q (rB D kA h ad A) A) args s 0 0 A) (F0 m 178 ls []) := by
    intro k108 hk108 v1 v4 v6 M H locs ls hH hl hw
    unfold fm_convert_b178 at hw
    obtain ⟨x1, ex1⟩ : ∃ y : Int32, y = v6 + 1 := ⟨_, rfl⟩
    replace hw := hw x1 ex1
    refine lv_iinc (v := x1) (lv' := [(6, .int x1), (0, .ref h), (1, .int v1), (4, .int v4)]) hx hb dX11_convert_178 hl (k := 3) rfl (by rw [ex1]; rfl) (by decide) rfl (fun ls hl => ?_)
    refine lv_goto (tgt := 108) hx hb dX11_convert_181 (by decide) ?_
    exact hk108 v1 v4 x1 M H locs ls hH (lv_sub hl [1, 2, 3, 0] rfl) hw
  have l108 : ∀ (nn : Nat) (v1 : Int32) (v4 : Int32) (v6 : Int32) (M : RM) (H : Heap) (locs : List Loc) (ls : Array Slot), rH D kA h ad A s.heap M H locs → lv_has ls 8 [(0, .ref h), (1, .int v1), (4, .int v4), (6, .int v6)] → fm_convert_l108 Q  nn v1 v4 v6 M → W p l e (headSpec wsX11_convert rmX11_convert).room s m args below meth c H locs 0 0 (MQ below (va_Qi Q (rB D kA h ad A) A) args s 0 0 A) (F0 m 108 ls []) := by
    intro   nn
    induction nn with
    | zero => intro v1 v4 v6 M H locs ls hH hl hw; exact False.elim hw
    | succ nn hk108 =>
      intro v1 v4 v6 M H locs ls hH hl hw
      replace hw : fm_convert_c108 Q  (fm_convert_l108 Q  nn) v1 v4 v6 M := hw
      unfold fm_convert_c108 at hw
      refine lv_iload hx hb dX11_convert_108 (lv_at hl 3 rfl) ?_
      refine lv_aload_n hx hb dX11_convert_110 rfl (lv_at hl 0 rfl) ?_
      refine rg_16 hx hb hts hin hown hK hH (hts (.fieldLink RX11 56 "IdlCallerModel" "size" "[I") (by decide +kernel)) dX11_convert_111 ?_
      refine lv_iload_n hx hb dX11_convert_114 rfl (lv_at hl 1 rfl) ?_
      obtain ⟨h2, hw⟩ := hw
      refine rl_16 hx hb hK hH h2 dX11_convert_115 ?_
      refine lv_icmp_ge (tgt := 184) hx hb dX11_convert_116 (by decide) (fun c3 => ?_) (fun c3 => ?_)
      · replace hw := hw.1 c3
        refine lv_iconst (v := 1) hx hb dX11_convert_184 (by decide) ?_
        exact r_retz hx hb hr rfl hlocks hK hH hw dX11_convert_185
      · replace hw := hw.2 c3
        refine lv_bipush (v := 48) hx hb dX11_convert_119 (by decide) ?_
        refine lv_iload_n hx hb dX11_convert_121 rfl (lv_at hl 1 rfl) ?_
        refine lv_iload hx hb dX11_convert_122 (lv_at hl 3 rfl) ?_
        refine r_calli (va_runS (As := [.int v1, .int v6]) (rest := [.int 48]) ⟨hx, hb, hml, hown, hts⟩ (tm_itemOf l D kA h ad H.size M v1 v6 _ hw) (va_cwS 2 hts gX11_convert_X11_itemOf rfl rfl rfl (by decide +kernel) ⟨Nat.le_of_ble_eq_true rfl, Nat.le_of_ble_eq_true rfl⟩) (r_preS hK hH) rfl rfl hl.1 rfl (lv_room (Nat.le_of_ble_eq_true rfl)) dX11_convert_124 ⟨Nat.le_of_ble_eq_true rfl, Nat.le_of_ble_eq_true rfl⟩) hH hA (fun r5 M4 H locs hw hH => ?_)
        refine lv_iadd hx hb dX11_convert_127 ?_
        refine lv_topi (fun x6 ex6 => ?_)
        replace hw := hw x6 ex6
        refine lv_istore (lv' := [(7, .int x6), (0, .ref h), (1, .int v1), (4, .int v4), (6, .int v6)]) hx hb dX11_convert_128 hl (by decide) rfl (fun ls hl => ?_)
        refine lv_aload_n hx hb dX11_convert_130 rfl (lv_at hl 1 rfl) ?_
        refine rg_8 hx hb hts hin hown hK hH (hts (.fieldLink RX11 31 "IdlCallerModel" "sort" "[I") (by decide +kernel)) dX11_convert_131 ?_
        refine lv_iload hx hb dX11_convert_134 (lv_at hl 3 rfl) ?_
        obtain ⟨h7, hw⟩ := hw
        refine rl_8 hx hb hK hH h7 dX11_convert_136 ?_
        refine lv_bipush (v := 7) hx hb dX11_convert_137 (by decide) ?_
        refine lv_icmp_ne (tgt := 157) hx hb dX11_convert_139 (by decide) (fun c8 => ?_) (fun c8 => ?_)
        · replace hw := hw.1 c8
          refine lv_aload_n hx hb dX11_convert_157 rfl (lv_at hl 1 rfl) ?_
          refine lv_iload hx hb dX11_convert_158 (lv_at hl 0 rfl) ?_
          refine lv_iload_n hx hb dX11_convert_160 rfl (lv_at hl 2 rfl) ?_
          refine lv_iload hx hb dX11_convert_161 (lv_at hl 4 rfl) ?_
          refine r_calli (va_runS (As := [.int v1, .int v6]) (rest := [.int x6, .ref h]) ⟨hx, hb, hml, hown, hts⟩ (tm_itemOf l D kA h ad H.size M4 v1 v6 _ hw) (va_cwS 2 hts gX11_convert_X11_itemOf rfl rfl rfl (by decide +kernel) ⟨Nat.le_of_ble_eq_true rfl, Nat.le_of_ble_eq_true rfl⟩) (r_preS hK hH) rfl rfl hl.1 rfl (lv_room (Nat.le_of_ble_eq_true rfl)) dX11_convert_163 ⟨Nat.le_of_ble_eq_true rfl, Nat.le_of_ble_eq_true rfl⟩) hH hA (fun r10 M9 H locs hw hH => ?_)
          refine lv_iload hx hb dX11_convert_166 (lv_at hl 3 rfl) ?_
          refine lv_iconst (v := 1) hx hb dX11_convert_168 (by decide) ?_
          refine lv_iadd hx hb dX11_convert_169 ?_
          refine r_calli (va_runV (As := [.int x6, .int r10, .int (v4 + 1)]) (rest := []) ⟨hx, hb, hml, hown, hts⟩ (tm_convertOne l D kA h ad H.size M9 x6 r10 (v4 + 1) _ hw) (cwV 3 hts gX11_convert_X11_convertOne rfl rfl rfl (by decide +kernel) ⟨Nat.le_of_ble_eq_true rfl, Nat.le_of_ble_eq_true rfl⟩) (r_preV hK hH) rfl rfl hl.1 rfl (lv_room (Nat.le_of_ble_eq_true rfl)) dX11_convert_170 ⟨Nat.le_of_ble_eq_true rfl, Nat.le_of_ble_eq_true rfl⟩) hH hA (fun r12 M11 H locs hw hH => ?_)
          refine lv_if_ne (tgt := 178) hx hb dX11_convert_173 (by decide) (fun c13 => ?_) (fun c13 => ?_)
          · replace hw := hw.1 c13
            exact b178 _ hk108 v1 v4 v6 M11 H locs ls hH (lv_sub hl [1, 2, 3, 4] rfl) hw
          · replace hw := hw.2 c13
            refine lv_iconst (v := 0) hx hb dX11_convert_176 (by decide) ?_
            exact r_retz hx hb hr rfl hlocks hK hH hw dX11_convert_177
        · replace hw := hw.2 c8
          refine lv_aload_n hx hb dX11_convert_142 rfl (lv_at hl 1 rfl) ?_
          refine lv_iload hx hb dX11_convert_143 (lv_at hl 0 rfl) ?_
          refine lv_iload_n hx hb dX11_convert_145 rfl (lv_at hl 2 rfl) ?_
          refine lv_iload hx hb dX11_convert_146 (lv_at hl 4 rfl) ?_
          refine r_calli (va_runS (As := [.int v1, .int v6]) (rest := [.int x6, .ref h]) ⟨hx, hb, hml, hown, hts⟩ (tm_itemOf l D kA h ad H.size M4 v1 v6 _ hw) (va_cwS 2 hts gX11_convert_X11_itemOf rfl rfl rfl (by decide +kernel) ⟨Nat.le_of_ble_eq_true rfl, Nat.le_of_ble_eq_true rfl⟩) (r_preS hK hH) rfl rfl hl.1 rfl (lv_room (Nat.le_of_ble_eq_true rfl)) dX11_convert_148 ⟨Nat.le_of_ble_eq_true rfl, Nat.le_of_ble_eq_true rfl⟩) hH hA (fun r15 M14 H locs hw hH => ?_)
          refine r_callv (va_runV (As := [.int x6, .int r15]) (rest := []) ⟨hx, hb, hml, hown, hts⟩ (tm_makeAsItIs l D kA h ad H.size M14 x6 r15 _ hw) (cwV 2 hts gX11_convert_X11_makeAsItIs rfl rfl rfl (by decide +kernel) ⟨Nat.le_of_ble_eq_true rfl, Nat.le_of_ble_eq_true rfl⟩) (r_preV hK hH) rfl rfl hl.1 rfl (lv_room (Nat.le_of_ble_eq_true rfl)) dX11_convert_151 ⟨Nat.le_of_ble_eq_true rfl, Nat.le_of_ble_eq_true rfl⟩) hH hA (fun M16 H locs hw hH => ?_)
          refine lv_goto (tgt := 178) hx hb dX11_convert_154 (by decide) ?_
          exact b178 _ hk108 v1 v4 v6 M16 H locs ls hH (lv_sub hl [1, 2, 3, 4] rfl) hw
  have b90 : ∀ (v1 : Int32) (v3 : Int32) (v4 : Int32) (M : RM) (H : Heap) (locs : List Loc) (ls : Array Slot), rH D kA h ad A s.heap M H locs → lv_has ls 8 [(0, .ref h), (1, .int v1), (3, .int v3), (4, .int v4)] → fm_convert_b90 Q  v1 v3 v4 M → W p l e (headSpec wsX11_convert rmX11_convert).room s m args below meth c H locs 0 0 (MQ below (va_Qi Q (rB D kA h ad A) A) args s 0 0 A) (F0 m 90 ls []) := by
    intro   v1 v3 v4 M H locs ls hH hl hw
    unfold fm_convert_b90 at hw
    refine lv_aload_n hx hb dX11_convert_90 rfl (lv_at hl 0 rfl) ?_
    refine lv_iload_n hx hb dX11_convert_91 rfl (lv_at hl 2 rfl) ?_
    refine lv_bipush (v := 6) hx hb dX11_convert_92 (by decide) ?_
    refine lv_aload_n hx hb dX11_convert_94 rfl (lv_at hl 0 rfl) ?_
    refine rg_16 hx hb hts hin hown hK hH (hts (.fieldLink RX11 56 "IdlCallerModel" "size" "[I") (by decide +kernel)) dX11_convert_95 ?_
    refine lv_iload_n hx hb dX11_convert_98 rfl (lv_at hl 1 rfl) ?_
    obtain ⟨h18, hw⟩ := hw
    refine rl_16 hx hb hK hH h18 dX11_convert_99 ?_
    refine lv_i2l hx hb dX11_convert_100 rfl ?_
    refine lv_dconst0 hx hb dX11_convert_101 ?_
    refine r_callv (va_runV (As := [.int v3, .int 6, .long ((rA M 16 v1.toNatClampNeg).toInt64), .double FP.dconst0]) (rest := []) ⟨hx, hb, hml, hown, hts⟩ (tm_make l D kA h ad H.size M v3 6 ((rA M 16 v1.toNatClampNeg).toInt64) FP.dconst0 _ hw) (cwV 4 hts gX11_convert_X11_make rfl rfl rfl (by decide +kernel) ⟨Nat.le_of_ble_eq_true rfl, Nat.le_of_ble_eq_true rfl⟩) (r_preV hK hH) rfl rfl hl.1 rfl (lv_room (Nat.le_of_ble_eq_true rfl)) dX11_convert_102 ⟨Nat.le_of_ble_eq_true rfl, Nat.le_of_ble_eq_true rfl⟩) hH hA (fun M19 H locs hw hH => ?_)
    refine lv_iconst (v := 0) hx hb dX11_convert_105 (by decide) ?_
    refine lv_istore (lv' := [(6, .int 0), (0, .ref h), (1, .int v1), (3, .int v3), (4, .int v4)]) hx hb dX11_convert_106 hl (by decide) rfl (fun ls hl => ?_)
    obtain ⟨nn, hw⟩ := hw
    exact l108   nn v1 v4 0 M19 H locs ls hH (lv_sub hl [1, 2, 4, 0] rfl) hw
  have b81 : ∀ (v1 : Int32) (v3 : Int32) (v4 : Int32) (M : RM) (H : Heap) (locs : List Loc) (ls : Array Slot), rH D kA h ad A s.heap M H locs → lv_has ls 8 [(0, .ref h), (1, .int v1), (3, .int v3), (4, .int v4)] → fm_convert_b81 Q  v1 v3 v4 M → W p l e (headSpec wsX11_convert rmX11_convert).room s m args below meth c H locs 0 0 (MQ below (va_Qi Q (rB D kA h ad A) A) args s 0 0 A) (F0 m 81 ls []) := by
    intro   v1 v3 v4 M H locs ls hH hl hw
    unfold fm_convert_b81 at hw
    refine lv_aload_n hx hb dX11_convert_81 rfl (lv_at hl 0 rfl) ?_
    refine lv_iload_n hx hb dX11_convert_82 rfl (lv_at hl 2 rfl) ?_
    refine lv_iload_n hx hb dX11_convert_83 rfl (lv_at hl 1 rfl) ?_
    refine lv_iload hx hb dX11_convert_84 (lv_at hl 3 rfl) ?_
    refine r_calli (va_runV (As := [.int v3, .int v1, .int v4]) (rest := []) ⟨hx, hb, hml, hown, hts⟩ (tm_convertOne l D kA h ad H.size M v3 v1 v4 _ hw) (cwV 3 hts gX11_convert_X11_convertOne rfl rfl rfl (by decide +kernel) ⟨Nat.le_of_ble_eq_true rfl, Nat.le_of_ble_eq_true rfl⟩) (r_preV hK hH) rfl rfl hl.1 rfl (lv_room (Nat.le_of_ble_eq_true rfl)) dX11_convert_86 ⟨Nat.le_of_ble_eq_true rfl, Nat.le_of_ble_eq_true rfl⟩) hH hA (fun r22 M21 H locs hw hH => ?_)
    exact r_retz hx hb hr hw.1.1 hlocks hK hH hw.2 dX11_convert_89
  have b51 : ∀ (v1 : Int32) (v3 : Int32) (v4 : Int32) (v5 : Int32) (M : RM) (H : Heap) (locs : List Loc) (ls : Array Slot), rH D kA h ad A s.heap M H locs → lv_has ls 8 [(0, .ref h), (1, .int v1), (3, .int v3), (4, .int v4), (5, .int v5)] → fm_convert_b51 Q  v1 v3 v4 v5 M → W p l e (headSpec wsX11_convert rmX11_convert).room s m args below meth c H locs 0 0 (MQ below (va_Qi Q (rB D kA h ad A) A) args s 0 0 A) (F0 m 51 ls []) := by
    intro   v1 v3 v4 v5 M H locs ls hH hl hw
    unfold fm_convert_b51 at hw
    refine lv_iload hx hb dX11_convert_51 (lv_at hl 4 rfl) ?_
    refine lv_iconst (v := 5) hx hb dX11_convert_53 (by decide) ?_
    refine lv_icmp_ne (tgt := 81) hx hb dX11_convert_54 (by decide) (fun c23 => ?_) (fun c23 => ?_)
    · replace hw := hw.1 c23
      exact b81   v1 v3 v4 M H locs ls hH (lv_sub hl [0, 1, 2, 3] rfl) hw
    · replace hw := hw.2 c23
      refine lv_aload_n hx hb dX11_convert_57 rfl (lv_at hl 0 rfl) ?_
      refine rg_8 hx hb hts hin hown hK hH (hts (.fieldLink RX11 31 "IdlCallerModel" "sort" "[I") (by decide +kernel)) dX11_convert_58 ?_
      refine lv_iload hx hb dX11_convert_61 (lv_at hl 3 rfl) ?_
      obtain ⟨h24, hw⟩ := hw
      refine rl_8 hx hb hK hH h24 dX11_convert_63 ?_
      refine lv_bipush (v := 9) hx hb dX11_convert_64 (by decide) ?_
      refine lv_icmp_eq (tgt := 90) hx hb dX11_convert_66 (by decide) (fun c25 => ?_) (fun c25 => ?_)
      · replace hw := hw.1 c25
        exact b90   v1 v3 v4 M H locs ls hH (lv_sub hl [0, 1, 2, 3] rfl) hw
      · replace hw := hw.2 c25
        refine lv_aload_n hx hb dX11_convert_69 rfl (lv_at hl 0 rfl) ?_
        refine rg_8 hx hb hts hin hown hK hH (hts (.fieldLink RX11 31 "IdlCallerModel" "sort" "[I") (by decide +kernel)) dX11_convert_70 ?_
        refine lv_iload hx hb dX11_convert_73 (lv_at hl 3 rfl) ?_
        obtain ⟨h26, hw⟩ := hw
        refine rl_8 hx hb hK hH h26 dX11_convert_75 ?_
        refine lv_bipush (v := 7) hx hb dX11_convert_76 (by decide) ?_
        refine lv_icmp_eq (tgt := 90) hx hb dX11_convert_78 (by decide) (fun c27 => ?_) (fun c27 => ?_)
        · replace hw := hw.1 c27
          exact b90   v1 v3 v4 M H locs ls hH (lv_sub hl [0, 1, 2, 3] rfl) hw
        · replace hw := hw.2 c27
          exact b81   v1 v3 v4 M H locs ls hH (lv_sub hl [0, 1, 2, 3] rfl) hw
  have b41 : ∀ (v3 : Int32) (M : RM) (H : Heap) (locs : List Loc) (ls : Array Slot), rH D kA h ad A s.heap M H locs → lv_has ls 8 [(0, .ref h), (3, .int v3)] → fm_convert_b41 Q  v3 M → W p l e (headSpec wsX11_convert rmX11_convert).room s m args below meth c H locs 0 0 (MQ below (va_Qi Q (rB D kA h ad A) A) args s 0 0 A) (F0 m 41 ls []) := by
    intro   v3 M H locs ls hH hl hw
    unfold fm_convert_b41 at hw
    refine lv_aload_n hx hb dX11_convert_41 rfl (lv_at hl 0 rfl) ?_
    refine lv_iload_n hx hb dX11_convert_42 rfl (lv_at hl 1 rfl) ?_
    refine lv_iconst (v := 0) hx hb dX11_convert_43 (by decide) ?_
    refine lv_lconst (v := 0) hx hb dX11_convert_44 (by decide) ?_
    refine lv_dconst0 hx hb dX11_convert_45 ?_
    refine r_callv (va_runV (As := [.int v3, .int 0, .long 0, .double FP.dconst0]) (rest := []) ⟨hx, hb, hml, hown, hts⟩ (tm_make l D kA h ad H.size M v3 0 0 FP.dconst0 _ hw) (cwV 4 hts gX11_convert_X11_make rfl rfl rfl (by decide +kernel) ⟨Nat.le_of_ble_eq_true rfl, Nat.le_of_ble_eq_true rfl⟩) (r_preV hK hH) rfl rfl hl.1 rfl (lv_room (Nat.le_of_ble_eq_true rfl)) dX11_convert_46 ⟨Nat.le_of_ble_eq_true rfl, Nat.le_of_ble_eq_true rfl⟩) hH hA (fun M28 H locs hw hH => ?_)
    refine lv_iconst (v := 1) hx hb dX11_convert_49 (by decide) ?_
    exact r_retz hx hb hr rfl hlocks hK hH hw dX11_convert_50
  clear hP hD0
  unfold fm_convert at hw
  have hst : ∀ (M : RM) (H : Heap) (locs : List Loc) (ls : Array Slot), rH D kA h ad A s.heap M H locs → lv_has ls 8 [(0, .ref h), (1, .int a1), (2, .int a2)] → (∀ x30 : Int32, x30 = 48 + a1 → (∀ x31 : Int32, x31 = 2 * a2 → (vp_in a1 48 ∧ (∀ x33 : Int32, x33 = rA M 13 a1.toNatClampNeg → ((¬ x33 = 0 → fm_convert_b51 Q  a1 x30 x31 x33 M) ∧ (x33 = 0 → (vp_in a2 185 ∧ ((¬ (rA M 6 a2.toNatClampNeg) = 0 → fm_convert_b41 Q  x30 M) ∧ ((rA M 6 a2.toNatClampNeg) = 0 → (vp_in a2 185 ∧ (((rA M 7 a2.toNatClampNeg) = 0 → fm_convert_b51 Q  a1 x30 x31 x33 M) ∧ (¬ (rA M 7 a2.toNatClampNeg) = 0 → fm_convert_b41 Q  x30 M)))))))))))) → W p l e (headSpec wsX11_convert rmX11_convert).room s m args below meth c H locs 0 0 (MQ below (va_Qi Q (rB D kA h ad A) A) args s 0 0 A) (F0 m 0 ls []) := by
    intro M H locs ls hH hl hw
    refine lv_bipush (v := 48) hx hb dX11_convert_0 (by decide) ?_
    refine lv_iload_n hx hb dX11_convert_2 rfl (lv_at hl 1 rfl) ?_
    refine lv_iadd hx hb dX11_convert_3 ?_
    refine lv_topi (fun x30 ex30 => ?_)
    replace hw := hw x30 ex30
    refine lv_istore_n (lv' := [(3, .int x30), (0, .ref h), (1, .int a1), (2, .int a2)]) hx hb dX11_convert_4 rfl hl (by decide) rfl (fun ls hl => ?_)
    refine lv_iconst (v := 2) hx hb dX11_convert_5 (by decide) ?_
    refine lv_iload_n hx hb dX11_convert_6 rfl (lv_at hl 3 rfl) ?_
    refine lv_imul hx hb dX11_convert_7 ?_
    refine lv_topi (fun x31 ex31 => ?_)
    replace hw := hw x31 ex31
    refine lv_istore (lv' := [(4, .int x31), (3, .int x30), (0, .ref h), (1, .int a1), (2, .int a2)]) hx hb dX11_convert_8 hl (by decide) rfl (fun ls hl => ?_)
    refine lv_aload_n hx hb dX11_convert_10 rfl (lv_at hl 2 rfl) ?_
    refine rg_13 hx hb hts hin hown hK hH (hts (.fieldLink RX11 46 "IdlCallerModel" "kindOf" "[I") (by decide +kernel)) dX11_convert_11 ?_
    refine lv_iload_n hx hb dX11_convert_14 rfl (lv_at hl 3 rfl) ?_
    obtain ⟨h32, hw⟩ := hw
    refine rl_13 hx hb hK hH h32 dX11_convert_15 ?_
    refine lv_topi (fun x33 ex33 => ?_)
    replace hw := hw x33 ex33
    refine lv_istore (lv' := [(5, .int x33), (4, .int x31), (3, .int x30), (0, .ref h), (1, .int a1), (2, .int a2)]) hx hb dX11_convert_16 hl (by decide) rfl (fun ls hl => ?_)
    refine lv_iload hx hb dX11_convert_18 (lv_at hl 0 rfl) ?_
    refine lv_if_ne (tgt := 51) hx hb dX11_convert_20 (by decide) (fun c34 => ?_) (fun c34 => ?_)
    · replace hw := hw.1 c34
      exact b51   a1 x30 x31 x33 M H locs ls hH (lv_sub hl [3, 4, 2, 1, 0] rfl) hw
    · replace hw := hw.2 c34
      refine lv_aload_n hx hb dX11_convert_23 rfl (lv_at hl 3 rfl) ?_
      refine rg_6 hx hb hts hin hown hK hH (hts (.fieldLink RX11 24 "IdlCallerModel" "isOptional" "[Z") (by decide +kernel)) dX11_convert_24 ?_
      refine lv_iload_n hx hb dX11_convert_27 rfl (lv_at hl 5 rfl) ?_
      obtain ⟨h35, hw⟩ := hw
      refine rl_6 hx hb hK hH h35 dX11_convert_28 ?_
      refine lv_if_ne (tgt := 41) hx hb dX11_convert_29 (by decide) (fun c36 => ?_) (fun c36 => ?_)
      · replace hw := hw.1 c36
        exact b41   x30 M H locs ls hH (lv_sub hl [3, 2] rfl) hw
      · replace hw := hw.2 c36
        refine lv_aload_n hx hb dX11_convert_32 rfl (lv_at hl 3 rfl) ?_
        refine rg_7 hx hb hts hin hown hK hH (hts (.fieldLink RX11 28 "IdlCallerModel" "isVariadic" "[Z") (by decide +kernel)) dX11_convert_33 ?_
        refine lv_iload_n hx hb dX11_convert_36 rfl (lv_at hl 5 rfl) ?_
        obtain ⟨h37, hw⟩ := hw
        refine rl_7 hx hb hK hH h37 dX11_convert_37 ?_
        refine lv_if_eq (tgt := 51) hx hb dX11_convert_38 (by decide) (fun c38 => ?_) (fun c38 => ?_)
        · replace hw := hw.1 c38
          exact b51   a1 x30 x31 x33 M H locs ls hH (lv_sub hl [3, 4, 2, 1, 0] rfl) hw
        · replace hw := hw.2 c38
          exact b41   x30 M H locs ls hH (lv_sub hl [3, 2] rfl) hw
  exact hst M s.heap [] ls hH hl hw
def fm_bound_b76 (Q : Int32 → RM → Prop) (k5 : Int32 → Int32 → Int32 → Int32 → RM → Prop) (v1 : Int32) (v2 : Int32) (v4 : Int32) (s0 : Int32) (M : RM) : Prop := (∀ x1 : Int32, x1 = v4 + 1 → k5 v1 v2 s0 x1 M)
def fm_bound_b75 (Q : Int32 → RM → Prop) (k5 : Int32 → Int32 → Int32 → Int32 → RM → Prop) (v1 : Int32) (v2 : Int32) (v3 : Int32) (v4 : Int32) (M : RM) : Prop := fm_bound_b76 Q k5 v1 v2 v4 v3 M
def fm_bound_b70 (Q : Int32 → RM → Prop) (k5 : Int32 → Int32 → Int32 → Int32 → RM → Prop) (v1 : Int32) (v2 : Int32) (v4 : Int32) (v5 : Int32) (M : RM) : Prop := fm_bound_b76 Q k5 v1 v2 v4 v5 M
def fm_bound_b45 (Q : Int32 → RM → Prop) (k5 : Int32 → Int32 → Int32 → Int32 → RM → Prop) (v1 : Int32) (v2 : Int32) (v3 : Int32) (v4 : Int32) (s0 : Int32) (M : RM) : Prop := ((v3 < 0 → fm_bound_b70 Q k5 v1 v2 v4 s0 M) ∧ (¬ v3 < 0 → ((v2 = 0 → ((v3 ≤ s0 → fm_bound_b75 Q k5 v1 v2 v3 v4 M) ∧ (¬ v3 ≤ s0 → fm_bound_b70 Q k5 v1 v2 v4 s0 M))) ∧ (¬ v2 = 0 → ((s0 ≤ v3 → fm_bound_b75 Q k5 v1 v2 v3 v4 M) ∧ (¬ s0 ≤ v3 → fm_bound_b70 Q k5 v1 v2 v4 s0 M))))))
def fm_bound_c5 (Q : Int32 → RM → Prop) (k5 : Int32 → Int32 → Int32 → Int32 → RM → Prop) (v1 : Int32) (v2 : Int32) (v3 : Int32) (v4 : Int32) (M : RM) : Prop := (vp_in v1 6 ∧ (((rA M 4 v1.toNatClampNeg) ≤ v4 → Q v3 M) ∧ (¬ (rA M 4 v1.toNatClampNeg) ≤ v4 → ((v2 = 0 → fm_least ((6 * v1) + v4) M (fun (r10 : Int32) (M9 : RM) => fm_bound_b45 Q k5 v1 v2 v3 v4 r10 M9)) ∧ (¬ v2 = 0 → fm_most ((6 * v1) + v4) M (fun (r12 : Int32) (M11 : RM) => fm_bound_b45 Q k5 v1 v2 v3 v4 r12 M11))))))
def fm_bound_l5 (Q : Int32 → RM → Prop) : Nat → Int32 → Int32 → Int32 → Int32 → RM → Prop := lit (τ := Int32 → Int32 → Int32 → Int32 → RM → Prop) (fun _ _ _ _ _ => False) (fun k => fm_bound_c5 Q  k)
def fm_bound (a1 : Int32) (a2 : Int32) (M : RM) (Q : Int32 → RM → Prop) : Prop := (∀ x13 : Int32, x13 = (-1) → (∃ nn : Nat, fm_bound_l5 Q  nn a1 a2 x13 0 M))
abbrev rmX11_bound : Room := { frames := 1, cells := 0, slots := 0, locals := 22 }
set_option maxHeartbeats 4000000 in
set_option maxRecDepth 100000 in
theorem tm_bound (l : Launch) (D : va_G) (kA : Nat → ClassId) (h : Nat) (ad : Nat → Nat) (sz : Nat) (M : RM) (a1 : Int32) (a2 : Int32) (Q : Int32 → RM → Prop) (hw : fm_bound a1 a2 M Q) : Met l yX11_bound wsX11_bound rmX11_bound (va_Pc [.ref h, .int a1, .int a2] (rPc D kA h ad M sz)) (va_Qi Q (rB D kA h ad (rF kA h ad M sz)) (rF kA h ad M sz)) 0 0 (rF kA h ad M sz) := by
  refine Met.ofW (cc := cX11_bound) (maxL := 6) (ret := (some .int)) (by decide) rfl ?_
  intro p e s m args below meth c s₁ B hml hv
  obtain ⟨rfl, hsz, hP, hK, hD0⟩ := hv
  have hx := B.exec
  have hb := B.bytes
  have hr := B.returns
  have hts := atoms_spec (ws := wsX11_bound) B.pre
  have hown : s.vm.findClass RX11 = some m.cls := findClass_of_methodNamed B.named
  have hlocks : meth.locks = false := B.notSynchronized
  subst hsz
  have hH : rH D kA h ad (rF kA h ad M s.heap.size) s.heap M s.heap [] := ⟨hP, hD0.self, va_S.rf⟩
  have hA : ∀ q : Nat, s.heap.size ≤ q → rF kA h ad M s.heap.size q := fun q z => Or.inr z
  generalize rF kA h ad M s.heap.size = A at hH hA ⊢
  have hl := lv_entry ([.ref h, .int a1, .int a2]) (n := 6) (Nat.le_of_ble_eq_true rfl)
  rw [lg_entry_eq]
  generalize (lg_sl ([.ref h, .int a1, .int a2]) ++ List.replicate (6 - (lg_sl ([.ref h, .int a1, .int a2])).length) Slot.unset).toArray = ls at hl ⊢
  generalize ([.ref h, .int a1, .int a2] : List Value).toArray = args at hts ⊢
  have hl : lv_has ls 6 [(0, .ref h), (1, .int a1), (2, .int a2)] := hl
  have hin : ∀ w ∈ wsX110, w ∈ wsX11_bound := by decide +kernel
  have b76 : ∀ (k5 : Int32 → Int32 → Int32 → Int32 → RM → Prop) (hk5 : ∀ (v1 : Int32) (v2 : Int32) (v3 : Int32) (v4 : Int32) (M : RM) (H : Heap) (locs : List Loc) (ls : Array Slot), rH D kA h ad A s.heap M H locs → lv_has ls 6 [(0, .ref h), (1, .int v1), (2, .int v2), (3, .int v3), (4, .int v4)] → k5 v1 v2 v3 v4 M → W p l e (headSpec wsX11_bound rmX11_bound).room s m args below meth c H locs 0 0 (MQ below (va_Qi Q (rB D kA h ad A) A) args s 0 0 A) (F0 m 5 ls [])) (v1 : Int32) (v2 : Int32) (v4 : Int32) (s0 : Int32) (M : RM) (H : Heap) (locs : List Loc) (ls : Array Slot), rH D kA h ad A s.heap M H locs → lv_has ls 6 [(0, .ref h), (1, .int v1), (2, .int v2), (4, .int v4)] → fm_bound_b76 Q k5 v1 v2 v4 s0 M → W p l e (headSpec wsX11_bound rmX11_bound).room s m args below meth c H locs 0 0 (MQ below (va_Qi Q (rB D kA h ad A) A) args s 0 0 A) (F0 m 76 ls [.int s0]) := by
    intro k5 hk5 v1 v2 v4 s0 M H locs ls hH hl hw
    unfold fm_bound_b76 at hw
    refine lv_istore_n (lv' := [(3, .int s0), (0, .ref h), (1, .int v1), (2, .int v2), (4, .int v4)]) hx hb dX11_bound_76 rfl hl (by decide) rfl (fun ls hl => ?_)
    obtain ⟨x1, ex1⟩ : ∃ y : Int32, y = v4 + 1 := ⟨_, rfl⟩
    replace hw := hw x1 ex1
    refine lv_iinc (v := x1) (lv' := [(4, .int x1), (3, .int s0), (0, .ref h), (1, .int v1), (2, .int v2)]) hx hb dX11_bound_77 hl (k := 4) rfl (by rw [ex1]; rfl) (by decide) rfl (fun ls hl => ?_)
    refine lv_goto (tgt := 5) hx hb dX11_bound_80 (by decide) ?_
    exact hk5 v1 v2 s0 x1 M H locs ls hH (lv_sub hl [2, 3, 4, 1, 0] rfl) hw
  have b75 : ∀ (k5 : Int32 → Int32 → Int32 → Int32 → RM → Prop) (hk5 : ∀ (v1 : Int32) (v2 : Int32) (v3 : Int32) (v4 : Int32) (M : RM) (H : Heap) (locs : List Loc) (ls : Array Slot), rH D kA h ad A s.heap M H locs → lv_has ls 6 [(0, .ref h), (1, .int v1), (2, .int v2), (3, .int v3), (4, .int v4)] → k5 v1 v2 v3 v4 M → W p l e (headSpec wsX11_bound rmX11_bound).room s m args below meth c H locs 0 0 (MQ below (va_Qi Q (rB D kA h ad A) A) args s 0 0 A) (F0 m 5 ls [])) (v1 : Int32) (v2 : Int32) (v3 : Int32) (v4 : Int32) (M : RM) (H : Heap) (locs : List Loc) (ls : Array Slot), rH D kA h ad A s.heap M H locs → lv_has ls 6 [(0, .ref h), (1, .int v1), (2, .int v2), (3, .int v3), (4, .int v4)] → fm_bound_b75 Q k5 v1 v2 v3 v4 M → W p l e (headSpec wsX11_bound rmX11_bound).room s m args below meth c H locs 0 0 (MQ below (va_Qi Q (rB D kA h ad A) A) args s 0 0 A) (F0 m 75 ls []) := by
    intro k5 hk5 v1 v2 v3 v4 M H locs ls hH hl hw
    unfold fm_bound_b75 at hw
    refine lv_iload_n hx hb dX11_bound_75 rfl (lv_at hl 3 rfl) ?_
    exact b76 _ hk5 v1 v2 v4 v3 M H locs ls hH (lv_sub hl [0, 1, 2, 4] rfl) hw
  have b70 : ∀ (k5 : Int32 → Int32 → Int32 → Int32 → RM → Prop) (hk5 : ∀ (v1 : Int32) (v2 : Int32) (v3 : Int32) (v4 : Int32) (M : RM) (H : Heap) (locs : List Loc) (ls : Array Slot), rH D kA h ad A s.heap M H locs → lv_has ls 6 [(0, .ref h), (1, .int v1), (2, .int v2), (3, .int v3), (4, .int v4)] → k5 v1 v2 v3 v4 M → W p l e (headSpec wsX11_bound rmX11_bound).room s m args below meth c H locs 0 0 (MQ below (va_Qi Q (rB D kA h ad A) A) args s 0 0 A) (F0 m 5 ls [])) (v1 : Int32) (v2 : Int32) (v4 : Int32) (v5 : Int32) (M : RM) (H : Heap) (locs : List Loc) (ls : Array Slot), rH D kA h ad A s.heap M H locs → lv_has ls 6 [(0, .ref h), (1, .int v1), (2, .int v2), (4, .int v4), (5, .int v5)] → fm_bound_b70 Q k5 v1 v2 v4 v5 M → W p l e (headSpec wsX11_bound rmX11_bound).room s m args below meth c H locs 0 0 (MQ below (va_Qi Q (rB D kA h ad A) A) args s 0 0 A) (F0 m 70 ls []) := by
    intro k5 hk5 v1 v2 v4 v5 M H locs ls hH hl hw
    unfold fm_bound_b70 at hw
    refine lv_iload hx hb dX11_bound_70 (lv_at hl 4 rfl) ?_
    refine lv_goto (tgt := 76) hx hb dX11_bound_72 (by decide) ?_
    exact b76 _ hk5 v1 v2 v4 v5 M H locs ls hH (lv_sub hl [0, 1, 2, 3] rfl) hw
  have b45 : ∀ (k5 : Int32 → Int32 → Int32 → Int32 → RM → Prop) (hk5 : ∀ (v1 : Int32) (v2 : Int32) (v3 : Int32) (v4 : Int32) (M : RM) (H : Heap) (locs : List Loc) (ls : Array Slot), rH D kA h ad A s.heap M H locs → lv_has ls 6 [(0, .ref h), (1, .int v1), (2, .int v2), (3, .int v3), (4, .int v4)] → k5 v1 v2 v3 v4 M → W p l e (headSpec wsX11_bound rmX11_bound).room s m args below meth c H locs 0 0 (MQ below (va_Qi Q (rB D kA h ad A) A) args s 0 0 A) (F0 m 5 ls [])) (v1 : Int32) (v2 : Int32) (v3 : Int32) (v4 : Int32) (s0 : Int32) (M : RM) (H : Heap) (locs : List Loc) (ls : Array Slot), rH D kA h ad A s.heap M H locs → lv_has ls 6 [(0, .ref h), (1, .int v1), (2, .int v2), (3, .int v3), (4, .int v4)] → fm_bound_b45 Q k5 v1 v2 v3 v4 s0 M → W p l e (headSpec wsX11_bound rmX11_bound).room s m args below meth c H locs 0 0 (MQ below (va_Qi Q (rB D kA h ad A) A) args s 0 0 A) (F0 m 45 ls [.int s0]) := by
    intro k5 hk5 v1 v2 v3 v4 s0 M H locs ls hH hl hw
    unfold fm_bound_b45 at hw
    refine lv_istore (lv' := [(5, .int s0), (0, .ref h), (1, .int v1), (2, .int v2), (3, .int v3), (4, .int v4)]) hx hb dX11_bound_45 hl (by decide) rfl (fun ls hl => ?_)
    refine lv_iload_n hx hb dX11_bound_47 rfl (lv_at hl 4 rfl) ?_
    refine lv_if_lt (tgt := 70) hx hb dX11_bound_48 (by decide) (fun c2 => ?_) (fun c2 => ?_)
    · replace hw := hw.1 c2
      exact b70 _ hk5 v1 v2 v4 s0 M H locs ls hH (lv_sub hl [1, 2, 3, 5, 0] rfl) hw
    · replace hw := hw.2 c2
      refine lv_iload_n hx hb dX11_bound_51 rfl (lv_at hl 3 rfl) ?_
      refine lv_if_eq (tgt := 64) hx hb dX11_bound_52 (by decide) (fun c3 => ?_) (fun c3 => ?_)
      · replace hw := hw.1 c3
        refine lv_iload hx hb dX11_bound_64 (lv_at hl 0 rfl) ?_
        refine lv_iload_n hx hb dX11_bound_66 rfl (lv_at hl 4 rfl) ?_
        refine lv_icmp_ge (tgt := 75) hx hb dX11_bound_67 (by decide) (fun c4 => ?_) (fun c4 => ?_)
        · replace hw := hw.1 c4
          exact b75 _ hk5 v1 v2 v3 v4 M H locs ls hH (lv_sub hl [1, 2, 3, 4, 5] rfl) hw
        · replace hw := hw.2 c4
          exact b70 _ hk5 v1 v2 v4 s0 M H locs ls hH (lv_sub hl [1, 2, 3, 5, 0] rfl) hw
      · replace hw := hw.2 c3
        refine lv_iload hx hb dX11_bound_55 (lv_at hl 0 rfl) ?_
        refine lv_iload_n hx hb dX11_bound_57 rfl (lv_at hl 4 rfl) ?_
        refine lv_icmp_le (tgt := 75) hx hb dX11_bound_58 (by decide) (fun c5 => ?_) (fun c5 => ?_)
        · replace hw := hw.1 c5
          exact b75 _ hk5 v1 v2 v3 v4 M H locs ls hH (lv_sub hl [1, 2, 3, 4, 5] rfl) hw
        · replace hw := hw.2 c5
          refine lv_goto (tgt := 70) hx hb dX11_bound_61 (by decide) ?_
          exact b70 _ hk5 v1 v2 v4 s0 M H locs ls hH (lv_sub hl [1, 2, 3, 5, 0] rfl) hw
  have l5 : ∀ (nn : Nat) (v1 : Int32) (v2 : Int32) (v3 : Int32) (v4 : Int32) (M : RM) (H : Heap) (locs : List Loc) (ls : Array Slot), rH D kA h ad A s.heap M H locs → lv_has ls 6 [(0, .ref h), (1, .int v1), (2, .int v2), (3, .int v3), (4, .int v4)] → fm_bound_l5 Q  nn v1 v2 v3 v4 M → W p l e (headSpec wsX11_bound rmX11_bound).room s m args below meth c H locs 0 0 (MQ below (va_Qi Q (rB D kA h ad A) A) args s 0 0 A) (F0 m 5 ls []) := by
    intro   nn
    induction nn with
    | zero => intro v1 v2 v3 v4 M H locs ls hH hl hw; exact False.elim hw
    | succ nn hk5 =>
      intro v1 v2 v3 v4 M H locs ls hH hl hw
      replace hw : fm_bound_c5 Q  (fm_bound_l5 Q  nn) v1 v2 v3 v4 M := hw
      unfold fm_bound_c5 at hw
      refine lv_iload hx hb dX11_bound_5 (lv_at hl 4 rfl) ?_
      refine lv_aload_n hx hb dX11_bound_7 rfl (lv_at hl 0 rfl) ?_
      refine rg_4 hx hb hts hin hown hK hH (hts (.fieldLink RX11 17 "IdlCallerModel" "forms" "[I") (by decide +kernel)) dX11_bound_8 ?_
      refine lv_iload_n hx hb dX11_bound_11 rfl (lv_at hl 1 rfl) ?_
      obtain ⟨h6, hw⟩ := hw
      refine rl_4 hx hb hK hH h6 dX11_bound_12 ?_
      refine lv_icmp_ge (tgt := 83) hx hb dX11_bound_13 (by decide) (fun c7 => ?_) (fun c7 => ?_)
      · replace hw := hw.1 c7
        refine lv_iload_n hx hb dX11_bound_83 rfl (lv_at hl 3 rfl) ?_
        exact r_reti hx hb hr hlocks hK hH hw dX11_bound_84
      · replace hw := hw.2 c7
        refine lv_iload_n hx hb dX11_bound_16 rfl (lv_at hl 2 rfl) ?_
        refine lv_if_eq (tgt := 34) hx hb dX11_bound_17 (by decide) (fun c8 => ?_) (fun c8 => ?_)
        · replace hw := hw.1 c8
          refine lv_aload_n hx hb dX11_bound_34 rfl (lv_at hl 0 rfl) ?_
          refine lv_bipush (v := 6) hx hb dX11_bound_35 (by decide) ?_
          refine lv_iload_n hx hb dX11_bound_37 rfl (lv_at hl 1 rfl) ?_
          refine lv_imul hx hb dX11_bound_38 ?_
          refine lv_iload hx hb dX11_bound_39 (lv_at hl 4 rfl) ?_
          refine lv_iadd hx hb dX11_bound_41 ?_
          refine r_calli (va_runV (As := [.int ((6 * v1) + v4)]) (rest := []) ⟨hx, hb, hml, hown, hts⟩ (tm_least l D kA h ad H.size M ((6 * v1) + v4) _ hw) (cwV 1 hts gX11_bound_X11_least rfl rfl rfl (by decide +kernel) ⟨Nat.le_of_ble_eq_true rfl, Nat.le_of_ble_eq_true rfl⟩) (r_preV hK hH) rfl rfl hl.1 rfl (lv_room (Nat.le_of_ble_eq_true rfl)) dX11_bound_42 ⟨Nat.le_of_ble_eq_true rfl, Nat.le_of_ble_eq_true rfl⟩) hH hA (fun r10 M9 H locs hw hH => ?_)
          exact b45 _ hk5 v1 v2 v3 v4 r10 M9 H locs ls hH (lv_sub hl [0, 1, 2, 3, 4] rfl) hw
        · replace hw := hw.2 c8
          refine lv_aload_n hx hb dX11_bound_20 rfl (lv_at hl 0 rfl) ?_
          refine lv_bipush (v := 6) hx hb dX11_bound_21 (by decide) ?_
          refine lv_iload_n hx hb dX11_bound_23 rfl (lv_at hl 1 rfl) ?_
          refine lv_imul hx hb dX11_bound_24 ?_
          refine lv_iload hx hb dX11_bound_25 (lv_at hl 4 rfl) ?_
          refine lv_iadd hx hb dX11_bound_27 ?_
          refine r_calli (va_runV (As := [.int ((6 * v1) + v4)]) (rest := []) ⟨hx, hb, hml, hown, hts⟩ (tm_most l D kA h ad H.size M ((6 * v1) + v4) _ hw) (cwV 1 hts gX11_bound_X11_most rfl rfl rfl (by decide +kernel) ⟨Nat.le_of_ble_eq_true rfl, Nat.le_of_ble_eq_true rfl⟩) (r_preV hK hH) rfl rfl hl.1 rfl (lv_room (Nat.le_of_ble_eq_true rfl)) dX11_bound_28 ⟨Nat.le_of_ble_eq_true rfl, Nat.le_of_ble_eq_true rfl⟩) hH hA (fun r12 M11 H locs hw hH => ?_)
          refine lv_goto (tgt := 45) hx hb dX11_bound_31 (by decide) ?_
          exact b45 _ hk5 v1 v2 v3 v4 r12 M11 H locs ls hH (lv_sub hl [0, 1, 2, 3, 4] rfl) hw
  clear hP hD0
  unfold fm_bound at hw
  have hst : ∀ (M : RM) (H : Heap) (locs : List Loc) (ls : Array Slot), rH D kA h ad A s.heap M H locs → lv_has ls 6 [(0, .ref h), (1, .int a1), (2, .int a2)] → (∀ x13 : Int32, x13 = (-1) → (∃ nn : Nat, fm_bound_l5 Q  nn a1 a2 x13 0 M)) → W p l e (headSpec wsX11_bound rmX11_bound).room s m args below meth c H locs 0 0 (MQ below (va_Qi Q (rB D kA h ad A) A) args s 0 0 A) (F0 m 0 ls []) := by
    intro M H locs ls hH hl hw
    refine lv_iconst (v := (-1)) hx hb dX11_bound_0 (by decide) ?_
    refine lv_topi (fun x13 ex13 => ?_)
    replace hw := hw x13 ex13
    refine lv_istore_n (lv' := [(3, .int x13), (0, .ref h), (1, .int a1), (2, .int a2)]) hx hb dX11_bound_1 rfl hl (by decide) rfl (fun ls hl => ?_)
    refine lv_iconst (v := 0) hx hb dX11_bound_2 (by decide) ?_
    refine lv_istore (lv' := [(4, .int 0), (3, .int x13), (0, .ref h), (1, .int a1), (2, .int a2)]) hx hb dX11_bound_3 hl (by decide) rfl (fun ls hl => ?_)
    obtain ⟨nn, hw⟩ := hw
    exact l5   nn a1 a2 x13 0 M H locs ls hH (lv_sub hl [2, 3, 4, 1, 0] rfl) hw
  exact hst M s.heap [] ls hH hl hw
def fm_formWith_b130 (Q : Int32 → RM → Prop) (k3 : Int32 → Int32 → Int32 → Int32 → Int32 → RM → Prop) (v1 : Int32) (v2 : Int32) (v3 : Int32) (v4 : Int32) (v5 : Int32) (M : RM) : Prop := (∀ x1 : Int32, x1 = v5 + 1 → k3 v1 v2 v3 v4 x1 M)
def fm_formWith_b120 (Q : Int32 → RM → Prop) (k3 : Int32 → Int32 → Int32 → Int32 → Int32 → RM → Prop) (v1 : Int32) (v2 : Int32) (v3 : Int32) (v4 : Int32) (v5 : Int32) (s0 : Int32) (M : RM) : Prop := ((s0 = 0 → fm_formWith_b130 Q k3 v1 v2 v3 v4 v5 M) ∧ (¬ s0 = 0 → Q v5 M))
def fm_formWith_b70 (Q : Int32 → RM → Prop) (k3 : Int32 → Int32 → Int32 → Int32 → Int32 → RM → Prop) (v1 : Int32) (v2 : Int32) (v3 : Int32) (v4 : Int32) (v5 : Int32) (M : RM) : Prop := fm_formWith_b120 Q k3 v1 v2 v3 v4 v5 1 M
def fm_formWith_c3 (Q : Int32 → RM → Prop) (k3 : Int32 → Int32 → Int32 → Int32 → Int32 → RM → Prop) (v1 : Int32) (v2 : Int32) (v3 : Int32) (v4 : Int32) (v5 : Int32) (M : RM) : Prop := (vp_in v1 6 ∧ (((rA M 4 v1.toNatClampNeg) ≤ v5 → Q (-1) M) ∧ (¬ (rA M 4 v1.toNatClampNeg) ≤ v5 → (∀ x5 : Int32, x5 = (6 * v1) + v5 → fm_takesMany x5 v2 M (fun (r7 : Int32) (M6 : RM) => ((¬ r7 = 0 → fm_argumentOf x5 v3 M6 (fun (r10 : Int32) (M9 : RM) => ((¬ v4 = 0 → ((¬ v4 = 1 → (vp_in (2 * r10) 370 ∧ fm_family (rA M9 8 (2 * r10).toNatClampNeg) M9 (fun (r15 : Int32) (M14 : RM) => ((¬ r15 = (v4 - 2) → fm_formWith_b120 Q k3 v1 v2 v3 v4 v5 0 M14) ∧ (r15 = (v4 - 2) → fm_formWith_b120 Q k3 v1 v2 v3 v4 v5 1 M14))))) ∧ (v4 = 1 → (vp_in (2 * r10) 370 ∧ fm_formWith_b120 Q k3 v1 v2 v3 v4 v5 (rA M9 10 (2 * r10).toNatClampNeg) M9)))) ∧ (v4 = 0 → (vp_in r10 185 ∧ ((¬ (rA M9 6 r10.toNatClampNeg) = 0 → fm_formWith_b70 Q k3 v1 v2 v3 v4 v5 M9) ∧ ((rA M9 6 r10.toNatClampNeg) = 0 → (vp_in r10 185 ∧ (((rA M9 7 r10.toNatClampNeg) = 0 → fm_formWith_b120 Q k3 v1 v2 v3 v4 v5 0 M9) ∧ (¬ (rA M9 7 r10.toNatClampNeg) = 0 → fm_formWith_b70 Q k3 v1 v2 v3 v4 v5 M9)))))))))) ∧ (r7 = 0 → fm_formWith_b130 Q k3 v1 v2 v3 v4 v5 M6)))))))
def fm_formWith_l3 (Q : Int32 → RM → Prop) : Nat → Int32 → Int32 → Int32 → Int32 → Int32 → RM → Prop := lit (τ := Int32 → Int32 → Int32 → Int32 → Int32 → RM → Prop) (fun _ _ _ _ _ _ => False) (fun k => fm_formWith_c3 Q  k)
def fm_formWith (a1 : Int32) (a2 : Int32) (a3 : Int32) (a4 : Int32) (M : RM) (Q : Int32 → RM → Prop) : Prop := (∃ nn : Nat, fm_formWith_l3 Q  nn a1 a2 a3 a4 0 M)
abbrev rmX11_formWith : Room := { frames := 2, cells := 0, slots := 0, locals := 44 }
set_option maxHeartbeats 4000000 in
set_option maxRecDepth 100000 in
theorem tm_formWith (l : Launch) (D : va_G) (kA : Nat → ClassId) (h : Nat) (ad : Nat → Nat) (sz : Nat) (M : RM) (a1 : Int32) (a2 : Int32) (a3 : Int32) (a4 : Int32) (Q : Int32 → RM → Prop) (hw : fm_formWith a1 a2 a3 a4 M Q) : Met l yX11_formWith wsX11_formWith rmX11_formWith (va_Pc [.ref h, .int a1, .int a2, .int a3, .int a4] (rPc D kA h ad M sz)) (va_Qi Q (rB D kA h ad (rF kA h ad M sz)) (rF kA h ad M sz)) 0 0 (rF kA h ad M sz) := by
  refine Met.ofW (cc := cX11_formWith) (maxL := 9) (ret := (some .int)) (by decide) rfl ?_
  intro p e s m args below meth c s₁ B hml hv
  obtain ⟨rfl, hsz, hP, hK, hD0⟩ := hv
  have hx := B.exec
  have hb := B.bytes
  have hr := B.returns
  have hts := atoms_spec (ws := wsX11_formWith) B.pre
  have hown : s.vm.findClass RX11 = some m.cls := findClass_of_methodNamed B.named
  have hlocks : meth.locks = false := B.notSynchronized
  subst hsz
  have hH : rH D kA h ad (rF kA h ad M s.heap.size) s.heap M s.heap [] := ⟨hP, hD0.self, va_S.rf⟩
  have hA : ∀ q : Nat, s.heap.size ≤ q → rF kA h ad M s.heap.size q := fun q z => Or.inr z
  generalize rF kA h ad M s.heap.size = A at hH hA ⊢
  have hl := lv_entry ([.ref h, .int a1, .int a2, .int a3, .int a4]) (n := 9) (Nat.le_of_ble_eq_true rfl)
  rw [lg_entry_eq]
  generalize (lg_sl ([.ref h, .int a1, .int a2, .int a3, .int a4]) ++ List.replicate (9 - (lg_sl ([.ref h, .int a1, .int a2, .int a3, .int a4])).length) Slot.unset).toArray = ls at hl ⊢
  generalize ([.ref h, .int a1, .int a2, .int a3, .int a4] : List Value).toArray = args at hts ⊢
  have hl : lv_has ls 9 [(0, .ref h), (1, .int a1), (2, .int a2), (3, .int a3), (4, .int a4)] := hl
  have hin : ∀ w ∈ wsX110, w ∈ wsX11_formWith := by decide +kernel
  have b130 : ∀ (k3 : Int32 → Int32 → Int32 → Int32 → Int32 → RM → Prop) (hk3 : ∀ (v1 : Int32) (v2 : Int32) (v3 : Int32) (v4 : Int32) (v5 : Int32) (M : RM) (H : Heap) (locs : List Loc) (ls : Array Slot), rH D kA h ad A s.heap M H locs → lv_has ls 9 [(0, .ref h), (1, .int v1), (2, .int v2), (3, .int v3), (4, .int v4), (5, .int v5)] → k3 v1 v2 v3 v4 v5 M → W p l e (headSpec wsX11_formWith rmX11_formWith).room s m args below meth c H locs 0 0 (MQ below (va_Qi Q (rB D kA h ad A) A) args s 0 0 A) (F0 m 3 ls [])) (v1 : Int32) (v2 : Int32) (v3 : Int32) (v4 : Int32) (v5 : Int32) (M : RM) (H : Heap) (locs : List Loc) (ls : Array Slot), rH D kA h ad A s.heap M H locs → lv_has ls 9 [(0, .ref h), (1, .int v1), (2, .int v2), (3, .int v3), (4, .int v4), (5, .int v5)] → fm_formWith_b130 Q k3 v1 v2 v3 v4 v5 M → W p l e (headSpec wsX11_formWith rmX11_formWith).room s m args below meth c H locs 0 0 (MQ below (va_Qi Q (rB D kA h ad A) A) args s 0 0 A) (F0 m 130 ls []) := by
    intro k3 hk3 v1 v2 v3 v4 v5 M H locs ls hH hl hw
    unfold fm_formWith_b130 at hw
    obtain ⟨x1, ex1⟩ : ∃ y : Int32, y = v5 + 1 := ⟨_, rfl⟩
    replace hw := hw x1 ex1
    refine lv_iinc (v := x1) (lv' := [(5, .int x1), (0, .ref h), (1, .int v1), (2, .int v2), (3, .int v3), (4, .int v4)]) hx hb dX11_formWith_130 hl (k := 5) rfl (by rw [ex1]; rfl) (by decide) rfl (fun ls hl => ?_)
    refine lv_goto (tgt := 3) hx hb dX11_formWith_133 (by decide) ?_
    exact hk3 v1 v2 v3 v4 x1 M H locs ls hH (lv_sub hl [1, 2, 3, 4, 5, 0] rfl) hw
  have b120 : ∀ (k3 : Int32 → Int32 → Int32 → Int32 → Int32 → RM → Prop) (hk3 : ∀ (v1 : Int32) (v2 : Int32) (v3 : Int32) (v4 : Int32) (v5 : Int32) (M : RM) (H : Heap) (locs : List Loc) (ls : Array Slot), rH D kA h ad A s.heap M H locs → lv_has ls 9 [(0, .ref h), (1, .int v1), (2, .int v2), (3, .int v3), (4, .int v4), (5, .int v5)] → k3 v1 v2 v3 v4 v5 M → W p l e (headSpec wsX11_formWith rmX11_formWith).room s m args below meth c H locs 0 0 (MQ below (va_Qi Q (rB D kA h ad A) A) args s 0 0 A) (F0 m 3 ls [])) (v1 : Int32) (v2 : Int32) (v3 : Int32) (v4 : Int32) (v5 : Int32) (s0 : Int32) (M : RM) (H : Heap) (locs : List Loc) (ls : Array Slot), rH D kA h ad A s.heap M H locs → lv_has ls 9 [(0, .ref h), (1, .int v1), (2, .int v2), (3, .int v3), (4, .int v4), (5, .int v5)] → fm_formWith_b120 Q k3 v1 v2 v3 v4 v5 s0 M → W p l e (headSpec wsX11_formWith rmX11_formWith).room s m args below meth c H locs 0 0 (MQ below (va_Qi Q (rB D kA h ad A) A) args s 0 0 A) (F0 m 120 ls [.int s0]) := by
    intro k3 hk3 v1 v2 v3 v4 v5 s0 M H locs ls hH hl hw
    unfold fm_formWith_b120 at hw
    refine lv_istore (lv' := [(8, .int s0), (0, .ref h), (1, .int v1), (2, .int v2), (3, .int v3), (4, .int v4), (5, .int v5)]) hx hb dX11_formWith_120 hl (by decide) rfl (fun ls hl => ?_)
    refine lv_iload hx hb dX11_formWith_122 (lv_at hl 0 rfl) ?_
    refine lv_if_eq (tgt := 130) hx hb dX11_formWith_124 (by decide) (fun c2 => ?_) (fun c2 => ?_)
    · replace hw := hw.1 c2
      exact b130 _ hk3 v1 v2 v3 v4 v5 M H locs ls hH (lv_sub hl [1, 2, 3, 4, 5, 6] rfl) hw
    · replace hw := hw.2 c2
      refine lv_iload hx hb dX11_formWith_127 (lv_at hl 6 rfl) ?_
      exact r_reti hx hb hr hlocks hK hH hw dX11_formWith_129
  have b70 : ∀ (k3 : Int32 → Int32 → Int32 → Int32 → Int32 → RM → Prop) (hk3 : ∀ (v1 : Int32) (v2 : Int32) (v3 : Int32) (v4 : Int32) (v5 : Int32) (M : RM) (H : Heap) (locs : List Loc) (ls : Array Slot), rH D kA h ad A s.heap M H locs → lv_has ls 9 [(0, .ref h), (1, .int v1), (2, .int v2), (3, .int v3), (4, .int v4), (5, .int v5)] → k3 v1 v2 v3 v4 v5 M → W p l e (headSpec wsX11_formWith rmX11_formWith).room s m args below meth c H locs 0 0 (MQ below (va_Qi Q (rB D kA h ad A) A) args s 0 0 A) (F0 m 3 ls [])) (v1 : Int32) (v2 : Int32) (v3 : Int32) (v4 : Int32) (v5 : Int32) (M : RM) (H : Heap) (locs : List Loc) (ls : Array Slot), rH D kA h ad A s.heap M H locs → lv_has ls 9 [(0, .ref h), (1, .int v1), (2, .int v2), (3, .int v3), (4, .int v4), (5, .int v5)] → fm_formWith_b70 Q k3 v1 v2 v3 v4 v5 M → W p l e (headSpec wsX11_formWith rmX11_formWith).room s m args below meth c H locs 0 0 (MQ below (va_Qi Q (rB D kA h ad A) A) args s 0 0 A) (F0 m 70 ls []) := by
    intro k3 hk3 v1 v2 v3 v4 v5 M H locs ls hH hl hw
    unfold fm_formWith_b70 at hw
    refine lv_iconst (v := 1) hx hb dX11_formWith_70 (by decide) ?_
    refine lv_goto (tgt := 120) hx hb dX11_formWith_71 (by decide) ?_
    exact b120 _ hk3 v1 v2 v3 v4 v5 1 M H locs ls hH (lv_sub hl [0, 1, 2, 3, 4, 5] rfl) hw
  have l3 : ∀ (nn : Nat) (v1 : Int32) (v2 : Int32) (v3 : Int32) (v4 : Int32) (v5 : Int32) (M : RM) (H : Heap) (locs : List Loc) (ls : Array Slot), rH D kA h ad A s.heap M H locs → lv_has ls 9 [(0, .ref h), (1, .int v1), (2, .int v2), (3, .int v3), (4, .int v4), (5, .int v5)] → fm_formWith_l3 Q  nn v1 v2 v3 v4 v5 M → W p l e (headSpec wsX11_formWith rmX11_formWith).room s m args below meth c H locs 0 0 (MQ below (va_Qi Q (rB D kA h ad A) A) args s 0 0 A) (F0 m 3 ls []) := by
    intro   nn
    induction nn with
    | zero => intro v1 v2 v3 v4 v5 M H locs ls hH hl hw; exact False.elim hw
    | succ nn hk3 =>
      intro v1 v2 v3 v4 v5 M H locs ls hH hl hw
      replace hw : fm_formWith_c3 Q  (fm_formWith_l3 Q  nn) v1 v2 v3 v4 v5 M := hw
      unfold fm_formWith_c3 at hw
      refine lv_iload hx hb dX11_formWith_3 (lv_at hl 5 rfl) ?_
      refine lv_aload_n hx hb dX11_formWith_5 rfl (lv_at hl 0 rfl) ?_
      refine rg_4 hx hb hts hin hown hK hH (hts (.fieldLink RX11 17 "IdlCallerModel" "forms" "[I") (by decide +kernel)) dX11_formWith_6 ?_
      refine lv_iload_n hx hb dX11_formWith_9 rfl (lv_at hl 1 rfl) ?_
      obtain ⟨h3, hw⟩ := hw
      refine rl_4 hx hb hK hH h3 dX11_formWith_10 ?_
      refine lv_icmp_ge (tgt := 136) hx hb dX11_formWith_11 (by decide) (fun c4 => ?_) (fun c4 => ?_)
      · replace hw := hw.1 c4
        refine lv_iconst (v := (-1)) hx hb dX11_formWith_136 (by decide) ?_
        exact r_reti hx hb hr hlocks hK hH hw dX11_formWith_137
      · replace hw := hw.2 c4
        refine lv_bipush (v := 6) hx hb dX11_formWith_14 (by decide) ?_
        refine lv_iload_n hx hb dX11_formWith_16 rfl (lv_at hl 1 rfl) ?_
        refine lv_imul hx hb dX11_formWith_17 ?_
        refine lv_iload hx hb dX11_formWith_18 (lv_at hl 5 rfl) ?_
        refine lv_iadd hx hb dX11_formWith_20 ?_
        refine lv_topi (fun x5 ex5 => ?_)
        replace hw := hw x5 ex5
        refine lv_istore (lv' := [(6, .int x5), (0, .ref h), (1, .int v1), (2, .int v2), (3, .int v3), (4, .int v4), (5, .int v5)]) hx hb dX11_formWith_21 hl (by decide) rfl (fun ls hl => ?_)
        refine lv_aload_n hx hb dX11_formWith_23 rfl (lv_at hl 1 rfl) ?_
        refine lv_iload hx hb dX11_formWith_24 (lv_at hl 0 rfl) ?_
        refine lv_iload_n hx hb dX11_formWith_26 rfl (lv_at hl 3 rfl) ?_
        refine r_calli (va_runV (As := [.int x5, .int v2]) (rest := []) ⟨hx, hb, hml, hown, hts⟩ (tm_takesMany l D kA h ad H.size M x5 v2 _ hw) (cwV 2 hts gX11_formWith_X11_takesMany rfl rfl rfl (by decide +kernel) ⟨Nat.le_of_ble_eq_true rfl, Nat.le_of_ble_eq_true rfl⟩) (r_preV hK hH) rfl rfl hl.1 rfl (lv_room (Nat.le_of_ble_eq_true rfl)) dX11_formWith_27 ⟨Nat.le_of_ble_eq_true rfl, Nat.le_of_ble_eq_true rfl⟩) hH hA (fun r7 M6 H locs hw hH => ?_)
        refine lv_if_ne (tgt := 36) hx hb dX11_formWith_30 (by decide) (fun c8 => ?_) (fun c8 => ?_)
        · replace hw := hw.1 c8
          refine lv_aload_n hx hb dX11_formWith_36 rfl (lv_at hl 1 rfl) ?_
          refine lv_iload hx hb dX11_formWith_37 (lv_at hl 0 rfl) ?_
          refine lv_iload_n hx hb dX11_formWith_39 rfl (lv_at hl 4 rfl) ?_
          refine r_calli (va_runV (As := [.int x5, .int v3]) (rest := []) ⟨hx, hb, hml, hown, hts⟩ (tm_argumentOf l D kA h ad H.size M6 x5 v3 _ hw) (cwV 2 hts gX11_formWith_X11_argumentOf rfl rfl rfl (by decide +kernel) ⟨Nat.le_of_ble_eq_true rfl, Nat.le_of_ble_eq_true rfl⟩) (r_preV hK hH) rfl rfl hl.1 rfl (lv_room (Nat.le_of_ble_eq_true rfl)) dX11_formWith_40 ⟨Nat.le_of_ble_eq_true rfl, Nat.le_of_ble_eq_true rfl⟩) hH hA (fun r10 M9 H locs hw hH => ?_)
          refine lv_istore (lv' := [(7, .int r10), (6, .int x5), (0, .ref h), (1, .int v1), (2, .int v2), (3, .int v3), (4, .int v4), (5, .int v5)]) hx hb dX11_formWith_43 hl (by decide) rfl (fun ls hl => ?_)
          refine lv_iload hx hb dX11_formWith_45 (lv_at hl 6 rfl) ?_
          refine lv_if_ne (tgt := 78) hx hb dX11_formWith_47 (by decide) (fun c11 => ?_) (fun c11 => ?_)
          · replace hw := hw.1 c11
            refine lv_iload hx hb dX11_formWith_78 (lv_at hl 6 rfl) ?_
            refine lv_iconst (v := 1) hx hb dX11_formWith_80 (by decide) ?_
            refine lv_icmp_ne (tgt := 96) hx hb dX11_formWith_81 (by decide) (fun c12 => ?_) (fun c12 => ?_)
            · replace hw := hw.1 c12
              refine lv_aload_n hx hb dX11_formWith_96 rfl (lv_at hl 2 rfl) ?_
              refine rg_8 hx hb hts hin hown hK hH (hts (.fieldLink RX11 31 "IdlCallerModel" "sort" "[I") (by decide +kernel)) dX11_formWith_97 ?_
              refine lv_iconst (v := 2) hx hb dX11_formWith_100 (by decide) ?_
              refine lv_iload hx hb dX11_formWith_101 (lv_at hl 0 rfl) ?_
              refine lv_imul hx hb dX11_formWith_103 ?_
              obtain ⟨h13, hw⟩ := hw
              refine rl_8 hx hb hK hH h13 dX11_formWith_104 ?_
              refine r_calli (va_runS (As := [.int (rA M9 8 (2 * r10).toNatClampNeg)]) (rest := []) ⟨hx, hb, hml, hown, hts⟩ (tm_family l D kA h ad H.size M9 (rA M9 8 (2 * r10).toNatClampNeg) _ hw) (va_cwS 1 hts gX11_formWith_X11_family rfl rfl rfl (by decide +kernel) ⟨Nat.le_of_ble_eq_true rfl, Nat.le_of_ble_eq_true rfl⟩) (r_preS hK hH) rfl rfl hl.1 rfl (lv_room (Nat.le_of_ble_eq_true rfl)) dX11_formWith_105 ⟨Nat.le_of_ble_eq_true rfl, Nat.le_of_ble_eq_true rfl⟩) hH hA (fun r15 M14 H locs hw hH => ?_)
              refine lv_iload hx hb dX11_formWith_108 (lv_at hl 6 rfl) ?_
              refine lv_iconst (v := 2) hx hb dX11_formWith_110 (by decide) ?_
              refine lv_isub hx hb dX11_formWith_111 ?_
              refine lv_icmp_ne (tgt := 119) hx hb dX11_formWith_112 (by decide) (fun c16 => ?_) (fun c16 => ?_)
              · replace hw := hw.1 c16
                refine lv_iconst (v := 0) hx hb dX11_formWith_119 (by decide) ?_
                exact b120 _ hk3 v1 v2 v3 v4 v5 0 M14 H locs ls hH (lv_sub hl [2, 3, 4, 5, 6, 7] rfl) hw
              · replace hw := hw.2 c16
                refine lv_iconst (v := 1) hx hb dX11_formWith_115 (by decide) ?_
                refine lv_goto (tgt := 120) hx hb dX11_formWith_116 (by decide) ?_
                exact b120 _ hk3 v1 v2 v3 v4 v5 1 M14 H locs ls hH (lv_sub hl [2, 3, 4, 5, 6, 7] rfl) hw
            · replace hw := hw.2 c12
              refine lv_aload_n hx hb dX11_formWith_84 rfl (lv_at hl 2 rfl) ?_
              refine rg_10 hx hb hts hin hown hK hH (hts (.fieldLink RX11 37 "IdlCallerModel" "isNullable" "[Z") (by decide +kernel)) dX11_formWith_85 ?_
              refine lv_iconst (v := 2) hx hb dX11_formWith_88 (by decide) ?_
              refine lv_iload hx hb dX11_formWith_89 (lv_at hl 0 rfl) ?_
              refine lv_imul hx hb dX11_formWith_91 ?_
              obtain ⟨h17, hw⟩ := hw
              refine rl_10 hx hb hK hH h17 dX11_formWith_92 ?_
              refine lv_goto (tgt := 120) hx hb dX11_formWith_93 (by decide) ?_
              exact b120 _ hk3 v1 v2 v3 v4 v5 (rA M9 10 (2 * r10).toNatClampNeg) M9 H locs ls hH (lv_sub hl [2, 3, 4, 5, 6, 7] rfl) hw
          · replace hw := hw.2 c11
            refine lv_aload_n hx hb dX11_formWith_50 rfl (lv_at hl 2 rfl) ?_
            refine rg_6 hx hb hts hin hown hK hH (hts (.fieldLink RX11 24 "IdlCallerModel" "isOptional" "[Z") (by decide +kernel)) dX11_formWith_51 ?_
            refine lv_iload hx hb dX11_formWith_54 (lv_at hl 0 rfl) ?_
            obtain ⟨h18, hw⟩ := hw
            refine rl_6 hx hb hK hH h18 dX11_formWith_56 ?_
            refine lv_if_ne (tgt := 70) hx hb dX11_formWith_57 (by decide) (fun c19 => ?_) (fun c19 => ?_)
            · replace hw := hw.1 c19
              exact b70 _ hk3 v1 v2 v3 v4 v5 M9 H locs ls hH (lv_sub hl [2, 3, 4, 5, 6, 7] rfl) hw
            · replace hw := hw.2 c19
              refine lv_aload_n hx hb dX11_formWith_60 rfl (lv_at hl 2 rfl) ?_
              refine rg_7 hx hb hts hin hown hK hH (hts (.fieldLink RX11 28 "IdlCallerModel" "isVariadic" "[Z") (by decide +kernel)) dX11_formWith_61 ?_
              refine lv_iload hx hb dX11_formWith_64 (lv_at hl 0 rfl) ?_
              obtain ⟨h20, hw⟩ := hw
              refine rl_7 hx hb hK hH h20 dX11_formWith_66 ?_
              refine lv_if_eq (tgt := 74) hx hb dX11_formWith_67 (by decide) (fun c21 => ?_) (fun c21 => ?_)
              · replace hw := hw.1 c21
                refine lv_iconst (v := 0) hx hb dX11_formWith_74 (by decide) ?_
                refine lv_goto (tgt := 120) hx hb dX11_formWith_75 (by decide) ?_
                exact b120 _ hk3 v1 v2 v3 v4 v5 0 M9 H locs ls hH (lv_sub hl [2, 3, 4, 5, 6, 7] rfl) hw
              · replace hw := hw.2 c21
                exact b70 _ hk3 v1 v2 v3 v4 v5 M9 H locs ls hH (lv_sub hl [2, 3, 4, 5, 6, 7] rfl) hw
        · replace hw := hw.2 c8
          refine lv_goto (tgt := 130) hx hb dX11_formWith_33 (by decide) ?_
          exact b130 _ hk3 v1 v2 v3 v4 v5 M6 H locs ls hH (lv_sub hl [1, 2, 3, 4, 5, 6] rfl) hw
  clear hP hD0
  unfold fm_formWith at hw
  have hst : ∀ (M : RM) (H : Heap) (locs : List Loc) (ls : Array Slot), rH D kA h ad A s.heap M H locs → lv_has ls 9 [(0, .ref h), (1, .int a1), (2, .int a2), (3, .int a3), (4, .int a4)] → (∃ nn : Nat, fm_formWith_l3 Q  nn a1 a2 a3 a4 0 M) → W p l e (headSpec wsX11_formWith rmX11_formWith).room s m args below meth c H locs 0 0 (MQ below (va_Qi Q (rB D kA h ad A) A) args s 0 0 A) (F0 m 0 ls []) := by
    intro M H locs ls hH hl hw
    refine lv_iconst (v := 0) hx hb dX11_formWith_0 (by decide) ?_
    refine lv_istore (lv' := [(5, .int 0), (0, .ref h), (1, .int a1), (2, .int a2), (3, .int a3), (4, .int a4)]) hx hb dX11_formWith_1 hl (by decide) rfl (fun ls hl => ?_)
    obtain ⟨nn, hw⟩ := hw
    exact l3   nn a1 a2 a3 a4 0 M H locs ls hH (lv_sub hl [1, 2, 3, 4, 5, 0] rfl) hw
  exact hst M s.heap [] ls hH hl hw
def fm_choose_b189 (Q : Int32 → RM → Prop) (s0 : Int32) (M : RM) : Prop := Q s0 M
def fm_choose_b169 (Q : Int32 → RM → Prop) (v1 : Int32) (v2 : Int32) (v3 : Int32) (s0 : Int32) (M : RM) : Prop := ((0 ≤ s0 → fm_choose_b189 Q  s0 M) ∧ (¬ 0 ≤ s0 → fm_formWith v1 v2 v3 2 M (fun (r3 : Int32) (M2 : RM) => fm_choose_b189 Q  r3 M2)))
def fm_choose_b149 (Q : Int32 → RM → Prop) (v1 : Int32) (v2 : Int32) (v3 : Int32) (s0 : Int32) (M : RM) : Prop := ((0 ≤ s0 → fm_choose_b169 Q  v1 v2 v3 s0 M) ∧ (¬ 0 ≤ s0 → fm_formWith v1 v2 v3 3 M (fun (r6 : Int32) (M5 : RM) => fm_choose_b169 Q  v1 v2 v3 r6 M5)))
def fm_choose_b129 (Q : Int32 → RM → Prop) (v1 : Int32) (v2 : Int32) (v3 : Int32) (s0 : Int32) (M : RM) : Prop := ((0 ≤ s0 → fm_choose_b149 Q  v1 v2 v3 s0 M) ∧ (¬ 0 ≤ s0 → fm_formWith v1 v2 v3 4 M (fun (r9 : Int32) (M8 : RM) => fm_choose_b149 Q  v1 v2 v3 r9 M8)))
def fm_choose_b127 (Q : Int32 → RM → Prop) (v1 : Int32) (v2 : Int32) (v3 : Int32) (v5 : Int32) (M : RM) : Prop := fm_choose_b129 Q  v1 v2 v3 v5 M
def fm_choose_b103 (Q : Int32 → RM → Prop) (v1 : Int32) (v2 : Int32) (v3 : Int32) (v4 : Int32) (s0 : Int32) (M : RM) : Prop := ((0 ≤ s0 → fm_choose_b127 Q  v1 v2 v3 s0 M) ∧ (¬ 0 ≤ s0 → ((¬ v4 = 3 → fm_choose_b127 Q  v1 v2 v3 s0 M) ∧ (v4 = 3 → fm_formWith v1 v2 v3 3 M (fun (r13 : Int32) (M12 : RM) => fm_choose_b129 Q  v1 v2 v3 r13 M12)))))
def fm_choose_b101 (Q : Int32 → RM → Prop) (v1 : Int32) (v2 : Int32) (v3 : Int32) (v4 : Int32) (v5 : Int32) (M : RM) : Prop := fm_choose_b103 Q  v1 v2 v3 v4 v5 M
def fm_choose_b77 (Q : Int32 → RM → Prop) (v1 : Int32) (v2 : Int32) (v3 : Int32) (v4 : Int32) (s0 : Int32) (M : RM) : Prop := ((0 ≤ s0 → fm_choose_b101 Q  v1 v2 v3 v4 s0 M) ∧ (¬ 0 ≤ s0 → ((¬ v4 = 2 → fm_choose_b101 Q  v1 v2 v3 v4 s0 M) ∧ (v4 = 2 → fm_formWith v1 v2 v3 2 M (fun (r17 : Int32) (M16 : RM) => fm_choose_b103 Q  v1 v2 v3 v4 r17 M16)))))
def fm_choose_b75 (Q : Int32 → RM → Prop) (v1 : Int32) (v2 : Int32) (v3 : Int32) (v4 : Int32) (v5 : Int32) (M : RM) : Prop := fm_choose_b77 Q  v1 v2 v3 v4 v5 M
def fm_choose_b51 (Q : Int32 → RM → Prop) (v1 : Int32) (v2 : Int32) (v3 : Int32) (v4 : Int32) (s0 : Int32) (M : RM) : Prop := ((0 ≤ s0 → fm_choose_b75 Q  v1 v2 v3 v4 s0 M) ∧ (¬ 0 ≤ s0 → ((¬ v4 = 5 → fm_choose_b75 Q  v1 v2 v3 v4 s0 M) ∧ (v4 = 5 → fm_formWith v1 v2 v3 5 M (fun (r21 : Int32) (M20 : RM) => fm_choose_b77 Q  v1 v2 v3 v4 r21 M20)))))
def fm_choose_b49 (Q : Int32 → RM → Prop) (v1 : Int32) (v2 : Int32) (v3 : Int32) (v4 : Int32) (v5 : Int32) (M : RM) : Prop := fm_choose_b51 Q  v1 v2 v3 v4 v5 M
def fm_choose_b25 (Q : Int32 → RM → Prop) (v1 : Int32) (v2 : Int32) (v3 : Int32) (v4 : Int32) (s0 : Int32) (M : RM) : Prop := ((0 ≤ s0 → fm_choose_b49 Q  v1 v2 v3 v4 s0 M) ∧ (¬ 0 ≤ s0 → ((1 < v4 → fm_choose_b49 Q  v1 v2 v3 v4 s0 M) ∧ (¬ 1 < v4 → fm_formWith v1 v2 v3 1 M (fun (r25 : Int32) (M24 : RM) => fm_choose_b51 Q  v1 v2 v3 v4 r25 M24)))))
def fm_choose (a1 : Int32) (a2 : Int32) (a3 : Int32) (M : RM) (Q : Int32 → RM → Prop) : Prop := (vp_in a3 48 ∧ (∀ x27 : Int32, x27 = rA M 13 a3.toNatClampNeg → ((¬ x27 = 0 → fm_choose_b25 Q  a1 a2 a3 x27 (-1) M) ∧ (x27 = 0 → fm_formWith a1 a2 a3 0 M (fun (r30 : Int32) (M29 : RM) => fm_choose_b25 Q  a1 a2 a3 x27 r30 M29)))))
abbrev rmX11_choose : Room := { frames := 3, cells := 0, slots := 0, locals := 72 }
set_option maxHeartbeats 4000000 in
set_option maxRecDepth 100000 in
theorem tm_choose (l : Launch) (D : va_G) (kA : Nat → ClassId) (h : Nat) (ad : Nat → Nat) (sz : Nat) (M : RM) (a1 : Int32) (a2 : Int32) (a3 : Int32) (Q : Int32 → RM → Prop) (hw : fm_choose a1 a2 a3 M Q) : Met l yX11_choose wsX11_choose rmX11_choose (va_Pc [.ref h, .int a1, .int a2, .int a3] (rPc D kA h ad M sz)) (va_Qi Q (rB D kA h ad (rF kA h ad M sz)) (rF kA h ad M sz)) 0 0 (rF kA h ad M sz) := by
  refine Met.ofW (cc := cX11_choose) (maxL := 6) (ret := (some .int)) (by decide) rfl ?_
  intro p e s m args below meth c s₁ B hml hv
  obtain ⟨rfl, hsz, hP, hK, hD0⟩ := hv
  have hx := B.exec
  have hb := B.bytes
  have hr := B.returns
  have hts := atoms_spec (ws := wsX11_choose) B.pre
  have hown : s.vm.findClass RX11 = some m.cls := findClass_of_methodNamed B.named
  have hlocks : meth.locks = false := B.notSynchronized
  subst hsz
  have hH : rH D kA h ad (rF kA h ad M s.heap.size) s.heap M s.heap [] := ⟨hP, hD0.self, va_S.rf⟩
  have hA : ∀ q : Nat, s.heap.size ≤ q → rF kA h ad M s.heap.size q := fun q z => Or.inr z
  generalize rF kA h ad M s.heap.size = A at hH hA ⊢
  have hl := lv_entry ([.ref h, .int a1, .int a2, .int a3]) (n := 6) (Nat.le_of_ble_eq_true rfl)
  rw [lg_entry_eq]
  generalize (lg_sl ([.ref h, .int a1, .int a2, .int a3]) ++ List.replicate (6 - (lg_sl ([.ref h, .int a1, .int a2, .int a3])).length) Slot.unset).toArray = ls at hl ⊢
  generalize ([.ref h, .int a1, .int a2, .int a3] : List Value).toArray = args at hts ⊢
  have hl : lv_has ls 6 [(0, .ref h), (1, .int a1), (2, .int a2), (3, .int a3)] := hl
  have hin : ∀ w ∈ wsX110, w ∈ wsX11_choose := by decide +kernel
  have b189 : ∀ (s0 : Int32) (M : RM) (H : Heap) (locs : List Loc) (ls : Array Slot), rH D kA h ad A s.heap M H locs → lv_has ls 6 [] → fm_choose_b189 Q  s0 M → W p l e (headSpec wsX11_choose rmX11_choose).room s m args below meth c H locs 0 0 (MQ below (va_Qi Q (rB D kA h ad A) A) args s 0 0 A) (F0 m 189 ls [.int s0]) := by
    intro   s0 M H locs ls hH hl hw
    unfold fm_choose_b189 at hw
    exact r_reti hx hb hr hlocks hK hH hw dX11_choose_189
  have b169 : ∀ (v1 : Int32) (v2 : Int32) (v3 : Int32) (s0 : Int32) (M : RM) (H : Heap) (locs : List Loc) (ls : Array Slot), rH D kA h ad A s.heap M H locs → lv_has ls 6 [(0, .ref h), (1, .int v1), (2, .int v2), (3, .int v3)] → fm_choose_b169 Q  v1 v2 v3 s0 M → W p l e (headSpec wsX11_choose rmX11_choose).room s m args below meth c H locs 0 0 (MQ below (va_Qi Q (rB D kA h ad A) A) args s 0 0 A) (F0 m 169 ls [.int s0]) := by
    intro   v1 v2 v3 s0 M H locs ls hH hl hw
    unfold fm_choose_b169 at hw
    refine lv_istore (lv' := [(5, .int s0), (0, .ref h), (1, .int v1), (2, .int v2), (3, .int v3)]) hx hb dX11_choose_169 hl (by decide) rfl (fun ls hl => ?_)
    refine lv_iload hx hb dX11_choose_171 (lv_at hl 0 rfl) ?_
    refine lv_if_ge (tgt := 187) hx hb dX11_choose_173 (by decide) (fun c1 => ?_) (fun c1 => ?_)
    · replace hw := hw.1 c1
      refine lv_iload hx hb dX11_choose_187 (lv_at hl 0 rfl) ?_
      exact b189   s0 M H locs ls hH (lv_sub hl [] rfl) hw
    · replace hw := hw.2 c1
      refine lv_aload_n hx hb dX11_choose_176 rfl (lv_at hl 1 rfl) ?_
      refine lv_iload_n hx hb dX11_choose_177 rfl (lv_at hl 2 rfl) ?_
      refine lv_iload_n hx hb dX11_choose_178 rfl (lv_at hl 3 rfl) ?_
      refine lv_iload_n hx hb dX11_choose_179 rfl (lv_at hl 4 rfl) ?_
      refine lv_iconst (v := 2) hx hb dX11_choose_180 (by decide) ?_
      refine r_calli (va_runV (As := [.int v1, .int v2, .int v3, .int 2]) (rest := []) ⟨hx, hb, hml, hown, hts⟩ (tm_formWith l D kA h ad H.size M v1 v2 v3 2 _ hw) (cwV 4 hts gX11_choose_X11_formWith rfl rfl rfl (by decide +kernel) ⟨Nat.le_of_ble_eq_true rfl, Nat.le_of_ble_eq_true rfl⟩) (r_preV hK hH) rfl rfl hl.1 rfl (lv_room (Nat.le_of_ble_eq_true rfl)) dX11_choose_181 ⟨Nat.le_of_ble_eq_true rfl, Nat.le_of_ble_eq_true rfl⟩) hH hA (fun r3 M2 H locs hw hH => ?_)
      refine lv_goto (tgt := 189) hx hb dX11_choose_184 (by decide) ?_
      exact b189   r3 M2 H locs ls hH (lv_sub hl [] rfl) hw
  have b149 : ∀ (v1 : Int32) (v2 : Int32) (v3 : Int32) (s0 : Int32) (M : RM) (H : Heap) (locs : List Loc) (ls : Array Slot), rH D kA h ad A s.heap M H locs → lv_has ls 6 [(0, .ref h), (1, .int v1), (2, .int v2), (3, .int v3)] → fm_choose_b149 Q  v1 v2 v3 s0 M → W p l e (headSpec wsX11_choose rmX11_choose).room s m args below meth c H locs 0 0 (MQ below (va_Qi Q (rB D kA h ad A) A) args s 0 0 A) (F0 m 149 ls [.int s0]) := by
    intro   v1 v2 v3 s0 M H locs ls hH hl hw
    unfold fm_choose_b149 at hw
    refine lv_istore (lv' := [(5, .int s0), (0, .ref h), (1, .int v1), (2, .int v2), (3, .int v3)]) hx hb dX11_choose_149 hl (by decide) rfl (fun ls hl => ?_)
    refine lv_iload hx hb dX11_choose_151 (lv_at hl 0 rfl) ?_
    refine lv_if_ge (tgt := 167) hx hb dX11_choose_153 (by decide) (fun c4 => ?_) (fun c4 => ?_)
    · replace hw := hw.1 c4
      refine lv_iload hx hb dX11_choose_167 (lv_at hl 0 rfl) ?_
      exact b169   v1 v2 v3 s0 M H locs ls hH (lv_sub hl [1, 2, 3, 4] rfl) hw
    · replace hw := hw.2 c4
      refine lv_aload_n hx hb dX11_choose_156 rfl (lv_at hl 1 rfl) ?_
      refine lv_iload_n hx hb dX11_choose_157 rfl (lv_at hl 2 rfl) ?_
      refine lv_iload_n hx hb dX11_choose_158 rfl (lv_at hl 3 rfl) ?_
      refine lv_iload_n hx hb dX11_choose_159 rfl (lv_at hl 4 rfl) ?_
      refine lv_iconst (v := 3) hx hb dX11_choose_160 (by decide) ?_
      refine r_calli (va_runV (As := [.int v1, .int v2, .int v3, .int 3]) (rest := []) ⟨hx, hb, hml, hown, hts⟩ (tm_formWith l D kA h ad H.size M v1 v2 v3 3 _ hw) (cwV 4 hts gX11_choose_X11_formWith rfl rfl rfl (by decide +kernel) ⟨Nat.le_of_ble_eq_true rfl, Nat.le_of_ble_eq_true rfl⟩) (r_preV hK hH) rfl rfl hl.1 rfl (lv_room (Nat.le_of_ble_eq_true rfl)) dX11_choose_161 ⟨Nat.le_of_ble_eq_true rfl, Nat.le_of_ble_eq_true rfl⟩) hH hA (fun r6 M5 H locs hw hH => ?_)
      refine lv_goto (tgt := 169) hx hb dX11_choose_164 (by decide) ?_
      exact b169   v1 v2 v3 r6 M5 H locs ls hH (lv_sub hl [1, 2, 3, 4] rfl) hw
  have b129 : ∀ (v1 : Int32) (v2 : Int32) (v3 : Int32) (s0 : Int32) (M : RM) (H : Heap) (locs : List Loc) (ls : Array Slot), rH D kA h ad A s.heap M H locs → lv_has ls 6 [(0, .ref h), (1, .int v1), (2, .int v2), (3, .int v3)] → fm_choose_b129 Q  v1 v2 v3 s0 M → W p l e (headSpec wsX11_choose rmX11_choose).room s m args below meth c H locs 0 0 (MQ below (va_Qi Q (rB D kA h ad A) A) args s 0 0 A) (F0 m 129 ls [.int s0]) := by
    intro   v1 v2 v3 s0 M H locs ls hH hl hw
    unfold fm_choose_b129 at hw
    refine lv_istore (lv' := [(5, .int s0), (0, .ref h), (1, .int v1), (2, .int v2), (3, .int v3)]) hx hb dX11_choose_129 hl (by decide) rfl (fun ls hl => ?_)
    refine lv_iload hx hb dX11_choose_131 (lv_at hl 0 rfl) ?_
    refine lv_if_ge (tgt := 147) hx hb dX11_choose_133 (by decide) (fun c7 => ?_) (fun c7 => ?_)
    · replace hw := hw.1 c7
      refine lv_iload hx hb dX11_choose_147 (lv_at hl 0 rfl) ?_
      exact b149   v1 v2 v3 s0 M H locs ls hH (lv_sub hl [1, 2, 3, 4] rfl) hw
    · replace hw := hw.2 c7
      refine lv_aload_n hx hb dX11_choose_136 rfl (lv_at hl 1 rfl) ?_
      refine lv_iload_n hx hb dX11_choose_137 rfl (lv_at hl 2 rfl) ?_
      refine lv_iload_n hx hb dX11_choose_138 rfl (lv_at hl 3 rfl) ?_
      refine lv_iload_n hx hb dX11_choose_139 rfl (lv_at hl 4 rfl) ?_
      refine lv_iconst (v := 4) hx hb dX11_choose_140 (by decide) ?_
      refine r_calli (va_runV (As := [.int v1, .int v2, .int v3, .int 4]) (rest := []) ⟨hx, hb, hml, hown, hts⟩ (tm_formWith l D kA h ad H.size M v1 v2 v3 4 _ hw) (cwV 4 hts gX11_choose_X11_formWith rfl rfl rfl (by decide +kernel) ⟨Nat.le_of_ble_eq_true rfl, Nat.le_of_ble_eq_true rfl⟩) (r_preV hK hH) rfl rfl hl.1 rfl (lv_room (Nat.le_of_ble_eq_true rfl)) dX11_choose_141 ⟨Nat.le_of_ble_eq_true rfl, Nat.le_of_ble_eq_true rfl⟩) hH hA (fun r9 M8 H locs hw hH => ?_)
      refine lv_goto (tgt := 149) hx hb dX11_choose_144 (by decide) ?_
      exact b149   v1 v2 v3 r9 M8 H locs ls hH (lv_sub hl [1, 2, 3, 4] rfl) hw
  have b127 : ∀ (v1 : Int32) (v2 : Int32) (v3 : Int32) (v5 : Int32) (M : RM) (H : Heap) (locs : List Loc) (ls : Array Slot), rH D kA h ad A s.heap M H locs → lv_has ls 6 [(0, .ref h), (1, .int v1), (2, .int v2), (3, .int v3), (5, .int v5)] → fm_choose_b127 Q  v1 v2 v3 v5 M → W p l e (headSpec wsX11_choose rmX11_choose).room s m args below meth c H locs 0 0 (MQ below (va_Qi Q (rB D kA h ad A) A) args s 0 0 A) (F0 m 127 ls []) := by
    intro   v1 v2 v3 v5 M H locs ls hH hl hw
    unfold fm_choose_b127 at hw
    refine lv_iload hx hb dX11_choose_127 (lv_at hl 4 rfl) ?_
    exact b129   v1 v2 v3 v5 M H locs ls hH (lv_sub hl [0, 1, 2, 3] rfl) hw
  have b103 : ∀ (v1 : Int32) (v2 : Int32) (v3 : Int32) (v4 : Int32) (s0 : Int32) (M : RM) (H : Heap) (locs : List Loc) (ls : Array Slot), rH D kA h ad A s.heap M H locs → lv_has ls 6 [(0, .ref h), (1, .int v1), (2, .int v2), (3, .int v3), (4, .int v4)] → fm_choose_b103 Q  v1 v2 v3 v4 s0 M → W p l e (headSpec wsX11_choose rmX11_choose).room s m args below meth c H locs 0 0 (MQ below (va_Qi Q (rB D kA h ad A) A) args s 0 0 A) (F0 m 103 ls [.int s0]) := by
    intro   v1 v2 v3 v4 s0 M H locs ls hH hl hw
    unfold fm_choose_b103 at hw
    refine lv_istore (lv' := [(5, .int s0), (0, .ref h), (1, .int v1), (2, .int v2), (3, .int v3), (4, .int v4)]) hx hb dX11_choose_103 hl (by decide) rfl (fun ls hl => ?_)
    refine lv_iload hx hb dX11_choose_105 (lv_at hl 0 rfl) ?_
    refine lv_if_ge (tgt := 127) hx hb dX11_choose_107 (by decide) (fun c10 => ?_) (fun c10 => ?_)
    · replace hw := hw.1 c10
      exact b127   v1 v2 v3 s0 M H locs ls hH (lv_sub hl [1, 2, 3, 4, 0] rfl) hw
    · replace hw := hw.2 c10
      refine lv_iload hx hb dX11_choose_110 (lv_at hl 5 rfl) ?_
      refine lv_iconst (v := 3) hx hb dX11_choose_112 (by decide) ?_
      refine lv_icmp_ne (tgt := 127) hx hb dX11_choose_113 (by decide) (fun c11 => ?_) (fun c11 => ?_)
      · replace hw := hw.1 c11
        exact b127   v1 v2 v3 s0 M H locs ls hH (lv_sub hl [1, 2, 3, 4, 0] rfl) hw
      · replace hw := hw.2 c11
        refine lv_aload_n hx hb dX11_choose_116 rfl (lv_at hl 1 rfl) ?_
        refine lv_iload_n hx hb dX11_choose_117 rfl (lv_at hl 2 rfl) ?_
        refine lv_iload_n hx hb dX11_choose_118 rfl (lv_at hl 3 rfl) ?_
        refine lv_iload_n hx hb dX11_choose_119 rfl (lv_at hl 4 rfl) ?_
        refine lv_iconst (v := 3) hx hb dX11_choose_120 (by decide) ?_
        refine r_calli (va_runV (As := [.int v1, .int v2, .int v3, .int 3]) (rest := []) ⟨hx, hb, hml, hown, hts⟩ (tm_formWith l D kA h ad H.size M v1 v2 v3 3 _ hw) (cwV 4 hts gX11_choose_X11_formWith rfl rfl rfl (by decide +kernel) ⟨Nat.le_of_ble_eq_true rfl, Nat.le_of_ble_eq_true rfl⟩) (r_preV hK hH) rfl rfl hl.1 rfl (lv_room (Nat.le_of_ble_eq_true rfl)) dX11_choose_121 ⟨Nat.le_of_ble_eq_true rfl, Nat.le_of_ble_eq_true rfl⟩) hH hA (fun r13 M12 H locs hw hH => ?_)
        refine lv_goto (tgt := 129) hx hb dX11_choose_124 (by decide) ?_
        exact b129   v1 v2 v3 r13 M12 H locs ls hH (lv_sub hl [1, 2, 3, 4] rfl) hw
  have b101 : ∀ (v1 : Int32) (v2 : Int32) (v3 : Int32) (v4 : Int32) (v5 : Int32) (M : RM) (H : Heap) (locs : List Loc) (ls : Array Slot), rH D kA h ad A s.heap M H locs → lv_has ls 6 [(0, .ref h), (1, .int v1), (2, .int v2), (3, .int v3), (4, .int v4), (5, .int v5)] → fm_choose_b101 Q  v1 v2 v3 v4 v5 M → W p l e (headSpec wsX11_choose rmX11_choose).room s m args below meth c H locs 0 0 (MQ below (va_Qi Q (rB D kA h ad A) A) args s 0 0 A) (F0 m 101 ls []) := by
    intro   v1 v2 v3 v4 v5 M H locs ls hH hl hw
    unfold fm_choose_b101 at hw
    refine lv_iload hx hb dX11_choose_101 (lv_at hl 5 rfl) ?_
    exact b103   v1 v2 v3 v4 v5 M H locs ls hH (lv_sub hl [0, 1, 2, 3, 4] rfl) hw
  have b77 : ∀ (v1 : Int32) (v2 : Int32) (v3 : Int32) (v4 : Int32) (s0 : Int32) (M : RM) (H : Heap) (locs : List Loc) (ls : Array Slot), rH D kA h ad A s.heap M H locs → lv_has ls 6 [(0, .ref h), (1, .int v1), (2, .int v2), (3, .int v3), (4, .int v4)] → fm_choose_b77 Q  v1 v2 v3 v4 s0 M → W p l e (headSpec wsX11_choose rmX11_choose).room s m args below meth c H locs 0 0 (MQ below (va_Qi Q (rB D kA h ad A) A) args s 0 0 A) (F0 m 77 ls [.int s0]) := by
    intro   v1 v2 v3 v4 s0 M H locs ls hH hl hw
    unfold fm_choose_b77 at hw
    refine lv_istore (lv' := [(5, .int s0), (0, .ref h), (1, .int v1), (2, .int v2), (3, .int v3), (4, .int v4)]) hx hb dX11_choose_77 hl (by decide) rfl (fun ls hl => ?_)
    refine lv_iload hx hb dX11_choose_79 (lv_at hl 0 rfl) ?_
    refine lv_if_ge (tgt := 101) hx hb dX11_choose_81 (by decide) (fun c14 => ?_) (fun c14 => ?_)
    · replace hw := hw.1 c14
      exact b101   v1 v2 v3 v4 s0 M H locs ls hH (lv_sub hl [1, 2, 3, 4, 5, 0] rfl) hw
    · replace hw := hw.2 c14
      refine lv_iload hx hb dX11_choose_84 (lv_at hl 5 rfl) ?_
      refine lv_iconst (v := 2) hx hb dX11_choose_86 (by decide) ?_
      refine lv_icmp_ne (tgt := 101) hx hb dX11_choose_87 (by decide) (fun c15 => ?_) (fun c15 => ?_)
      · replace hw := hw.1 c15
        exact b101   v1 v2 v3 v4 s0 M H locs ls hH (lv_sub hl [1, 2, 3, 4, 5, 0] rfl) hw
      · replace hw := hw.2 c15
        refine lv_aload_n hx hb dX11_choose_90 rfl (lv_at hl 1 rfl) ?_
        refine lv_iload_n hx hb dX11_choose_91 rfl (lv_at hl 2 rfl) ?_
        refine lv_iload_n hx hb dX11_choose_92 rfl (lv_at hl 3 rfl) ?_
        refine lv_iload_n hx hb dX11_choose_93 rfl (lv_at hl 4 rfl) ?_
        refine lv_iconst (v := 2) hx hb dX11_choose_94 (by decide) ?_
        refine r_calli (va_runV (As := [.int v1, .int v2, .int v3, .int 2]) (rest := []) ⟨hx, hb, hml, hown, hts⟩ (tm_formWith l D kA h ad H.size M v1 v2 v3 2 _ hw) (cwV 4 hts gX11_choose_X11_formWith rfl rfl rfl (by decide +kernel) ⟨Nat.le_of_ble_eq_true rfl, Nat.le_of_ble_eq_true rfl⟩) (r_preV hK hH) rfl rfl hl.1 rfl (lv_room (Nat.le_of_ble_eq_true rfl)) dX11_choose_95 ⟨Nat.le_of_ble_eq_true rfl, Nat.le_of_ble_eq_true rfl⟩) hH hA (fun r17 M16 H locs hw hH => ?_)
        refine lv_goto (tgt := 103) hx hb dX11_choose_98 (by decide) ?_
        exact b103   v1 v2 v3 v4 r17 M16 H locs ls hH (lv_sub hl [1, 2, 3, 4, 5] rfl) hw
  have b75 : ∀ (v1 : Int32) (v2 : Int32) (v3 : Int32) (v4 : Int32) (v5 : Int32) (M : RM) (H : Heap) (locs : List Loc) (ls : Array Slot), rH D kA h ad A s.heap M H locs → lv_has ls 6 [(0, .ref h), (1, .int v1), (2, .int v2), (3, .int v3), (4, .int v4), (5, .int v5)] → fm_choose_b75 Q  v1 v2 v3 v4 v5 M → W p l e (headSpec wsX11_choose rmX11_choose).room s m args below meth c H locs 0 0 (MQ below (va_Qi Q (rB D kA h ad A) A) args s 0 0 A) (F0 m 75 ls []) := by
    intro   v1 v2 v3 v4 v5 M H locs ls hH hl hw
    unfold fm_choose_b75 at hw
    refine lv_iload hx hb dX11_choose_75 (lv_at hl 5 rfl) ?_
    exact b77   v1 v2 v3 v4 v5 M H locs ls hH (lv_sub hl [0, 1, 2, 3, 4] rfl) hw
  have b51 : ∀ (v1 : Int32) (v2 : Int32) (v3 : Int32) (v4 : Int32) (s0 : Int32) (M : RM) (H : Heap) (locs : List Loc) (ls : Array Slot), rH D kA h ad A s.heap M H locs → lv_has ls 6 [(0, .ref h), (1, .int v1), (2, .int v2), (3, .int v3), (4, .int v4)] → fm_choose_b51 Q  v1 v2 v3 v4 s0 M → W p l e (headSpec wsX11_choose rmX11_choose).room s m args below meth c H locs 0 0 (MQ below (va_Qi Q (rB D kA h ad A) A) args s 0 0 A) (F0 m 51 ls [.int s0]) := by
    intro   v1 v2 v3 v4 s0 M H locs ls hH hl hw
    unfold fm_choose_b51 at hw
    refine lv_istore (lv' := [(5, .int s0), (0, .ref h), (1, .int v1), (2, .int v2), (3, .int v3), (4, .int v4)]) hx hb dX11_choose_51 hl (by decide) rfl (fun ls hl => ?_)
    refine lv_iload hx hb dX11_choose_53 (lv_at hl 0 rfl) ?_
    refine lv_if_ge (tgt := 75) hx hb dX11_choose_55 (by decide) (fun c18 => ?_) (fun c18 => ?_)
    · replace hw := hw.1 c18
      exact b75   v1 v2 v3 v4 s0 M H locs ls hH (lv_sub hl [1, 2, 3, 4, 5, 0] rfl) hw
    · replace hw := hw.2 c18
      refine lv_iload hx hb dX11_choose_58 (lv_at hl 5 rfl) ?_
      refine lv_iconst (v := 5) hx hb dX11_choose_60 (by decide) ?_
      refine lv_icmp_ne (tgt := 75) hx hb dX11_choose_61 (by decide) (fun c19 => ?_) (fun c19 => ?_)
      · replace hw := hw.1 c19
        exact b75   v1 v2 v3 v4 s0 M H locs ls hH (lv_sub hl [1, 2, 3, 4, 5, 0] rfl) hw
      · replace hw := hw.2 c19
        refine lv_aload_n hx hb dX11_choose_64 rfl (lv_at hl 1 rfl) ?_
        refine lv_iload_n hx hb dX11_choose_65 rfl (lv_at hl 2 rfl) ?_
        refine lv_iload_n hx hb dX11_choose_66 rfl (lv_at hl 3 rfl) ?_
        refine lv_iload_n hx hb dX11_choose_67 rfl (lv_at hl 4 rfl) ?_
        refine lv_iconst (v := 5) hx hb dX11_choose_68 (by decide) ?_
        refine r_calli (va_runV (As := [.int v1, .int v2, .int v3, .int 5]) (rest := []) ⟨hx, hb, hml, hown, hts⟩ (tm_formWith l D kA h ad H.size M v1 v2 v3 5 _ hw) (cwV 4 hts gX11_choose_X11_formWith rfl rfl rfl (by decide +kernel) ⟨Nat.le_of_ble_eq_true rfl, Nat.le_of_ble_eq_true rfl⟩) (r_preV hK hH) rfl rfl hl.1 rfl (lv_room (Nat.le_of_ble_eq_true rfl)) dX11_choose_69 ⟨Nat.le_of_ble_eq_true rfl, Nat.le_of_ble_eq_true rfl⟩) hH hA (fun r21 M20 H locs hw hH => ?_)
        refine lv_goto (tgt := 77) hx hb dX11_choose_72 (by decide) ?_
        exact b77   v1 v2 v3 v4 r21 M20 H locs ls hH (lv_sub hl [1, 2, 3, 4, 5] rfl) hw
  have b49 : ∀ (v1 : Int32) (v2 : Int32) (v3 : Int32) (v4 : Int32) (v5 : Int32) (M : RM) (H : Heap) (locs : List Loc) (ls : Array Slot), rH D kA h ad A s.heap M H locs → lv_has ls 6 [(0, .ref h), (1, .int v1), (2, .int v2), (3, .int v3), (4, .int v4), (5, .int v5)] → fm_choose_b49 Q  v1 v2 v3 v4 v5 M → W p l e (headSpec wsX11_choose rmX11_choose).room s m args below meth c H locs 0 0 (MQ below (va_Qi Q (rB D kA h ad A) A) args s 0 0 A) (F0 m 49 ls []) := by
    intro   v1 v2 v3 v4 v5 M H locs ls hH hl hw
    unfold fm_choose_b49 at hw
    refine lv_iload hx hb dX11_choose_49 (lv_at hl 5 rfl) ?_
    exact b51   v1 v2 v3 v4 v5 M H locs ls hH (lv_sub hl [0, 1, 2, 3, 4] rfl) hw
  have b25 : ∀ (v1 : Int32) (v2 : Int32) (v3 : Int32) (v4 : Int32) (s0 : Int32) (M : RM) (H : Heap) (locs : List Loc) (ls : Array Slot), rH D kA h ad A s.heap M H locs → lv_has ls 6 [(0, .ref h), (1, .int v1), (2, .int v2), (3, .int v3), (4, .int v4)] → fm_choose_b25 Q  v1 v2 v3 v4 s0 M → W p l e (headSpec wsX11_choose rmX11_choose).room s m args below meth c H locs 0 0 (MQ below (va_Qi Q (rB D kA h ad A) A) args s 0 0 A) (F0 m 25 ls [.int s0]) := by
    intro   v1 v2 v3 v4 s0 M H locs ls hH hl hw
    unfold fm_choose_b25 at hw
    refine lv_istore (lv' := [(5, .int s0), (0, .ref h), (1, .int v1), (2, .int v2), (3, .int v3), (4, .int v4)]) hx hb dX11_choose_25 hl (by decide) rfl (fun ls hl => ?_)
    refine lv_iload hx hb dX11_choose_27 (lv_at hl 0 rfl) ?_
    refine lv_if_ge (tgt := 49) hx hb dX11_choose_29 (by decide) (fun c22 => ?_) (fun c22 => ?_)
    · replace hw := hw.1 c22
      exact b49   v1 v2 v3 v4 s0 M H locs ls hH (lv_sub hl [1, 2, 3, 4, 5, 0] rfl) hw
    · replace hw := hw.2 c22
      refine lv_iload hx hb dX11_choose_32 (lv_at hl 5 rfl) ?_
      refine lv_iconst (v := 1) hx hb dX11_choose_34 (by decide) ?_
      refine lv_icmp_gt (tgt := 49) hx hb dX11_choose_35 (by decide) (fun c23 => ?_) (fun c23 => ?_)
      · replace hw := hw.1 c23
        exact b49   v1 v2 v3 v4 s0 M H locs ls hH (lv_sub hl [1, 2, 3, 4, 5, 0] rfl) hw
      · replace hw := hw.2 c23
        refine lv_aload_n hx hb dX11_choose_38 rfl (lv_at hl 1 rfl) ?_
        refine lv_iload_n hx hb dX11_choose_39 rfl (lv_at hl 2 rfl) ?_
        refine lv_iload_n hx hb dX11_choose_40 rfl (lv_at hl 3 rfl) ?_
        refine lv_iload_n hx hb dX11_choose_41 rfl (lv_at hl 4 rfl) ?_
        refine lv_iconst (v := 1) hx hb dX11_choose_42 (by decide) ?_
        refine r_calli (va_runV (As := [.int v1, .int v2, .int v3, .int 1]) (rest := []) ⟨hx, hb, hml, hown, hts⟩ (tm_formWith l D kA h ad H.size M v1 v2 v3 1 _ hw) (cwV 4 hts gX11_choose_X11_formWith rfl rfl rfl (by decide +kernel) ⟨Nat.le_of_ble_eq_true rfl, Nat.le_of_ble_eq_true rfl⟩) (r_preV hK hH) rfl rfl hl.1 rfl (lv_room (Nat.le_of_ble_eq_true rfl)) dX11_choose_43 ⟨Nat.le_of_ble_eq_true rfl, Nat.le_of_ble_eq_true rfl⟩) hH hA (fun r25 M24 H locs hw hH => ?_)
        refine lv_goto (tgt := 51) hx hb dX11_choose_46 (by decide) ?_
        exact b51   v1 v2 v3 v4 r25 M24 H locs ls hH (lv_sub hl [1, 2, 3, 4, 5] rfl) hw
  clear hP hD0
  unfold fm_choose at hw
  have hst : ∀ (M : RM) (H : Heap) (locs : List Loc) (ls : Array Slot), rH D kA h ad A s.heap M H locs → lv_has ls 6 [(0, .ref h), (1, .int a1), (2, .int a2), (3, .int a3)] → (vp_in a3 48 ∧ (∀ x27 : Int32, x27 = rA M 13 a3.toNatClampNeg → ((¬ x27 = 0 → fm_choose_b25 Q  a1 a2 a3 x27 (-1) M) ∧ (x27 = 0 → fm_formWith a1 a2 a3 0 M (fun (r30 : Int32) (M29 : RM) => fm_choose_b25 Q  a1 a2 a3 x27 r30 M29))))) → W p l e (headSpec wsX11_choose rmX11_choose).room s m args below meth c H locs 0 0 (MQ below (va_Qi Q (rB D kA h ad A) A) args s 0 0 A) (F0 m 0 ls []) := by
    intro M H locs ls hH hl hw
    refine lv_aload_n hx hb dX11_choose_0 rfl (lv_at hl 0 rfl) ?_
    refine rg_13 hx hb hts hin hown hK hH (hts (.fieldLink RX11 46 "IdlCallerModel" "kindOf" "[I") (by decide +kernel)) dX11_choose_1 ?_
    refine lv_iload_n hx hb dX11_choose_4 rfl (lv_at hl 3 rfl) ?_
    obtain ⟨h26, hw⟩ := hw
    refine rl_13 hx hb hK hH h26 dX11_choose_5 ?_
    refine lv_topi (fun x27 ex27 => ?_)
    replace hw := hw x27 ex27
    refine lv_istore (lv' := [(4, .int x27), (0, .ref h), (1, .int a1), (2, .int a2), (3, .int a3)]) hx hb dX11_choose_6 hl (by decide) rfl (fun ls hl => ?_)
    refine lv_iload hx hb dX11_choose_8 (lv_at hl 0 rfl) ?_
    refine lv_if_ne (tgt := 24) hx hb dX11_choose_10 (by decide) (fun c28 => ?_) (fun c28 => ?_)
    · replace hw := hw.1 c28
      refine lv_iconst (v := (-1)) hx hb dX11_choose_24 (by decide) ?_
      exact b25   a1 a2 a3 x27 (-1) M H locs ls hH (lv_sub hl [1, 2, 3, 4, 0] rfl) hw
    · replace hw := hw.2 c28
      refine lv_aload_n hx hb dX11_choose_13 rfl (lv_at hl 1 rfl) ?_
      refine lv_iload_n hx hb dX11_choose_14 rfl (lv_at hl 2 rfl) ?_
      refine lv_iload_n hx hb dX11_choose_15 rfl (lv_at hl 3 rfl) ?_
      refine lv_iload_n hx hb dX11_choose_16 rfl (lv_at hl 4 rfl) ?_
      refine lv_iconst (v := 0) hx hb dX11_choose_17 (by decide) ?_
      refine r_calli (va_runV (As := [.int a1, .int a2, .int a3, .int 0]) (rest := []) ⟨hx, hb, hml, hown, hts⟩ (tm_formWith l D kA h ad H.size M a1 a2 a3 0 _ hw) (cwV 4 hts gX11_choose_X11_formWith rfl rfl rfl (by decide +kernel) ⟨Nat.le_of_ble_eq_true rfl, Nat.le_of_ble_eq_true rfl⟩) (r_preV hK hH) rfl rfl hl.1 rfl (lv_room (Nat.le_of_ble_eq_true rfl)) dX11_choose_18 ⟨Nat.le_of_ble_eq_true rfl, Nat.le_of_ble_eq_true rfl⟩) hH hA (fun r30 M29 H locs hw hH => ?_)
      refine lv_goto (tgt := 25) hx hb dX11_choose_21 (by decide) ?_
      exact b25   a1 a2 a3 x27 r30 M29 H locs ls hH (lv_sub hl [1, 2, 3, 4, 0] rfl) hw
  exact hst M s.heap [] ls hH hl hw
def fm_fail (a1 : Int32) (M : RM) (Q : Int32 → RM → Prop) : Prop := (∀ M1 : RM, M1 = wI M 3 a1 → Q (-5) M1)
abbrev rmX11_fail : Room := { frames := 0, cells := 0, slots := 0, locals := 0 }
set_option maxHeartbeats 4000000 in
set_option maxRecDepth 100000 in
theorem tm_fail (l : Launch) (D : va_G) (kA : Nat → ClassId) (h : Nat) (ad : Nat → Nat) (sz : Nat) (M : RM) (a1 : Int32) (Q : Int32 → RM → Prop) (hw : fm_fail a1 M Q) : Met l yX11_fail wsX11_fail rmX11_fail (va_Pc [.ref h, .int a1] (rPc D kA h ad M sz)) (va_Qi Q (rB D kA h ad (rF kA h ad M sz)) (rF kA h ad M sz)) 0 0 (rF kA h ad M sz) := by
  refine Met.ofW (cc := cX11_fail) (maxL := 2) (ret := (some .int)) (by decide) rfl ?_
  intro p e s m args below meth c s₁ B hml hv
  obtain ⟨rfl, hsz, hP, hK, hD0⟩ := hv
  have hx := B.exec
  have hb := B.bytes
  have hr := B.returns
  have hts := atoms_spec (ws := wsX11_fail) B.pre
  have hown : s.vm.findClass RX11 = some m.cls := findClass_of_methodNamed B.named
  have hlocks : meth.locks = false := B.notSynchronized
  subst hsz
  have hH : rH D kA h ad (rF kA h ad M s.heap.size) s.heap M s.heap [] := ⟨hP, hD0.self, va_S.rf⟩
  have hA : ∀ q : Nat, s.heap.size ≤ q → rF kA h ad M s.heap.size q := fun q z => Or.inr z
  generalize rF kA h ad M s.heap.size = A at hH hA ⊢
  have hl := lv_entry ([.ref h, .int a1]) (n := 2) (Nat.le_of_ble_eq_true rfl)
  rw [lg_entry_eq]
  generalize (lg_sl ([.ref h, .int a1]) ++ List.replicate (2 - (lg_sl ([.ref h, .int a1])).length) Slot.unset).toArray = ls at hl ⊢
  generalize ([.ref h, .int a1] : List Value).toArray = args at hts ⊢
  have hl : lv_has ls 2 [(0, .ref h), (1, .int a1)] := hl
  have hin : ∀ w ∈ wsX110, w ∈ wsX11_fail := by decide +kernel
  clear hP hD0
  unfold fm_fail at hw
  have hst : ∀ (M : RM) (H : Heap) (locs : List Loc) (ls : Array Slot), rH D kA h ad A s.heap M H locs → lv_has ls 2 [(0, .ref h), (1, .int a1)] → (∀ M1 : RM, M1 = wI M 3 a1 → Q (-5) M1) → W p l e (headSpec wsX11_fail rmX11_fail).room s m args below meth c H locs 0 0 (MQ below (va_Qi Q (rB D kA h ad A) A) args s 0 0 A) (F0 m 0 ls []) := by
    intro M H locs ls hH hl hw
    refine lv_aload_n hx hb dX11_fail_0 rfl (lv_at hl 0 rfl) ?_
    refine lv_iload_n hx hb dX11_fail_1 rfl (lv_at hl 1 rfl) ?_
    refine rp_3 hx hb hts hin hown hK hH (hts (.fieldLink RX11 13 "IdlCallerModel" "faultPlace" "I") (by decide +kernel)) dX11_fail_2 (fun M1 H locs eM1 hH => ?_)
    replace hw := hw M1 eM1
    refine lv_bipush (v := (-5)) hx hb dX11_fail_5 (by decide) ?_
    exact r_reti hx hb hr hlocks hK hH hw dX11_fail_7
  exact hst M s.heap [] ls hH hl hw
def fm_finish_c97 (Q : RM → Prop) (k43 : Int32 → RM → Prop) (k97 : Int32 → Int32 → RM → Prop) (v3 : Int32) (v4 : Int32) (M : RM) : Prop := ((80 ≤ v4 → (∀ x2 : Int32, x2 = v3 + 1 → k43 x2 M)) ∧ (¬ 80 ≤ v4 → (vp_in ((80 * (48 + v3)) + v4) 7680 ∧ (vp_in ((80 * v3) + v4) 7680 ∧ (∀ M5 : RM, M5 = wA M 22 ((80 * v3) + v4).toNatClampNeg (vp_nar .char (rA M 22 ((80 * (48 + v3)) + v4).toNatClampNeg)) → (∀ x6 : Int32, x6 = v4 + 1 → k97 v3 x6 M5))))))
def fm_finish_l97 (Q : RM → Prop) (k43 : Int32 → RM → Prop) : Nat → Int32 → Int32 → RM → Prop := lit (τ := Int32 → Int32 → RM → Prop) (fun _ _ _ => False) (fun k => fm_finish_c97 Q k43 k)
def fm_finish_c43 (Q : RM → Prop) (k43 : Int32 → RM → Prop) (v3 : Int32) (M : RM) : Prop := ((48 ≤ v3 → Q M) ∧ (¬ 48 ≤ v3 → (vp_in (48 + v3) 96 ∧ (vp_in v3 96 ∧ (∀ M10 : RM, M10 = wA M 19 v3.toNatClampNeg (rA M 19 (48 + v3).toNatClampNeg) → (vp_in (48 + v3) 96 ∧ (vp_in v3 96 ∧ (∀ M13 : RM, M13 = wJ M10 20 v3.toNatClampNeg (rJ M10 20 (48 + v3).toNatClampNeg) → (vp_in (48 + v3) 96 ∧ (vp_in v3 96 ∧ (∀ M16 : RM, M16 = wD M13 21 v3.toNatClampNeg (rD M13 21 (48 + v3).toNatClampNeg) → (∃ nn : Nat, fm_finish_l97 Q k43 nn v3 0 M16))))))))))))
def fm_finish_l43 (Q : RM → Prop) : Nat → Int32 → RM → Prop := lit (τ := Int32 → RM → Prop) (fun _ _ => False) (fun k => fm_finish_c43 Q  k)
def fm_finish_c16 (Q : RM → Prop) (k16 : Int32 → RM → Prop) (v3 : Int32) (M : RM) : Prop := (((rI M 18) ≤ v3 → (∃ nn : Nat, fm_finish_l43 Q  nn 0 M)) ∧ (¬ (rI M 18) ≤ v3 → fm_make (48 + v3) 0 0 FP.dconst0 M (fun (M18 : RM) => (∀ x20 : Int32, x20 = v3 + 1 → k16 x20 M18))))
def fm_finish_l16 (Q : RM → Prop) : Nat → Int32 → RM → Prop := lit (τ := Int32 → RM → Prop) (fun _ _ => False) (fun k => fm_finish_c16 Q  k)
def fm_finish_b11 (Q : RM → Prop) (v1 : Int32) (s0 : Int32) (M : RM) : Prop := (∀ M21 : RM, M21 = wI M 18 s0 → (∃ nn : Nat, fm_finish_l16 Q  nn v1 M21))
def fm_finish (a1 : Int32) (a2 : Int32) (M : RM) (Q : RM → Prop) : Prop := ((a1 ≤ a2 → fm_finish_b11 Q  a1 a2 M) ∧ (¬ a1 ≤ a2 → fm_finish_b11 Q  a1 a1 M))
abbrev rmX11_finish : Room := { frames := 1, cells := 0, slots := 0, locals := 26 }
set_option maxHeartbeats 4000000 in
set_option maxRecDepth 100000 in
theorem tm_finish (l : Launch) (D : va_G) (kA : Nat → ClassId) (h : Nat) (ad : Nat → Nat) (sz : Nat) (M : RM) (a1 : Int32) (a2 : Int32) (Q : RM → Prop) (hw : fm_finish a1 a2 M Q) : Met l yX11_finish wsX11_finish rmX11_finish (va_Pc [.ref h, .int a1, .int a2] (rPc D kA h ad M sz)) (va_Qv Q (rB D kA h ad (rF kA h ad M sz)) (rF kA h ad M sz)) 0 0 (rF kA h ad M sz) := by
  refine Met.ofW (cc := cX11_finish) (maxL := 5) (ret := none) (by decide) rfl ?_
  intro p e s m args below meth c s₁ B hml hv
  obtain ⟨rfl, hsz, hP, hK, hD0⟩ := hv
  have hx := B.exec
  have hb := B.bytes
  have hr := B.returns
  have hts := atoms_spec (ws := wsX11_finish) B.pre
  have hown : s.vm.findClass RX11 = some m.cls := findClass_of_methodNamed B.named
  have hlocks : meth.locks = false := B.notSynchronized
  subst hsz
  have hH : rH D kA h ad (rF kA h ad M s.heap.size) s.heap M s.heap [] := ⟨hP, hD0.self, va_S.rf⟩
  have hA : ∀ q : Nat, s.heap.size ≤ q → rF kA h ad M s.heap.size q := fun q z => Or.inr z
  generalize rF kA h ad M s.heap.size = A at hH hA ⊢
  have hl := lv_entry ([.ref h, .int a1, .int a2]) (n := 5) (Nat.le_of_ble_eq_true rfl)
  rw [lg_entry_eq]
  generalize (lg_sl ([.ref h, .int a1, .int a2]) ++ List.replicate (5 - (lg_sl ([.ref h, .int a1, .int a2])).length) Slot.unset).toArray = ls at hl ⊢
  generalize ([.ref h, .int a1, .int a2] : List Value).toArray = args at hts ⊢
  have hl : lv_has ls 5 [(0, .ref h), (1, .int a1), (2, .int a2)] := hl
  have hin : ∀ w ∈ wsX110, w ∈ wsX11_finish := by decide +kernel
  have l97 : ∀ (k43 : Int32 → RM → Prop) (hk43 : ∀ (v3 : Int32) (M : RM) (H : Heap) (locs : List Loc) (ls : Array Slot), rH D kA h ad A s.heap M H locs → lv_has ls 5 [(0, .ref h), (3, .int v3)] → k43 v3 M → W p l e (headSpec wsX11_finish rmX11_finish).room s m args below meth c H locs 0 0 (MQ below (va_Qv Q (rB D kA h ad A) A) args s 0 0 A) (F0 m 43 ls [])) (nn : Nat) (v3 : Int32) (v4 : Int32) (M : RM) (H : Heap) (locs : List Loc) (ls : Array Slot), rH D kA h ad A s.heap M H locs → lv_has ls 5 [(0, .ref h), (3, .int v3), (4, .int v4)] → fm_finish_l97 Q k43 nn v3 v4 M → W p l e (headSpec wsX11_finish rmX11_finish).room s m args below meth c H locs 0 0 (MQ below (va_Qv Q (rB D kA h ad A) A) args s 0 0 A) (F0 m 97 ls []) := by
    intro k43 hk43 nn
    induction nn with
    | zero => intro v3 v4 M H locs ls hH hl hw; exact False.elim hw
    | succ nn hk97 =>
      intro v3 v4 M H locs ls hH hl hw
      replace hw : fm_finish_c97 Q k43 (fm_finish_l97 Q k43 nn) v3 v4 M := hw
      unfold fm_finish_c97 at hw
      refine lv_iload hx hb dX11_finish_97 (lv_at hl 2 rfl) ?_
      refine lv_bipush (v := 80) hx hb dX11_finish_99 (by decide) ?_
      refine lv_icmp_ge (tgt := 137) hx hb dX11_finish_101 (by decide) (fun c1 => ?_) (fun c1 => ?_)
      · replace hw := hw.1 c1
        obtain ⟨x2, ex2⟩ : ∃ y : Int32, y = v3 + 1 := ⟨_, rfl⟩
        replace hw := hw x2 ex2
        refine lv_iinc (v := x2) (lv' := [(3, .int x2), (0, .ref h), (4, .int v4)]) hx hb dX11_finish_137 hl (k := 1) rfl (by rw [ex2]; rfl) (by decide) rfl (fun ls hl => ?_)
        refine lv_goto (tgt := 43) hx hb dX11_finish_140 (by decide) ?_
        exact hk43 x2 M H locs ls hH (lv_sub hl [1, 0] rfl) hw
      · replace hw := hw.2 c1
        refine lv_aload_n hx hb dX11_finish_104 rfl (lv_at hl 0 rfl) ?_
        refine rg_22 hx hb hts hin hown hK hH (hts (.fieldLink RX11 72 "IdlCallerModel" "madeText" "[C") (by decide +kernel)) dX11_finish_105 ?_
        refine lv_bipush (v := 80) hx hb dX11_finish_108 (by decide) ?_
        refine lv_iload_n hx hb dX11_finish_110 rfl (lv_at hl 1 rfl) ?_
        refine lv_imul hx hb dX11_finish_111 ?_
        refine lv_iload hx hb dX11_finish_112 (lv_at hl 2 rfl) ?_
        refine lv_iadd hx hb dX11_finish_114 ?_
        refine lv_aload_n hx hb dX11_finish_115 rfl (lv_at hl 0 rfl) ?_
        refine rg_22 hx hb hts hin hown hK hH (hts (.fieldLink RX11 72 "IdlCallerModel" "madeText" "[C") (by decide +kernel)) dX11_finish_116 ?_
        refine lv_bipush (v := 80) hx hb dX11_finish_119 (by decide) ?_
        refine lv_bipush (v := 48) hx hb dX11_finish_121 (by decide) ?_
        refine lv_iload_n hx hb dX11_finish_123 rfl (lv_at hl 1 rfl) ?_
        refine lv_iadd hx hb dX11_finish_124 ?_
        refine lv_imul hx hb dX11_finish_125 ?_
        refine lv_iload hx hb dX11_finish_126 (lv_at hl 2 rfl) ?_
        refine lv_iadd hx hb dX11_finish_128 ?_
        obtain ⟨h3, hw⟩ := hw
        refine rl_22 hx hb hK hH h3 dX11_finish_129 ?_
        obtain ⟨h4, hw⟩ := hw
        refine rs_22 hx hb hK hH h4 dX11_finish_130 (fun M5 H locs eM5 hH => ?_)
        replace hw := hw M5 eM5
        obtain ⟨x6, ex6⟩ : ∃ y : Int32, y = v4 + 1 := ⟨_, rfl⟩
        replace hw := hw x6 ex6
        refine lv_iinc (v := x6) (lv' := [(4, .int x6), (0, .ref h), (3, .int v3)]) hx hb dX11_finish_131 hl (k := 2) rfl (by rw [ex6]; rfl) (by decide) rfl (fun ls hl => ?_)
        refine lv_goto (tgt := 97) hx hb dX11_finish_134 (by decide) ?_
        exact hk97 v3 x6 M5 H locs ls hH (lv_sub hl [1, 2, 0] rfl) hw
  have l43 : ∀ (nn : Nat) (v3 : Int32) (M : RM) (H : Heap) (locs : List Loc) (ls : Array Slot), rH D kA h ad A s.heap M H locs → lv_has ls 5 [(0, .ref h), (3, .int v3)] → fm_finish_l43 Q  nn v3 M → W p l e (headSpec wsX11_finish rmX11_finish).room s m args below meth c H locs 0 0 (MQ below (va_Qv Q (rB D kA h ad A) A) args s 0 0 A) (F0 m 43 ls []) := by
    intro   nn
    induction nn with
    | zero => intro v3 M H locs ls hH hl hw; exact False.elim hw
    | succ nn hk43 =>
      intro v3 M H locs ls hH hl hw
      replace hw : fm_finish_c43 Q  (fm_finish_l43 Q  nn) v3 M := hw
      unfold fm_finish_c43 at hw
      refine lv_iload_n hx hb dX11_finish_43 rfl (lv_at hl 1 rfl) ?_
      refine lv_bipush (v := 48) hx hb dX11_finish_44 (by decide) ?_
      refine lv_icmp_ge (tgt := 143) hx hb dX11_finish_46 (by decide) (fun c7 => ?_) (fun c7 => ?_)
      · replace hw := hw.1 c7
        exact r_retv hx hb hr hlocks hK hH hw dX11_finish_143
      · replace hw := hw.2 c7
        refine lv_aload_n hx hb dX11_finish_49 rfl (lv_at hl 0 rfl) ?_
        refine rg_19 hx hb hts hin hown hK hH (hts (.fieldLink RX11 62 "IdlCallerModel" "madeKind" "[I") (by decide +kernel)) dX11_finish_50 ?_
        refine lv_iload_n hx hb dX11_finish_53 rfl (lv_at hl 1 rfl) ?_
        refine lv_aload_n hx hb dX11_finish_54 rfl (lv_at hl 0 rfl) ?_
        refine rg_19 hx hb hts hin hown hK hH (hts (.fieldLink RX11 62 "IdlCallerModel" "madeKind" "[I") (by decide +kernel)) dX11_finish_55 ?_
        refine lv_bipush (v := 48) hx hb dX11_finish_58 (by decide) ?_
        refine lv_iload_n hx hb dX11_finish_60 rfl (lv_at hl 1 rfl) ?_
        refine lv_iadd hx hb dX11_finish_61 ?_
        obtain ⟨h8, hw⟩ := hw
        refine rl_19 hx hb hK hH h8 dX11_finish_62 ?_
        obtain ⟨h9, hw⟩ := hw
        refine rs_19 hx hb hK hH h9 dX11_finish_63 (fun M10 H locs eM10 hH => ?_)
        replace hw := hw M10 eM10
        refine lv_aload_n hx hb dX11_finish_64 rfl (lv_at hl 0 rfl) ?_
        refine rg_20 hx hb hts hin hown hK hH (hts (.fieldLink RX11 65 "IdlCallerModel" "madeWhole" "[J") (by decide +kernel)) dX11_finish_65 ?_
        refine lv_iload_n hx hb dX11_finish_68 rfl (lv_at hl 1 rfl) ?_
        refine lv_aload_n hx hb dX11_finish_69 rfl (lv_at hl 0 rfl) ?_
        refine rg_20 hx hb hts hin hown hK hH (hts (.fieldLink RX11 65 "IdlCallerModel" "madeWhole" "[J") (by decide +kernel)) dX11_finish_70 ?_
        refine lv_bipush (v := 48) hx hb dX11_finish_73 (by decide) ?_
        refine lv_iload_n hx hb dX11_finish_75 rfl (lv_at hl 1 rfl) ?_
        refine lv_iadd hx hb dX11_finish_76 ?_
        obtain ⟨h11, hw⟩ := hw
        refine rl_20 hx hb hK hH h11 dX11_finish_77 ?_
        obtain ⟨h12, hw⟩ := hw
        refine rs_20 hx hb hK hH h12 dX11_finish_78 (fun M13 H locs eM13 hH => ?_)
        replace hw := hw M13 eM13
        refine lv_aload_n hx hb dX11_finish_79 rfl (lv_at hl 0 rfl) ?_
        refine rg_21 hx hb hts hin hown hK hH (hts (.fieldLink RX11 69 "IdlCallerModel" "madeReal" "[D") (by decide +kernel)) dX11_finish_80 ?_
        refine lv_iload_n hx hb dX11_finish_83 rfl (lv_at hl 1 rfl) ?_
        refine lv_aload_n hx hb dX11_finish_84 rfl (lv_at hl 0 rfl) ?_
        refine rg_21 hx hb hts hin hown hK hH (hts (.fieldLink RX11 69 "IdlCallerModel" "madeReal" "[D") (by decide +kernel)) dX11_finish_85 ?_
        refine lv_bipush (v := 48) hx hb dX11_finish_88 (by decide) ?_
        refine lv_iload_n hx hb dX11_finish_90 rfl (lv_at hl 1 rfl) ?_
        refine lv_iadd hx hb dX11_finish_91 ?_
        obtain ⟨h14, hw⟩ := hw
        refine rl_21 hx hb hK hH h14 dX11_finish_92 ?_
        obtain ⟨h15, hw⟩ := hw
        refine rs_21 hx hb hK hH h15 dX11_finish_93 (fun M16 H locs eM16 hH => ?_)
        replace hw := hw M16 eM16
        refine lv_iconst (v := 0) hx hb dX11_finish_94 (by decide) ?_
        refine lv_istore (lv' := [(4, .int 0), (0, .ref h), (3, .int v3)]) hx hb dX11_finish_95 hl (by decide) rfl (fun ls hl => ?_)
        obtain ⟨nn, hw⟩ := hw
        exact l97 _ hk43 nn v3 0 M16 H locs ls hH (lv_sub hl [1, 2, 0] rfl) hw
  have l16 : ∀ (nn : Nat) (v3 : Int32) (M : RM) (H : Heap) (locs : List Loc) (ls : Array Slot), rH D kA h ad A s.heap M H locs → lv_has ls 5 [(0, .ref h), (3, .int v3)] → fm_finish_l16 Q  nn v3 M → W p l e (headSpec wsX11_finish rmX11_finish).room s m args below meth c H locs 0 0 (MQ below (va_Qv Q (rB D kA h ad A) A) args s 0 0 A) (F0 m 16 ls []) := by
    intro   nn
    induction nn with
    | zero => intro v3 M H locs ls hH hl hw; exact False.elim hw
    | succ nn hk16 =>
      intro v3 M H locs ls hH hl hw
      replace hw : fm_finish_c16 Q  (fm_finish_l16 Q  nn) v3 M := hw
      unfold fm_finish_c16 at hw
      refine lv_iload_n hx hb dX11_finish_16 rfl (lv_at hl 1 rfl) ?_
      refine lv_aload_n hx hb dX11_finish_17 rfl (lv_at hl 0 rfl) ?_
      refine rg_18 hx hb hts hin hown hK hH (hts (.fieldLink RX11 354 "IdlCallerModel" "places" "I") (by decide +kernel)) dX11_finish_18 ?_
      refine lv_icmp_ge (tgt := 41) hx hb dX11_finish_21 (by decide) (fun c17 => ?_) (fun c17 => ?_)
      · replace hw := hw.1 c17
        refine lv_iconst (v := 0) hx hb dX11_finish_41 (by decide) ?_
        refine lv_istore_n (lv' := [(3, .int 0), (0, .ref h)]) hx hb dX11_finish_42 rfl hl (by decide) rfl (fun ls hl => ?_)
        obtain ⟨nn, hw⟩ := hw
        exact l43   nn 0 M H locs ls hH (lv_sub hl [1, 0] rfl) hw
      · replace hw := hw.2 c17
        refine lv_aload_n hx hb dX11_finish_24 rfl (lv_at hl 0 rfl) ?_
        refine lv_bipush (v := 48) hx hb dX11_finish_25 (by decide) ?_
        refine lv_iload_n hx hb dX11_finish_27 rfl (lv_at hl 1 rfl) ?_
        refine lv_iadd hx hb dX11_finish_28 ?_
        refine lv_iconst (v := 0) hx hb dX11_finish_29 (by decide) ?_
        refine lv_lconst (v := 0) hx hb dX11_finish_30 (by decide) ?_
        refine lv_dconst0 hx hb dX11_finish_31 ?_
        refine r_callv (va_runV (As := [.int (48 + v3), .int 0, .long 0, .double FP.dconst0]) (rest := []) ⟨hx, hb, hml, hown, hts⟩ (tm_make l D kA h ad H.size M (48 + v3) 0 0 FP.dconst0 _ hw) (cwV 4 hts gX11_finish_X11_make rfl rfl rfl (by decide +kernel) ⟨Nat.le_of_ble_eq_true rfl, Nat.le_of_ble_eq_true rfl⟩) (r_preV hK hH) rfl rfl hl.1 rfl (lv_room (Nat.le_of_ble_eq_true rfl)) dX11_finish_32 ⟨Nat.le_of_ble_eq_true rfl, Nat.le_of_ble_eq_true rfl⟩) hH hA (fun M18 H locs hw hH => ?_)
        obtain ⟨x20, ex20⟩ : ∃ y : Int32, y = v3 + 1 := ⟨_, rfl⟩
        replace hw := hw x20 ex20
        refine lv_iinc (v := x20) (lv' := [(3, .int x20), (0, .ref h)]) hx hb dX11_finish_35 hl (k := 1) rfl (by rw [ex20]; rfl) (by decide) rfl (fun ls hl => ?_)
        refine lv_goto (tgt := 16) hx hb dX11_finish_38 (by decide) ?_
        exact hk16 x20 M18 H locs ls hH (lv_sub hl [1, 0] rfl) hw
  have b11 : ∀ (v1 : Int32) (s0 : Int32) (M : RM) (H : Heap) (locs : List Loc) (ls : Array Slot), rH D kA h ad A s.heap M H locs → lv_has ls 5 [(0, .ref h), (1, .int v1)] → fm_finish_b11 Q  v1 s0 M → W p l e (headSpec wsX11_finish rmX11_finish).room s m args below meth c H locs 0 0 (MQ below (va_Qv Q (rB D kA h ad A) A) args s 0 0 A) (F0 m 11 ls [.int s0, .ref h]) := by
    intro   v1 s0 M H locs ls hH hl hw
    unfold fm_finish_b11 at hw
    refine rp_18 hx hb hts hin hown hK hH (hts (.fieldLink RX11 354 "IdlCallerModel" "places" "I") (by decide +kernel)) dX11_finish_11 (fun M21 H locs eM21 hH => ?_)
    replace hw := hw M21 eM21
    refine lv_iload_n hx hb dX11_finish_14 rfl (lv_at hl 1 rfl) ?_
    refine lv_istore_n (lv' := [(3, .int v1), (0, .ref h), (1, .int v1)]) hx hb dX11_finish_15 rfl hl (by decide) rfl (fun ls hl => ?_)
    obtain ⟨nn, hw⟩ := hw
    exact l16   nn v1 M21 H locs ls hH (lv_sub hl [1, 0] rfl) hw
  clear hP hD0
  unfold fm_finish at hw
  have hst : ∀ (M : RM) (H : Heap) (locs : List Loc) (ls : Array Slot), rH D kA h ad A s.heap M H locs → lv_has ls 5 [(0, .ref h), (1, .int a1), (2, .int a2)] → ((a1 ≤ a2 → fm_finish_b11 Q  a1 a2 M) ∧ (¬ a1 ≤ a2 → fm_finish_b11 Q  a1 a1 M)) → W p l e (headSpec wsX11_finish rmX11_finish).room s m args below meth c H locs 0 0 (MQ below (va_Qv Q (rB D kA h ad A) A) args s 0 0 A) (F0 m 0 ls []) := by
    intro M H locs ls hH hl hw
    refine lv_aload_n hx hb dX11_finish_0 rfl (lv_at hl 0 rfl) ?_
    refine lv_iload_n hx hb dX11_finish_1 rfl (lv_at hl 1 rfl) ?_
    refine lv_iload_n hx hb dX11_finish_2 rfl (lv_at hl 2 rfl) ?_
    refine lv_icmp_le (tgt := 10) hx hb dX11_finish_3 (by decide) (fun c22 => ?_) (fun c22 => ?_)
    · replace hw := hw.1 c22
      refine lv_iload_n hx hb dX11_finish_10 rfl (lv_at hl 2 rfl) ?_
      exact b11   a1 a2 M H locs ls hH (lv_sub hl [0, 1] rfl) hw
    · replace hw := hw.2 c22
      refine lv_iload_n hx hb dX11_finish_6 rfl (lv_at hl 1 rfl) ?_
      refine lv_goto (tgt := 11) hx hb dX11_finish_7 (by decide) ?_
      exact b11   a1 a1 M H locs ls hH (lv_sub hl [0, 1] rfl) hw
  exact hst M s.heap [] ls hH hl hw
def fm_call_c215 (Q : Int32 → RM → Prop) (k215 : Int32 → Int32 → Int32 → Int32 → RM → Prop) (v4 : Int32) (v5 : Int32) (v7 : Int32) (v8 : Int32) (M : RM) : Prop := ((v4 ≤ v7 → (vp_in v8 37 ∧ fm_finish v4 (rA M 5 v8.toNatClampNeg) M (fun (M3 : RM) => Q v5 M3))) ∧ (¬ v4 ≤ v7 → fm_argumentOf v8 v7 M (fun (r6 : Int32) (M5 : RM) => fm_convert v7 r6 M5 (fun (r8 : Int32) (M7 : RM) => ((¬ r8 = 0 → (∀ x10 : Int32, x10 = v7 + 1 → k215 v4 v5 x10 v8 M7)) ∧ (r8 = 0 → fm_fail v7 M7 (fun (r12 : Int32) (M11 : RM) => Q r12 M11)))))))
def fm_call_l215 (Q : Int32 → RM → Prop) : Nat → Int32 → Int32 → Int32 → Int32 → RM → Prop := lit (τ := Int32 → Int32 → Int32 → Int32 → RM → Prop) (fun _ _ _ _ _ => False) (fun k => fm_call_c215 Q  k)
def fm_call_b206 (Q : Int32 → RM → Prop) (v1 : Int32) (v4 : Int32) (v5 : Int32) (v7 : Int32) (M : RM) : Prop := (∀ x13 : Int32, x13 = (6 * v1) + v5 → (∃ nn : Nat, fm_call_l215 Q  nn v4 v5 v7 x13 M))
def fm_call_c141 (Q : Int32 → RM → Prop) (k141 : Int32 → Int32 → Int32 → Int32 → Int32 → RM → Prop) (v1 : Int32) (v4 : Int32) (v5 : Int32) (v7 : Int32) (v8 : Int32) (M : RM) : Prop := ((v8 ≤ v7 → fm_choose v1 v4 v8 M (fun (r16 : Int32) (M15 : RM) => ((0 ≤ r16 → fm_call_b206 Q  v1 v4 r16 v7 M15) ∧ (¬ 0 ≤ r16 → fm_fail v8 M15 (fun (r19 : Int32) (M18 : RM) => Q r19 M18))))) ∧ (¬ v8 ≤ v7 → fm_argumentOf ((6 * v1) + v5) v7 M (fun (r21 : Int32) (M20 : RM) => fm_convert v7 r21 M20 (fun (r23 : Int32) (M22 : RM) => ((¬ r23 = 0 → (∀ x25 : Int32, x25 = v7 + 1 → k141 v1 v4 v5 x25 v8 M22)) ∧ (r23 = 0 → fm_fail v7 M22 (fun (r27 : Int32) (M26 : RM) => Q r27 M26)))))))
def fm_call_l141 (Q : Int32 → RM → Prop) : Nat → Int32 → Int32 → Int32 → Int32 → Int32 → RM → Prop := lit (τ := Int32 → Int32 → Int32 → Int32 → Int32 → RM → Prop) (fun _ _ _ _ _ _ => False) (fun k => fm_call_c141 Q  k)
def fm_call_b105 (Q : Int32 → RM → Prop) (k77 : Int32 → Int32 → Int32 → Int32 → Int32 → Int32 → RM → Prop) (v1 : Int32) (v2 : Int32) (v4 : Int32) (v5 : Int32) (v6 : Int32) (v7 : Int32) (M : RM) : Prop := (∀ x28 : Int32, x28 = v7 + (-1) → k77 v1 v2 v4 v5 v6 x28 M)
def fm_call_c77 (Q : Int32 → RM → Prop) (k77 : Int32 → Int32 → Int32 → Int32 → Int32 → Int32 → RM → Prop) (v1 : Int32) (v2 : Int32) (v4 : Int32) (v5 : Int32) (v6 : Int32) (v7 : Int32) (M : RM) : Prop := ((v7 < 0 → ((¬ v6 = 0 → ((v6 ≤ 1 → fm_call_b206 Q  v1 v4 v5 0 M) ∧ (¬ v6 ≤ 1 → fm_deciding v1 v4 0 M (fun (r33 : Int32) (M32 : RM) => (∃ nn : Nat, fm_call_l141 Q  nn v1 v4 v5 0 r33 M32))))) ∧ (v6 = 0 → fm_fail v2 M (fun (r35 : Int32) (M34 : RM) => Q r35 M34)))) ∧ (¬ v7 < 0 → fm_takesMany ((6 * v1) + v7) v4 M (fun (r37 : Int32) (M36 : RM) => ((r37 = 0 → fm_call_b105 Q k77 v1 v2 v4 v5 v6 v7 M36) ∧ (¬ r37 = 0 → (∀ x39 : Int32, x39 = v6 + 1 → fm_call_b105 Q k77 v1 v2 v4 v7 x39 v7 M36))))))
def fm_call_l77 (Q : Int32 → RM → Prop) : Nat → Int32 → Int32 → Int32 → Int32 → Int32 → Int32 → RM → Prop := lit (τ := Int32 → Int32 → Int32 → Int32 → Int32 → Int32 → RM → Prop) (fun _ _ _ _ _ _ _ => False) (fun k => fm_call_c77 Q  k)
def fm_call_b59 (Q : Int32 → RM → Prop) (v1 : Int32) (v2 : Int32) (s0 : Int32) (M : RM) : Prop := (∀ x40 : Int32, x40 = (-1) → (vp_in v1 6 ∧ (∀ x42 : Int32, x42 = (rA M 4 v1.toNatClampNeg) - 1 → (∃ nn : Nat, fm_call_l77 Q  nn v1 v2 s0 x40 0 x42 M))))
def fm_call_b58 (Q : Int32 → RM → Prop) (v1 : Int32) (v2 : Int32) (M : RM) : Prop := fm_call_b59 Q  v1 v2 v2 M
def fm_call_b25 (Q : Int32 → RM → Prop) (v1 : Int32) (v2 : Int32) (s0 : Int32) (M : RM) : Prop := fm_refused s0 M (fun (r44 : Int32) (M43 : RM) => ((r44 = 0 → (∀ M46 : RM, M46 = wI M43 3 (-1) → fm_bound v1 1 M46 (fun (r48 : Int32) (M47 : RM) => ((v2 ≤ r48 → fm_call_b58 Q  v1 v2 M47) ∧ (¬ v2 ≤ r48 → ((r48 < 0 → fm_call_b58 Q  v1 v2 M47) ∧ (¬ r48 < 0 → fm_call_b59 Q  v1 v2 r48 M47))))))) ∧ (¬ r44 = 0 → Q 0 M43)))
def fm_call_b24 (Q : Int32 → RM → Prop) (v1 : Int32) (v2 : Int32) (M : RM) : Prop := fm_call_b25 Q  v1 v2 1 M
def fm_call (a1 : Int32) (a2 : Int32) (M : RM) (Q : Int32 → RM → Prop) : Prop := fm_isIn a1 0 5 M (fun (r52 : Int32) (M51 : RM) => ((r52 = 0 → fm_call_b24 Q  a1 a2 M51) ∧ (¬ r52 = 0 → fm_isIn a2 0 8 M51 (fun (r55 : Int32) (M54 : RM) => ((r55 = 0 → fm_call_b24 Q  a1 a2 M54) ∧ (¬ r55 = 0 → fm_call_b25 Q  a1 a2 0 M54))))))
abbrev rmX11_call : Room := { frames := 8, cells := 0, slots := 0, locals := 206 }
set_option maxHeartbeats 4000000 in
set_option maxRecDepth 100000 in
theorem tm_call (l : Launch) (D : va_G) (kA : Nat → ClassId) (h : Nat) (ad : Nat → Nat) (sz : Nat) (M : RM) (a1 : Int32) (a2 : Int32) (Q : Int32 → RM → Prop) (hw : fm_call a1 a2 M Q) : Met l yX11_call wsX11_call rmX11_call (va_Pc [.ref h, .int a1, .int a2] (rPc D kA h ad M sz)) (va_Qi Q (rB D kA h ad (rF kA h ad M sz)) (rF kA h ad M sz)) 0 0 (rF kA h ad M sz) := by
  refine Met.ofW (cc := cX11_call) (maxL := 9) (ret := (some .int)) (by decide) rfl ?_
  intro p e s m args below meth c s₁ B hml hv
  obtain ⟨rfl, hsz, hP, hK, hD0⟩ := hv
  have hx := B.exec
  have hb := B.bytes
  have hr := B.returns
  have hts := atoms_spec (ws := wsX11_call) B.pre
  have hown : s.vm.findClass RX11 = some m.cls := findClass_of_methodNamed B.named
  have hlocks : meth.locks = false := B.notSynchronized
  subst hsz
  have hH : rH D kA h ad (rF kA h ad M s.heap.size) s.heap M s.heap [] := ⟨hP, hD0.self, va_S.rf⟩
  have hA : ∀ q : Nat, s.heap.size ≤ q → rF kA h ad M s.heap.size q := fun q z => Or.inr z
  generalize rF kA h ad M s.heap.size = A at hH hA ⊢
  have hl := lv_entry ([.ref h, .int a1, .int a2]) (n := 9) (Nat.le_of_ble_eq_true rfl)
  rw [lg_entry_eq]
  generalize (lg_sl ([.ref h, .int a1, .int a2]) ++ List.replicate (9 - (lg_sl ([.ref h, .int a1, .int a2])).length) Slot.unset).toArray = ls at hl ⊢
  generalize ([.ref h, .int a1, .int a2] : List Value).toArray = args at hts ⊢
  have hl : lv_has ls 9 [(0, .ref h), (1, .int a1), (2, .int a2)] := hl
  have hin : ∀ w ∈ wsX110, w ∈ wsX11_call := by decide +kernel
  have l215 : ∀ (nn : Nat) (v4 : Int32) (v5 : Int32) (v7 : Int32) (v8 : Int32) (M : RM) (H : Heap) (locs : List Loc) (ls : Array Slot), rH D kA h ad A s.heap M H locs → lv_has ls 9 [(0, .ref h), (4, .int v4), (5, .int v5), (7, .int v7), (8, .int v8)] → fm_call_l215 Q  nn v4 v5 v7 v8 M → W p l e (headSpec wsX11_call rmX11_call).room s m args below meth c H locs 0 0 (MQ below (va_Qi Q (rB D kA h ad A) A) args s 0 0 A) (F0 m 215 ls []) := by
    intro   nn
    induction nn with
    | zero => intro v4 v5 v7 v8 M H locs ls hH hl hw; exact False.elim hw
    | succ nn hk215 =>
      intro v4 v5 v7 v8 M H locs ls hH hl hw
      replace hw : fm_call_c215 Q  (fm_call_l215 Q  nn) v4 v5 v7 v8 M := hw
      unfold fm_call_c215 at hw
      refine lv_iload hx hb dX11_call_215 (lv_at hl 3 rfl) ?_
      refine lv_iload hx hb dX11_call_217 (lv_at hl 1 rfl) ?_
      refine lv_icmp_ge (tgt := 252) hx hb dX11_call_219 (by decide) (fun c1 => ?_) (fun c1 => ?_)
      · replace hw := hw.1 c1
        refine lv_aload_n hx hb dX11_call_252 rfl (lv_at hl 0 rfl) ?_
        refine lv_iload hx hb dX11_call_253 (lv_at hl 1 rfl) ?_
        refine lv_aload_n hx hb dX11_call_255 rfl (lv_at hl 0 rfl) ?_
        refine rg_5 hx hb hts hin hown hK hH (hts (.fieldLink RX11 21 "IdlCallerModel" "many" "[I") (by decide +kernel)) dX11_call_256 ?_
        refine lv_iload hx hb dX11_call_259 (lv_at hl 4 rfl) ?_
        obtain ⟨h2, hw⟩ := hw
        refine rl_5 hx hb hK hH h2 dX11_call_261 ?_
        refine r_callv (va_runV (As := [.int v4, .int (rA M 5 v8.toNatClampNeg)]) (rest := []) ⟨hx, hb, hml, hown, hts⟩ (tm_finish l D kA h ad H.size M v4 (rA M 5 v8.toNatClampNeg) _ hw) (cwV 2 hts gX11_call_X11_finish rfl rfl rfl (by decide +kernel) ⟨Nat.le_of_ble_eq_true rfl, Nat.le_of_ble_eq_true rfl⟩) (r_preV hK hH) rfl rfl hl.1 rfl (lv_room (Nat.le_of_ble_eq_true rfl)) dX11_call_262 ⟨Nat.le_of_ble_eq_true rfl, Nat.le_of_ble_eq_true rfl⟩) hH hA (fun M3 H locs hw hH => ?_)
        refine lv_iload hx hb dX11_call_265 (lv_at hl 2 rfl) ?_
        exact r_reti hx hb hr hlocks hK hH hw dX11_call_267
      · replace hw := hw.2 c1
        refine lv_aload_n hx hb dX11_call_222 rfl (lv_at hl 0 rfl) ?_
        refine lv_iload hx hb dX11_call_223 (lv_at hl 3 rfl) ?_
        refine lv_aload_n hx hb dX11_call_225 rfl (lv_at hl 0 rfl) ?_
        refine lv_iload hx hb dX11_call_226 (lv_at hl 4 rfl) ?_
        refine lv_iload hx hb dX11_call_228 (lv_at hl 3 rfl) ?_
        refine r_calli (va_runV (As := [.int v8, .int v7]) (rest := [.int v7, .ref h]) ⟨hx, hb, hml, hown, hts⟩ (tm_argumentOf l D kA h ad H.size M v8 v7 _ hw) (cwV 2 hts gX11_call_X11_argumentOf rfl rfl rfl (by decide +kernel) ⟨Nat.le_of_ble_eq_true rfl, Nat.le_of_ble_eq_true rfl⟩) (r_preV hK hH) rfl rfl hl.1 rfl (lv_room (Nat.le_of_ble_eq_true rfl)) dX11_call_230 ⟨Nat.le_of_ble_eq_true rfl, Nat.le_of_ble_eq_true rfl⟩) hH hA (fun r6 M5 H locs hw hH => ?_)
        refine r_calli (va_runV (As := [.int v7, .int r6]) (rest := []) ⟨hx, hb, hml, hown, hts⟩ (tm_convert l D kA h ad H.size M5 v7 r6 _ hw) (cwV 2 hts gX11_call_X11_convert rfl rfl rfl (by decide +kernel) ⟨Nat.le_of_ble_eq_true rfl, Nat.le_of_ble_eq_true rfl⟩) (r_preV hK hH) rfl rfl hl.1 rfl (lv_room (Nat.le_of_ble_eq_true rfl)) dX11_call_233 ⟨Nat.le_of_ble_eq_true rfl, Nat.le_of_ble_eq_true rfl⟩) hH hA (fun r8 M7 H locs hw hH => ?_)
        refine lv_if_ne (tgt := 246) hx hb dX11_call_236 (by decide) (fun c9 => ?_) (fun c9 => ?_)
        · replace hw := hw.1 c9
          obtain ⟨x10, ex10⟩ : ∃ y : Int32, y = v7 + 1 := ⟨_, rfl⟩
          replace hw := hw x10 ex10
          refine lv_iinc (v := x10) (lv' := [(7, .int x10), (0, .ref h), (4, .int v4), (5, .int v5), (8, .int v8)]) hx hb dX11_call_246 hl (k := 3) rfl (by rw [ex10]; rfl) (by decide) rfl (fun ls hl => ?_)
          refine lv_goto (tgt := 215) hx hb dX11_call_249 (by decide) ?_
          exact hk215 v4 v5 x10 v8 M7 H locs ls hH (lv_sub hl [1, 2, 3, 0, 4] rfl) hw
        · replace hw := hw.2 c9
          refine lv_aload_n hx hb dX11_call_239 rfl (lv_at hl 0 rfl) ?_
          refine lv_iload hx hb dX11_call_240 (lv_at hl 3 rfl) ?_
          refine r_calli (va_runV (As := [.int v7]) (rest := []) ⟨hx, hb, hml, hown, hts⟩ (tm_fail l D kA h ad H.size M7 v7 _ hw) (cwV 1 hts gX11_call_X11_fail rfl rfl rfl (by decide +kernel) ⟨Nat.le_of_ble_eq_true rfl, Nat.le_of_ble_eq_true rfl⟩) (r_preV hK hH) rfl rfl hl.1 rfl (lv_room (Nat.le_of_ble_eq_true rfl)) dX11_call_242 ⟨Nat.le_of_ble_eq_true rfl, Nat.le_of_ble_eq_true rfl⟩) hH hA (fun r12 M11 H locs hw hH => ?_)
          exact r_reti hx hb hr hlocks hK hH hw dX11_call_245
  have b206 : ∀ (v1 : Int32) (v4 : Int32) (v5 : Int32) (v7 : Int32) (M : RM) (H : Heap) (locs : List Loc) (ls : Array Slot), rH D kA h ad A s.heap M H locs → lv_has ls 9 [(0, .ref h), (1, .int v1), (4, .int v4), (5, .int v5), (7, .int v7)] → fm_call_b206 Q  v1 v4 v5 v7 M → W p l e (headSpec wsX11_call rmX11_call).room s m args below meth c H locs 0 0 (MQ below (va_Qi Q (rB D kA h ad A) A) args s 0 0 A) (F0 m 206 ls []) := by
    intro   v1 v4 v5 v7 M H locs ls hH hl hw
    unfold fm_call_b206 at hw
    refine lv_bipush (v := 6) hx hb dX11_call_206 (by decide) ?_
    refine lv_iload_n hx hb dX11_call_208 rfl (lv_at hl 1 rfl) ?_
    refine lv_imul hx hb dX11_call_209 ?_
    refine lv_iload hx hb dX11_call_210 (lv_at hl 3 rfl) ?_
    refine lv_iadd hx hb dX11_call_212 ?_
    refine lv_topi (fun x13 ex13 => ?_)
    replace hw := hw x13 ex13
    refine lv_istore (lv' := [(8, .int x13), (0, .ref h), (1, .int v1), (4, .int v4), (5, .int v5), (7, .int v7)]) hx hb dX11_call_213 hl (by decide) rfl (fun ls hl => ?_)
    obtain ⟨nn, hw⟩ := hw
    exact l215   nn v4 v5 v7 x13 M H locs ls hH (lv_sub hl [1, 3, 4, 5, 0] rfl) hw
  have l141 : ∀ (nn : Nat) (v1 : Int32) (v4 : Int32) (v5 : Int32) (v7 : Int32) (v8 : Int32) (M : RM) (H : Heap) (locs : List Loc) (ls : Array Slot), rH D kA h ad A s.heap M H locs → lv_has ls 9 [(0, .ref h), (1, .int v1), (4, .int v4), (5, .int v5), (7, .int v7), (8, .int v8)] → fm_call_l141 Q  nn v1 v4 v5 v7 v8 M → W p l e (headSpec wsX11_call rmX11_call).room s m args below meth c H locs 0 0 (MQ below (va_Qi Q (rB D kA h ad A) A) args s 0 0 A) (F0 m 141 ls []) := by
    intro   nn
    induction nn with
    | zero => intro v1 v4 v5 v7 v8 M H locs ls hH hl hw; exact False.elim hw
    | succ nn hk141 =>
      intro v1 v4 v5 v7 v8 M H locs ls hH hl hw
      replace hw : fm_call_c141 Q  (fm_call_l141 Q  nn) v1 v4 v5 v7 v8 M := hw
      unfold fm_call_c141 at hw
      refine lv_iload hx hb dX11_call_141 (lv_at hl 4 rfl) ?_
      refine lv_iload hx hb dX11_call_143 (lv_at hl 5 rfl) ?_
      refine lv_icmp_ge (tgt := 183) hx hb dX11_call_145 (by decide) (fun c14 => ?_) (fun c14 => ?_)
      · replace hw := hw.1 c14
        refine lv_aload_n hx hb dX11_call_183 rfl (lv_at hl 0 rfl) ?_
        refine lv_iload_n hx hb dX11_call_184 rfl (lv_at hl 1 rfl) ?_
        refine lv_iload hx hb dX11_call_185 (lv_at hl 2 rfl) ?_
        refine lv_iload hx hb dX11_call_187 (lv_at hl 5 rfl) ?_
        refine r_calli (va_runV (As := [.int v1, .int v4, .int v8]) (rest := []) ⟨hx, hb, hml, hown, hts⟩ (tm_choose l D kA h ad H.size M v1 v4 v8 _ hw) (cwV 3 hts gX11_call_X11_choose rfl rfl rfl (by decide +kernel) ⟨Nat.le_of_ble_eq_true rfl, Nat.le_of_ble_eq_true rfl⟩) (r_preV hK hH) rfl rfl hl.1 rfl (lv_room (Nat.le_of_ble_eq_true rfl)) dX11_call_189 ⟨Nat.le_of_ble_eq_true rfl, Nat.le_of_ble_eq_true rfl⟩) hH hA (fun r16 M15 H locs hw hH => ?_)
        refine lv_istore (lv' := [(5, .int r16), (0, .ref h), (1, .int v1), (4, .int v4), (7, .int v7), (8, .int v8)]) hx hb dX11_call_192 hl (by decide) rfl (fun ls hl => ?_)
        refine lv_iload hx hb dX11_call_194 (lv_at hl 0 rfl) ?_
        refine lv_if_ge (tgt := 206) hx hb dX11_call_196 (by decide) (fun c17 => ?_) (fun c17 => ?_)
        · replace hw := hw.1 c17
          exact b206   v1 v4 r16 v7 M15 H locs ls hH (lv_sub hl [1, 2, 3, 0, 4] rfl) hw
        · replace hw := hw.2 c17
          refine lv_aload_n hx hb dX11_call_199 rfl (lv_at hl 1 rfl) ?_
          refine lv_iload hx hb dX11_call_200 (lv_at hl 5 rfl) ?_
          refine r_calli (va_runV (As := [.int v8]) (rest := []) ⟨hx, hb, hml, hown, hts⟩ (tm_fail l D kA h ad H.size M15 v8 _ hw) (cwV 1 hts gX11_call_X11_fail rfl rfl rfl (by decide +kernel) ⟨Nat.le_of_ble_eq_true rfl, Nat.le_of_ble_eq_true rfl⟩) (r_preV hK hH) rfl rfl hl.1 rfl (lv_room (Nat.le_of_ble_eq_true rfl)) dX11_call_202 ⟨Nat.le_of_ble_eq_true rfl, Nat.le_of_ble_eq_true rfl⟩) hH hA (fun r19 M18 H locs hw hH => ?_)
          exact r_reti hx hb hr hlocks hK hH hw dX11_call_205
      · replace hw := hw.2 c14
        refine lv_aload_n hx hb dX11_call_148 rfl (lv_at hl 0 rfl) ?_
        refine lv_iload hx hb dX11_call_149 (lv_at hl 4 rfl) ?_
        refine lv_aload_n hx hb dX11_call_151 rfl (lv_at hl 0 rfl) ?_
        refine lv_bipush (v := 6) hx hb dX11_call_152 (by decide) ?_
        refine lv_iload_n hx hb dX11_call_154 rfl (lv_at hl 1 rfl) ?_
        refine lv_imul hx hb dX11_call_155 ?_
        refine lv_iload hx hb dX11_call_156 (lv_at hl 3 rfl) ?_
        refine lv_iadd hx hb dX11_call_158 ?_
        refine lv_iload hx hb dX11_call_159 (lv_at hl 4 rfl) ?_
        refine r_calli (va_runV (As := [.int ((6 * v1) + v5), .int v7]) (rest := [.int v7, .ref h]) ⟨hx, hb, hml, hown, hts⟩ (tm_argumentOf l D kA h ad H.size M ((6 * v1) + v5) v7 _ hw) (cwV 2 hts gX11_call_X11_argumentOf rfl rfl rfl (by decide +kernel) ⟨Nat.le_of_ble_eq_true rfl, Nat.le_of_ble_eq_true rfl⟩) (r_preV hK hH) rfl rfl hl.1 rfl (lv_room (Nat.le_of_ble_eq_true rfl)) dX11_call_161 ⟨Nat.le_of_ble_eq_true rfl, Nat.le_of_ble_eq_true rfl⟩) hH hA (fun r21 M20 H locs hw hH => ?_)
        refine r_calli (va_runV (As := [.int v7, .int r21]) (rest := []) ⟨hx, hb, hml, hown, hts⟩ (tm_convert l D kA h ad H.size M20 v7 r21 _ hw) (cwV 2 hts gX11_call_X11_convert rfl rfl rfl (by decide +kernel) ⟨Nat.le_of_ble_eq_true rfl, Nat.le_of_ble_eq_true rfl⟩) (r_preV hK hH) rfl rfl hl.1 rfl (lv_room (Nat.le_of_ble_eq_true rfl)) dX11_call_164 ⟨Nat.le_of_ble_eq_true rfl, Nat.le_of_ble_eq_true rfl⟩) hH hA (fun r23 M22 H locs hw hH => ?_)
        refine lv_if_ne (tgt := 177) hx hb dX11_call_167 (by decide) (fun c24 => ?_) (fun c24 => ?_)
        · replace hw := hw.1 c24
          obtain ⟨x25, ex25⟩ : ∃ y : Int32, y = v7 + 1 := ⟨_, rfl⟩
          replace hw := hw x25 ex25
          refine lv_iinc (v := x25) (lv' := [(7, .int x25), (0, .ref h), (1, .int v1), (4, .int v4), (5, .int v5), (8, .int v8)]) hx hb dX11_call_177 hl (k := 4) rfl (by rw [ex25]; rfl) (by decide) rfl (fun ls hl => ?_)
          refine lv_goto (tgt := 141) hx hb dX11_call_180 (by decide) ?_
          exact hk141 v1 v4 v5 x25 v8 M22 H locs ls hH (lv_sub hl [1, 2, 3, 4, 0, 5] rfl) hw
        · replace hw := hw.2 c24
          refine lv_aload_n hx hb dX11_call_170 rfl (lv_at hl 0 rfl) ?_
          refine lv_iload hx hb dX11_call_171 (lv_at hl 4 rfl) ?_
          refine r_calli (va_runV (As := [.int v7]) (rest := []) ⟨hx, hb, hml, hown, hts⟩ (tm_fail l D kA h ad H.size M22 v7 _ hw) (cwV 1 hts gX11_call_X11_fail rfl rfl rfl (by decide +kernel) ⟨Nat.le_of_ble_eq_true rfl, Nat.le_of_ble_eq_true rfl⟩) (r_preV hK hH) rfl rfl hl.1 rfl (lv_room (Nat.le_of_ble_eq_true rfl)) dX11_call_173 ⟨Nat.le_of_ble_eq_true rfl, Nat.le_of_ble_eq_true rfl⟩) hH hA (fun r27 M26 H locs hw hH => ?_)
          exact r_reti hx hb hr hlocks hK hH hw dX11_call_176
  have b105 : ∀ (k77 : Int32 → Int32 → Int32 → Int32 → Int32 → Int32 → RM → Prop) (hk77 : ∀ (v1 : Int32) (v2 : Int32) (v4 : Int32) (v5 : Int32) (v6 : Int32) (v7 : Int32) (M : RM) (H : Heap) (locs : List Loc) (ls : Array Slot), rH D kA h ad A s.heap M H locs → lv_has ls 9 [(0, .ref h), (1, .int v1), (2, .int v2), (4, .int v4), (5, .int v5), (6, .int v6), (7, .int v7)] → k77 v1 v2 v4 v5 v6 v7 M → W p l e (headSpec wsX11_call rmX11_call).room s m args below meth c H locs 0 0 (MQ below (va_Qi Q (rB D kA h ad A) A) args s 0 0 A) (F0 m 77 ls [])) (v1 : Int32) (v2 : Int32) (v4 : Int32) (v5 : Int32) (v6 : Int32) (v7 : Int32) (M : RM) (H : Heap) (locs : List Loc) (ls : Array Slot), rH D kA h ad A s.heap M H locs → lv_has ls 9 [(0, .ref h), (1, .int v1), (2, .int v2), (4, .int v4), (5, .int v5), (6, .int v6), (7, .int v7)] → fm_call_b105 Q k77 v1 v2 v4 v5 v6 v7 M → W p l e (headSpec wsX11_call rmX11_call).room s m args below meth c H locs 0 0 (MQ below (va_Qi Q (rB D kA h ad A) A) args s 0 0 A) (F0 m 105 ls []) := by
    intro k77 hk77 v1 v2 v4 v5 v6 v7 M H locs ls hH hl hw
    unfold fm_call_b105 at hw
    obtain ⟨x28, ex28⟩ : ∃ y : Int32, y = v7 + (-1) := ⟨_, rfl⟩
    replace hw := hw x28 ex28
    refine lv_iinc (v := x28) (lv' := [(7, .int x28), (0, .ref h), (1, .int v1), (2, .int v2), (4, .int v4), (5, .int v5), (6, .int v6)]) hx hb dX11_call_105 hl (k := 6) rfl (by rw [ex28]; rfl) (by decide) rfl (fun ls hl => ?_)
    refine lv_goto (tgt := 77) hx hb dX11_call_108 (by decide) ?_
    exact hk77 v1 v2 v4 v5 v6 x28 M H locs ls hH (lv_sub hl [1, 2, 3, 4, 5, 6, 0] rfl) hw
  have l77 : ∀ (nn : Nat) (v1 : Int32) (v2 : Int32) (v4 : Int32) (v5 : Int32) (v6 : Int32) (v7 : Int32) (M : RM) (H : Heap) (locs : List Loc) (ls : Array Slot), rH D kA h ad A s.heap M H locs → lv_has ls 9 [(0, .ref h), (1, .int v1), (2, .int v2), (4, .int v4), (5, .int v5), (6, .int v6), (7, .int v7)] → fm_call_l77 Q  nn v1 v2 v4 v5 v6 v7 M → W p l e (headSpec wsX11_call rmX11_call).room s m args below meth c H locs 0 0 (MQ below (va_Qi Q (rB D kA h ad A) A) args s 0 0 A) (F0 m 77 ls []) := by
    intro   nn
    induction nn with
    | zero => intro v1 v2 v4 v5 v6 v7 M H locs ls hH hl hw; exact False.elim hw
    | succ nn hk77 =>
      intro v1 v2 v4 v5 v6 v7 M H locs ls hH hl hw
      replace hw : fm_call_c77 Q  (fm_call_l77 Q  nn) v1 v2 v4 v5 v6 v7 M := hw
      unfold fm_call_c77 at hw
      refine lv_iload hx hb dX11_call_77 (lv_at hl 6 rfl) ?_
      refine lv_if_lt (tgt := 111) hx hb dX11_call_79 (by decide) (fun c29 => ?_) (fun c29 => ?_)
      · replace hw := hw.1 c29
        refine lv_iload hx hb dX11_call_111 (lv_at hl 5 rfl) ?_
        refine lv_if_ne (tgt := 122) hx hb dX11_call_113 (by decide) (fun c30 => ?_) (fun c30 => ?_)
        · replace hw := hw.1 c30
          refine lv_iconst (v := 0) hx hb dX11_call_122 (by decide) ?_
          refine lv_istore (lv' := [(7, .int 0), (0, .ref h), (1, .int v1), (2, .int v2), (4, .int v4), (5, .int v5), (6, .int v6)]) hx hb dX11_call_123 hl (by decide) rfl (fun ls hl => ?_)
          refine lv_iload hx hb dX11_call_125 (lv_at hl 6 rfl) ?_
          refine lv_iconst (v := 1) hx hb dX11_call_127 (by decide) ?_
          refine lv_icmp_le (tgt := 206) hx hb dX11_call_128 (by decide) (fun c31 => ?_) (fun c31 => ?_)
          · replace hw := hw.1 c31
            exact b206   v1 v4 v5 0 M H locs ls hH (lv_sub hl [1, 2, 4, 5, 0] rfl) hw
          · replace hw := hw.2 c31
            refine lv_aload_n hx hb dX11_call_131 rfl (lv_at hl 1 rfl) ?_
            refine lv_iload_n hx hb dX11_call_132 rfl (lv_at hl 2 rfl) ?_
            refine lv_iload hx hb dX11_call_133 (lv_at hl 4 rfl) ?_
            refine lv_iconst (v := 0) hx hb dX11_call_135 (by decide) ?_
            refine r_calli (va_runV (As := [.int v1, .int v4, .int 0]) (rest := []) ⟨hx, hb, hml, hown, hts⟩ (tm_deciding l D kA h ad H.size M v1 v4 0 _ hw) (cwV 3 hts gX11_call_X11_deciding rfl rfl rfl (by decide +kernel) ⟨Nat.le_of_ble_eq_true rfl, Nat.le_of_ble_eq_true rfl⟩) (r_preV hK hH) rfl rfl hl.1 rfl (lv_room (Nat.le_of_ble_eq_true rfl)) dX11_call_136 ⟨Nat.le_of_ble_eq_true rfl, Nat.le_of_ble_eq_true rfl⟩) hH hA (fun r33 M32 H locs hw hH => ?_)
            refine lv_istore (lv' := [(8, .int r33), (7, .int 0), (0, .ref h), (1, .int v1), (2, .int v2), (4, .int v4), (5, .int v5), (6, .int v6)]) hx hb dX11_call_139 hl (by decide) rfl (fun ls hl => ?_)
            obtain ⟨nn, hw⟩ := hw
            exact l141   nn v1 v4 v5 0 r33 M32 H locs ls hH (lv_sub hl [2, 3, 5, 6, 1, 0] rfl) hw
        · replace hw := hw.2 c30
          refine lv_aload_n hx hb dX11_call_116 rfl (lv_at hl 0 rfl) ?_
          refine lv_iload_n hx hb dX11_call_117 rfl (lv_at hl 2 rfl) ?_
          refine r_calli (va_runV (As := [.int v2]) (rest := []) ⟨hx, hb, hml, hown, hts⟩ (tm_fail l D kA h ad H.size M v2 _ hw) (cwV 1 hts gX11_call_X11_fail rfl rfl rfl (by decide +kernel) ⟨Nat.le_of_ble_eq_true rfl, Nat.le_of_ble_eq_true rfl⟩) (r_preV hK hH) rfl rfl hl.1 rfl (lv_room (Nat.le_of_ble_eq_true rfl)) dX11_call_118 ⟨Nat.le_of_ble_eq_true rfl, Nat.le_of_ble_eq_true rfl⟩) hH hA (fun r35 M34 H locs hw hH => ?_)
          exact r_reti hx hb hr hlocks hK hH hw dX11_call_121
      · replace hw := hw.2 c29
        refine lv_aload_n hx hb dX11_call_82 rfl (lv_at hl 0 rfl) ?_
        refine lv_bipush (v := 6) hx hb dX11_call_83 (by decide) ?_
        refine lv_iload_n hx hb dX11_call_85 rfl (lv_at hl 1 rfl) ?_
        refine lv_imul hx hb dX11_call_86 ?_
        refine lv_iload hx hb dX11_call_87 (lv_at hl 6 rfl) ?_
        refine lv_iadd hx hb dX11_call_89 ?_
        refine lv_iload hx hb dX11_call_90 (lv_at hl 3 rfl) ?_
        refine r_calli (va_runV (As := [.int ((6 * v1) + v7), .int v4]) (rest := []) ⟨hx, hb, hml, hown, hts⟩ (tm_takesMany l D kA h ad H.size M ((6 * v1) + v7) v4 _ hw) (cwV 2 hts gX11_call_X11_takesMany rfl rfl rfl (by decide +kernel) ⟨Nat.le_of_ble_eq_true rfl, Nat.le_of_ble_eq_true rfl⟩) (r_preV hK hH) rfl rfl hl.1 rfl (lv_room (Nat.le_of_ble_eq_true rfl)) dX11_call_92 ⟨Nat.le_of_ble_eq_true rfl, Nat.le_of_ble_eq_true rfl⟩) hH hA (fun r37 M36 H locs hw hH => ?_)
        refine lv_if_eq (tgt := 105) hx hb dX11_call_95 (by decide) (fun c38 => ?_) (fun c38 => ?_)
        · replace hw := hw.1 c38
          exact b105 _ hk77 v1 v2 v4 v5 v6 v7 M36 H locs ls hH (lv_sub hl [0, 1, 2, 3, 4, 5, 6] rfl) hw
        · replace hw := hw.2 c38
          refine lv_iload hx hb dX11_call_98 (lv_at hl 6 rfl) ?_
          refine lv_istore (lv' := [(5, .int v7), (0, .ref h), (1, .int v1), (2, .int v2), (4, .int v4), (6, .int v6), (7, .int v7)]) hx hb dX11_call_100 hl (by decide) rfl (fun ls hl => ?_)
          obtain ⟨x39, ex39⟩ : ∃ y : Int32, y = v6 + 1 := ⟨_, rfl⟩
          replace hw := hw x39 ex39
          refine lv_iinc (v := x39) (lv' := [(6, .int x39), (5, .int v7), (0, .ref h), (1, .int v1), (2, .int v2), (4, .int v4), (7, .int v7)]) hx hb dX11_call_102 hl (k := 5) rfl (by rw [ex39]; rfl) (by decide) rfl (fun ls hl => ?_)
          exact b105 _ hk77 v1 v2 v4 v7 x39 v7 M36 H locs ls hH (lv_sub hl [2, 3, 4, 5, 1, 0, 6] rfl) hw
  have b59 : ∀ (v1 : Int32) (v2 : Int32) (s0 : Int32) (M : RM) (H : Heap) (locs : List Loc) (ls : Array Slot), rH D kA h ad A s.heap M H locs → lv_has ls 9 [(0, .ref h), (1, .int v1), (2, .int v2)] → fm_call_b59 Q  v1 v2 s0 M → W p l e (headSpec wsX11_call rmX11_call).room s m args below meth c H locs 0 0 (MQ below (va_Qi Q (rB D kA h ad A) A) args s 0 0 A) (F0 m 59 ls [.int s0]) := by
    intro   v1 v2 s0 M H locs ls hH hl hw
    unfold fm_call_b59 at hw
    refine lv_istore (lv' := [(4, .int s0), (0, .ref h), (1, .int v1), (2, .int v2)]) hx hb dX11_call_59 hl (by decide) rfl (fun ls hl => ?_)
    refine lv_iconst (v := (-1)) hx hb dX11_call_61 (by decide) ?_
    refine lv_topi (fun x40 ex40 => ?_)
    replace hw := hw x40 ex40
    refine lv_istore (lv' := [(5, .int x40), (4, .int s0), (0, .ref h), (1, .int v1), (2, .int v2)]) hx hb dX11_call_62 hl (by decide) rfl (fun ls hl => ?_)
    refine lv_iconst (v := 0) hx hb dX11_call_64 (by decide) ?_
    refine lv_istore (lv' := [(6, .int 0), (5, .int x40), (4, .int s0), (0, .ref h), (1, .int v1), (2, .int v2)]) hx hb dX11_call_65 hl (by decide) rfl (fun ls hl => ?_)
    refine lv_aload_n hx hb dX11_call_67 rfl (lv_at hl 3 rfl) ?_
    refine rg_4 hx hb hts hin hown hK hH (hts (.fieldLink RX11 17 "IdlCallerModel" "forms" "[I") (by decide +kernel)) dX11_call_68 ?_
    refine lv_iload_n hx hb dX11_call_71 rfl (lv_at hl 4 rfl) ?_
    obtain ⟨h41, hw⟩ := hw
    refine rl_4 hx hb hK hH h41 dX11_call_72 ?_
    refine lv_iconst (v := 1) hx hb dX11_call_73 (by decide) ?_
    refine lv_isub hx hb dX11_call_74 ?_
    refine lv_topi (fun x42 ex42 => ?_)
    replace hw := hw x42 ex42
    refine lv_istore (lv' := [(7, .int x42), (6, .int 0), (5, .int x40), (4, .int s0), (0, .ref h), (1, .int v1), (2, .int v2)]) hx hb dX11_call_75 hl (by decide) rfl (fun ls hl => ?_)
    obtain ⟨nn, hw⟩ := hw
    exact l77   nn v1 v2 s0 x40 0 x42 M H locs ls hH (lv_sub hl [4, 5, 6, 3, 2, 1, 0] rfl) hw
  have b58 : ∀ (v1 : Int32) (v2 : Int32) (M : RM) (H : Heap) (locs : List Loc) (ls : Array Slot), rH D kA h ad A s.heap M H locs → lv_has ls 9 [(0, .ref h), (1, .int v1), (2, .int v2)] → fm_call_b58 Q  v1 v2 M → W p l e (headSpec wsX11_call rmX11_call).room s m args below meth c H locs 0 0 (MQ below (va_Qi Q (rB D kA h ad A) A) args s 0 0 A) (F0 m 58 ls []) := by
    intro   v1 v2 M H locs ls hH hl hw
    unfold fm_call_b58 at hw
    refine lv_iload_n hx hb dX11_call_58 rfl (lv_at hl 2 rfl) ?_
    exact b59   v1 v2 v2 M H locs ls hH (lv_sub hl [0, 1, 2] rfl) hw
  have b25 : ∀ (v1 : Int32) (v2 : Int32) (s0 : Int32) (M : RM) (H : Heap) (locs : List Loc) (ls : Array Slot), rH D kA h ad A s.heap M H locs → lv_has ls 9 [(0, .ref h), (1, .int v1), (2, .int v2)] → fm_call_b25 Q  v1 v2 s0 M → W p l e (headSpec wsX11_call rmX11_call).room s m args below meth c H locs 0 0 (MQ below (va_Qi Q (rB D kA h ad A) A) args s 0 0 A) (F0 m 25 ls [.int s0, .ref h]) := by
    intro   v1 v2 s0 M H locs ls hH hl hw
    unfold fm_call_b25 at hw
    refine r_calli (va_runV (As := [.int s0]) (rest := []) ⟨hx, hb, hml, hown, hts⟩ (tm_refused l D kA h ad H.size M s0 _ hw) (cwV 1 hts gX11_call_X11_refused rfl rfl rfl (by decide +kernel) ⟨Nat.le_of_ble_eq_true rfl, Nat.le_of_ble_eq_true rfl⟩) (r_preV hK hH) rfl rfl hl.1 rfl (lv_room (Nat.le_of_ble_eq_true rfl)) dX11_call_25 ⟨Nat.le_of_ble_eq_true rfl, Nat.le_of_ble_eq_true rfl⟩) hH hA (fun r44 M43 H locs hw hH => ?_)
    refine lv_if_eq (tgt := 33) hx hb dX11_call_28 (by decide) (fun c45 => ?_) (fun c45 => ?_)
    · replace hw := hw.1 c45
      refine lv_aload_n hx hb dX11_call_33 rfl (lv_at hl 0 rfl) ?_
      refine lv_iconst (v := (-1)) hx hb dX11_call_34 (by decide) ?_
      refine rp_3 hx hb hts hin hown hK hH (hts (.fieldLink RX11 13 "IdlCallerModel" "faultPlace" "I") (by decide +kernel)) dX11_call_35 (fun M46 H locs eM46 hH => ?_)
      replace hw := hw M46 eM46
      refine lv_aload_n hx hb dX11_call_38 rfl (lv_at hl 0 rfl) ?_
      refine lv_iload_n hx hb dX11_call_39 rfl (lv_at hl 1 rfl) ?_
      refine lv_iconst (v := 1) hx hb dX11_call_40 (by decide) ?_
      refine r_calli (va_runV (As := [.int v1, .int 1]) (rest := []) ⟨hx, hb, hml, hown, hts⟩ (tm_bound l D kA h ad H.size M46 v1 1 _ hw) (cwV 2 hts gX11_call_X11_bound rfl rfl rfl (by decide +kernel) ⟨Nat.le_of_ble_eq_true rfl, Nat.le_of_ble_eq_true rfl⟩) (r_preV hK hH) rfl rfl hl.1 rfl (lv_room (Nat.le_of_ble_eq_true rfl)) dX11_call_41 ⟨Nat.le_of_ble_eq_true rfl, Nat.le_of_ble_eq_true rfl⟩) hH hA (fun r48 M47 H locs hw hH => ?_)
      refine lv_istore_n (lv' := [(3, .int r48), (0, .ref h), (1, .int v1), (2, .int v2)]) hx hb dX11_call_44 rfl hl (by decide) rfl (fun ls hl => ?_)
      refine lv_iload_n hx hb dX11_call_45 rfl (lv_at hl 3 rfl) ?_
      refine lv_iload_n hx hb dX11_call_46 rfl (lv_at hl 0 rfl) ?_
      refine lv_icmp_le (tgt := 58) hx hb dX11_call_47 (by decide) (fun c49 => ?_) (fun c49 => ?_)
      · replace hw := hw.1 c49
        exact b58   v1 v2 M47 H locs ls hH (lv_sub hl [1, 2, 3] rfl) hw
      · replace hw := hw.2 c49
        refine lv_iload_n hx hb dX11_call_50 rfl (lv_at hl 0 rfl) ?_
        refine lv_if_lt (tgt := 58) hx hb dX11_call_51 (by decide) (fun c50 => ?_) (fun c50 => ?_)
        · replace hw := hw.1 c50
          exact b58   v1 v2 M47 H locs ls hH (lv_sub hl [1, 2, 3] rfl) hw
        · replace hw := hw.2 c50
          refine lv_iload_n hx hb dX11_call_54 rfl (lv_at hl 0 rfl) ?_
          refine lv_goto (tgt := 59) hx hb dX11_call_55 (by decide) ?_
          exact b59   v1 v2 r48 M47 H locs ls hH (lv_sub hl [1, 2, 3] rfl) hw
    · replace hw := hw.2 c45
      refine lv_iconst (v := 0) hx hb dX11_call_31 (by decide) ?_
      exact r_reti hx hb hr hlocks hK hH hw dX11_call_32
  have b24 : ∀ (v1 : Int32) (v2 : Int32) (M : RM) (H : Heap) (locs : List Loc) (ls : Array Slot), rH D kA h ad A s.heap M H locs → lv_has ls 9 [(0, .ref h), (1, .int v1), (2, .int v2)] → fm_call_b24 Q  v1 v2 M → W p l e (headSpec wsX11_call rmX11_call).room s m args below meth c H locs 0 0 (MQ below (va_Qi Q (rB D kA h ad A) A) args s 0 0 A) (F0 m 24 ls [.ref h]) := by
    intro   v1 v2 M H locs ls hH hl hw
    unfold fm_call_b24 at hw
    refine lv_iconst (v := 1) hx hb dX11_call_24 (by decide) ?_
    exact b25   v1 v2 1 M H locs ls hH (lv_sub hl [0, 1, 2] rfl) hw
  clear hP hD0
  unfold fm_call at hw
  have hst : ∀ (M : RM) (H : Heap) (locs : List Loc) (ls : Array Slot), rH D kA h ad A s.heap M H locs → lv_has ls 9 [(0, .ref h), (1, .int a1), (2, .int a2)] → fm_isIn a1 0 5 M (fun (r52 : Int32) (M51 : RM) => ((r52 = 0 → fm_call_b24 Q  a1 a2 M51) ∧ (¬ r52 = 0 → fm_isIn a2 0 8 M51 (fun (r55 : Int32) (M54 : RM) => ((r55 = 0 → fm_call_b24 Q  a1 a2 M54) ∧ (¬ r55 = 0 → fm_call_b25 Q  a1 a2 0 M54)))))) → W p l e (headSpec wsX11_call rmX11_call).room s m args below meth c H locs 0 0 (MQ below (va_Qi Q (rB D kA h ad A) A) args s 0 0 A) (F0 m 0 ls []) := by
    intro M H locs ls hH hl hw
    refine lv_aload_n hx hb dX11_call_0 rfl (lv_at hl 0 rfl) ?_
    refine lv_iload_n hx hb dX11_call_1 rfl (lv_at hl 1 rfl) ?_
    refine lv_iconst (v := 0) hx hb dX11_call_2 (by decide) ?_
    refine lv_iconst (v := 5) hx hb dX11_call_3 (by decide) ?_
    refine r_calli (va_runS (As := [.int a1, .int 0, .int 5]) (rest := [.ref h]) ⟨hx, hb, hml, hown, hts⟩ (tm_isIn l D kA h ad H.size M a1 0 5 _ hw) (va_cwS 3 hts gX11_call_X11_isIn rfl rfl rfl (by decide +kernel) ⟨Nat.le_of_ble_eq_true rfl, Nat.le_of_ble_eq_true rfl⟩) (r_preS hK hH) rfl rfl hl.1 rfl (lv_room (Nat.le_of_ble_eq_true rfl)) dX11_call_4 ⟨Nat.le_of_ble_eq_true rfl, Nat.le_of_ble_eq_true rfl⟩) hH hA (fun r52 M51 H locs hw hH => ?_)
    refine lv_if_eq (tgt := 24) hx hb dX11_call_7 (by decide) (fun c53 => ?_) (fun c53 => ?_)
    · replace hw := hw.1 c53
      exact b24   a1 a2 M51 H locs ls hH (lv_sub hl [0, 1, 2] rfl) hw
    · replace hw := hw.2 c53
      refine lv_iload_n hx hb dX11_call_10 rfl (lv_at hl 2 rfl) ?_
      refine lv_iconst (v := 0) hx hb dX11_call_11 (by decide) ?_
      refine lv_bipush (v := 8) hx hb dX11_call_12 (by decide) ?_
      refine r_calli (va_runS (As := [.int a2, .int 0, .int 8]) (rest := [.ref h]) ⟨hx, hb, hml, hown, hts⟩ (tm_isIn l D kA h ad H.size M51 a2 0 8 _ hw) (va_cwS 3 hts gX11_call_X11_isIn rfl rfl rfl (by decide +kernel) ⟨Nat.le_of_ble_eq_true rfl, Nat.le_of_ble_eq_true rfl⟩) (r_preS hK hH) rfl rfl hl.1 rfl (lv_room (Nat.le_of_ble_eq_true rfl)) dX11_call_14 ⟨Nat.le_of_ble_eq_true rfl, Nat.le_of_ble_eq_true rfl⟩) hH hA (fun r55 M54 H locs hw hH => ?_)
      refine lv_if_eq (tgt := 24) hx hb dX11_call_17 (by decide) (fun c56 => ?_) (fun c56 => ?_)
      · replace hw := hw.1 c56
        exact b24   a1 a2 M54 H locs ls hH (lv_sub hl [0, 1, 2] rfl) hw
      · replace hw := hw.2 c56
        refine lv_iconst (v := 0) hx hb dX11_call_20 (by decide) ?_
        refine lv_goto (tgt := 25) hx hb dX11_call_21 (by decide) ?_
        exact b25   a1 a2 0 M54 H locs ls hH (lv_sub hl [0, 1, 2] rfl) hw
  exact hst M s.heap [] ls hH hl hw
